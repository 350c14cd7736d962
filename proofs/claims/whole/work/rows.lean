section
-- ===== PART A: goes FIRST, ahead of the names: the tables' words, and 'selects' of the private methods out of them =====
/-- a private method of a class that the tables say can be made, by its rows of tables_1 -/
def lw_okq (q : MethodName × Nat) : Prop := (q.1.cls ≠ "java/lang/invoke/MethodHandle" ∧ q.1.cls ≠ "java/lang/invoke/VarHandle") ∧ Cond.instantiable q.1.cls q.2 ∈ tables_1 ∧ Cond.privateMethod q.1 ∈ tables_1 ∧ Cond.instanceMethod q.1 ∈ tables_1
theorem lw_p0 : lw_okq (⟨"SkittleGentry$CountyText", "isMore", "()Z"⟩, 10) := ⟨⟨by decide +kernel, by decide +kernel⟩, List.mem_of_getElem? (i := 23) (by decide +kernel), List.mem_of_getElem? (i := 303) (by decide +kernel), List.mem_of_getElem? (i := 304) (by decide +kernel)⟩
theorem lw_p1 : lw_okq (⟨"SkittleGentry$CountyText", "sees", "(I)Z"⟩, 10) := ⟨⟨by decide +kernel, by decide +kernel⟩, List.mem_of_getElem? (i := 23) (by decide +kernel), List.mem_of_getElem? (i := 307) (by decide +kernel), List.mem_of_getElem? (i := 308) (by decide +kernel)⟩
theorem lw_p2 : lw_okq (⟨"SkittleGentry$CountyText", "readFloor", "()V"⟩, 10) := ⟨⟨by decide +kernel, by decide +kernel⟩, List.mem_of_getElem? (i := 23) (by decide +kernel), List.mem_of_getElem? (i := 311) (by decide +kernel), List.mem_of_getElem? (i := 312) (by decide +kernel)⟩
theorem lw_p3 : lw_okq (⟨"SkittleGentry$CountyText", "takeSign", "(I)V"⟩, 10) := ⟨⟨by decide +kernel, by decide +kernel⟩, List.mem_of_getElem? (i := 23) (by decide +kernel), List.mem_of_getElem? (i := 315) (by decide +kernel), List.mem_of_getElem? (i := 316) (by decide +kernel)⟩
theorem lw_p4 : lw_okq (⟨"SkittleGentry$CountyText", "fail", "(II)V"⟩, 10) := ⟨⟨by decide +kernel, by decide +kernel⟩, List.mem_of_getElem? (i := 23) (by decide +kernel), List.mem_of_getElem? (i := 319) (by decide +kernel), List.mem_of_getElem? (i := 320) (by decide +kernel)⟩
theorem lw_p5 : lw_okq (⟨"SkittleGentry$CountyText", "takeNumber", "(II)I"⟩, 10) := ⟨⟨by decide +kernel, by decide +kernel⟩, List.mem_of_getElem? (i := 23) (by decide +kernel), List.mem_of_getElem? (i := 323) (by decide +kernel), List.mem_of_getElem? (i := 324) (by decide +kernel)⟩
theorem lw_p6 : lw_okq (⟨"SkittleGentry$CountyText", "seesFigure", "()Z"⟩, 10) := ⟨⟨by decide +kernel, by decide +kernel⟩, List.mem_of_getElem? (i := 23) (by decide +kernel), List.mem_of_getElem? (i := 327) (by decide +kernel), List.mem_of_getElem? (i := 328) (by decide +kernel)⟩
theorem lw_p7 : lw_okq (⟨"SkittleGentry$CountyText", "readSkittle", "()V"⟩, 10) := ⟨⟨by decide +kernel, by decide +kernel⟩, List.mem_of_getElem? (i := 23) (by decide +kernel), List.mem_of_getElem? (i := 331) (by decide +kernel), List.mem_of_getElem? (i := 332) (by decide +kernel)⟩
theorem lw_p8 : lw_okq (⟨"SkittleGentry", "stirred", "()V"⟩, 13) := ⟨⟨by decide +kernel, by decide +kernel⟩, List.mem_of_getElem? (i := 15) (by decide +kernel), List.mem_of_getElem? (i := 351) (by decide +kernel), List.mem_of_getElem? (i := 352) (by decide +kernel)⟩
theorem lw_p9 : lw_okq (⟨"SkittleGentry", "toldOfAllBalls", "(I)I"⟩, 13) := ⟨⟨by decide +kernel, by decide +kernel⟩, List.mem_of_getElem? (i := 15) (by decide +kernel), List.mem_of_getElem? (i := 363) (by decide +kernel), List.mem_of_getElem? (i := 364) (by decide +kernel)⟩
theorem lw_p10 : lw_okq (⟨"SkittleGentry$Roll", "whoStandsAt", "(II)I"⟩, 8) := ⟨⟨by decide +kernel, by decide +kernel⟩, List.mem_of_getElem? (i := 147) (by decide +kernel), List.mem_of_getElem? (i := 394) (by decide +kernel), List.mem_of_getElem? (i := 395) (by decide +kernel)⟩
theorem lw_p11 : lw_okq (⟨"SkittleGentry$Roll", "meet", "(III)I"⟩, 8) := ⟨⟨by decide +kernel, by decide +kernel⟩, List.mem_of_getElem? (i := 147) (by decide +kernel), List.mem_of_getElem? (i := 404) (by decide +kernel), List.mem_of_getElem? (i := 405) (by decide +kernel)⟩
theorem lw_p12 : lw_okq (⟨"SkittleGentry$Roll", "rock", "(I)V"⟩, 8) := ⟨⟨by decide +kernel, by decide +kernel⟩, List.mem_of_getElem? (i := 147) (by decide +kernel), List.mem_of_getElem? (i := 408) (by decide +kernel), List.mem_of_getElem? (i := 409) (by decide +kernel)⟩
theorem lw_p13 : lw_okq (⟨"SkittleGentry$Roll", "topple", "(IIIII)V"⟩, 8) := ⟨⟨by decide +kernel, by decide +kernel⟩, List.mem_of_getElem? (i := 147) (by decide +kernel), List.mem_of_getElem? (i := 412) (by decide +kernel), List.mem_of_getElem? (i := 413) (by decide +kernel)⟩
theorem lw_p14 : lw_okq (⟨"SkittleGentry$Roll", "strike", "(IIII)V"⟩, 8) := ⟨⟨by decide +kernel, by decide +kernel⟩, List.mem_of_getElem? (i := 147) (by decide +kernel), List.mem_of_getElem? (i := 416) (by decide +kernel), List.mem_of_getElem? (i := 417) (by decide +kernel)⟩
theorem lw_p15 : lw_okq (⟨"SkittleGentry$Trials", "fallsAmong", "(III)I"⟩, 2) := ⟨⟨by decide +kernel, by decide +kernel⟩, List.mem_of_getElem? (i := 183) (by decide +kernel), List.mem_of_getElem? (i := 449) (by decide +kernel), List.mem_of_getElem? (i := 450) (by decide +kernel)⟩
def lw_privs_1 : List (MethodName × Nat) := [(⟨"SkittleGentry$CountyText", "isMore", "()Z"⟩, 10), (⟨"SkittleGentry$CountyText", "sees", "(I)Z"⟩, 10), (⟨"SkittleGentry$CountyText", "readFloor", "()V"⟩, 10), (⟨"SkittleGentry$CountyText", "takeSign", "(I)V"⟩, 10), (⟨"SkittleGentry$CountyText", "fail", "(II)V"⟩, 10), (⟨"SkittleGentry$CountyText", "takeNumber", "(II)I"⟩, 10), (⟨"SkittleGentry$CountyText", "seesFigure", "()Z"⟩, 10), (⟨"SkittleGentry$CountyText", "readSkittle", "()V"⟩, 10), (⟨"SkittleGentry", "stirred", "()V"⟩, 13), (⟨"SkittleGentry", "toldOfAllBalls", "(I)I"⟩, 13), (⟨"SkittleGentry$Roll", "whoStandsAt", "(II)I"⟩, 8), (⟨"SkittleGentry$Roll", "meet", "(III)I"⟩, 8), (⟨"SkittleGentry$Roll", "rock", "(I)V"⟩, 8), (⟨"SkittleGentry$Roll", "topple", "(IIIII)V"⟩, 8), (⟨"SkittleGentry$Roll", "strike", "(IIII)V"⟩, 8), (⟨"SkittleGentry$Trials", "fallsAmong", "(III)I"⟩, 2)]
theorem lw_r1 : ∀ q ∈ lw_privs_1, lw_okq q := List.forall_mem_cons.mpr ⟨lw_p0, List.forall_mem_cons.mpr ⟨lw_p1, List.forall_mem_cons.mpr ⟨lw_p2, List.forall_mem_cons.mpr ⟨lw_p3, List.forall_mem_cons.mpr ⟨lw_p4, List.forall_mem_cons.mpr ⟨lw_p5, List.forall_mem_cons.mpr ⟨lw_p6, List.forall_mem_cons.mpr ⟨lw_p7, List.forall_mem_cons.mpr ⟨lw_p8, List.forall_mem_cons.mpr ⟨lw_p9, List.forall_mem_cons.mpr ⟨lw_p10, List.forall_mem_cons.mpr ⟨lw_p11, List.forall_mem_cons.mpr ⟨lw_p12, List.forall_mem_cons.mpr ⟨lw_p13, List.forall_mem_cons.mpr ⟨lw_p14, List.forall_mem_cons.mpr ⟨lw_p15, fun _ h => absurd h List.not_mem_nil⟩⟩⟩⟩⟩⟩⟩⟩⟩⟩⟩⟩⟩⟩⟩⟩
theorem lw_p16 : lw_okq (⟨"SkittleGentry", "remember", "()V"⟩, 13) := ⟨⟨by decide +kernel, by decide +kernel⟩, List.mem_of_getElem? (i := 15) (by decide +kernel), List.mem_of_getElem? (i := 504) (by decide +kernel), List.mem_of_getElem? (i := 505) (by decide +kernel)⟩
theorem lw_p17 : lw_okq (⟨"SkittleGentry", "throwOne", "(III)I"⟩, 13) := ⟨⟨by decide +kernel, by decide +kernel⟩, List.mem_of_getElem? (i := 15) (by decide +kernel), List.mem_of_getElem? (i := 522) (by decide +kernel), List.mem_of_getElem? (i := 523) (by decide +kernel)⟩
theorem lw_p18 : lw_okq (⟨"SkittleGentry$Gentry", "put", "(II)V"⟩, 12) := ⟨⟨by decide +kernel, by decide +kernel⟩, List.mem_of_getElem? (i := 68) (by decide +kernel), List.mem_of_getElem? (i := 560) (by decide +kernel), List.mem_of_getElem? (i := 561) (by decide +kernel)⟩
theorem lw_p19 : lw_okq (⟨"SkittleGentry", "driftOnce", "()V"⟩, 13) := ⟨⟨by decide +kernel, by decide +kernel⟩, List.mem_of_getElem? (i := 15) (by decide +kernel), List.mem_of_getElem? (i := 576) (by decide +kernel), List.mem_of_getElem? (i := 577) (by decide +kernel)⟩
theorem lw_p20 : lw_okq (⟨"SkittleGentry", "draw", "(I)I"⟩, 13) := ⟨⟨by decide +kernel, by decide +kernel⟩, List.mem_of_getElem? (i := 15) (by decide +kernel), List.mem_of_getElem? (i := 580) (by decide +kernel), List.mem_of_getElem? (i := 581) (by decide +kernel)⟩
theorem lw_p21 : lw_okq (⟨"SkittleGentry$AllDown", "reach", "(III)V"⟩, 7) := ⟨⟨by decide +kernel, by decide +kernel⟩, List.mem_of_getElem? (i := 197) (by decide +kernel), List.mem_of_getElem? (i := 630) (by decide +kernel), List.mem_of_getElem? (i := 631) (by decide +kernel)⟩
theorem lw_p22 : lw_okq (⟨"SkittleGentry$AllDown", "goOn", "(LSkittleGentry$Roll;I)V"⟩, 7) := ⟨⟨by decide +kernel, by decide +kernel⟩, List.mem_of_getElem? (i := 197) (by decide +kernel), List.mem_of_getElem? (i := 634) (by decide +kernel), List.mem_of_getElem? (i := 635) (by decide +kernel)⟩
theorem lw_p23 : lw_okq (⟨"SkittleGentry", "fallsIfSwapped", "(IIIII)I"⟩, 13) := ⟨⟨by decide +kernel, by decide +kernel⟩, List.mem_of_getElem? (i := 15) (by decide +kernel), List.mem_of_getElem? (i := 645) (by decide +kernel), List.mem_of_getElem? (i := 646) (by decide +kernel)⟩
theorem lw_p24 : lw_okq (⟨"SkittleGentryModel", "reads", "()V"⟩, 35) := ⟨⟨by decide +kernel, by decide +kernel⟩, List.mem_of_getElem? (i := 704) (by decide +kernel), List.mem_of_getElem? (i := 829) (by decide +kernel), List.mem_of_getElem? (i := 830) (by decide +kernel)⟩
theorem lw_p25 : lw_okq (⟨"SkittleGentryModel", "blanks", "()V"⟩, 35) := ⟨⟨by decide +kernel, by decide +kernel⟩, List.mem_of_getElem? (i := 704) (by decide +kernel), List.mem_of_getElem? (i := 833) (by decide +kernel), List.mem_of_getElem? (i := 834) (by decide +kernel)⟩
theorem lw_p26 : lw_okq (⟨"SkittleGentryModel", "letterAt", "(I)I"⟩, 35) := ⟨⟨by decide +kernel, by decide +kernel⟩, List.mem_of_getElem? (i := 704) (by decide +kernel), List.mem_of_getElem? (i := 837) (by decide +kernel), List.mem_of_getElem? (i := 838) (by decide +kernel)⟩
theorem lw_p27 : lw_okq (⟨"SkittleGentryModel", "isWell", "()Z"⟩, 35) := ⟨⟨by decide +kernel, by decide +kernel⟩, List.mem_of_getElem? (i := 704) (by decide +kernel), List.mem_of_getElem? (i := 841) (by decide +kernel), List.mem_of_getElem? (i := 842) (by decide +kernel)⟩
theorem lw_p28 : lw_okq (⟨"SkittleGentryModel", "faulty", "(II)V"⟩, 35) := ⟨⟨by decide +kernel, by decide +kernel⟩, List.mem_of_getElem? (i := 704) (by decide +kernel), List.mem_of_getElem? (i := 845) (by decide +kernel), List.mem_of_getElem? (i := 846) (by decide +kernel)⟩
theorem lw_p29 : lw_okq (⟨"SkittleGentryModel", "due", "(II)I"⟩, 35) := ⟨⟨by decide +kernel, by decide +kernel⟩, List.mem_of_getElem? (i := 704) (by decide +kernel), List.mem_of_getElem? (i := 849) (by decide +kernel), List.mem_of_getElem? (i := 850) (by decide +kernel)⟩
theorem lw_p30 : lw_okq (⟨"SkittleGentryModel", "tells", "()V"⟩, 35) := ⟨⟨by decide +kernel, by decide +kernel⟩, List.mem_of_getElem? (i := 704) (by decide +kernel), List.mem_of_getElem? (i := 853) (by decide +kernel), List.mem_of_getElem? (i := 854) (by decide +kernel)⟩
theorem lw_p31 : lw_okq (⟨"SkittleGentryModel", "ends", "()V"⟩, 35) := ⟨⟨by decide +kernel, by decide +kernel⟩, List.mem_of_getElem? (i := 704) (by decide +kernel), List.mem_of_getElem? (i := 857) (by decide +kernel), List.mem_of_getElem? (i := 858) (by decide +kernel)⟩
def lw_privs_2 : List (MethodName × Nat) := [(⟨"SkittleGentry", "remember", "()V"⟩, 13), (⟨"SkittleGentry", "throwOne", "(III)I"⟩, 13), (⟨"SkittleGentry$Gentry", "put", "(II)V"⟩, 12), (⟨"SkittleGentry", "driftOnce", "()V"⟩, 13), (⟨"SkittleGentry", "draw", "(I)I"⟩, 13), (⟨"SkittleGentry$AllDown", "reach", "(III)V"⟩, 7), (⟨"SkittleGentry$AllDown", "goOn", "(LSkittleGentry$Roll;I)V"⟩, 7), (⟨"SkittleGentry", "fallsIfSwapped", "(IIIII)I"⟩, 13), (⟨"SkittleGentryModel", "reads", "()V"⟩, 35), (⟨"SkittleGentryModel", "blanks", "()V"⟩, 35), (⟨"SkittleGentryModel", "letterAt", "(I)I"⟩, 35), (⟨"SkittleGentryModel", "isWell", "()Z"⟩, 35), (⟨"SkittleGentryModel", "faulty", "(II)V"⟩, 35), (⟨"SkittleGentryModel", "due", "(II)I"⟩, 35), (⟨"SkittleGentryModel", "tells", "()V"⟩, 35), (⟨"SkittleGentryModel", "ends", "()V"⟩, 35)]
theorem lw_r2 : ∀ q ∈ lw_privs_2, lw_okq q := List.forall_mem_cons.mpr ⟨lw_p16, List.forall_mem_cons.mpr ⟨lw_p17, List.forall_mem_cons.mpr ⟨lw_p18, List.forall_mem_cons.mpr ⟨lw_p19, List.forall_mem_cons.mpr ⟨lw_p20, List.forall_mem_cons.mpr ⟨lw_p21, List.forall_mem_cons.mpr ⟨lw_p22, List.forall_mem_cons.mpr ⟨lw_p23, List.forall_mem_cons.mpr ⟨lw_p24, List.forall_mem_cons.mpr ⟨lw_p25, List.forall_mem_cons.mpr ⟨lw_p26, List.forall_mem_cons.mpr ⟨lw_p27, List.forall_mem_cons.mpr ⟨lw_p28, List.forall_mem_cons.mpr ⟨lw_p29, List.forall_mem_cons.mpr ⟨lw_p30, List.forall_mem_cons.mpr ⟨lw_p31, fun _ h => absurd h List.not_mem_nil⟩⟩⟩⟩⟩⟩⟩⟩⟩⟩⟩⟩⟩⟩⟩⟩
theorem lw_p32 : lw_okq (⟨"SkittleGentryModel", "settles", "()V"⟩, 35) := ⟨⟨by decide +kernel, by decide +kernel⟩, List.mem_of_getElem? (i := 704) (by decide +kernel), List.mem_of_getElem? (i := 861) (by decide +kernel), List.mem_of_getElem? (i := 862) (by decide +kernel)⟩
theorem lw_p33 : lw_okq (⟨"SkittleGentryModel", "worst", "(I)I"⟩, 35) := ⟨⟨by decide +kernel, by decide +kernel⟩, List.mem_of_getElem? (i := 704) (by decide +kernel), List.mem_of_getElem? (i := 873) (by decide +kernel), List.mem_of_getElem? (i := 874) (by decide +kernel)⟩
theorem lw_p34 : lw_okq (⟨"SkittleGentryModel", "sets", "(II)V"⟩, 35) := ⟨⟨by decide +kernel, by decide +kernel⟩, List.mem_of_getElem? (i := 704) (by decide +kernel), List.mem_of_getElem? (i := 877) (by decide +kernel), List.mem_of_getElem? (i := 878) (by decide +kernel)⟩
theorem lw_p35 : lw_okq (⟨"SkittleGentryModel", "bearsOn", "(II)I"⟩, 35) := ⟨⟨by decide +kernel, by decide +kernel⟩, List.mem_of_getElem? (i := 704) (by decide +kernel), List.mem_of_getElem? (i := 881) (by decide +kernel), List.mem_of_getElem? (i := 882) (by decide +kernel)⟩
theorem lw_p36 : lw_okq (⟨"SkittleGentryModel", "goesBy", "(II)I"⟩, 35) := ⟨⟨by decide +kernel, by decide +kernel⟩, List.mem_of_getElem? (i := 704) (by decide +kernel), List.mem_of_getElem? (i := 888) (by decide +kernel), List.mem_of_getElem? (i := 889) (by decide +kernel)⟩
theorem lw_p37 : lw_okq (⟨"SkittleGentryModel", "goes", "(IIII)I"⟩, 35) := ⟨⟨by decide +kernel, by decide +kernel⟩, List.mem_of_getElem? (i := 704) (by decide +kernel), List.mem_of_getElem? (i := 892) (by decide +kernel), List.mem_of_getElem? (i := 893) (by decide +kernel)⟩
theorem lw_p38 : lw_okq (⟨"SkittleGentryModel", "falls", "(II)V"⟩, 35) := ⟨⟨by decide +kernel, by decide +kernel⟩, List.mem_of_getElem? (i := 704) (by decide +kernel), List.mem_of_getElem? (i := 905) (by decide +kernel), List.mem_of_getElem? (i := 906) (by decide +kernel)⟩
theorem lw_p39 : lw_okq (⟨"SkittleGentryModel", "fallsNow", "(II)V"⟩, 35) := ⟨⟨by decide +kernel, by decide +kernel⟩, List.mem_of_getElem? (i := 704) (by decide +kernel), List.mem_of_getElem? (i := 909) (by decide +kernel), List.mem_of_getElem? (i := 910) (by decide +kernel)⟩
theorem lw_p40 : lw_okq (⟨"SkittleGentryModel", "plateOf", "(I)I"⟩, 35) := ⟨⟨by decide +kernel, by decide +kernel⟩, List.mem_of_getElem? (i := 704) (by decide +kernel), List.mem_of_getElem? (i := 913) (by decide +kernel), List.mem_of_getElem? (i := 914) (by decide +kernel)⟩
theorem lw_p41 : lw_okq (⟨"SkittleGentryModel", "rocksNow", "(I)V"⟩, 35) := ⟨⟨by decide +kernel, by decide +kernel⟩, List.mem_of_getElem? (i := 704) (by decide +kernel), List.mem_of_getElem? (i := 917) (by decide +kernel), List.mem_of_getElem? (i := 918) (by decide +kernel)⟩
theorem lw_p42 : lw_okq (⟨"SkittleGentryModel", "safest", "(I)I"⟩, 35) := ⟨⟨by decide +kernel, by decide +kernel⟩, List.mem_of_getElem? (i := 704) (by decide +kernel), List.mem_of_getElem? (i := 927) (by decide +kernel), List.mem_of_getElem? (i := 928) (by decide +kernel)⟩
theorem lw_p43 : lw_okq (⟨"SkittleGentryModel", "firm", "()I"⟩, 35) := ⟨⟨by decide +kernel, by decide +kernel⟩, List.mem_of_getElem? (i := 704) (by decide +kernel), List.mem_of_getElem? (i := 931) (by decide +kernel), List.mem_of_getElem? (i := 932) (by decide +kernel)⟩
theorem lw_p44 : lw_okq (⟨"SkittleGentryModel", "ballsFor", "(II)I"⟩, 35) := ⟨⟨by decide +kernel, by decide +kernel⟩, List.mem_of_getElem? (i := 704) (by decide +kernel), List.mem_of_getElem? (i := 935) (by decide +kernel), List.mem_of_getElem? (i := 936) (by decide +kernel)⟩
theorem lw_p45 : lw_okq (⟨"SkittleGentryModel", "talks", "()I"⟩, 35) := ⟨⟨by decide +kernel, by decide +kernel⟩, List.mem_of_getElem? (i := 704) (by decide +kernel), List.mem_of_getElem? (i := 939) (by decide +kernel), List.mem_of_getElem? (i := 940) (by decide +kernel)⟩
theorem lw_p46 : lw_okq (⟨"SkittleGentryModel", "isSkittle", "(I)Z"⟩, 35) := ⟨⟨by decide +kernel, by decide +kernel⟩, List.mem_of_getElem? (i := 704) (by decide +kernel), List.mem_of_getElem? (i := 947) (by decide +kernel), List.mem_of_getElem? (i := 948) (by decide +kernel)⟩
theorem lw_p47 : lw_okq (⟨"SkittleGentryModel", "firstTaker", "(I)I"⟩, 35) := ⟨⟨by decide +kernel, by decide +kernel⟩, List.mem_of_getElem? (i := 704) (by decide +kernel), List.mem_of_getElem? (i := 952) (by decide +kernel), List.mem_of_getElem? (i := 953) (by decide +kernel)⟩
def lw_privs_3 : List (MethodName × Nat) := [(⟨"SkittleGentryModel", "settles", "()V"⟩, 35), (⟨"SkittleGentryModel", "worst", "(I)I"⟩, 35), (⟨"SkittleGentryModel", "sets", "(II)V"⟩, 35), (⟨"SkittleGentryModel", "bearsOn", "(II)I"⟩, 35), (⟨"SkittleGentryModel", "goesBy", "(II)I"⟩, 35), (⟨"SkittleGentryModel", "goes", "(IIII)I"⟩, 35), (⟨"SkittleGentryModel", "falls", "(II)V"⟩, 35), (⟨"SkittleGentryModel", "fallsNow", "(II)V"⟩, 35), (⟨"SkittleGentryModel", "plateOf", "(I)I"⟩, 35), (⟨"SkittleGentryModel", "rocksNow", "(I)V"⟩, 35), (⟨"SkittleGentryModel", "safest", "(I)I"⟩, 35), (⟨"SkittleGentryModel", "firm", "()I"⟩, 35), (⟨"SkittleGentryModel", "ballsFor", "(II)I"⟩, 35), (⟨"SkittleGentryModel", "talks", "()I"⟩, 35), (⟨"SkittleGentryModel", "isSkittle", "(I)Z"⟩, 35), (⟨"SkittleGentryModel", "firstTaker", "(I)I"⟩, 35)]
theorem lw_r3 : ∀ q ∈ lw_privs_3, lw_okq q := List.forall_mem_cons.mpr ⟨lw_p32, List.forall_mem_cons.mpr ⟨lw_p33, List.forall_mem_cons.mpr ⟨lw_p34, List.forall_mem_cons.mpr ⟨lw_p35, List.forall_mem_cons.mpr ⟨lw_p36, List.forall_mem_cons.mpr ⟨lw_p37, List.forall_mem_cons.mpr ⟨lw_p38, List.forall_mem_cons.mpr ⟨lw_p39, List.forall_mem_cons.mpr ⟨lw_p40, List.forall_mem_cons.mpr ⟨lw_p41, List.forall_mem_cons.mpr ⟨lw_p42, List.forall_mem_cons.mpr ⟨lw_p43, List.forall_mem_cons.mpr ⟨lw_p44, List.forall_mem_cons.mpr ⟨lw_p45, List.forall_mem_cons.mpr ⟨lw_p46, List.forall_mem_cons.mpr ⟨lw_p47, fun _ h => absurd h List.not_mem_nil⟩⟩⟩⟩⟩⟩⟩⟩⟩⟩⟩⟩⟩⟩⟩⟩
theorem lw_p48 : lw_okq (⟨"SkittleGentryModel", "whoOn", "(I)I"⟩, 35) := ⟨⟨by decide +kernel, by decide +kernel⟩, List.mem_of_getElem? (i := 704) (by decide +kernel), List.mem_of_getElem? (i := 963) (by decide +kernel), List.mem_of_getElem? (i := 964) (by decide +kernel)⟩
theorem lw_p49 : lw_okq (⟨"SkittleGentryModel", "isBall", "(III)Z"⟩, 35) := ⟨⟨by decide +kernel, by decide +kernel⟩, List.mem_of_getElem? (i := 704) (by decide +kernel), List.mem_of_getElem? (i := 971) (by decide +kernel), List.mem_of_getElem? (i := 972) (by decide +kernel)⟩
theorem lw_p50 : lw_okq (⟨"SkittleGentryModel", "notes", "()V"⟩, 35) := ⟨⟨by decide +kernel, by decide +kernel⟩, List.mem_of_getElem? (i := 704) (by decide +kernel), List.mem_of_getElem? (i := 976) (by decide +kernel), List.mem_of_getElem? (i := 977) (by decide +kernel)⟩
theorem lw_p51 : lw_okq (⟨"SkittleGentryModel", "throwsBall", "(III)I"⟩, 35) := ⟨⟨by decide +kernel, by decide +kernel⟩, List.mem_of_getElem? (i := 704) (by decide +kernel), List.mem_of_getElem? (i := 980) (by decide +kernel), List.mem_of_getElem? (i := 981) (by decide +kernel)⟩
theorem lw_p52 : lw_okq (⟨"SkittleGentryModel", "changes", "(II)V"⟩, 35) := ⟨⟨by decide +kernel, by decide +kernel⟩, List.mem_of_getElem? (i := 704) (by decide +kernel), List.mem_of_getElem? (i := 996) (by decide +kernel), List.mem_of_getElem? (i := 997) (by decide +kernel)⟩
theorem lw_p53 : lw_okq (⟨"SkittleGentryModel", "draw", "(I)I"⟩, 35) := ⟨⟨by decide +kernel, by decide +kernel⟩, List.mem_of_getElem? (i := 704) (by decide +kernel), List.mem_of_getElem? (i := 1012) (by decide +kernel), List.mem_of_getElem? (i := 1013) (by decide +kernel)⟩
theorem lw_p54 : lw_okq (⟨"SkittleGentryModel", "isSet", "(I)Z"⟩, 35) := ⟨⟨by decide +kernel, by decide +kernel⟩, List.mem_of_getElem? (i := 704) (by decide +kernel), List.mem_of_getElem? (i := 1032) (by decide +kernel), List.mem_of_getElem? (i := 1033) (by decide +kernel)⟩
def lw_privs_4 : List (MethodName × Nat) := [(⟨"SkittleGentryModel", "whoOn", "(I)I"⟩, 35), (⟨"SkittleGentryModel", "isBall", "(III)Z"⟩, 35), (⟨"SkittleGentryModel", "notes", "()V"⟩, 35), (⟨"SkittleGentryModel", "throwsBall", "(III)I"⟩, 35), (⟨"SkittleGentryModel", "changes", "(II)V"⟩, 35), (⟨"SkittleGentryModel", "draw", "(I)I"⟩, 35), (⟨"SkittleGentryModel", "isSet", "(I)Z"⟩, 35)]
theorem lw_r4 : ∀ q ∈ lw_privs_4, lw_okq q := List.forall_mem_cons.mpr ⟨lw_p48, List.forall_mem_cons.mpr ⟨lw_p49, List.forall_mem_cons.mpr ⟨lw_p50, List.forall_mem_cons.mpr ⟨lw_p51, List.forall_mem_cons.mpr ⟨lw_p52, List.forall_mem_cons.mpr ⟨lw_p53, List.forall_mem_cons.mpr ⟨lw_p54, fun _ h => absurd h List.not_mem_nil⟩⟩⟩⟩⟩⟩⟩
def lw_privs : List (MethodName × Nat) := lw_privs_1 ++ (lw_privs_2 ++ (lw_privs_3 ++ (lw_privs_4)))
def lw_tbl : List Cond := k2_sels lw_privs ++ tables_1
theorem lw_privs_ok : ∀ q ∈ lw_privs, lw_okq q := by
  show ∀ q ∈ lw_privs_1 ++ (lw_privs_2 ++ (lw_privs_3 ++ (lw_privs_4))), lw_okq q
  exact List.forall_mem_append.mpr ⟨lw_r1, List.forall_mem_append.mpr ⟨lw_r2, List.forall_mem_append.mpr ⟨lw_r3, lw_r4⟩⟩⟩
end
section
def RX0 : String := "SkittleGentry$AllDown"
def TX0 : u_T := fun k => match k with
  | 0 => ("SkittleGentry$AllDown", "queue", "[I", true)
  | 1 => ("SkittleGentry$AllDown", "steps", "[I", true)
  | 2 => ("SkittleGentry$AllDown", "firsts", "[I", true)
  | 3 => ("SkittleGentry$AllDown", "queued", "I", false)
  | 4 => ("SkittleGentry$AllDown", "ended", "Z", false)
  | 5 => ("SkittleGentry$AllDown", "fewest", "I", false)
  | _ => ("SkittleGentry$AllDown", "first", "I", false)
def tyX0 : Nat → FieldType := fun k => match k with
  | 0 => .array .int
  | 1 => .array .int
  | 2 => .array .int
  | 3 => .int
  | 4 => .boolean
  | 5 => .int
  | _ => .int
abbrev wsX00 : List Cond := u_ws RX0 TX0 7
theorem nmX0 : ∀ a, a < 7 → ∀ b, b < 7 → a ≠ b → (TX0 a).2.1 ≠ (TX0 b).2.1 := by decide +kernel
theorem tyX0_ok : ∀ k, k < 7 → parseFieldDescriptor (TX0 k).2.2.1 = some (tyX0 k) := by decide +kernel
abbrev cX0_init : ByteArray := prog_2_method_1_code
def yX0_init : MethodName := ⟨RX0, "<init>", "()V"⟩
abbrev cX0_run : ByteArray := prog_2_method_2_code
def yX0_run : MethodName := ⟨RX0, "run", "(LSkittleGentry$Roll;LSkittleGentry$Gentry;)V"⟩
abbrev cX0_goOn : ByteArray := prog_2_method_3_code
def yX0_goOn : MethodName := ⟨RX0, "goOn", "(LSkittleGentry$Roll;I)V"⟩
abbrev cX0_reach : ByteArray := prog_2_method_4_code
def yX0_reach : MethodName := ⟨RX0, "reach", "(III)V"⟩
def RX1 : String := "SkittleGentry$Book"
def TX1 : u_T := fun k => match k with
  | 0 => ("SkittleGentry$Book", "skittles", "[I", true)
  | 1 => ("SkittleGentry$Book", "stood", "[Z", true)
  | _ => ("SkittleGentry$Book", "size", "I", false)
def tyX1 : Nat → FieldType := fun k => match k with
  | 0 => .array .int
  | 1 => .array .boolean
  | _ => .int
abbrev wsX10 : List Cond := u_ws RX1 TX1 3
theorem nmX1 : ∀ a, a < 3 → ∀ b, b < 3 → a ≠ b → (TX1 a).2.1 ≠ (TX1 b).2.1 := by decide +kernel
theorem tyX1_ok : ∀ k, k < 3 → parseFieldDescriptor (TX1 k).2.2.1 = some (tyX1 k) := by decide +kernel
abbrev cX1_init : ByteArray := prog_3_method_1_code
def yX1_init : MethodName := ⟨RX1, "<init>", "()V"⟩
abbrev cX1_append : ByteArray := prog_3_method_2_code
def yX1_append : MethodName := ⟨RX1, "append", "(IZ)I"⟩
abbrev cX1_clear : ByteArray := prog_3_method_3_code
def yX1_clear : MethodName := ⟨RX1, "clear", "()V"⟩
abbrev cX1_firstWrong : ByteArray := prog_3_method_4_code
def yX1_firstWrong : MethodName := ⟨RX1, "firstWrong", "(I)I"⟩
def RX2 : String := "SkittleGentry$CountyText"
def TX2 : u_T := fun k => match k with
  | 0 => ("SkittleGentry$CountyText", "letters", "[I", true)
  | 1 => ("SkittleGentry$CountyText", "kinds", "[I", true)
  | 2 => ("SkittleGentry$CountyText", "weights", "[I", true)
  | 3 => ("SkittleGentry$CountyText", "chips", "[I", true)
  | 4 => ("SkittleGentry$CountyText", "length", "I", false)
  | 5 => ("SkittleGentry$CountyText", "at", "I", false)
  | 6 => ("SkittleGentry$CountyText", "floor", "I", false)
  | 7 => ("SkittleGentry$CountyText", "count", "I", false)
  | 8 => ("SkittleGentry$CountyText", "faultNumber", "I", false)
  | _ => ("SkittleGentry$CountyText", "faultAt", "I", false)
def tyX2 : Nat → FieldType := fun k => match k with
  | 0 => .array .int
  | 1 => .array .int
  | 2 => .array .int
  | 3 => .array .int
  | 4 => .int
  | 5 => .int
  | 6 => .int
  | 7 => .int
  | 8 => .int
  | _ => .int
abbrev wsX20 : List Cond := u_ws RX2 TX2 10
theorem nmX2 : ∀ a, a < 10 → ∀ b, b < 10 → a ≠ b → (TX2 a).2.1 ≠ (TX2 b).2.1 := by decide +kernel
theorem tyX2_ok : ∀ k, k < 10 → parseFieldDescriptor (TX2 k).2.2.1 = some (tyX2 k) := by decide +kernel
abbrev cX2_init : ByteArray := prog_4_method_1_code
def yX2_init : MethodName := ⟨RX2, "<init>", "()V"⟩
abbrev cX2_append : ByteArray := prog_4_method_2_code
def yX2_append : MethodName := ⟨RX2, "append", "(I)I"⟩
abbrev cX2_read : ByteArray := prog_4_method_3_code
def yX2_read : MethodName := ⟨RX2, "read", "()I"⟩
abbrev cX2_readFloor : ByteArray := prog_4_method_4_code
def yX2_readFloor : MethodName := ⟨RX2, "readFloor", "()V"⟩
abbrev cX2_readSkittle : ByteArray := prog_4_method_5_code
def yX2_readSkittle : MethodName := ⟨RX2, "readSkittle", "()V"⟩
abbrev cX2_isMore : ByteArray := prog_4_method_6_code
def yX2_isMore : MethodName := ⟨RX2, "isMore", "()Z"⟩
abbrev cX2_sees : ByteArray := prog_4_method_7_code
def yX2_sees : MethodName := ⟨RX2, "sees", "(I)Z"⟩
abbrev cX2_seesFigure : ByteArray := prog_4_method_8_code
def yX2_seesFigure : MethodName := ⟨RX2, "seesFigure", "()Z"⟩
abbrev cX2_takeSign : ByteArray := prog_4_method_9_code
def yX2_takeSign : MethodName := ⟨RX2, "takeSign", "(I)V"⟩
abbrev cX2_takeNumber : ByteArray := prog_4_method_10_code
def yX2_takeNumber : MethodName := ⟨RX2, "takeNumber", "(II)I"⟩
abbrev cX2_fail : ByteArray := prog_4_method_11_code
def yX2_fail : MethodName := ⟨RX2, "fail", "(II)V"⟩
def RX3 : String := "SkittleGentry$Gentry"
def TX3 : u_T := fun k => match k with
  | 0 => ("SkittleGentry$Gentry", "kinds", "[I", true)
  | 1 => ("SkittleGentry$Gentry", "weights", "[I", true)
  | 2 => ("SkittleGentry$Gentry", "chips", "[I", true)
  | 3 => ("SkittleGentry$Gentry", "plates", "[I", true)
  | 4 => ("SkittleGentry$Gentry", "rocked", "[I", true)
  | 5 => ("SkittleGentry$Gentry", "taken", "[I", true)
  | 6 => ("SkittleGentry$Gentry", "on", "[I", true)
  | 7 => ("SkittleGentry$Gentry", "floor", "I", false)
  | 8 => ("SkittleGentry$Gentry", "count", "I", false)
  | 9 => ("SkittleGentry$Gentry", "standing", "I", false)
  | 10 => ("SkittleGentry$Gentry", "thrown", "I", false)
  | _ => ("SkittleGentry$Gentry", "floorers", "I", false)
def tyX3 : Nat → FieldType := fun k => match k with
  | 0 => .array .int
  | 1 => .array .int
  | 2 => .array .int
  | 3 => .array .int
  | 4 => .array .int
  | 5 => .array .int
  | 6 => .array .int
  | 7 => .int
  | 8 => .int
  | 9 => .int
  | 10 => .int
  | _ => .int
abbrev wsX30 : List Cond := u_ws RX3 TX3 12
theorem nmX3 : ∀ a, a < 12 → ∀ b, b < 12 → a ≠ b → (TX3 a).2.1 ≠ (TX3 b).2.1 := by decide +kernel
theorem tyX3_ok : ∀ k, k < 12 → parseFieldDescriptor (TX3 k).2.2.1 = some (tyX3 k) := by decide +kernel
abbrev cX3_init : ByteArray := prog_5_method_1_code
def yX3_init : MethodName := ⟨RX3, "<init>", "()V"⟩
abbrev cX3_copy : ByteArray := prog_5_method_2_code
def yX3_copy : MethodName := ⟨RX3, "copy", "(LSkittleGentry$Gentry;)V"⟩
abbrev cX3_found : ByteArray := prog_5_method_3_code
def yX3_found : MethodName := ⟨RX3, "found", "(LSkittleGentry$CountyText;)V"⟩
abbrev cX3_isCounty : ByteArray := prog_5_method_4_code
def yX3_isCounty : MethodName := ⟨RX3, "isCounty", "()Z"⟩
abbrev cX3_has : ByteArray := prog_5_method_5_code
def yX3_has : MethodName := ⟨RX3, "has", "(I)Z"⟩
abbrev cX3_hasAll : ByteArray := prog_5_method_6_code
def yX3_hasAll : MethodName := ⟨RX3, "hasAll", "(I)Z"⟩
abbrev cX3_stands : ByteArray := prog_5_method_7_code
def yX3_stands : MethodName := ⟨RX3, "stands", "(I)Z"⟩
abbrev cX3_lies : ByteArray := prog_5_method_8_code
def yX3_lies : MethodName := ⟨RX3, "lies", "(I)Z"⟩
abbrev cX3_standAll : ByteArray := prog_5_method_9_code
def yX3_standAll : MethodName := ⟨RX3, "standAll", "()V"⟩
abbrev cX3_bears : ByteArray := prog_5_method_10_code
def yX3_bears : MethodName := ⟨RX3, "bears", "(I)I"⟩
abbrev cX3_swap : ByteArray := prog_5_method_11_code
def yX3_swap : MethodName := ⟨RX3, "swap", "(II)V"⟩
abbrev cX3_put : ByteArray := prog_5_method_12_code
def yX3_put : MethodName := ⟨RX3, "put", "(II)V"⟩
abbrev cX3_suffer : ByteArray := prog_5_method_13_code
def yX3_suffer : MethodName := ⟨RX3, "suffer", "(LSkittleGentry$Roll;I)V"⟩
abbrev cX3_firstTaker : ByteArray := prog_5_method_14_code
def yX3_firstTaker : MethodName := ⟨RX3, "firstTaker", "(I)I"⟩
abbrev cX3_pairsThatTalk : ByteArray := prog_5_method_15_code
def yX3_pairsThatTalk : MethodName := ⟨RX3, "pairsThatTalk", "()I"⟩
abbrev cX3_areSideBySide : ByteArray := prog_5_method_16_code
def yX3_areSideBySide : MethodName := ⟨RX3, "areSideBySide", "(II)Z"⟩
def RX4 : String := "SkittleGentry$Past"
def TX4 : u_T := fun k => match k with
  | 0 => ("SkittleGentry$Past", "ring", "[LSkittleGentry$Gentry;", true)
  | 1 => ("SkittleGentry$Past", "next", "I", false)
  | _ => ("SkittleGentry$Past", "size", "I", false)
def tyX4 : Nat → FieldType := fun k => match k with
  | 0 => .array (.object "SkittleGentry$Gentry")
  | 1 => .int
  | _ => .int
abbrev wsX40 : List Cond := u_ws RX4 TX4 3
theorem nmX4 : ∀ a, a < 3 → ∀ b, b < 3 → a ≠ b → (TX4 a).2.1 ≠ (TX4 b).2.1 := by decide +kernel
theorem tyX4_ok : ∀ k, k < 3 → parseFieldDescriptor (TX4 k).2.2.1 = some (tyX4 k) := by decide +kernel
abbrev cX4_init : ByteArray := prog_6_method_1_code
def yX4_init : MethodName := ⟨RX4, "<init>", "()V"⟩
abbrev cX4_push : ByteArray := prog_6_method_2_code
def yX4_push : MethodName := ⟨RX4, "push", "(LSkittleGentry$Gentry;)V"⟩
abbrev cX4_restore : ByteArray := prog_6_method_3_code
def yX4_restore : MethodName := ⟨RX4, "restore", "(LSkittleGentry$Gentry;)V"⟩
abbrev cX4_forget : ByteArray := prog_6_method_4_code
def yX4_forget : MethodName := ⟨RX4, "forget", "()V"⟩
def RX5 : String := "SkittleGentry$Roll"
def TX5 : u_T := fun k => match k with
  | 0 => ("SkittleGentry$Roll", "on", "[I", true)
  | 1 => ("SkittleGentry$Roll", "bears", "[I", true)
  | 2 => ("SkittleGentry$Roll", "taken", "[I", true)
  | 3 => ("SkittleGentry$Roll", "rocked", "[I", true)
  | 4 => ("SkittleGentry$Roll", "drag", "I", false)
  | 5 => ("SkittleGentry$Roll", "standing", "I", false)
  | 6 => ("SkittleGentry$Roll", "rocks", "I", false)
  | _ => ("SkittleGentry$Roll", "stays", "I", false)
def tyX5 : Nat → FieldType := fun k => match k with
  | 0 => .array .int
  | 1 => .array .int
  | 2 => .array .int
  | 3 => .array .int
  | 4 => .int
  | 5 => .int
  | 6 => .int
  | _ => .int
abbrev wsX50 : List Cond := u_ws RX5 TX5 8
theorem nmX5 : ∀ a, a < 8 → ∀ b, b < 8 → a ≠ b → (TX5 a).2.1 ≠ (TX5 b).2.1 := by decide +kernel
theorem tyX5_ok : ∀ k, k < 8 → parseFieldDescriptor (TX5 k).2.2.1 = some (tyX5 k) := by decide +kernel
abbrev cX5_init : ByteArray := prog_7_method_1_code
def yX5_init : MethodName := ⟨RX5, "<init>", "()V"⟩
abbrev cX5_prepare : ByteArray := prog_7_method_2_code
def yX5_prepare : MethodName := ⟨RX5, "prepare", "(LSkittleGentry$Gentry;)V"⟩
abbrev cX5_clearRocked : ByteArray := prog_7_method_3_code
def yX5_clearRocked : MethodName := ⟨RX5, "clearRocked", "()V"⟩
abbrev cX5_send : ByteArray := prog_7_method_4_code
def yX5_send : MethodName := ⟨RX5, "send", "(IIII)I"⟩
abbrev cX5_leastPace : ByteArray := prog_7_method_5_code
def yX5_leastPace : MethodName := ⟨RX5, "leastPace", "(III)I"⟩
abbrev cX5_meet : ByteArray := prog_7_method_6_code
def yX5_meet : MethodName := ⟨RX5, "meet", "(III)I"⟩
abbrev cX5_topple : ByteArray := prog_7_method_7_code
def yX5_topple : MethodName := ⟨RX5, "topple", "(IIIII)V"⟩
abbrev cX5_strike : ByteArray := prog_7_method_8_code
def yX5_strike : MethodName := ⟨RX5, "strike", "(IIII)V"⟩
abbrev cX5_rock : ByteArray := prog_7_method_9_code
def yX5_rock : MethodName := ⟨RX5, "rock", "(I)V"⟩
abbrev cX5_whoStandsAt : ByteArray := prog_7_method_10_code
def yX5_whoStandsAt : MethodName := ⟨RX5, "whoStandsAt", "(II)I"⟩
def RX6 : String := "SkittleGentry$Trials"
def TX6 : u_T := fun k => match k with
  | 0 => ("SkittleGentry$Trials", "falls", "[I", true)
  | _ => ("SkittleGentry$Trials", "filled", "Z", false)
def tyX6 : Nat → FieldType := fun k => match k with
  | 0 => .array .int
  | _ => .boolean
abbrev wsX60 : List Cond := u_ws RX6 TX6 2
theorem nmX6 : ∀ a, a < 2 → ∀ b, b < 2 → a ≠ b → (TX6 a).2.1 ≠ (TX6 b).2.1 := by decide +kernel
theorem tyX6_ok : ∀ k, k < 2 → parseFieldDescriptor (TX6 k).2.2.1 = some (tyX6 k) := by decide +kernel
abbrev cX6_init : ByteArray := prog_8_method_1_code
def yX6_init : MethodName := ⟨RX6, "<init>", "()V"⟩
abbrev cX6_fill : ByteArray := prog_8_method_2_code
def yX6_fill : MethodName := ⟨RX6, "fill", "(LSkittleGentry$Roll;LSkittleGentry$Gentry;)V"⟩
abbrev cX6_howMany : ByteArray := prog_8_method_3_code
def yX6_howMany : MethodName := ⟨RX6, "howMany", "(I)I"⟩
abbrev cX6_firstOf : ByteArray := prog_8_method_4_code
def yX6_firstOf : MethodName := ⟨RX6, "firstOf", "(I)I"⟩
abbrev cX6_linesOf : ByteArray := prog_8_method_5_code
def yX6_linesOf : MethodName := ⟨RX6, "linesOf", "(I)I"⟩
abbrev cX6_gentlest : ByteArray := prog_8_method_6_code
def yX6_gentlest : MethodName := ⟨RX6, "gentlest", "(II)I"⟩
abbrev cX6_worst : ByteArray := prog_8_method_7_code
def yX6_worst : MethodName := ⟨RX6, "worst", "()I"⟩
abbrev cX6_fallenBy : ByteArray := prog_8_method_8_code
def yX6_fallenBy : MethodName := ⟨RX6, "fallenBy", "(I)I"⟩
abbrev cX6_safest : ByteArray := prog_8_method_9_code
def yX6_safest : MethodName := ⟨RX6, "safest", "(LSkittleGentry$Gentry;)I"⟩
abbrev cX6_fallsOf : ByteArray := prog_8_method_10_code
def yX6_fallsOf : MethodName := ⟨RX6, "fallsOf", "(I)I"⟩
abbrev cX6_fallsAmong : ByteArray := prog_8_method_11_code
def yX6_fallsAmong : MethodName := ⟨RX6, "fallsAmong", "(III)I"⟩
abbrev cX6_bestToAsk : ByteArray := prog_8_method_12_code
def yX6_bestToAsk : MethodName := ⟨RX6, "bestToAsk", "(II)I"⟩
def RX7 : String := "SkittleGentry"
def TX7 : u_T := fun k => match k with
  | 0 => ("SkittleGentry", "text", "LSkittleGentry$CountyText;", true)
  | 1 => ("SkittleGentry", "now", "LSkittleGentry$Gentry;", true)
  | 2 => ("SkittleGentry", "changed", "LSkittleGentry$Gentry;", true)
  | 3 => ("SkittleGentry", "past", "LSkittleGentry$Past;", true)
  | 4 => ("SkittleGentry", "images", "[LSkittleGentry$Gentry;", true)
  | 5 => ("SkittleGentry", "kept", "[Z", true)
  | 6 => ("SkittleGentry", "keptSeeds", "[I", true)
  | 7 => ("SkittleGentry", "roll", "LSkittleGentry$Roll;", true)
  | 8 => ("SkittleGentry", "trials", "LSkittleGentry$Trials;", true)
  | 9 => ("SkittleGentry", "search", "LSkittleGentry$AllDown;", true)
  | 10 => ("SkittleGentry", "book", "LSkittleGentry$Book;", true)
  | 11 => ("SkittleGentry", "seed", "I", false)
  | _ => ("SkittleGentry", "latestFault", "I", false)
def tyX7 : Nat → FieldType := fun k => match k with
  | 0 => .object "SkittleGentry$CountyText"
  | 1 => .object "SkittleGentry$Gentry"
  | 2 => .object "SkittleGentry$Gentry"
  | 3 => .object "SkittleGentry$Past"
  | 4 => .array (.object "SkittleGentry$Gentry")
  | 5 => .array .boolean
  | 6 => .array .int
  | 7 => .object "SkittleGentry$Roll"
  | 8 => .object "SkittleGentry$Trials"
  | 9 => .object "SkittleGentry$AllDown"
  | 10 => .object "SkittleGentry$Book"
  | 11 => .int
  | _ => .int
abbrev wsX70 : List Cond := u_ws RX7 TX7 13
theorem nmX7 : ∀ a, a < 13 → ∀ b, b < 13 → a ≠ b → (TX7 a).2.1 ≠ (TX7 b).2.1 := by decide +kernel
theorem tyX7_ok : ∀ k, k < 13 → parseFieldDescriptor (TX7 k).2.2.1 = some (tyX7 k) := by decide +kernel
abbrev cX7_init : ByteArray := prog_1_method_1_code
def yX7_init : MethodName := ⟨RX7, "<init>", "()V"⟩
abbrev cX7_feed : ByteArray := prog_1_method_2_code
def yX7_feed : MethodName := ⟨RX7, "feed", "(I)I"⟩
abbrev cX7_county : ByteArray := prog_1_method_3_code
def yX7_county : MethodName := ⟨RX7, "county", "()I"⟩
abbrev cX7_fault : ByteArray := prog_1_method_4_code
def yX7_fault : MethodName := ⟨RX7, "fault", "()I"⟩
abbrev cX7_told : ByteArray := prog_1_method_5_code
def yX7_told : MethodName := ⟨RX7, "told", "(I)I"⟩
abbrev cX7_skittle : ByteArray := prog_1_method_6_code
def yX7_skittle : MethodName := ⟨RX7, "skittle", "(II)I"⟩
abbrev cX7_plate : ByteArray := prog_1_method_7_code
def yX7_plate : MethodName := ⟨RX7, "plate", "(I)I"⟩
abbrev cX7_ball : ByteArray := prog_1_method_8_code
def yX7_ball : MethodName := ⟨RX7, "ball", "(III)I"⟩
abbrev cX7_setUp : ByteArray := prog_1_method_9_code
def yX7_setUp : MethodName := ⟨RX7, "setUp", "()I"⟩
abbrev cX7_lift : ByteArray := prog_1_method_10_code
def yX7_lift : MethodName := ⟨RX7, "lift", "(I)I"⟩
abbrev cX7_change : ByteArray := prog_1_method_11_code
def yX7_change : MethodName := ⟨RX7, "change", "(II)I"⟩
abbrev cX7_chip : ByteArray := prog_1_method_12_code
def yX7_chip : MethodName := ⟨RX7, "chip", "(II)I"⟩
abbrev cX7_replace : ByteArray := prog_1_method_13_code
def yX7_replace : MethodName := ⟨RX7, "replace", "(I)I"⟩
abbrev cX7_drift : ByteArray := prog_1_method_14_code
def yX7_drift : MethodName := ⟨RX7, "drift", "(I)I"⟩
abbrev cX7_undo : ByteArray := prog_1_method_15_code
def yX7_undo : MethodName := ⟨RX7, "undo", "()I"⟩
abbrev cX7_wouldFall : ByteArray := prog_1_method_16_code
def yX7_wouldFall : MethodName := ⟨RX7, "wouldFall", "(IIII)I"⟩
abbrev cX7_balls : ByteArray := prog_1_method_17_code
def yX7_balls : MethodName := ⟨RX7, "balls", "(II)I"⟩
abbrev cX7_spare : ByteArray := prog_1_method_18_code
def yX7_spare : MethodName := ⟨RX7, "spare", "(II)I"⟩
abbrev cX7_allDown : ByteArray := prog_1_method_19_code
def yX7_allDown : MethodName := ⟨RX7, "allDown", "(I)I"⟩
abbrev cX7_mend : ByteArray := prog_1_method_20_code
def yX7_mend : MethodName := ⟨RX7, "mend", "(IIII)I"⟩
abbrev cX7_hand : ByteArray := prog_1_method_21_code
def yX7_hand : MethodName := ⟨RX7, "hand", "(I)I"⟩
abbrev cX7_ask : ByteArray := prog_1_method_22_code
def yX7_ask : MethodName := ⟨RX7, "ask", "(I)I"⟩
abbrev cX7_calm : ByteArray := prog_1_method_23_code
def yX7_calm : MethodName := ⟨RX7, "calm", "(II)I"⟩
abbrev cX7_write : ByteArray := prog_1_method_24_code
def yX7_write : MethodName := ⟨RX7, "write", "(IZ)I"⟩
abbrev cX7_tear : ByteArray := prog_1_method_25_code
def yX7_tear : MethodName := ⟨RX7, "tear", "()I"⟩
abbrev cX7_judge : ByteArray := prog_1_method_26_code
def yX7_judge : MethodName := ⟨RX7, "judge", "()I"⟩
abbrev cX7_seed : ByteArray := prog_1_method_27_code
def yX7_seed : MethodName := ⟨RX7, "seed", "(I)I"⟩
abbrev cX7_keep : ByteArray := prog_1_method_28_code
def yX7_keep : MethodName := ⟨RX7, "keep", "(I)I"⟩
abbrev cX7_goBack : ByteArray := prog_1_method_29_code
def yX7_goBack : MethodName := ⟨RX7, "goBack", "(I)I"⟩
abbrev cX7_isPlate : ByteArray := prog_1_method_30_code
def yX7_isPlate : MethodName := ⟨RX7, "isPlate", "(I)Z"⟩
abbrev cX7_isBall : ByteArray := prog_1_method_31_code
def yX7_isBall : MethodName := ⟨RX7, "isBall", "(III)Z"⟩
abbrev cX7_numberOf : ByteArray := prog_1_method_32_code
def yX7_numberOf : MethodName := ⟨RX7, "numberOf", "(I)I"⟩
abbrev cX7_remember : ByteArray := prog_1_method_33_code
def yX7_remember : MethodName := ⟨RX7, "remember", "()V"⟩
abbrev cX7_stirred : ByteArray := prog_1_method_34_code
def yX7_stirred : MethodName := ⟨RX7, "stirred", "()V"⟩
abbrev cX7_throwOne : ByteArray := prog_1_method_35_code
def yX7_throwOne : MethodName := ⟨RX7, "throwOne", "(III)I"⟩
abbrev cX7_driftOnce : ByteArray := prog_1_method_36_code
def yX7_driftOnce : MethodName := ⟨RX7, "driftOnce", "()V"⟩
abbrev cX7_draw : ByteArray := prog_1_method_37_code
def yX7_draw : MethodName := ⟨RX7, "draw", "(I)I"⟩
abbrev cX7_fallsIfSwapped : ByteArray := prog_1_method_38_code
def yX7_fallsIfSwapped : MethodName := ⟨RX7, "fallsIfSwapped", "(IIIII)I"⟩
abbrev cX7_toldOfAllBalls : ByteArray := prog_1_method_39_code
def yX7_toldOfAllBalls : MethodName := ⟨RX7, "toldOfAllBalls", "(I)I"⟩
def RX8 : String := "SkittleGentryModel"
def TX8 : u_T := fun k => match k with
  | 0 => ("SkittleGentryModel", "thrown", "I", false)
  | 1 => ("SkittleGentryModel", "text", "[I", true)
  | 2 => ("SkittleGentryModel", "typed", "I", false)
  | 3 => ("SkittleGentryModel", "at", "I", false)
  | 4 => ("SkittleGentryModel", "kindOfFault", "I", false)
  | 5 => ("SkittleGentryModel", "place", "I", false)
  | 6 => ("SkittleGentryModel", "faultAt", "I", false)
  | 7 => ("SkittleGentryModel", "isCounty", "Z", false)
  | 8 => ("SkittleGentryModel", "floor", "I", false)
  | 9 => ("SkittleGentryModel", "many", "I", false)
  | 10 => ("SkittleGentryModel", "floorTold", "I", false)
  | 11 => ("SkittleGentryModel", "manyTold", "I", false)
  | 12 => ("SkittleGentryModel", "draft", "[I", true)
  | 13 => ("SkittleGentryModel", "weight", "[I", true)
  | 14 => ("SkittleGentryModel", "s", "[I", true)
  | 15 => ("SkittleGentryModel", "kept", "[I", true)
  | 16 => ("SkittleGentryModel", "isKept", "[Z", true)
  | 17 => ("SkittleGentryModel", "undos", "[I", true)
  | 18 => ("SkittleGentryModel", "undoMany", "I", false)
  | 19 => ("SkittleGentryModel", "bookOf", "[I", true)
  | 20 => ("SkittleGentryModel", "book", "[Z", true)
  | 21 => ("SkittleGentryModel", "bookMany", "I", false)
  | 22 => ("SkittleGentryModel", "on", "[I", true)
  | 23 => ("SkittleGentryModel", "bear", "[I", true)
  | 24 => ("SkittleGentryModel", "rocks", "[I", true)
  | 25 => ("SkittleGentryModel", "taker", "[I", true)
  | 26 => ("SkittleGentryModel", "up", "I", false)
  | 27 => ("SkittleGentryModel", "rockMany", "I", false)
  | 28 => ("SkittleGentryModel", "stays", "I", false)
  | 29 => ("SkittleGentryModel", "striker", "[I", true)
  | 30 => ("SkittleGentryModel", "strength", "[I", true)
  | 31 => ("SkittleGentryModel", "side", "[I", true)
  | 32 => ("SkittleGentryModel", "far", "[I", true)
  | 33 => ("SkittleGentryModel", "firstBy", "[I", true)
  | _ => ("SkittleGentryModel", "queue", "[I", true)
def tyX8 : Nat → FieldType := fun k => match k with
  | 0 => .int
  | 1 => .array .int
  | 2 => .int
  | 3 => .int
  | 4 => .int
  | 5 => .int
  | 6 => .int
  | 7 => .boolean
  | 8 => .int
  | 9 => .int
  | 10 => .int
  | 11 => .int
  | 12 => .array .int
  | 13 => .array .int
  | 14 => .array .int
  | 15 => .array .int
  | 16 => .array .boolean
  | 17 => .array .int
  | 18 => .int
  | 19 => .array .int
  | 20 => .array .boolean
  | 21 => .int
  | 22 => .array .int
  | 23 => .array .int
  | 24 => .array .int
  | 25 => .array .int
  | 26 => .int
  | 27 => .int
  | 28 => .int
  | 29 => .array .int
  | 30 => .array .int
  | 31 => .array .int
  | 32 => .array .int
  | 33 => .array .int
  | _ => .array .int
abbrev wsX80 : List Cond := u_ws RX8 TX8 35
theorem nmX8 : ∀ a, a < 35 → ∀ b, b < 35 → a ≠ b → (TX8 a).2.1 ≠ (TX8 b).2.1 := by decide +kernel
theorem tyX8_ok : ∀ k, k < 35 → parseFieldDescriptor (TX8 k).2.2.1 = some (tyX8 k) := by decide +kernel
abbrev cX8_init : ByteArray := prog_10_method_1_code
def yX8_init : MethodName := ⟨RX8, "<init>", "()V"⟩
abbrev cX8_in : ByteArray := prog_10_method_3_code
def yX8_in : MethodName := ⟨RX8, "in", "(III)Z"⟩
abbrev cX8_has : ByteArray := prog_10_method_4_code
def yX8_has : MethodName := ⟨RX8, "has", "(II)Z"⟩
abbrev cX8_ones : ByteArray := prog_10_method_5_code
def yX8_ones : MethodName := ⟨RX8, "ones", "(I)I"⟩
abbrev cX8_feed : ByteArray := prog_10_method_6_code
def yX8_feed : MethodName := ⟨RX8, "feed", "(I)I"⟩
abbrev cX8_letterAt : ByteArray := prog_10_method_7_code
def yX8_letterAt : MethodName := ⟨RX8, "letterAt", "(I)I"⟩
abbrev cX8_blanks : ByteArray := prog_10_method_8_code
def yX8_blanks : MethodName := ⟨RX8, "blanks", "()V"⟩
abbrev cX8_isWell : ByteArray := prog_10_method_9_code
def yX8_isWell : MethodName := ⟨RX8, "isWell", "()Z"⟩
abbrev cX8_faulty : ByteArray := prog_10_method_10_code
def yX8_faulty : MethodName := ⟨RX8, "faulty", "(II)V"⟩
abbrev cX8_due : ByteArray := prog_10_method_11_code
def yX8_due : MethodName := ⟨RX8, "due", "(II)I"⟩
abbrev cX8_ends : ByteArray := prog_10_method_12_code
def yX8_ends : MethodName := ⟨RX8, "ends", "()V"⟩
abbrev cX8_tells : ByteArray := prog_10_method_13_code
def yX8_tells : MethodName := ⟨RX8, "tells", "()V"⟩
abbrev cX8_reads : ByteArray := prog_10_method_14_code
def yX8_reads : MethodName := ⟨RX8, "reads", "()V"⟩
abbrev cX8_county : ByteArray := prog_10_method_15_code
def yX8_county : MethodName := ⟨RX8, "county", "()I"⟩
abbrev cX8_settles : ByteArray := prog_10_method_16_code
def yX8_settles : MethodName := ⟨RX8, "settles", "()V"⟩
abbrev cX8_fault : ByteArray := prog_10_method_17_code
def yX8_fault : MethodName := ⟨RX8, "fault", "()I"⟩
abbrev cX8_isSkittle : ByteArray := prog_10_method_18_code
def yX8_isSkittle : MethodName := ⟨RX8, "isSkittle", "(I)Z"⟩
abbrev cX8_isSet : ByteArray := prog_10_method_19_code
def yX8_isSet : MethodName := ⟨RX8, "isSet", "(I)Z"⟩
abbrev cX8_isPlate : ByteArray := prog_10_method_20_code
def yX8_isPlate : MethodName := ⟨RX8, "isPlate", "(I)Z"⟩
abbrev cX8_rowOf : ByteArray := prog_10_method_21_code
def yX8_rowOf : MethodName := ⟨RX8, "rowOf", "(I)I"⟩
abbrev cX8_columnOf : ByteArray := prog_10_method_22_code
def yX8_columnOf : MethodName := ⟨RX8, "columnOf", "(I)I"⟩
abbrev cX8_plateAt : ByteArray := prog_10_method_23_code
def yX8_plateAt : MethodName := ⟨RX8, "plateAt", "(II)I"⟩
abbrev cX8_bearsOn : ByteArray := prog_10_method_24_code
def yX8_bearsOn : MethodName := ⟨RX8, "bearsOn", "(II)I"⟩
abbrev cX8_sets : ByteArray := prog_10_method_25_code
def yX8_sets : MethodName := ⟨RX8, "sets", "(II)V"⟩
abbrev cX8_rocksNow : ByteArray := prog_10_method_26_code
def yX8_rocksNow : MethodName := ⟨RX8, "rocksNow", "(I)V"⟩
abbrev cX8_fallsNow : ByteArray := prog_10_method_27_code
def yX8_fallsNow : MethodName := ⟨RX8, "fallsNow", "(II)V"⟩
abbrev cX8_plateOf : ByteArray := prog_10_method_28_code
def yX8_plateOf : MethodName := ⟨RX8, "plateOf", "(I)I"⟩
abbrev cX8_falls : ByteArray := prog_10_method_29_code
def yX8_falls : MethodName := ⟨RX8, "falls", "(II)V"⟩
abbrev cX8_goes : ByteArray := prog_10_method_30_code
def yX8_goes : MethodName := ⟨RX8, "goes", "(IIII)I"⟩
abbrev cX8_goesBy : ByteArray := prog_10_method_31_code
def yX8_goesBy : MethodName := ⟨RX8, "goesBy", "(II)I"⟩
abbrev cX8_numberOf : ByteArray := prog_10_method_32_code
def yX8_numberOf : MethodName := ⟨RX8, "numberOf", "(I)I"⟩
abbrev cX8_isBall : ByteArray := prog_10_method_33_code
def yX8_isBall : MethodName := ⟨RX8, "isBall", "(III)Z"⟩
abbrev cX8_worst : ByteArray := prog_10_method_34_code
def yX8_worst : MethodName := ⟨RX8, "worst", "(I)I"⟩
abbrev cX8_safest : ByteArray := prog_10_method_35_code
def yX8_safest : MethodName := ⟨RX8, "safest", "(I)I"⟩
abbrev cX8_firm : ByteArray := prog_10_method_36_code
def yX8_firm : MethodName := ⟨RX8, "firm", "()I"⟩
abbrev cX8_talks : ByteArray := prog_10_method_37_code
def yX8_talks : MethodName := ⟨RX8, "talks", "()I"⟩
abbrev cX8_told : ByteArray := prog_10_method_38_code
def yX8_told : MethodName := ⟨RX8, "told", "(I)I"⟩
abbrev cX8_firstTaker : ByteArray := prog_10_method_39_code
def yX8_firstTaker : MethodName := ⟨RX8, "firstTaker", "(I)I"⟩
abbrev cX8_skittle : ByteArray := prog_10_method_40_code
def yX8_skittle : MethodName := ⟨RX8, "skittle", "(II)I"⟩
abbrev cX8_whoOn : ByteArray := prog_10_method_41_code
def yX8_whoOn : MethodName := ⟨RX8, "whoOn", "(I)I"⟩
abbrev cX8_plate : ByteArray := prog_10_method_42_code
def yX8_plate : MethodName := ⟨RX8, "plate", "(I)I"⟩
abbrev cX8_notes : ByteArray := prog_10_method_43_code
def yX8_notes : MethodName := ⟨RX8, "notes", "()V"⟩
abbrev cX8_throwsBall : ByteArray := prog_10_method_44_code
def yX8_throwsBall : MethodName := ⟨RX8, "throwsBall", "(III)I"⟩
abbrev cX8_ball : ByteArray := prog_10_method_45_code
def yX8_ball : MethodName := ⟨RX8, "ball", "(III)I"⟩
abbrev cX8_setUp : ByteArray := prog_10_method_46_code
def yX8_setUp : MethodName := ⟨RX8, "setUp", "()I"⟩
abbrev cX8_lift : ByteArray := prog_10_method_47_code
def yX8_lift : MethodName := ⟨RX8, "lift", "(I)I"⟩
abbrev cX8_changes : ByteArray := prog_10_method_48_code
def yX8_changes : MethodName := ⟨RX8, "changes", "(II)V"⟩
abbrev cX8_change : ByteArray := prog_10_method_49_code
def yX8_change : MethodName := ⟨RX8, "change", "(II)I"⟩
abbrev cX8_chip : ByteArray := prog_10_method_50_code
def yX8_chip : MethodName := ⟨RX8, "chip", "(II)I"⟩
abbrev cX8_replace : ByteArray := prog_10_method_51_code
def yX8_replace : MethodName := ⟨RX8, "replace", "(I)I"⟩
abbrev cX8_draw : ByteArray := prog_10_method_52_code
def yX8_draw : MethodName := ⟨RX8, "draw", "(I)I"⟩
abbrev cX8_drift : ByteArray := prog_10_method_53_code
def yX8_drift : MethodName := ⟨RX8, "drift", "(I)I"⟩
abbrev cX8_undo : ByteArray := prog_10_method_54_code
def yX8_undo : MethodName := ⟨RX8, "undo", "()I"⟩
abbrev cX8_wouldFall : ByteArray := prog_10_method_55_code
def yX8_wouldFall : MethodName := ⟨RX8, "wouldFall", "(IIII)I"⟩
abbrev cX8_ballsFor : ByteArray := prog_10_method_56_code
def yX8_ballsFor : MethodName := ⟨RX8, "ballsFor", "(II)I"⟩
abbrev cX8_balls : ByteArray := prog_10_method_57_code
def yX8_balls : MethodName := ⟨RX8, "balls", "(II)I"⟩
abbrev cX8_spare : ByteArray := prog_10_method_58_code
def yX8_spare : MethodName := ⟨RX8, "spare", "(II)I"⟩
abbrev cX8_allDown : ByteArray := prog_10_method_59_code
def yX8_allDown : MethodName := ⟨RX8, "allDown", "(I)I"⟩
abbrev cX8_mend : ByteArray := prog_10_method_60_code
def yX8_mend : MethodName := ⟨RX8, "mend", "(IIII)I"⟩
abbrev cX8_hand : ByteArray := prog_10_method_61_code
def yX8_hand : MethodName := ⟨RX8, "hand", "(I)I"⟩
abbrev cX8_ask : ByteArray := prog_10_method_62_code
def yX8_ask : MethodName := ⟨RX8, "ask", "(I)I"⟩
abbrev cX8_calm : ByteArray := prog_10_method_63_code
def yX8_calm : MethodName := ⟨RX8, "calm", "(II)I"⟩
abbrev cX8_write : ByteArray := prog_10_method_64_code
def yX8_write : MethodName := ⟨RX8, "write", "(IZ)I"⟩
abbrev cX8_tear : ByteArray := prog_10_method_65_code
def yX8_tear : MethodName := ⟨RX8, "tear", "()I"⟩
abbrev cX8_judge : ByteArray := prog_10_method_66_code
def yX8_judge : MethodName := ⟨RX8, "judge", "()I"⟩
abbrev cX8_seed : ByteArray := prog_10_method_67_code
def yX8_seed : MethodName := ⟨RX8, "seed", "(I)I"⟩
abbrev cX8_keep : ByteArray := prog_10_method_68_code
def yX8_keep : MethodName := ⟨RX8, "keep", "(I)I"⟩
abbrev cX8_goBack : ByteArray := prog_10_method_69_code
def yX8_goBack : MethodName := ⟨RX8, "goBack", "(I)I"⟩
def RJ6 : String := "java/lang/Integer"
abbrev cJ6_bitCount_0f7a4 : ByteArray := prog_11_method_49_code
def yJ6_bitCount_0f7a4 : MethodName := ⟨RJ6, "bitCount", "(I)I"⟩
def RJ9 : String := "java/lang/Math"
abbrev cJ9_abs_0f7a4 : ByteArray := prog_12_method_59_code
def yJ9_abs_0f7a4 : MethodName := ⟨RJ9, "abs", "(I)I"⟩
abbrev cJ9_max_7cf53 : ByteArray := prog_12_method_65_code
def yJ9_max_7cf53 : MethodName := ⟨RJ9, "max", "(II)I"⟩
abbrev cJ9_min_7cf53 : ByteArray := prog_12_method_69_code
def yJ9_min_7cf53 : MethodName := ⟨RJ9, "min", "(II)I"⟩
def RJ10 : String := "java/lang/System"
def RJ7 : String := "java/util/Arrays"
abbrev cJ7_fill_53178 : ByteArray := prog_14_method_103_code
def yJ7_fill_53178 : MethodName := ⟨RJ7, "fill", "([II)V"⟩
def RL : String := "SkittleGentryLaw"
abbrev cL_law : ByteArray := code
def yL_law : MethodName := ⟨RL, "law", "([I)Z"⟩
end
section
theorem dL_law_0 : decode cL_law 0 = .ok (.new 7, 3) := by decide +kernel
theorem dL_law_3 : decode cL_law 3 = .ok (.dup, 1) := by decide +kernel
theorem dL_law_4 : decode cL_law 4 = .ok (.invokespecial 9, 3) := by decide +kernel
theorem dL_law_7 : decode cL_law 7 = .ok (.astore_n 1, 1) := by decide +kernel
theorem dL_law_8 : decode cL_law 8 = .ok (.new 10, 3) := by decide +kernel
theorem dL_law_11 : decode cL_law 11 = .ok (.dup, 1) := by decide +kernel
theorem dL_law_12 : decode cL_law 12 = .ok (.invokespecial 12, 3) := by decide +kernel
theorem dL_law_15 : decode cL_law 15 = .ok (.astore_n 2, 1) := by decide +kernel
theorem dL_law_16 : decode cL_law 16 = .ok (.iconst 0, 1) := by decide +kernel
theorem dL_law_17 : decode cL_law 17 = .ok (.istore_n 3, 1) := by decide +kernel
theorem dL_law_18 : decode cL_law 18 = .ok (.iload_n 3, 1) := by decide +kernel
theorem dL_law_19 : decode cL_law 19 = .ok (.aload_n 0, 1) := by decide +kernel
theorem dL_law_20 : decode cL_law 20 = .ok (.arraylength, 1) := by decide +kernel
theorem dL_law_21 : decode cL_law 21 = .ok (.iconst 5, 1) := by decide +kernel
theorem dL_law_22 : decode cL_law 22 = .ok (.isub, 1) := by decide +kernel
theorem dL_law_23 : decode cL_law 23 = .ok (.if_icmp .gt 893, 3) := by decide +kernel
theorem dL_law_26 : decode cL_law 26 = .ok (.aload_n 0, 1) := by decide +kernel
theorem dL_law_27 : decode cL_law 27 = .ok (.iload_n 3, 1) := by decide +kernel
theorem dL_law_28 : decode cL_law 28 = .ok (.iaload, 1) := by decide +kernel
theorem dL_law_29 : decode cL_law 29 = .ok (.bipush 31, 2) := by decide +kernel
theorem dL_law_31 : decode cL_law 31 = .ok (.iand, 1) := by decide +kernel
theorem dL_law_32 : decode cL_law 32 = .ok (.tableswitch 878 0 27 #[128, 151, 164, 177, 200, 233, 256, 299, 312, 335, 368, 401, 424, 447, 460, 513, 546, 579, 602, 655, 678, 701, 734, 783, 796, 809, 832, 855], 128) := by decide +kernel
theorem dL_law_160 : decode cL_law 160 = .ok (.aload_n 1, 1) := by decide +kernel
theorem dL_law_161 : decode cL_law 161 = .ok (.aload_n 0, 1) := by decide +kernel
theorem dL_law_162 : decode cL_law 162 = .ok (.iload_n 3, 1) := by decide +kernel
theorem dL_law_163 : decode cL_law 163 = .ok (.iconst 1, 1) := by decide +kernel
theorem dL_law_164 : decode cL_law 164 = .ok (.iadd, 1) := by decide +kernel
theorem dL_law_165 : decode cL_law 165 = .ok (.iaload, 1) := by decide +kernel
theorem dL_law_166 : decode cL_law 166 = .ok (.invokevirtual 13, 3) := by decide +kernel
theorem dL_law_169 : decode cL_law 169 = .ok (.aload_n 2, 1) := by decide +kernel
theorem dL_law_170 : decode cL_law 170 = .ok (.aload_n 0, 1) := by decide +kernel
theorem dL_law_171 : decode cL_law 171 = .ok (.iload_n 3, 1) := by decide +kernel
theorem dL_law_172 : decode cL_law 172 = .ok (.iconst 1, 1) := by decide +kernel
theorem dL_law_173 : decode cL_law 173 = .ok (.iadd, 1) := by decide +kernel
theorem dL_law_174 : decode cL_law 174 = .ok (.iaload, 1) := by decide +kernel
theorem dL_law_175 : decode cL_law 175 = .ok (.invokevirtual 17, 3) := by decide +kernel
theorem dL_law_178 : decode cL_law 178 = .ok (.if_icmp .eq 732, 3) := by decide +kernel
theorem dL_law_181 : decode cL_law 181 = .ok (.iconst 0, 1) := by decide +kernel
theorem dL_law_182 : decode cL_law 182 = .ok (.ireturn, 1) := by decide +kernel
theorem dL_law_183 : decode cL_law 183 = .ok (.aload_n 1, 1) := by decide +kernel
theorem dL_law_184 : decode cL_law 184 = .ok (.invokevirtual 18, 3) := by decide +kernel
theorem dL_law_187 : decode cL_law 187 = .ok (.aload_n 2, 1) := by decide +kernel
theorem dL_law_188 : decode cL_law 188 = .ok (.invokevirtual 22, 3) := by decide +kernel
theorem dL_law_191 : decode cL_law 191 = .ok (.if_icmp .eq 719, 3) := by decide +kernel
theorem dL_law_194 : decode cL_law 194 = .ok (.iconst 0, 1) := by decide +kernel
theorem dL_law_195 : decode cL_law 195 = .ok (.ireturn, 1) := by decide +kernel
theorem dL_law_196 : decode cL_law 196 = .ok (.aload_n 1, 1) := by decide +kernel
theorem dL_law_197 : decode cL_law 197 = .ok (.invokevirtual 23, 3) := by decide +kernel
theorem dL_law_200 : decode cL_law 200 = .ok (.aload_n 2, 1) := by decide +kernel
theorem dL_law_201 : decode cL_law 201 = .ok (.invokevirtual 26, 3) := by decide +kernel
theorem dL_law_204 : decode cL_law 204 = .ok (.if_icmp .eq 706, 3) := by decide +kernel
theorem dL_law_207 : decode cL_law 207 = .ok (.iconst 0, 1) := by decide +kernel
theorem dL_law_208 : decode cL_law 208 = .ok (.ireturn, 1) := by decide +kernel
theorem dL_law_209 : decode cL_law 209 = .ok (.aload_n 1, 1) := by decide +kernel
theorem dL_law_210 : decode cL_law 210 = .ok (.aload_n 0, 1) := by decide +kernel
theorem dL_law_211 : decode cL_law 211 = .ok (.iload_n 3, 1) := by decide +kernel
theorem dL_law_212 : decode cL_law 212 = .ok (.iconst 1, 1) := by decide +kernel
theorem dL_law_213 : decode cL_law 213 = .ok (.iadd, 1) := by decide +kernel
theorem dL_law_214 : decode cL_law 214 = .ok (.iaload, 1) := by decide +kernel
theorem dL_law_215 : decode cL_law 215 = .ok (.invokevirtual 27, 3) := by decide +kernel
theorem dL_law_218 : decode cL_law 218 = .ok (.aload_n 2, 1) := by decide +kernel
theorem dL_law_219 : decode cL_law 219 = .ok (.aload_n 0, 1) := by decide +kernel
theorem dL_law_220 : decode cL_law 220 = .ok (.iload_n 3, 1) := by decide +kernel
theorem dL_law_221 : decode cL_law 221 = .ok (.iconst 1, 1) := by decide +kernel
theorem dL_law_222 : decode cL_law 222 = .ok (.iadd, 1) := by decide +kernel
theorem dL_law_223 : decode cL_law 223 = .ok (.iaload, 1) := by decide +kernel
theorem dL_law_224 : decode cL_law 224 = .ok (.invokevirtual 30, 3) := by decide +kernel
theorem dL_law_227 : decode cL_law 227 = .ok (.if_icmp .eq 683, 3) := by decide +kernel
theorem dL_law_230 : decode cL_law 230 = .ok (.iconst 0, 1) := by decide +kernel
theorem dL_law_231 : decode cL_law 231 = .ok (.ireturn, 1) := by decide +kernel
theorem dL_law_232 : decode cL_law 232 = .ok (.aload_n 1, 1) := by decide +kernel
theorem dL_law_233 : decode cL_law 233 = .ok (.aload_n 0, 1) := by decide +kernel
theorem dL_law_234 : decode cL_law 234 = .ok (.iload_n 3, 1) := by decide +kernel
theorem dL_law_235 : decode cL_law 235 = .ok (.iconst 1, 1) := by decide +kernel
theorem dL_law_236 : decode cL_law 236 = .ok (.iadd, 1) := by decide +kernel
theorem dL_law_237 : decode cL_law 237 = .ok (.iaload, 1) := by decide +kernel
theorem dL_law_238 : decode cL_law 238 = .ok (.aload_n 0, 1) := by decide +kernel
theorem dL_law_239 : decode cL_law 239 = .ok (.iload_n 3, 1) := by decide +kernel
theorem dL_law_240 : decode cL_law 240 = .ok (.iconst 2, 1) := by decide +kernel
theorem dL_law_241 : decode cL_law 241 = .ok (.iadd, 1) := by decide +kernel
theorem dL_law_242 : decode cL_law 242 = .ok (.iaload, 1) := by decide +kernel
theorem dL_law_243 : decode cL_law 243 = .ok (.invokevirtual 31, 3) := by decide +kernel
theorem dL_law_246 : decode cL_law 246 = .ok (.aload_n 2, 1) := by decide +kernel
theorem dL_law_247 : decode cL_law 247 = .ok (.aload_n 0, 1) := by decide +kernel
theorem dL_law_248 : decode cL_law 248 = .ok (.iload_n 3, 1) := by decide +kernel
theorem dL_law_249 : decode cL_law 249 = .ok (.iconst 1, 1) := by decide +kernel
theorem dL_law_250 : decode cL_law 250 = .ok (.iadd, 1) := by decide +kernel
theorem dL_law_251 : decode cL_law 251 = .ok (.iaload, 1) := by decide +kernel
theorem dL_law_252 : decode cL_law 252 = .ok (.aload_n 0, 1) := by decide +kernel
theorem dL_law_253 : decode cL_law 253 = .ok (.iload_n 3, 1) := by decide +kernel
theorem dL_law_254 : decode cL_law 254 = .ok (.iconst 2, 1) := by decide +kernel
theorem dL_law_255 : decode cL_law 255 = .ok (.iadd, 1) := by decide +kernel
theorem dL_law_256 : decode cL_law 256 = .ok (.iaload, 1) := by decide +kernel
theorem dL_law_257 : decode cL_law 257 = .ok (.invokevirtual 35, 3) := by decide +kernel
theorem dL_law_260 : decode cL_law 260 = .ok (.if_icmp .eq 650, 3) := by decide +kernel
theorem dL_law_263 : decode cL_law 263 = .ok (.iconst 0, 1) := by decide +kernel
theorem dL_law_264 : decode cL_law 264 = .ok (.ireturn, 1) := by decide +kernel
theorem dL_law_265 : decode cL_law 265 = .ok (.aload_n 1, 1) := by decide +kernel
theorem dL_law_266 : decode cL_law 266 = .ok (.aload_n 0, 1) := by decide +kernel
theorem dL_law_267 : decode cL_law 267 = .ok (.iload_n 3, 1) := by decide +kernel
theorem dL_law_268 : decode cL_law 268 = .ok (.iconst 1, 1) := by decide +kernel
theorem dL_law_269 : decode cL_law 269 = .ok (.iadd, 1) := by decide +kernel
theorem dL_law_270 : decode cL_law 270 = .ok (.iaload, 1) := by decide +kernel
theorem dL_law_271 : decode cL_law 271 = .ok (.invokevirtual 36, 3) := by decide +kernel
theorem dL_law_274 : decode cL_law 274 = .ok (.aload_n 2, 1) := by decide +kernel
theorem dL_law_275 : decode cL_law 275 = .ok (.aload_n 0, 1) := by decide +kernel
theorem dL_law_276 : decode cL_law 276 = .ok (.iload_n 3, 1) := by decide +kernel
theorem dL_law_277 : decode cL_law 277 = .ok (.iconst 1, 1) := by decide +kernel
theorem dL_law_278 : decode cL_law 278 = .ok (.iadd, 1) := by decide +kernel
theorem dL_law_279 : decode cL_law 279 = .ok (.iaload, 1) := by decide +kernel
theorem dL_law_280 : decode cL_law 280 = .ok (.invokevirtual 39, 3) := by decide +kernel
theorem dL_law_283 : decode cL_law 283 = .ok (.if_icmp .eq 627, 3) := by decide +kernel
theorem dL_law_286 : decode cL_law 286 = .ok (.iconst 0, 1) := by decide +kernel
theorem dL_law_287 : decode cL_law 287 = .ok (.ireturn, 1) := by decide +kernel
theorem dL_law_288 : decode cL_law 288 = .ok (.aload_n 1, 1) := by decide +kernel
theorem dL_law_289 : decode cL_law 289 = .ok (.aload_n 0, 1) := by decide +kernel
theorem dL_law_290 : decode cL_law 290 = .ok (.iload_n 3, 1) := by decide +kernel
theorem dL_law_291 : decode cL_law 291 = .ok (.iconst 1, 1) := by decide +kernel
theorem dL_law_292 : decode cL_law 292 = .ok (.iadd, 1) := by decide +kernel
theorem dL_law_293 : decode cL_law 293 = .ok (.iaload, 1) := by decide +kernel
theorem dL_law_294 : decode cL_law 294 = .ok (.aload_n 0, 1) := by decide +kernel
theorem dL_law_295 : decode cL_law 295 = .ok (.iload_n 3, 1) := by decide +kernel
theorem dL_law_296 : decode cL_law 296 = .ok (.iconst 2, 1) := by decide +kernel
theorem dL_law_297 : decode cL_law 297 = .ok (.iadd, 1) := by decide +kernel
theorem dL_law_298 : decode cL_law 298 = .ok (.iaload, 1) := by decide +kernel
theorem dL_law_299 : decode cL_law 299 = .ok (.aload_n 0, 1) := by decide +kernel
theorem dL_law_300 : decode cL_law 300 = .ok (.iload_n 3, 1) := by decide +kernel
theorem dL_law_301 : decode cL_law 301 = .ok (.iconst 3, 1) := by decide +kernel
theorem dL_law_302 : decode cL_law 302 = .ok (.iadd, 1) := by decide +kernel
theorem dL_law_303 : decode cL_law 303 = .ok (.iaload, 1) := by decide +kernel
theorem dL_law_304 : decode cL_law 304 = .ok (.invokevirtual 40, 3) := by decide +kernel
theorem dL_law_307 : decode cL_law 307 = .ok (.aload_n 2, 1) := by decide +kernel
theorem dL_law_308 : decode cL_law 308 = .ok (.aload_n 0, 1) := by decide +kernel
theorem dL_law_309 : decode cL_law 309 = .ok (.iload_n 3, 1) := by decide +kernel
theorem dL_law_310 : decode cL_law 310 = .ok (.iconst 1, 1) := by decide +kernel
theorem dL_law_311 : decode cL_law 311 = .ok (.iadd, 1) := by decide +kernel
theorem dL_law_312 : decode cL_law 312 = .ok (.iaload, 1) := by decide +kernel
theorem dL_law_313 : decode cL_law 313 = .ok (.aload_n 0, 1) := by decide +kernel
theorem dL_law_314 : decode cL_law 314 = .ok (.iload_n 3, 1) := by decide +kernel
theorem dL_law_315 : decode cL_law 315 = .ok (.iconst 2, 1) := by decide +kernel
theorem dL_law_316 : decode cL_law 316 = .ok (.iadd, 1) := by decide +kernel
theorem dL_law_317 : decode cL_law 317 = .ok (.iaload, 1) := by decide +kernel
theorem dL_law_318 : decode cL_law 318 = .ok (.aload_n 0, 1) := by decide +kernel
theorem dL_law_319 : decode cL_law 319 = .ok (.iload_n 3, 1) := by decide +kernel
theorem dL_law_320 : decode cL_law 320 = .ok (.iconst 3, 1) := by decide +kernel
theorem dL_law_321 : decode cL_law 321 = .ok (.iadd, 1) := by decide +kernel
theorem dL_law_322 : decode cL_law 322 = .ok (.iaload, 1) := by decide +kernel
theorem dL_law_323 : decode cL_law 323 = .ok (.invokevirtual 44, 3) := by decide +kernel
theorem dL_law_326 : decode cL_law 326 = .ok (.if_icmp .eq 584, 3) := by decide +kernel
theorem dL_law_329 : decode cL_law 329 = .ok (.iconst 0, 1) := by decide +kernel
theorem dL_law_330 : decode cL_law 330 = .ok (.ireturn, 1) := by decide +kernel
theorem dL_law_331 : decode cL_law 331 = .ok (.aload_n 1, 1) := by decide +kernel
theorem dL_law_332 : decode cL_law 332 = .ok (.invokevirtual 45, 3) := by decide +kernel
theorem dL_law_335 : decode cL_law 335 = .ok (.aload_n 2, 1) := by decide +kernel
theorem dL_law_336 : decode cL_law 336 = .ok (.invokevirtual 48, 3) := by decide +kernel
theorem dL_law_339 : decode cL_law 339 = .ok (.if_icmp .eq 571, 3) := by decide +kernel
theorem dL_law_342 : decode cL_law 342 = .ok (.iconst 0, 1) := by decide +kernel
theorem dL_law_343 : decode cL_law 343 = .ok (.ireturn, 1) := by decide +kernel
theorem dL_law_344 : decode cL_law 344 = .ok (.aload_n 1, 1) := by decide +kernel
theorem dL_law_345 : decode cL_law 345 = .ok (.aload_n 0, 1) := by decide +kernel
theorem dL_law_346 : decode cL_law 346 = .ok (.iload_n 3, 1) := by decide +kernel
theorem dL_law_347 : decode cL_law 347 = .ok (.iconst 1, 1) := by decide +kernel
theorem dL_law_348 : decode cL_law 348 = .ok (.iadd, 1) := by decide +kernel
theorem dL_law_349 : decode cL_law 349 = .ok (.iaload, 1) := by decide +kernel
theorem dL_law_350 : decode cL_law 350 = .ok (.invokevirtual 49, 3) := by decide +kernel
theorem dL_law_353 : decode cL_law 353 = .ok (.aload_n 2, 1) := by decide +kernel
theorem dL_law_354 : decode cL_law 354 = .ok (.aload_n 0, 1) := by decide +kernel
theorem dL_law_355 : decode cL_law 355 = .ok (.iload_n 3, 1) := by decide +kernel
theorem dL_law_356 : decode cL_law 356 = .ok (.iconst 1, 1) := by decide +kernel
theorem dL_law_357 : decode cL_law 357 = .ok (.iadd, 1) := by decide +kernel
theorem dL_law_358 : decode cL_law 358 = .ok (.iaload, 1) := by decide +kernel
theorem dL_law_359 : decode cL_law 359 = .ok (.invokevirtual 52, 3) := by decide +kernel
theorem dL_law_362 : decode cL_law 362 = .ok (.if_icmp .eq 548, 3) := by decide +kernel
theorem dL_law_365 : decode cL_law 365 = .ok (.iconst 0, 1) := by decide +kernel
theorem dL_law_366 : decode cL_law 366 = .ok (.ireturn, 1) := by decide +kernel
theorem dL_law_367 : decode cL_law 367 = .ok (.aload_n 1, 1) := by decide +kernel
theorem dL_law_368 : decode cL_law 368 = .ok (.aload_n 0, 1) := by decide +kernel
theorem dL_law_369 : decode cL_law 369 = .ok (.iload_n 3, 1) := by decide +kernel
theorem dL_law_370 : decode cL_law 370 = .ok (.iconst 1, 1) := by decide +kernel
theorem dL_law_371 : decode cL_law 371 = .ok (.iadd, 1) := by decide +kernel
theorem dL_law_372 : decode cL_law 372 = .ok (.iaload, 1) := by decide +kernel
theorem dL_law_373 : decode cL_law 373 = .ok (.aload_n 0, 1) := by decide +kernel
theorem dL_law_374 : decode cL_law 374 = .ok (.iload_n 3, 1) := by decide +kernel
theorem dL_law_375 : decode cL_law 375 = .ok (.iconst 2, 1) := by decide +kernel
theorem dL_law_376 : decode cL_law 376 = .ok (.iadd, 1) := by decide +kernel
theorem dL_law_377 : decode cL_law 377 = .ok (.iaload, 1) := by decide +kernel
theorem dL_law_378 : decode cL_law 378 = .ok (.invokevirtual 53, 3) := by decide +kernel
theorem dL_law_381 : decode cL_law 381 = .ok (.aload_n 2, 1) := by decide +kernel
theorem dL_law_382 : decode cL_law 382 = .ok (.aload_n 0, 1) := by decide +kernel
theorem dL_law_383 : decode cL_law 383 = .ok (.iload_n 3, 1) := by decide +kernel
theorem dL_law_384 : decode cL_law 384 = .ok (.iconst 1, 1) := by decide +kernel
theorem dL_law_385 : decode cL_law 385 = .ok (.iadd, 1) := by decide +kernel
theorem dL_law_386 : decode cL_law 386 = .ok (.iaload, 1) := by decide +kernel
theorem dL_law_387 : decode cL_law 387 = .ok (.aload_n 0, 1) := by decide +kernel
theorem dL_law_388 : decode cL_law 388 = .ok (.iload_n 3, 1) := by decide +kernel
theorem dL_law_389 : decode cL_law 389 = .ok (.iconst 2, 1) := by decide +kernel
theorem dL_law_390 : decode cL_law 390 = .ok (.iadd, 1) := by decide +kernel
theorem dL_law_391 : decode cL_law 391 = .ok (.iaload, 1) := by decide +kernel
theorem dL_law_392 : decode cL_law 392 = .ok (.invokevirtual 56, 3) := by decide +kernel
theorem dL_law_395 : decode cL_law 395 = .ok (.if_icmp .eq 515, 3) := by decide +kernel
theorem dL_law_398 : decode cL_law 398 = .ok (.iconst 0, 1) := by decide +kernel
theorem dL_law_399 : decode cL_law 399 = .ok (.ireturn, 1) := by decide +kernel
theorem dL_law_400 : decode cL_law 400 = .ok (.aload_n 1, 1) := by decide +kernel
theorem dL_law_401 : decode cL_law 401 = .ok (.aload_n 0, 1) := by decide +kernel
theorem dL_law_402 : decode cL_law 402 = .ok (.iload_n 3, 1) := by decide +kernel
theorem dL_law_403 : decode cL_law 403 = .ok (.iconst 1, 1) := by decide +kernel
theorem dL_law_404 : decode cL_law 404 = .ok (.iadd, 1) := by decide +kernel
theorem dL_law_405 : decode cL_law 405 = .ok (.iaload, 1) := by decide +kernel
theorem dL_law_406 : decode cL_law 406 = .ok (.aload_n 0, 1) := by decide +kernel
theorem dL_law_407 : decode cL_law 407 = .ok (.iload_n 3, 1) := by decide +kernel
theorem dL_law_408 : decode cL_law 408 = .ok (.iconst 2, 1) := by decide +kernel
theorem dL_law_409 : decode cL_law 409 = .ok (.iadd, 1) := by decide +kernel
theorem dL_law_410 : decode cL_law 410 = .ok (.iaload, 1) := by decide +kernel
theorem dL_law_411 : decode cL_law 411 = .ok (.invokevirtual 57, 3) := by decide +kernel
theorem dL_law_414 : decode cL_law 414 = .ok (.aload_n 2, 1) := by decide +kernel
theorem dL_law_415 : decode cL_law 415 = .ok (.aload_n 0, 1) := by decide +kernel
theorem dL_law_416 : decode cL_law 416 = .ok (.iload_n 3, 1) := by decide +kernel
theorem dL_law_417 : decode cL_law 417 = .ok (.iconst 1, 1) := by decide +kernel
theorem dL_law_418 : decode cL_law 418 = .ok (.iadd, 1) := by decide +kernel
theorem dL_law_419 : decode cL_law 419 = .ok (.iaload, 1) := by decide +kernel
theorem dL_law_420 : decode cL_law 420 = .ok (.aload_n 0, 1) := by decide +kernel
theorem dL_law_421 : decode cL_law 421 = .ok (.iload_n 3, 1) := by decide +kernel
theorem dL_law_422 : decode cL_law 422 = .ok (.iconst 2, 1) := by decide +kernel
theorem dL_law_423 : decode cL_law 423 = .ok (.iadd, 1) := by decide +kernel
theorem dL_law_424 : decode cL_law 424 = .ok (.iaload, 1) := by decide +kernel
theorem dL_law_425 : decode cL_law 425 = .ok (.invokevirtual 60, 3) := by decide +kernel
theorem dL_law_428 : decode cL_law 428 = .ok (.if_icmp .eq 482, 3) := by decide +kernel
theorem dL_law_431 : decode cL_law 431 = .ok (.iconst 0, 1) := by decide +kernel
theorem dL_law_432 : decode cL_law 432 = .ok (.ireturn, 1) := by decide +kernel
theorem dL_law_433 : decode cL_law 433 = .ok (.aload_n 1, 1) := by decide +kernel
theorem dL_law_434 : decode cL_law 434 = .ok (.aload_n 0, 1) := by decide +kernel
theorem dL_law_435 : decode cL_law 435 = .ok (.iload_n 3, 1) := by decide +kernel
theorem dL_law_436 : decode cL_law 436 = .ok (.iconst 1, 1) := by decide +kernel
theorem dL_law_437 : decode cL_law 437 = .ok (.iadd, 1) := by decide +kernel
theorem dL_law_438 : decode cL_law 438 = .ok (.iaload, 1) := by decide +kernel
theorem dL_law_439 : decode cL_law 439 = .ok (.invokevirtual 61, 3) := by decide +kernel
theorem dL_law_442 : decode cL_law 442 = .ok (.aload_n 2, 1) := by decide +kernel
theorem dL_law_443 : decode cL_law 443 = .ok (.aload_n 0, 1) := by decide +kernel
theorem dL_law_444 : decode cL_law 444 = .ok (.iload_n 3, 1) := by decide +kernel
theorem dL_law_445 : decode cL_law 445 = .ok (.iconst 1, 1) := by decide +kernel
theorem dL_law_446 : decode cL_law 446 = .ok (.iadd, 1) := by decide +kernel
theorem dL_law_447 : decode cL_law 447 = .ok (.iaload, 1) := by decide +kernel
theorem dL_law_448 : decode cL_law 448 = .ok (.invokevirtual 64, 3) := by decide +kernel
theorem dL_law_451 : decode cL_law 451 = .ok (.if_icmp .eq 459, 3) := by decide +kernel
theorem dL_law_454 : decode cL_law 454 = .ok (.iconst 0, 1) := by decide +kernel
theorem dL_law_455 : decode cL_law 455 = .ok (.ireturn, 1) := by decide +kernel
theorem dL_law_456 : decode cL_law 456 = .ok (.aload_n 1, 1) := by decide +kernel
theorem dL_law_457 : decode cL_law 457 = .ok (.aload_n 0, 1) := by decide +kernel
theorem dL_law_458 : decode cL_law 458 = .ok (.iload_n 3, 1) := by decide +kernel
theorem dL_law_459 : decode cL_law 459 = .ok (.iconst 1, 1) := by decide +kernel
theorem dL_law_460 : decode cL_law 460 = .ok (.iadd, 1) := by decide +kernel
theorem dL_law_461 : decode cL_law 461 = .ok (.iaload, 1) := by decide +kernel
theorem dL_law_462 : decode cL_law 462 = .ok (.invokevirtual 65, 3) := by decide +kernel
theorem dL_law_465 : decode cL_law 465 = .ok (.aload_n 2, 1) := by decide +kernel
theorem dL_law_466 : decode cL_law 466 = .ok (.aload_n 0, 1) := by decide +kernel
theorem dL_law_467 : decode cL_law 467 = .ok (.iload_n 3, 1) := by decide +kernel
theorem dL_law_468 : decode cL_law 468 = .ok (.iconst 1, 1) := by decide +kernel
theorem dL_law_469 : decode cL_law 469 = .ok (.iadd, 1) := by decide +kernel
theorem dL_law_470 : decode cL_law 470 = .ok (.iaload, 1) := by decide +kernel
theorem dL_law_471 : decode cL_law 471 = .ok (.invokevirtual 68, 3) := by decide +kernel
theorem dL_law_474 : decode cL_law 474 = .ok (.if_icmp .eq 436, 3) := by decide +kernel
theorem dL_law_477 : decode cL_law 477 = .ok (.iconst 0, 1) := by decide +kernel
theorem dL_law_478 : decode cL_law 478 = .ok (.ireturn, 1) := by decide +kernel
theorem dL_law_479 : decode cL_law 479 = .ok (.aload_n 1, 1) := by decide +kernel
theorem dL_law_480 : decode cL_law 480 = .ok (.invokevirtual 69, 3) := by decide +kernel
theorem dL_law_483 : decode cL_law 483 = .ok (.aload_n 2, 1) := by decide +kernel
theorem dL_law_484 : decode cL_law 484 = .ok (.invokevirtual 72, 3) := by decide +kernel
theorem dL_law_487 : decode cL_law 487 = .ok (.if_icmp .eq 423, 3) := by decide +kernel
theorem dL_law_490 : decode cL_law 490 = .ok (.iconst 0, 1) := by decide +kernel
theorem dL_law_491 : decode cL_law 491 = .ok (.ireturn, 1) := by decide +kernel
theorem dL_law_492 : decode cL_law 492 = .ok (.aload_n 1, 1) := by decide +kernel
theorem dL_law_493 : decode cL_law 493 = .ok (.aload_n 0, 1) := by decide +kernel
theorem dL_law_494 : decode cL_law 494 = .ok (.iload_n 3, 1) := by decide +kernel
theorem dL_law_495 : decode cL_law 495 = .ok (.iconst 1, 1) := by decide +kernel
theorem dL_law_496 : decode cL_law 496 = .ok (.iadd, 1) := by decide +kernel
theorem dL_law_497 : decode cL_law 497 = .ok (.iaload, 1) := by decide +kernel
theorem dL_law_498 : decode cL_law 498 = .ok (.aload_n 0, 1) := by decide +kernel
theorem dL_law_499 : decode cL_law 499 = .ok (.iload_n 3, 1) := by decide +kernel
theorem dL_law_500 : decode cL_law 500 = .ok (.iconst 2, 1) := by decide +kernel
theorem dL_law_501 : decode cL_law 501 = .ok (.iadd, 1) := by decide +kernel
theorem dL_law_502 : decode cL_law 502 = .ok (.iaload, 1) := by decide +kernel
theorem dL_law_503 : decode cL_law 503 = .ok (.aload_n 0, 1) := by decide +kernel
theorem dL_law_504 : decode cL_law 504 = .ok (.iload_n 3, 1) := by decide +kernel
theorem dL_law_505 : decode cL_law 505 = .ok (.iconst 3, 1) := by decide +kernel
theorem dL_law_506 : decode cL_law 506 = .ok (.iadd, 1) := by decide +kernel
theorem dL_law_507 : decode cL_law 507 = .ok (.iaload, 1) := by decide +kernel
theorem dL_law_508 : decode cL_law 508 = .ok (.aload_n 0, 1) := by decide +kernel
theorem dL_law_509 : decode cL_law 509 = .ok (.iload_n 3, 1) := by decide +kernel
theorem dL_law_510 : decode cL_law 510 = .ok (.iconst 4, 1) := by decide +kernel
theorem dL_law_511 : decode cL_law 511 = .ok (.iadd, 1) := by decide +kernel
theorem dL_law_512 : decode cL_law 512 = .ok (.iaload, 1) := by decide +kernel
theorem dL_law_513 : decode cL_law 513 = .ok (.invokevirtual 73, 3) := by decide +kernel
theorem dL_law_516 : decode cL_law 516 = .ok (.aload_n 2, 1) := by decide +kernel
theorem dL_law_517 : decode cL_law 517 = .ok (.aload_n 0, 1) := by decide +kernel
theorem dL_law_518 : decode cL_law 518 = .ok (.iload_n 3, 1) := by decide +kernel
theorem dL_law_519 : decode cL_law 519 = .ok (.iconst 1, 1) := by decide +kernel
theorem dL_law_520 : decode cL_law 520 = .ok (.iadd, 1) := by decide +kernel
theorem dL_law_521 : decode cL_law 521 = .ok (.iaload, 1) := by decide +kernel
theorem dL_law_522 : decode cL_law 522 = .ok (.aload_n 0, 1) := by decide +kernel
theorem dL_law_523 : decode cL_law 523 = .ok (.iload_n 3, 1) := by decide +kernel
theorem dL_law_524 : decode cL_law 524 = .ok (.iconst 2, 1) := by decide +kernel
theorem dL_law_525 : decode cL_law 525 = .ok (.iadd, 1) := by decide +kernel
theorem dL_law_526 : decode cL_law 526 = .ok (.iaload, 1) := by decide +kernel
theorem dL_law_527 : decode cL_law 527 = .ok (.aload_n 0, 1) := by decide +kernel
theorem dL_law_528 : decode cL_law 528 = .ok (.iload_n 3, 1) := by decide +kernel
theorem dL_law_529 : decode cL_law 529 = .ok (.iconst 3, 1) := by decide +kernel
theorem dL_law_530 : decode cL_law 530 = .ok (.iadd, 1) := by decide +kernel
theorem dL_law_531 : decode cL_law 531 = .ok (.iaload, 1) := by decide +kernel
theorem dL_law_532 : decode cL_law 532 = .ok (.aload_n 0, 1) := by decide +kernel
theorem dL_law_533 : decode cL_law 533 = .ok (.iload_n 3, 1) := by decide +kernel
theorem dL_law_534 : decode cL_law 534 = .ok (.iconst 4, 1) := by decide +kernel
theorem dL_law_535 : decode cL_law 535 = .ok (.iadd, 1) := by decide +kernel
theorem dL_law_536 : decode cL_law 536 = .ok (.iaload, 1) := by decide +kernel
theorem dL_law_537 : decode cL_law 537 = .ok (.invokevirtual 77, 3) := by decide +kernel
theorem dL_law_540 : decode cL_law 540 = .ok (.if_icmp .eq 370, 3) := by decide +kernel
theorem dL_law_543 : decode cL_law 543 = .ok (.iconst 0, 1) := by decide +kernel
theorem dL_law_544 : decode cL_law 544 = .ok (.ireturn, 1) := by decide +kernel
theorem dL_law_545 : decode cL_law 545 = .ok (.aload_n 1, 1) := by decide +kernel
theorem dL_law_546 : decode cL_law 546 = .ok (.aload_n 0, 1) := by decide +kernel
theorem dL_law_547 : decode cL_law 547 = .ok (.iload_n 3, 1) := by decide +kernel
theorem dL_law_548 : decode cL_law 548 = .ok (.iconst 1, 1) := by decide +kernel
theorem dL_law_549 : decode cL_law 549 = .ok (.iadd, 1) := by decide +kernel
theorem dL_law_550 : decode cL_law 550 = .ok (.iaload, 1) := by decide +kernel
theorem dL_law_551 : decode cL_law 551 = .ok (.aload_n 0, 1) := by decide +kernel
theorem dL_law_552 : decode cL_law 552 = .ok (.iload_n 3, 1) := by decide +kernel
theorem dL_law_553 : decode cL_law 553 = .ok (.iconst 2, 1) := by decide +kernel
theorem dL_law_554 : decode cL_law 554 = .ok (.iadd, 1) := by decide +kernel
theorem dL_law_555 : decode cL_law 555 = .ok (.iaload, 1) := by decide +kernel
theorem dL_law_556 : decode cL_law 556 = .ok (.invokevirtual 78, 3) := by decide +kernel
theorem dL_law_559 : decode cL_law 559 = .ok (.aload_n 2, 1) := by decide +kernel
theorem dL_law_560 : decode cL_law 560 = .ok (.aload_n 0, 1) := by decide +kernel
theorem dL_law_561 : decode cL_law 561 = .ok (.iload_n 3, 1) := by decide +kernel
theorem dL_law_562 : decode cL_law 562 = .ok (.iconst 1, 1) := by decide +kernel
theorem dL_law_563 : decode cL_law 563 = .ok (.iadd, 1) := by decide +kernel
theorem dL_law_564 : decode cL_law 564 = .ok (.iaload, 1) := by decide +kernel
theorem dL_law_565 : decode cL_law 565 = .ok (.aload_n 0, 1) := by decide +kernel
theorem dL_law_566 : decode cL_law 566 = .ok (.iload_n 3, 1) := by decide +kernel
theorem dL_law_567 : decode cL_law 567 = .ok (.iconst 2, 1) := by decide +kernel
theorem dL_law_568 : decode cL_law 568 = .ok (.iadd, 1) := by decide +kernel
theorem dL_law_569 : decode cL_law 569 = .ok (.iaload, 1) := by decide +kernel
theorem dL_law_570 : decode cL_law 570 = .ok (.invokevirtual 81, 3) := by decide +kernel
theorem dL_law_573 : decode cL_law 573 = .ok (.if_icmp .eq 337, 3) := by decide +kernel
theorem dL_law_576 : decode cL_law 576 = .ok (.iconst 0, 1) := by decide +kernel
theorem dL_law_577 : decode cL_law 577 = .ok (.ireturn, 1) := by decide +kernel
theorem dL_law_578 : decode cL_law 578 = .ok (.aload_n 1, 1) := by decide +kernel
theorem dL_law_579 : decode cL_law 579 = .ok (.aload_n 0, 1) := by decide +kernel
theorem dL_law_580 : decode cL_law 580 = .ok (.iload_n 3, 1) := by decide +kernel
theorem dL_law_581 : decode cL_law 581 = .ok (.iconst 1, 1) := by decide +kernel
theorem dL_law_582 : decode cL_law 582 = .ok (.iadd, 1) := by decide +kernel
theorem dL_law_583 : decode cL_law 583 = .ok (.iaload, 1) := by decide +kernel
theorem dL_law_584 : decode cL_law 584 = .ok (.aload_n 0, 1) := by decide +kernel
theorem dL_law_585 : decode cL_law 585 = .ok (.iload_n 3, 1) := by decide +kernel
theorem dL_law_586 : decode cL_law 586 = .ok (.iconst 2, 1) := by decide +kernel
theorem dL_law_587 : decode cL_law 587 = .ok (.iadd, 1) := by decide +kernel
theorem dL_law_588 : decode cL_law 588 = .ok (.iaload, 1) := by decide +kernel
theorem dL_law_589 : decode cL_law 589 = .ok (.invokevirtual 82, 3) := by decide +kernel
theorem dL_law_592 : decode cL_law 592 = .ok (.aload_n 2, 1) := by decide +kernel
theorem dL_law_593 : decode cL_law 593 = .ok (.aload_n 0, 1) := by decide +kernel
theorem dL_law_594 : decode cL_law 594 = .ok (.iload_n 3, 1) := by decide +kernel
theorem dL_law_595 : decode cL_law 595 = .ok (.iconst 1, 1) := by decide +kernel
theorem dL_law_596 : decode cL_law 596 = .ok (.iadd, 1) := by decide +kernel
theorem dL_law_597 : decode cL_law 597 = .ok (.iaload, 1) := by decide +kernel
theorem dL_law_598 : decode cL_law 598 = .ok (.aload_n 0, 1) := by decide +kernel
theorem dL_law_599 : decode cL_law 599 = .ok (.iload_n 3, 1) := by decide +kernel
theorem dL_law_600 : decode cL_law 600 = .ok (.iconst 2, 1) := by decide +kernel
theorem dL_law_601 : decode cL_law 601 = .ok (.iadd, 1) := by decide +kernel
theorem dL_law_602 : decode cL_law 602 = .ok (.iaload, 1) := by decide +kernel
theorem dL_law_603 : decode cL_law 603 = .ok (.invokevirtual 85, 3) := by decide +kernel
theorem dL_law_606 : decode cL_law 606 = .ok (.if_icmp .eq 304, 3) := by decide +kernel
theorem dL_law_609 : decode cL_law 609 = .ok (.iconst 0, 1) := by decide +kernel
theorem dL_law_610 : decode cL_law 610 = .ok (.ireturn, 1) := by decide +kernel
theorem dL_law_611 : decode cL_law 611 = .ok (.aload_n 1, 1) := by decide +kernel
theorem dL_law_612 : decode cL_law 612 = .ok (.aload_n 0, 1) := by decide +kernel
theorem dL_law_613 : decode cL_law 613 = .ok (.iload_n 3, 1) := by decide +kernel
theorem dL_law_614 : decode cL_law 614 = .ok (.iconst 1, 1) := by decide +kernel
theorem dL_law_615 : decode cL_law 615 = .ok (.iadd, 1) := by decide +kernel
theorem dL_law_616 : decode cL_law 616 = .ok (.iaload, 1) := by decide +kernel
theorem dL_law_617 : decode cL_law 617 = .ok (.invokevirtual 86, 3) := by decide +kernel
theorem dL_law_620 : decode cL_law 620 = .ok (.aload_n 2, 1) := by decide +kernel
theorem dL_law_621 : decode cL_law 621 = .ok (.aload_n 0, 1) := by decide +kernel
theorem dL_law_622 : decode cL_law 622 = .ok (.iload_n 3, 1) := by decide +kernel
theorem dL_law_623 : decode cL_law 623 = .ok (.iconst 1, 1) := by decide +kernel
theorem dL_law_624 : decode cL_law 624 = .ok (.iadd, 1) := by decide +kernel
theorem dL_law_625 : decode cL_law 625 = .ok (.iaload, 1) := by decide +kernel
theorem dL_law_626 : decode cL_law 626 = .ok (.invokevirtual 89, 3) := by decide +kernel
theorem dL_law_629 : decode cL_law 629 = .ok (.if_icmp .eq 281, 3) := by decide +kernel
theorem dL_law_632 : decode cL_law 632 = .ok (.iconst 0, 1) := by decide +kernel
theorem dL_law_633 : decode cL_law 633 = .ok (.ireturn, 1) := by decide +kernel
theorem dL_law_634 : decode cL_law 634 = .ok (.aload_n 1, 1) := by decide +kernel
theorem dL_law_635 : decode cL_law 635 = .ok (.aload_n 0, 1) := by decide +kernel
theorem dL_law_636 : decode cL_law 636 = .ok (.iload_n 3, 1) := by decide +kernel
theorem dL_law_637 : decode cL_law 637 = .ok (.iconst 1, 1) := by decide +kernel
theorem dL_law_638 : decode cL_law 638 = .ok (.iadd, 1) := by decide +kernel
theorem dL_law_639 : decode cL_law 639 = .ok (.iaload, 1) := by decide +kernel
theorem dL_law_640 : decode cL_law 640 = .ok (.aload_n 0, 1) := by decide +kernel
theorem dL_law_641 : decode cL_law 641 = .ok (.iload_n 3, 1) := by decide +kernel
theorem dL_law_642 : decode cL_law 642 = .ok (.iconst 2, 1) := by decide +kernel
theorem dL_law_643 : decode cL_law 643 = .ok (.iadd, 1) := by decide +kernel
theorem dL_law_644 : decode cL_law 644 = .ok (.iaload, 1) := by decide +kernel
theorem dL_law_645 : decode cL_law 645 = .ok (.aload_n 0, 1) := by decide +kernel
theorem dL_law_646 : decode cL_law 646 = .ok (.iload_n 3, 1) := by decide +kernel
theorem dL_law_647 : decode cL_law 647 = .ok (.iconst 3, 1) := by decide +kernel
theorem dL_law_648 : decode cL_law 648 = .ok (.iadd, 1) := by decide +kernel
theorem dL_law_649 : decode cL_law 649 = .ok (.iaload, 1) := by decide +kernel
theorem dL_law_650 : decode cL_law 650 = .ok (.aload_n 0, 1) := by decide +kernel
theorem dL_law_651 : decode cL_law 651 = .ok (.iload_n 3, 1) := by decide +kernel
theorem dL_law_652 : decode cL_law 652 = .ok (.iconst 4, 1) := by decide +kernel
theorem dL_law_653 : decode cL_law 653 = .ok (.iadd, 1) := by decide +kernel
theorem dL_law_654 : decode cL_law 654 = .ok (.iaload, 1) := by decide +kernel
theorem dL_law_655 : decode cL_law 655 = .ok (.invokevirtual 90, 3) := by decide +kernel
theorem dL_law_658 : decode cL_law 658 = .ok (.aload_n 2, 1) := by decide +kernel
theorem dL_law_659 : decode cL_law 659 = .ok (.aload_n 0, 1) := by decide +kernel
theorem dL_law_660 : decode cL_law 660 = .ok (.iload_n 3, 1) := by decide +kernel
theorem dL_law_661 : decode cL_law 661 = .ok (.iconst 1, 1) := by decide +kernel
theorem dL_law_662 : decode cL_law 662 = .ok (.iadd, 1) := by decide +kernel
theorem dL_law_663 : decode cL_law 663 = .ok (.iaload, 1) := by decide +kernel
theorem dL_law_664 : decode cL_law 664 = .ok (.aload_n 0, 1) := by decide +kernel
theorem dL_law_665 : decode cL_law 665 = .ok (.iload_n 3, 1) := by decide +kernel
theorem dL_law_666 : decode cL_law 666 = .ok (.iconst 2, 1) := by decide +kernel
theorem dL_law_667 : decode cL_law 667 = .ok (.iadd, 1) := by decide +kernel
theorem dL_law_668 : decode cL_law 668 = .ok (.iaload, 1) := by decide +kernel
theorem dL_law_669 : decode cL_law 669 = .ok (.aload_n 0, 1) := by decide +kernel
theorem dL_law_670 : decode cL_law 670 = .ok (.iload_n 3, 1) := by decide +kernel
theorem dL_law_671 : decode cL_law 671 = .ok (.iconst 3, 1) := by decide +kernel
theorem dL_law_672 : decode cL_law 672 = .ok (.iadd, 1) := by decide +kernel
theorem dL_law_673 : decode cL_law 673 = .ok (.iaload, 1) := by decide +kernel
theorem dL_law_674 : decode cL_law 674 = .ok (.aload_n 0, 1) := by decide +kernel
theorem dL_law_675 : decode cL_law 675 = .ok (.iload_n 3, 1) := by decide +kernel
theorem dL_law_676 : decode cL_law 676 = .ok (.iconst 4, 1) := by decide +kernel
theorem dL_law_677 : decode cL_law 677 = .ok (.iadd, 1) := by decide +kernel
theorem dL_law_678 : decode cL_law 678 = .ok (.iaload, 1) := by decide +kernel
theorem dL_law_679 : decode cL_law 679 = .ok (.invokevirtual 93, 3) := by decide +kernel
theorem dL_law_682 : decode cL_law 682 = .ok (.if_icmp .eq 228, 3) := by decide +kernel
theorem dL_law_685 : decode cL_law 685 = .ok (.iconst 0, 1) := by decide +kernel
theorem dL_law_686 : decode cL_law 686 = .ok (.ireturn, 1) := by decide +kernel
theorem dL_law_687 : decode cL_law 687 = .ok (.aload_n 1, 1) := by decide +kernel
theorem dL_law_688 : decode cL_law 688 = .ok (.aload_n 0, 1) := by decide +kernel
theorem dL_law_689 : decode cL_law 689 = .ok (.iload_n 3, 1) := by decide +kernel
theorem dL_law_690 : decode cL_law 690 = .ok (.iconst 1, 1) := by decide +kernel
theorem dL_law_691 : decode cL_law 691 = .ok (.iadd, 1) := by decide +kernel
theorem dL_law_692 : decode cL_law 692 = .ok (.iaload, 1) := by decide +kernel
theorem dL_law_693 : decode cL_law 693 = .ok (.invokevirtual 94, 3) := by decide +kernel
theorem dL_law_696 : decode cL_law 696 = .ok (.aload_n 2, 1) := by decide +kernel
theorem dL_law_697 : decode cL_law 697 = .ok (.aload_n 0, 1) := by decide +kernel
theorem dL_law_698 : decode cL_law 698 = .ok (.iload_n 3, 1) := by decide +kernel
theorem dL_law_699 : decode cL_law 699 = .ok (.iconst 1, 1) := by decide +kernel
theorem dL_law_700 : decode cL_law 700 = .ok (.iadd, 1) := by decide +kernel
theorem dL_law_701 : decode cL_law 701 = .ok (.iaload, 1) := by decide +kernel
theorem dL_law_702 : decode cL_law 702 = .ok (.invokevirtual 97, 3) := by decide +kernel
theorem dL_law_705 : decode cL_law 705 = .ok (.if_icmp .eq 205, 3) := by decide +kernel
theorem dL_law_708 : decode cL_law 708 = .ok (.iconst 0, 1) := by decide +kernel
theorem dL_law_709 : decode cL_law 709 = .ok (.ireturn, 1) := by decide +kernel
theorem dL_law_710 : decode cL_law 710 = .ok (.aload_n 1, 1) := by decide +kernel
theorem dL_law_711 : decode cL_law 711 = .ok (.aload_n 0, 1) := by decide +kernel
theorem dL_law_712 : decode cL_law 712 = .ok (.iload_n 3, 1) := by decide +kernel
theorem dL_law_713 : decode cL_law 713 = .ok (.iconst 1, 1) := by decide +kernel
theorem dL_law_714 : decode cL_law 714 = .ok (.iadd, 1) := by decide +kernel
theorem dL_law_715 : decode cL_law 715 = .ok (.iaload, 1) := by decide +kernel
theorem dL_law_716 : decode cL_law 716 = .ok (.invokevirtual 98, 3) := by decide +kernel
theorem dL_law_719 : decode cL_law 719 = .ok (.aload_n 2, 1) := by decide +kernel
theorem dL_law_720 : decode cL_law 720 = .ok (.aload_n 0, 1) := by decide +kernel
theorem dL_law_721 : decode cL_law 721 = .ok (.iload_n 3, 1) := by decide +kernel
theorem dL_law_722 : decode cL_law 722 = .ok (.iconst 1, 1) := by decide +kernel
theorem dL_law_723 : decode cL_law 723 = .ok (.iadd, 1) := by decide +kernel
theorem dL_law_724 : decode cL_law 724 = .ok (.iaload, 1) := by decide +kernel
theorem dL_law_725 : decode cL_law 725 = .ok (.invokevirtual 101, 3) := by decide +kernel
theorem dL_law_728 : decode cL_law 728 = .ok (.if_icmp .eq 182, 3) := by decide +kernel
theorem dL_law_731 : decode cL_law 731 = .ok (.iconst 0, 1) := by decide +kernel
theorem dL_law_732 : decode cL_law 732 = .ok (.ireturn, 1) := by decide +kernel
theorem dL_law_733 : decode cL_law 733 = .ok (.aload_n 1, 1) := by decide +kernel
theorem dL_law_734 : decode cL_law 734 = .ok (.aload_n 0, 1) := by decide +kernel
theorem dL_law_735 : decode cL_law 735 = .ok (.iload_n 3, 1) := by decide +kernel
theorem dL_law_736 : decode cL_law 736 = .ok (.iconst 1, 1) := by decide +kernel
theorem dL_law_737 : decode cL_law 737 = .ok (.iadd, 1) := by decide +kernel
theorem dL_law_738 : decode cL_law 738 = .ok (.iaload, 1) := by decide +kernel
theorem dL_law_739 : decode cL_law 739 = .ok (.aload_n 0, 1) := by decide +kernel
theorem dL_law_740 : decode cL_law 740 = .ok (.iload_n 3, 1) := by decide +kernel
theorem dL_law_741 : decode cL_law 741 = .ok (.iconst 2, 1) := by decide +kernel
theorem dL_law_742 : decode cL_law 742 = .ok (.iadd, 1) := by decide +kernel
theorem dL_law_743 : decode cL_law 743 = .ok (.iaload, 1) := by decide +kernel
theorem dL_law_744 : decode cL_law 744 = .ok (.invokevirtual 102, 3) := by decide +kernel
theorem dL_law_747 : decode cL_law 747 = .ok (.aload_n 2, 1) := by decide +kernel
theorem dL_law_748 : decode cL_law 748 = .ok (.aload_n 0, 1) := by decide +kernel
theorem dL_law_749 : decode cL_law 749 = .ok (.iload_n 3, 1) := by decide +kernel
theorem dL_law_750 : decode cL_law 750 = .ok (.iconst 1, 1) := by decide +kernel
theorem dL_law_751 : decode cL_law 751 = .ok (.iadd, 1) := by decide +kernel
theorem dL_law_752 : decode cL_law 752 = .ok (.iaload, 1) := by decide +kernel
theorem dL_law_753 : decode cL_law 753 = .ok (.aload_n 0, 1) := by decide +kernel
theorem dL_law_754 : decode cL_law 754 = .ok (.iload_n 3, 1) := by decide +kernel
theorem dL_law_755 : decode cL_law 755 = .ok (.iconst 2, 1) := by decide +kernel
theorem dL_law_756 : decode cL_law 756 = .ok (.iadd, 1) := by decide +kernel
theorem dL_law_757 : decode cL_law 757 = .ok (.iaload, 1) := by decide +kernel
theorem dL_law_758 : decode cL_law 758 = .ok (.invokevirtual 105, 3) := by decide +kernel
theorem dL_law_761 : decode cL_law 761 = .ok (.if_icmp .eq 149, 3) := by decide +kernel
theorem dL_law_764 : decode cL_law 764 = .ok (.iconst 0, 1) := by decide +kernel
theorem dL_law_765 : decode cL_law 765 = .ok (.ireturn, 1) := by decide +kernel
theorem dL_law_766 : decode cL_law 766 = .ok (.aload_n 1, 1) := by decide +kernel
theorem dL_law_767 : decode cL_law 767 = .ok (.aload_n 0, 1) := by decide +kernel
theorem dL_law_768 : decode cL_law 768 = .ok (.iload_n 3, 1) := by decide +kernel
theorem dL_law_769 : decode cL_law 769 = .ok (.iconst 1, 1) := by decide +kernel
theorem dL_law_770 : decode cL_law 770 = .ok (.iadd, 1) := by decide +kernel
theorem dL_law_771 : decode cL_law 771 = .ok (.iaload, 1) := by decide +kernel
theorem dL_law_772 : decode cL_law 772 = .ok (.aload_n 0, 1) := by decide +kernel
theorem dL_law_773 : decode cL_law 773 = .ok (.iload_n 3, 1) := by decide +kernel
theorem dL_law_774 : decode cL_law 774 = .ok (.iconst 2, 1) := by decide +kernel
theorem dL_law_775 : decode cL_law 775 = .ok (.iadd, 1) := by decide +kernel
theorem dL_law_776 : decode cL_law 776 = .ok (.iaload, 1) := by decide +kernel
theorem dL_law_777 : decode cL_law 777 = .ok (.ifCond .eq 7, 3) := by decide +kernel
theorem dL_law_780 : decode cL_law 780 = .ok (.iconst 1, 1) := by decide +kernel
theorem dL_law_781 : decode cL_law 781 = .ok (.goto 4, 3) := by decide +kernel
theorem dL_law_784 : decode cL_law 784 = .ok (.iconst 0, 1) := by decide +kernel
theorem dL_law_785 : decode cL_law 785 = .ok (.invokevirtual 106, 3) := by decide +kernel
theorem dL_law_788 : decode cL_law 788 = .ok (.aload_n 2, 1) := by decide +kernel
theorem dL_law_789 : decode cL_law 789 = .ok (.aload_n 0, 1) := by decide +kernel
theorem dL_law_790 : decode cL_law 790 = .ok (.iload_n 3, 1) := by decide +kernel
theorem dL_law_791 : decode cL_law 791 = .ok (.iconst 1, 1) := by decide +kernel
theorem dL_law_792 : decode cL_law 792 = .ok (.iadd, 1) := by decide +kernel
theorem dL_law_793 : decode cL_law 793 = .ok (.iaload, 1) := by decide +kernel
theorem dL_law_794 : decode cL_law 794 = .ok (.aload_n 0, 1) := by decide +kernel
theorem dL_law_795 : decode cL_law 795 = .ok (.iload_n 3, 1) := by decide +kernel
theorem dL_law_796 : decode cL_law 796 = .ok (.iconst 2, 1) := by decide +kernel
theorem dL_law_797 : decode cL_law 797 = .ok (.iadd, 1) := by decide +kernel
theorem dL_law_798 : decode cL_law 798 = .ok (.iaload, 1) := by decide +kernel
theorem dL_law_799 : decode cL_law 799 = .ok (.ifCond .eq 7, 3) := by decide +kernel
theorem dL_law_802 : decode cL_law 802 = .ok (.iconst 1, 1) := by decide +kernel
theorem dL_law_803 : decode cL_law 803 = .ok (.goto 4, 3) := by decide +kernel
theorem dL_law_806 : decode cL_law 806 = .ok (.iconst 0, 1) := by decide +kernel
theorem dL_law_807 : decode cL_law 807 = .ok (.invokevirtual 110, 3) := by decide +kernel
theorem dL_law_810 : decode cL_law 810 = .ok (.if_icmp .eq 100, 3) := by decide +kernel
theorem dL_law_813 : decode cL_law 813 = .ok (.iconst 0, 1) := by decide +kernel
theorem dL_law_814 : decode cL_law 814 = .ok (.ireturn, 1) := by decide +kernel
theorem dL_law_815 : decode cL_law 815 = .ok (.aload_n 1, 1) := by decide +kernel
theorem dL_law_816 : decode cL_law 816 = .ok (.invokevirtual 111, 3) := by decide +kernel
theorem dL_law_819 : decode cL_law 819 = .ok (.aload_n 2, 1) := by decide +kernel
theorem dL_law_820 : decode cL_law 820 = .ok (.invokevirtual 114, 3) := by decide +kernel
theorem dL_law_823 : decode cL_law 823 = .ok (.if_icmp .eq 87, 3) := by decide +kernel
theorem dL_law_826 : decode cL_law 826 = .ok (.iconst 0, 1) := by decide +kernel
theorem dL_law_827 : decode cL_law 827 = .ok (.ireturn, 1) := by decide +kernel
theorem dL_law_828 : decode cL_law 828 = .ok (.aload_n 1, 1) := by decide +kernel
theorem dL_law_829 : decode cL_law 829 = .ok (.invokevirtual 115, 3) := by decide +kernel
theorem dL_law_832 : decode cL_law 832 = .ok (.aload_n 2, 1) := by decide +kernel
theorem dL_law_833 : decode cL_law 833 = .ok (.invokevirtual 118, 3) := by decide +kernel
theorem dL_law_836 : decode cL_law 836 = .ok (.if_icmp .eq 74, 3) := by decide +kernel
theorem dL_law_839 : decode cL_law 839 = .ok (.iconst 0, 1) := by decide +kernel
theorem dL_law_840 : decode cL_law 840 = .ok (.ireturn, 1) := by decide +kernel
theorem dL_law_841 : decode cL_law 841 = .ok (.aload_n 1, 1) := by decide +kernel
theorem dL_law_842 : decode cL_law 842 = .ok (.aload_n 0, 1) := by decide +kernel
theorem dL_law_843 : decode cL_law 843 = .ok (.iload_n 3, 1) := by decide +kernel
theorem dL_law_844 : decode cL_law 844 = .ok (.iconst 1, 1) := by decide +kernel
theorem dL_law_845 : decode cL_law 845 = .ok (.iadd, 1) := by decide +kernel
theorem dL_law_846 : decode cL_law 846 = .ok (.iaload, 1) := by decide +kernel
theorem dL_law_847 : decode cL_law 847 = .ok (.invokevirtual 119, 3) := by decide +kernel
theorem dL_law_850 : decode cL_law 850 = .ok (.aload_n 2, 1) := by decide +kernel
theorem dL_law_851 : decode cL_law 851 = .ok (.aload_n 0, 1) := by decide +kernel
theorem dL_law_852 : decode cL_law 852 = .ok (.iload_n 3, 1) := by decide +kernel
theorem dL_law_853 : decode cL_law 853 = .ok (.iconst 1, 1) := by decide +kernel
theorem dL_law_854 : decode cL_law 854 = .ok (.iadd, 1) := by decide +kernel
theorem dL_law_855 : decode cL_law 855 = .ok (.iaload, 1) := by decide +kernel
theorem dL_law_856 : decode cL_law 856 = .ok (.invokevirtual 122, 3) := by decide +kernel
theorem dL_law_859 : decode cL_law 859 = .ok (.if_icmp .eq 51, 3) := by decide +kernel
theorem dL_law_862 : decode cL_law 862 = .ok (.iconst 0, 1) := by decide +kernel
theorem dL_law_863 : decode cL_law 863 = .ok (.ireturn, 1) := by decide +kernel
theorem dL_law_864 : decode cL_law 864 = .ok (.aload_n 1, 1) := by decide +kernel
theorem dL_law_865 : decode cL_law 865 = .ok (.aload_n 0, 1) := by decide +kernel
theorem dL_law_866 : decode cL_law 866 = .ok (.iload_n 3, 1) := by decide +kernel
theorem dL_law_867 : decode cL_law 867 = .ok (.iconst 1, 1) := by decide +kernel
theorem dL_law_868 : decode cL_law 868 = .ok (.iadd, 1) := by decide +kernel
theorem dL_law_869 : decode cL_law 869 = .ok (.iaload, 1) := by decide +kernel
theorem dL_law_870 : decode cL_law 870 = .ok (.invokevirtual 123, 3) := by decide +kernel
theorem dL_law_873 : decode cL_law 873 = .ok (.aload_n 2, 1) := by decide +kernel
theorem dL_law_874 : decode cL_law 874 = .ok (.aload_n 0, 1) := by decide +kernel
theorem dL_law_875 : decode cL_law 875 = .ok (.iload_n 3, 1) := by decide +kernel
theorem dL_law_876 : decode cL_law 876 = .ok (.iconst 1, 1) := by decide +kernel
theorem dL_law_877 : decode cL_law 877 = .ok (.iadd, 1) := by decide +kernel
theorem dL_law_878 : decode cL_law 878 = .ok (.iaload, 1) := by decide +kernel
theorem dL_law_879 : decode cL_law 879 = .ok (.invokevirtual 126, 3) := by decide +kernel
theorem dL_law_882 : decode cL_law 882 = .ok (.if_icmp .eq 28, 3) := by decide +kernel
theorem dL_law_885 : decode cL_law 885 = .ok (.iconst 0, 1) := by decide +kernel
theorem dL_law_886 : decode cL_law 886 = .ok (.ireturn, 1) := by decide +kernel
theorem dL_law_887 : decode cL_law 887 = .ok (.aload_n 1, 1) := by decide +kernel
theorem dL_law_888 : decode cL_law 888 = .ok (.aload_n 0, 1) := by decide +kernel
theorem dL_law_889 : decode cL_law 889 = .ok (.iload_n 3, 1) := by decide +kernel
theorem dL_law_890 : decode cL_law 890 = .ok (.iconst 1, 1) := by decide +kernel
theorem dL_law_891 : decode cL_law 891 = .ok (.iadd, 1) := by decide +kernel
theorem dL_law_892 : decode cL_law 892 = .ok (.iaload, 1) := by decide +kernel
theorem dL_law_893 : decode cL_law 893 = .ok (.invokevirtual 127, 3) := by decide +kernel
theorem dL_law_896 : decode cL_law 896 = .ok (.aload_n 2, 1) := by decide +kernel
theorem dL_law_897 : decode cL_law 897 = .ok (.aload_n 0, 1) := by decide +kernel
theorem dL_law_898 : decode cL_law 898 = .ok (.iload_n 3, 1) := by decide +kernel
theorem dL_law_899 : decode cL_law 899 = .ok (.iconst 1, 1) := by decide +kernel
theorem dL_law_900 : decode cL_law 900 = .ok (.iadd, 1) := by decide +kernel
theorem dL_law_901 : decode cL_law 901 = .ok (.iaload, 1) := by decide +kernel
theorem dL_law_902 : decode cL_law 902 = .ok (.invokevirtual 130, 3) := by decide +kernel
theorem dL_law_905 : decode cL_law 905 = .ok (.if_icmp .eq 5, 3) := by decide +kernel
theorem dL_law_908 : decode cL_law 908 = .ok (.iconst 0, 1) := by decide +kernel
theorem dL_law_909 : decode cL_law 909 = .ok (.ireturn, 1) := by decide +kernel
theorem dL_law_910 : decode cL_law 910 = .ok (.iinc 3 5, 3) := by decide +kernel
theorem dL_law_913 : decode cL_law 913 = .ok (.goto (-895), 3) := by decide +kernel
theorem dL_law_916 : decode cL_law 916 = .ok (.iconst 1, 1) := by decide +kernel
theorem dL_law_917 : decode cL_law 917 = .ok (.ireturn, 1) := by decide +kernel
end
section
theorem dX8_init_0 : decode cX8_init 0 = .ok (.aload_n 0, 1) := by decide +kernel
theorem dX8_init_1 : decode cX8_init 1 = .ok (.invokespecial 1, 3) := by decide +kernel
theorem dX8_init_4 : decode cX8_init 4 = .ok (.aload_n 0, 1) := by decide +kernel
theorem dX8_init_5 : decode cX8_init 5 = .ok (.sipush 240, 3) := by decide +kernel
theorem dX8_init_8 : decode cX8_init 8 = .ok (.newarray .int, 2) := by decide +kernel
theorem dX8_init_10 : decode cX8_init 10 = .ok (.putfield 7, 3) := by decide +kernel
theorem dX8_init_13 : decode cX8_init 13 = .ok (.aload_n 0, 1) := by decide +kernel
theorem dX8_init_14 : decode cX8_init 14 = .ok (.bipush 27, 2) := by decide +kernel
theorem dX8_init_16 : decode cX8_init 16 = .ok (.newarray .int, 2) := by decide +kernel
theorem dX8_init_18 : decode cX8_init 18 = .ok (.putfield 13, 3) := by decide +kernel
theorem dX8_init_21 : decode cX8_init 21 = .ok (.aload_n 0, 1) := by decide +kernel
theorem dX8_init_22 : decode cX8_init 22 = .ok (.bipush 9, 2) := by decide +kernel
theorem dX8_init_24 : decode cX8_init 24 = .ok (.newarray .int, 2) := by decide +kernel
theorem dX8_init_26 : decode cX8_init 26 = .ok (.putfield 16, 3) := by decide +kernel
theorem dX8_init_29 : decode cX8_init 29 = .ok (.aload_n 0, 1) := by decide +kernel
theorem dX8_init_30 : decode cX8_init 30 = .ok (.bipush 49, 2) := by decide +kernel
theorem dX8_init_32 : decode cX8_init 32 = .ok (.newarray .int, 2) := by decide +kernel
theorem dX8_init_34 : decode cX8_init 34 = .ok (.putfield 19, 3) := by decide +kernel
theorem dX8_init_37 : decode cX8_init 37 = .ok (.aload_n 0, 1) := by decide +kernel
theorem dX8_init_38 : decode cX8_init 38 = .ok (.bipush 98, 2) := by decide +kernel
theorem dX8_init_40 : decode cX8_init 40 = .ok (.newarray .int, 2) := by decide +kernel
theorem dX8_init_42 : decode cX8_init 42 = .ok (.putfield 22, 3) := by decide +kernel
theorem dX8_init_45 : decode cX8_init 45 = .ok (.aload_n 0, 1) := by decide +kernel
theorem dX8_init_46 : decode cX8_init 46 = .ok (.iconst 2, 1) := by decide +kernel
theorem dX8_init_47 : decode cX8_init 47 = .ok (.newarray .boolean, 2) := by decide +kernel
theorem dX8_init_49 : decode cX8_init 49 = .ok (.putfield 25, 3) := by decide +kernel
theorem dX8_init_52 : decode cX8_init 52 = .ok (.aload_n 0, 1) := by decide +kernel
theorem dX8_init_53 : decode cX8_init 53 = .ok (.sipush 784, 3) := by decide +kernel
theorem dX8_init_56 : decode cX8_init 56 = .ok (.newarray .int, 2) := by decide +kernel
theorem dX8_init_58 : decode cX8_init 58 = .ok (.putfield 29, 3) := by decide +kernel
theorem dX8_init_61 : decode cX8_init 61 = .ok (.aload_n 0, 1) := by decide +kernel
theorem dX8_init_62 : decode cX8_init 62 = .ok (.bipush 15, 2) := by decide +kernel
theorem dX8_init_64 : decode cX8_init 64 = .ok (.newarray .int, 2) := by decide +kernel
theorem dX8_init_66 : decode cX8_init 66 = .ok (.putfield 32, 3) := by decide +kernel
theorem dX8_init_69 : decode cX8_init 69 = .ok (.aload_n 0, 1) := by decide +kernel
theorem dX8_init_70 : decode cX8_init 70 = .ok (.bipush 15, 2) := by decide +kernel
theorem dX8_init_72 : decode cX8_init 72 = .ok (.newarray .boolean, 2) := by decide +kernel
theorem dX8_init_74 : decode cX8_init 74 = .ok (.putfield 35, 3) := by decide +kernel
theorem dX8_init_77 : decode cX8_init 77 = .ok (.aload_n 0, 1) := by decide +kernel
theorem dX8_init_78 : decode cX8_init 78 = .ok (.bipush 9, 2) := by decide +kernel
theorem dX8_init_80 : decode cX8_init 80 = .ok (.newarray .int, 2) := by decide +kernel
theorem dX8_init_82 : decode cX8_init 82 = .ok (.putfield 38, 3) := by decide +kernel
theorem dX8_init_85 : decode cX8_init 85 = .ok (.aload_n 0, 1) := by decide +kernel
theorem dX8_init_86 : decode cX8_init 86 = .ok (.bipush 9, 2) := by decide +kernel
theorem dX8_init_88 : decode cX8_init 88 = .ok (.newarray .int, 2) := by decide +kernel
theorem dX8_init_90 : decode cX8_init 90 = .ok (.putfield 41, 3) := by decide +kernel
theorem dX8_init_93 : decode cX8_init 93 = .ok (.aload_n 0, 1) := by decide +kernel
theorem dX8_init_94 : decode cX8_init 94 = .ok (.bipush 9, 2) := by decide +kernel
theorem dX8_init_96 : decode cX8_init 96 = .ok (.newarray .int, 2) := by decide +kernel
theorem dX8_init_98 : decode cX8_init 98 = .ok (.putfield 44, 3) := by decide +kernel
theorem dX8_init_101 : decode cX8_init 101 = .ok (.aload_n 0, 1) := by decide +kernel
theorem dX8_init_102 : decode cX8_init 102 = .ok (.bipush 9, 2) := by decide +kernel
theorem dX8_init_104 : decode cX8_init 104 = .ok (.newarray .int, 2) := by decide +kernel
theorem dX8_init_106 : decode cX8_init 106 = .ok (.putfield 47, 3) := by decide +kernel
theorem dX8_init_109 : decode cX8_init 109 = .ok (.aload_n 0, 1) := by decide +kernel
theorem dX8_init_110 : decode cX8_init 110 = .ok (.bipush 10, 2) := by decide +kernel
theorem dX8_init_112 : decode cX8_init 112 = .ok (.newarray .int, 2) := by decide +kernel
theorem dX8_init_114 : decode cX8_init 114 = .ok (.putfield 50, 3) := by decide +kernel
theorem dX8_init_117 : decode cX8_init 117 = .ok (.aload_n 0, 1) := by decide +kernel
theorem dX8_init_118 : decode cX8_init 118 = .ok (.bipush 10, 2) := by decide +kernel
theorem dX8_init_120 : decode cX8_init 120 = .ok (.newarray .int, 2) := by decide +kernel
theorem dX8_init_122 : decode cX8_init 122 = .ok (.putfield 53, 3) := by decide +kernel
theorem dX8_init_125 : decode cX8_init 125 = .ok (.aload_n 0, 1) := by decide +kernel
theorem dX8_init_126 : decode cX8_init 126 = .ok (.bipush 10, 2) := by decide +kernel
theorem dX8_init_128 : decode cX8_init 128 = .ok (.newarray .int, 2) := by decide +kernel
theorem dX8_init_130 : decode cX8_init 130 = .ok (.putfield 56, 3) := by decide +kernel
theorem dX8_init_133 : decode cX8_init 133 = .ok (.aload_n 0, 1) := by decide +kernel
theorem dX8_init_134 : decode cX8_init 134 = .ok (.sipush 512, 3) := by decide +kernel
theorem dX8_init_137 : decode cX8_init 137 = .ok (.newarray .int, 2) := by decide +kernel
theorem dX8_init_139 : decode cX8_init 139 = .ok (.putfield 59, 3) := by decide +kernel
theorem dX8_init_142 : decode cX8_init 142 = .ok (.aload_n 0, 1) := by decide +kernel
theorem dX8_init_143 : decode cX8_init 143 = .ok (.sipush 512, 3) := by decide +kernel
theorem dX8_init_146 : decode cX8_init 146 = .ok (.newarray .int, 2) := by decide +kernel
theorem dX8_init_148 : decode cX8_init 148 = .ok (.putfield 62, 3) := by decide +kernel
theorem dX8_init_151 : decode cX8_init 151 = .ok (.aload_n 0, 1) := by decide +kernel
theorem dX8_init_152 : decode cX8_init 152 = .ok (.sipush 512, 3) := by decide +kernel
theorem dX8_init_155 : decode cX8_init 155 = .ok (.newarray .int, 2) := by decide +kernel
theorem dX8_init_157 : decode cX8_init 157 = .ok (.putfield 65, 3) := by decide +kernel
theorem dX8_init_160 : decode cX8_init 160 = .ok (.aload_n 0, 1) := by decide +kernel
theorem dX8_init_161 : decode cX8_init 161 = .ok (.iconst (-1), 1) := by decide +kernel
theorem dX8_init_162 : decode cX8_init 162 = .ok (.putfield 68, 3) := by decide +kernel
theorem dX8_init_165 : decode cX8_init 165 = .ok (.iconst 0, 1) := by decide +kernel
theorem dX8_init_166 : decode cX8_init 166 = .ok (.istore_n 1, 1) := by decide +kernel
theorem dX8_init_167 : decode cX8_init 167 = .ok (.iload_n 1, 1) := by decide +kernel
theorem dX8_init_168 : decode cX8_init 168 = .ok (.bipush 9, 2) := by decide +kernel
theorem dX8_init_170 : decode cX8_init 170 = .ok (.if_icmp .ge 19, 3) := by decide +kernel
theorem dX8_init_173 : decode cX8_init 173 = .ok (.aload_n 0, 1) := by decide +kernel
theorem dX8_init_174 : decode cX8_init 174 = .ok (.getfield 19, 3) := by decide +kernel
theorem dX8_init_177 : decode cX8_init 177 = .ok (.bipush 18, 2) := by decide +kernel
theorem dX8_init_179 : decode cX8_init 179 = .ok (.iload_n 1, 1) := by decide +kernel
theorem dX8_init_180 : decode cX8_init 180 = .ok (.iadd, 1) := by decide +kernel
theorem dX8_init_181 : decode cX8_init 181 = .ok (.iconst (-1), 1) := by decide +kernel
theorem dX8_init_182 : decode cX8_init 182 = .ok (.iastore, 1) := by decide +kernel
theorem dX8_init_183 : decode cX8_init 183 = .ok (.iinc 1 1, 3) := by decide +kernel
theorem dX8_init_186 : decode cX8_init 186 = .ok (.goto (-19), 3) := by decide +kernel
theorem dX8_init_189 : decode cX8_init 189 = .ok (.return_, 1) := by decide +kernel
theorem dX8_in_0 : decode cX8_in 0 = .ok (.iload_n 0, 1) := by decide +kernel
theorem dX8_in_1 : decode cX8_in 1 = .ok (.iload_n 1, 1) := by decide +kernel
theorem dX8_in_2 : decode cX8_in 2 = .ok (.if_icmp .lt 12, 3) := by decide +kernel
theorem dX8_in_5 : decode cX8_in 5 = .ok (.iload_n 0, 1) := by decide +kernel
theorem dX8_in_6 : decode cX8_in 6 = .ok (.iload_n 2, 1) := by decide +kernel
theorem dX8_in_7 : decode cX8_in 7 = .ok (.if_icmp .gt 7, 3) := by decide +kernel
theorem dX8_in_10 : decode cX8_in 10 = .ok (.iconst 1, 1) := by decide +kernel
theorem dX8_in_11 : decode cX8_in 11 = .ok (.goto 4, 3) := by decide +kernel
theorem dX8_in_14 : decode cX8_in 14 = .ok (.iconst 0, 1) := by decide +kernel
theorem dX8_in_15 : decode cX8_in 15 = .ok (.ireturn, 1) := by decide +kernel
theorem dX8_has_0 : decode cX8_has 0 = .ok (.iload_n 0, 1) := by decide +kernel
theorem dX8_has_1 : decode cX8_has 1 = .ok (.iload_n 1, 1) := by decide +kernel
theorem dX8_has_2 : decode cX8_has 2 = .ok (.ishr, 1) := by decide +kernel
theorem dX8_has_3 : decode cX8_has 3 = .ok (.iconst 1, 1) := by decide +kernel
theorem dX8_has_4 : decode cX8_has 4 = .ok (.iand, 1) := by decide +kernel
theorem dX8_has_5 : decode cX8_has 5 = .ok (.iconst 1, 1) := by decide +kernel
theorem dX8_has_6 : decode cX8_has 6 = .ok (.if_icmp .ne 7, 3) := by decide +kernel
theorem dX8_has_9 : decode cX8_has 9 = .ok (.iconst 1, 1) := by decide +kernel
theorem dX8_has_10 : decode cX8_has 10 = .ok (.goto 4, 3) := by decide +kernel
theorem dX8_has_13 : decode cX8_has 13 = .ok (.iconst 0, 1) := by decide +kernel
theorem dX8_has_14 : decode cX8_has 14 = .ok (.ireturn, 1) := by decide +kernel
theorem dX8_ones_0 : decode cX8_ones 0 = .ok (.iconst 0, 1) := by decide +kernel
theorem dX8_ones_1 : decode cX8_ones 1 = .ok (.istore_n 1, 1) := by decide +kernel
theorem dX8_ones_2 : decode cX8_ones 2 = .ok (.iconst 0, 1) := by decide +kernel
theorem dX8_ones_3 : decode cX8_ones 3 = .ok (.istore_n 2, 1) := by decide +kernel
theorem dX8_ones_4 : decode cX8_ones 4 = .ok (.iload_n 2, 1) := by decide +kernel
theorem dX8_ones_5 : decode cX8_ones 5 = .ok (.bipush 9, 2) := by decide +kernel
theorem dX8_ones_7 : decode cX8_ones 7 = .ok (.if_icmp .ge 17, 3) := by decide +kernel
theorem dX8_ones_10 : decode cX8_ones 10 = .ok (.iload_n 1, 1) := by decide +kernel
theorem dX8_ones_11 : decode cX8_ones 11 = .ok (.iload_n 0, 1) := by decide +kernel
theorem dX8_ones_12 : decode cX8_ones 12 = .ok (.iload_n 2, 1) := by decide +kernel
theorem dX8_ones_13 : decode cX8_ones 13 = .ok (.ishr, 1) := by decide +kernel
theorem dX8_ones_14 : decode cX8_ones 14 = .ok (.iconst 1, 1) := by decide +kernel
theorem dX8_ones_15 : decode cX8_ones 15 = .ok (.iand, 1) := by decide +kernel
theorem dX8_ones_16 : decode cX8_ones 16 = .ok (.iadd, 1) := by decide +kernel
theorem dX8_ones_17 : decode cX8_ones 17 = .ok (.istore_n 1, 1) := by decide +kernel
theorem dX8_ones_18 : decode cX8_ones 18 = .ok (.iinc 2 1, 3) := by decide +kernel
theorem dX8_ones_21 : decode cX8_ones 21 = .ok (.goto (-17), 3) := by decide +kernel
theorem dX8_ones_24 : decode cX8_ones 24 = .ok (.iload_n 1, 1) := by decide +kernel
theorem dX8_ones_25 : decode cX8_ones 25 = .ok (.ireturn, 1) := by decide +kernel
theorem dX8_feed_0 : decode cX8_feed 0 = .ok (.aload_n 0, 1) := by decide +kernel
theorem dX8_feed_1 : decode cX8_feed 1 = .ok (.iconst 0, 1) := by decide +kernel
theorem dX8_feed_2 : decode cX8_feed 2 = .ok (.putfield 72, 3) := by decide +kernel
theorem dX8_feed_5 : decode cX8_feed 5 = .ok (.iload_n 1, 1) := by decide +kernel
theorem dX8_feed_6 : decode cX8_feed 6 = .ok (.iconst 0, 1) := by decide +kernel
theorem dX8_feed_7 : decode cX8_feed 7 = .ok (.sipush 255, 3) := by decide +kernel
theorem dX8_feed_10 : decode cX8_feed 10 = .ok (.invokestatic 75, 3) := by decide +kernel
theorem dX8_feed_13 : decode cX8_feed 13 = .ok (.ifCond .ne 6, 3) := by decide +kernel
theorem dX8_feed_16 : decode cX8_feed 16 = .ok (.ldc 79, 2) := by decide +kernel
theorem dX8_feed_18 : decode cX8_feed 18 = .ok (.ireturn, 1) := by decide +kernel
theorem dX8_feed_19 : decode cX8_feed 19 = .ok (.aload_n 0, 1) := by decide +kernel
theorem dX8_feed_20 : decode cX8_feed 20 = .ok (.getfield 80, 3) := by decide +kernel
theorem dX8_feed_23 : decode cX8_feed 23 = .ok (.sipush 240, 3) := by decide +kernel
theorem dX8_feed_26 : decode cX8_feed 26 = .ok (.if_icmp .ne 6, 3) := by decide +kernel
theorem dX8_feed_29 : decode cX8_feed 29 = .ok (.ldc 83, 2) := by decide +kernel
theorem dX8_feed_31 : decode cX8_feed 31 = .ok (.ireturn, 1) := by decide +kernel
theorem dX8_feed_32 : decode cX8_feed 32 = .ok (.aload_n 0, 1) := by decide +kernel
theorem dX8_feed_33 : decode cX8_feed 33 = .ok (.getfield 7, 3) := by decide +kernel
theorem dX8_feed_36 : decode cX8_feed 36 = .ok (.aload_n 0, 1) := by decide +kernel
theorem dX8_feed_37 : decode cX8_feed 37 = .ok (.getfield 80, 3) := by decide +kernel
theorem dX8_feed_40 : decode cX8_feed 40 = .ok (.iload_n 1, 1) := by decide +kernel
theorem dX8_feed_41 : decode cX8_feed 41 = .ok (.iastore, 1) := by decide +kernel
theorem dX8_feed_42 : decode cX8_feed 42 = .ok (.aload_n 0, 1) := by decide +kernel
theorem dX8_feed_43 : decode cX8_feed 43 = .ok (.dup, 1) := by decide +kernel
theorem dX8_feed_44 : decode cX8_feed 44 = .ok (.getfield 80, 3) := by decide +kernel
theorem dX8_feed_47 : decode cX8_feed 47 = .ok (.iconst 1, 1) := by decide +kernel
theorem dX8_feed_48 : decode cX8_feed 48 = .ok (.iadd, 1) := by decide +kernel
theorem dX8_feed_49 : decode cX8_feed 49 = .ok (.putfield 80, 3) := by decide +kernel
theorem dX8_feed_52 : decode cX8_feed 52 = .ok (.aload_n 0, 1) := by decide +kernel
theorem dX8_feed_53 : decode cX8_feed 53 = .ok (.getfield 80, 3) := by decide +kernel
theorem dX8_feed_56 : decode cX8_feed 56 = .ok (.ireturn, 1) := by decide +kernel
theorem dX8_letterAt_0 : decode cX8_letterAt 0 = .ok (.iload_n 1, 1) := by decide +kernel
theorem dX8_letterAt_1 : decode cX8_letterAt 1 = .ok (.aload_n 0, 1) := by decide +kernel
theorem dX8_letterAt_2 : decode cX8_letterAt 2 = .ok (.getfield 80, 3) := by decide +kernel
theorem dX8_letterAt_5 : decode cX8_letterAt 5 = .ok (.if_icmp .ge 12, 3) := by decide +kernel
theorem dX8_letterAt_8 : decode cX8_letterAt 8 = .ok (.aload_n 0, 1) := by decide +kernel
theorem dX8_letterAt_9 : decode cX8_letterAt 9 = .ok (.getfield 7, 3) := by decide +kernel
theorem dX8_letterAt_12 : decode cX8_letterAt 12 = .ok (.iload_n 1, 1) := by decide +kernel
theorem dX8_letterAt_13 : decode cX8_letterAt 13 = .ok (.iaload, 1) := by decide +kernel
theorem dX8_letterAt_14 : decode cX8_letterAt 14 = .ok (.goto 4, 3) := by decide +kernel
theorem dX8_letterAt_17 : decode cX8_letterAt 17 = .ok (.iconst (-1), 1) := by decide +kernel
theorem dX8_letterAt_18 : decode cX8_letterAt 18 = .ok (.ireturn, 1) := by decide +kernel
theorem dX8_blanks_0 : decode cX8_blanks 0 = .ok (.aload_n 0, 1) := by decide +kernel
theorem dX8_blanks_1 : decode cX8_blanks 1 = .ok (.aload_n 0, 1) := by decide +kernel
theorem dX8_blanks_2 : decode cX8_blanks 2 = .ok (.getfield 84, 3) := by decide +kernel
theorem dX8_blanks_5 : decode cX8_blanks 5 = .ok (.invokevirtual 87, 3) := by decide +kernel
theorem dX8_blanks_8 : decode cX8_blanks 8 = .ok (.bipush 32, 2) := by decide +kernel
theorem dX8_blanks_10 : decode cX8_blanks 10 = .ok (.if_icmp .ne 16, 3) := by decide +kernel
theorem dX8_blanks_13 : decode cX8_blanks 13 = .ok (.aload_n 0, 1) := by decide +kernel
theorem dX8_blanks_14 : decode cX8_blanks 14 = .ok (.dup, 1) := by decide +kernel
theorem dX8_blanks_15 : decode cX8_blanks 15 = .ok (.getfield 84, 3) := by decide +kernel
theorem dX8_blanks_18 : decode cX8_blanks 18 = .ok (.iconst 1, 1) := by decide +kernel
theorem dX8_blanks_19 : decode cX8_blanks 19 = .ok (.iadd, 1) := by decide +kernel
theorem dX8_blanks_20 : decode cX8_blanks 20 = .ok (.putfield 84, 3) := by decide +kernel
theorem dX8_blanks_23 : decode cX8_blanks 23 = .ok (.goto (-23), 3) := by decide +kernel
theorem dX8_blanks_26 : decode cX8_blanks 26 = .ok (.return_, 1) := by decide +kernel
theorem dX8_isWell_0 : decode cX8_isWell 0 = .ok (.aload_n 0, 1) := by decide +kernel
theorem dX8_isWell_1 : decode cX8_isWell 1 = .ok (.getfield 91, 3) := by decide +kernel
theorem dX8_isWell_4 : decode cX8_isWell 4 = .ok (.ifCond .ne 7, 3) := by decide +kernel
theorem dX8_isWell_7 : decode cX8_isWell 7 = .ok (.iconst 1, 1) := by decide +kernel
theorem dX8_isWell_8 : decode cX8_isWell 8 = .ok (.goto 4, 3) := by decide +kernel
theorem dX8_isWell_11 : decode cX8_isWell 11 = .ok (.iconst 0, 1) := by decide +kernel
theorem dX8_isWell_12 : decode cX8_isWell 12 = .ok (.ireturn, 1) := by decide +kernel
theorem dX8_faulty_0 : decode cX8_faulty 0 = .ok (.aload_n 0, 1) := by decide +kernel
theorem dX8_faulty_1 : decode cX8_faulty 1 = .ok (.invokevirtual 94, 3) := by decide +kernel
theorem dX8_faulty_4 : decode cX8_faulty 4 = .ok (.ifCond .eq 13, 3) := by decide +kernel
theorem dX8_faulty_7 : decode cX8_faulty 7 = .ok (.aload_n 0, 1) := by decide +kernel
theorem dX8_faulty_8 : decode cX8_faulty 8 = .ok (.iload_n 1, 1) := by decide +kernel
theorem dX8_faulty_9 : decode cX8_faulty 9 = .ok (.putfield 91, 3) := by decide +kernel
theorem dX8_faulty_12 : decode cX8_faulty 12 = .ok (.aload_n 0, 1) := by decide +kernel
theorem dX8_faulty_13 : decode cX8_faulty 13 = .ok (.iload_n 2, 1) := by decide +kernel
theorem dX8_faulty_14 : decode cX8_faulty 14 = .ok (.putfield 98, 3) := by decide +kernel
theorem dX8_faulty_17 : decode cX8_faulty 17 = .ok (.return_, 1) := by decide +kernel
theorem dX8_due_0 : decode cX8_due 0 = .ok (.aload_n 0, 1) := by decide +kernel
theorem dX8_due_1 : decode cX8_due 1 = .ok (.invokevirtual 101, 3) := by decide +kernel
theorem dX8_due_4 : decode cX8_due 4 = .ok (.aload_n 0, 1) := by decide +kernel
theorem dX8_due_5 : decode cX8_due 5 = .ok (.getfield 84, 3) := by decide +kernel
theorem dX8_due_8 : decode cX8_due 8 = .ok (.istore_n 3, 1) := by decide +kernel
theorem dX8_due_9 : decode cX8_due 9 = .ok (.iconst 0, 1) := by decide +kernel
theorem dX8_due_10 : decode cX8_due 10 = .ok (.istore 4, 2) := by decide +kernel
theorem dX8_due_12 : decode cX8_due 12 = .ok (.aload_n 0, 1) := by decide +kernel
theorem dX8_due_13 : decode cX8_due 13 = .ok (.aload_n 0, 1) := by decide +kernel
theorem dX8_due_14 : decode cX8_due 14 = .ok (.getfield 84, 3) := by decide +kernel
theorem dX8_due_17 : decode cX8_due 17 = .ok (.invokevirtual 87, 3) := by decide +kernel
theorem dX8_due_20 : decode cX8_due 20 = .ok (.bipush 48, 2) := by decide +kernel
theorem dX8_due_22 : decode cX8_due 22 = .ok (.bipush 57, 2) := by decide +kernel
theorem dX8_due_24 : decode cX8_due 24 = .ok (.invokestatic 75, 3) := by decide +kernel
theorem dX8_due_27 : decode cX8_due 27 = .ok (.ifCond .eq 48, 3) := by decide +kernel
theorem dX8_due_30 : decode cX8_due 30 = .ok (.iload 4, 2) := by decide +kernel
theorem dX8_due_32 : decode cX8_due 32 = .ok (.sipush 9999, 3) := by decide +kernel
theorem dX8_due_35 : decode cX8_due 35 = .ok (.if_icmp .le 8, 3) := by decide +kernel
theorem dX8_due_38 : decode cX8_due 38 = .ok (.iload 4, 2) := by decide +kernel
theorem dX8_due_40 : decode cX8_due 40 = .ok (.goto 20, 3) := by decide +kernel
theorem dX8_due_43 : decode cX8_due 43 = .ok (.bipush 10, 2) := by decide +kernel
theorem dX8_due_45 : decode cX8_due 45 = .ok (.iload 4, 2) := by decide +kernel
theorem dX8_due_47 : decode cX8_due 47 = .ok (.imul, 1) := by decide +kernel
theorem dX8_due_48 : decode cX8_due 48 = .ok (.aload_n 0, 1) := by decide +kernel
theorem dX8_due_49 : decode cX8_due 49 = .ok (.aload_n 0, 1) := by decide +kernel
theorem dX8_due_50 : decode cX8_due 50 = .ok (.getfield 84, 3) := by decide +kernel
theorem dX8_due_53 : decode cX8_due 53 = .ok (.invokevirtual 87, 3) := by decide +kernel
theorem dX8_due_56 : decode cX8_due 56 = .ok (.iadd, 1) := by decide +kernel
theorem dX8_due_57 : decode cX8_due 57 = .ok (.bipush 48, 2) := by decide +kernel
theorem dX8_due_59 : decode cX8_due 59 = .ok (.isub, 1) := by decide +kernel
theorem dX8_due_60 : decode cX8_due 60 = .ok (.istore 4, 2) := by decide +kernel
theorem dX8_due_62 : decode cX8_due 62 = .ok (.aload_n 0, 1) := by decide +kernel
theorem dX8_due_63 : decode cX8_due 63 = .ok (.dup, 1) := by decide +kernel
theorem dX8_due_64 : decode cX8_due 64 = .ok (.getfield 84, 3) := by decide +kernel
theorem dX8_due_67 : decode cX8_due 67 = .ok (.iconst 1, 1) := by decide +kernel
theorem dX8_due_68 : decode cX8_due 68 = .ok (.iadd, 1) := by decide +kernel
theorem dX8_due_69 : decode cX8_due 69 = .ok (.putfield 84, 3) := by decide +kernel
theorem dX8_due_72 : decode cX8_due 72 = .ok (.goto (-60), 3) := by decide +kernel
theorem dX8_due_75 : decode cX8_due 75 = .ok (.aload_n 0, 1) := by decide +kernel
theorem dX8_due_76 : decode cX8_due 76 = .ok (.getfield 84, 3) := by decide +kernel
theorem dX8_due_79 : decode cX8_due 79 = .ok (.iload_n 3, 1) := by decide +kernel
theorem dX8_due_80 : decode cX8_due 80 = .ok (.if_icmp .ne 12, 3) := by decide +kernel
theorem dX8_due_83 : decode cX8_due 83 = .ok (.aload_n 0, 1) := by decide +kernel
theorem dX8_due_84 : decode cX8_due 84 = .ok (.iconst 1, 1) := by decide +kernel
theorem dX8_due_85 : decode cX8_due 85 = .ok (.iload_n 3, 1) := by decide +kernel
theorem dX8_due_86 : decode cX8_due 86 = .ok (.invokevirtual 104, 3) := by decide +kernel
theorem dX8_due_89 : decode cX8_due 89 = .ok (.goto 29, 3) := by decide +kernel
theorem dX8_due_92 : decode cX8_due 92 = .ok (.aload_n 0, 1) := by decide +kernel
theorem dX8_due_93 : decode cX8_due 93 = .ok (.getfield 84, 3) := by decide +kernel
theorem dX8_due_96 : decode cX8_due 96 = .ok (.iload_n 3, 1) := by decide +kernel
theorem dX8_due_97 : decode cX8_due 97 = .ok (.isub, 1) := by decide +kernel
theorem dX8_due_98 : decode cX8_due 98 = .ok (.iconst 3, 1) := by decide +kernel
theorem dX8_due_99 : decode cX8_due 99 = .ok (.if_icmp .gt 13, 3) := by decide +kernel
theorem dX8_due_102 : decode cX8_due 102 = .ok (.iload 4, 2) := by decide +kernel
theorem dX8_due_104 : decode cX8_due 104 = .ok (.iload_n 1, 1) := by decide +kernel
theorem dX8_due_105 : decode cX8_due 105 = .ok (.iload_n 2, 1) := by decide +kernel
theorem dX8_due_106 : decode cX8_due 106 = .ok (.invokestatic 75, 3) := by decide +kernel
theorem dX8_due_109 : decode cX8_due 109 = .ok (.ifCond .ne 9, 3) := by decide +kernel
theorem dX8_due_112 : decode cX8_due 112 = .ok (.aload_n 0, 1) := by decide +kernel
theorem dX8_due_113 : decode cX8_due 113 = .ok (.iconst 2, 1) := by decide +kernel
theorem dX8_due_114 : decode cX8_due 114 = .ok (.iload_n 3, 1) := by decide +kernel
theorem dX8_due_115 : decode cX8_due 115 = .ok (.invokevirtual 104, 3) := by decide +kernel
theorem dX8_due_118 : decode cX8_due 118 = .ok (.iload 4, 2) := by decide +kernel
theorem dX8_due_120 : decode cX8_due 120 = .ok (.ireturn, 1) := by decide +kernel
theorem dX8_ends_0 : decode cX8_ends 0 = .ok (.aload_n 0, 1) := by decide +kernel
theorem dX8_ends_1 : decode cX8_ends 1 = .ok (.invokevirtual 101, 3) := by decide +kernel
theorem dX8_ends_4 : decode cX8_ends 4 = .ok (.aload_n 0, 1) := by decide +kernel
theorem dX8_ends_5 : decode cX8_ends 5 = .ok (.aload_n 0, 1) := by decide +kernel
theorem dX8_ends_6 : decode cX8_ends 6 = .ok (.getfield 84, 3) := by decide +kernel
theorem dX8_ends_9 : decode cX8_ends 9 = .ok (.invokevirtual 87, 3) := by decide +kernel
theorem dX8_ends_12 : decode cX8_ends 12 = .ok (.bipush 59, 2) := by decide +kernel
theorem dX8_ends_14 : decode cX8_ends 14 = .ok (.if_icmp .eq 12, 3) := by decide +kernel
theorem dX8_ends_17 : decode cX8_ends 17 = .ok (.aload_n 0, 1) := by decide +kernel
theorem dX8_ends_18 : decode cX8_ends 18 = .ok (.iconst 1, 1) := by decide +kernel
theorem dX8_ends_19 : decode cX8_ends 19 = .ok (.aload_n 0, 1) := by decide +kernel
theorem dX8_ends_20 : decode cX8_ends 20 = .ok (.getfield 84, 3) := by decide +kernel
theorem dX8_ends_23 : decode cX8_ends 23 = .ok (.invokevirtual 104, 3) := by decide +kernel
theorem dX8_ends_26 : decode cX8_ends 26 = .ok (.aload_n 0, 1) := by decide +kernel
theorem dX8_ends_27 : decode cX8_ends 27 = .ok (.dup, 1) := by decide +kernel
theorem dX8_ends_28 : decode cX8_ends 28 = .ok (.getfield 84, 3) := by decide +kernel
theorem dX8_ends_31 : decode cX8_ends 31 = .ok (.iconst 1, 1) := by decide +kernel
theorem dX8_ends_32 : decode cX8_ends 32 = .ok (.iadd, 1) := by decide +kernel
theorem dX8_ends_33 : decode cX8_ends 33 = .ok (.putfield 84, 3) := by decide +kernel
theorem dX8_ends_36 : decode cX8_ends 36 = .ok (.return_, 1) := by decide +kernel
theorem dX8_tells_0 : decode cX8_tells 0 = .ok (.aload_n 0, 1) := by decide +kernel
theorem dX8_tells_1 : decode cX8_tells 1 = .ok (.getfield 108, 3) := by decide +kernel
theorem dX8_tells_4 : decode cX8_tells 4 = .ok (.istore_n 1, 1) := by decide +kernel
theorem dX8_tells_5 : decode cX8_tells 5 = .ok (.aload_n 0, 1) := by decide +kernel
theorem dX8_tells_6 : decode cX8_tells 6 = .ok (.getfield 13, 3) := by decide +kernel
theorem dX8_tells_9 : decode cX8_tells 9 = .ok (.iload_n 1, 1) := by decide +kernel
theorem dX8_tells_10 : decode cX8_tells 10 = .ok (.aload_n 0, 1) := by decide +kernel
theorem dX8_tells_11 : decode cX8_tells 11 = .ok (.iconst 0, 1) := by decide +kernel
theorem dX8_tells_12 : decode cX8_tells 12 = .ok (.iconst 3, 1) := by decide +kernel
theorem dX8_tells_13 : decode cX8_tells 13 = .ok (.invokevirtual 111, 3) := by decide +kernel
theorem dX8_tells_16 : decode cX8_tells 16 = .ok (.iastore, 1) := by decide +kernel
theorem dX8_tells_17 : decode cX8_tells 17 = .ok (.aload_n 0, 1) := by decide +kernel
theorem dX8_tells_18 : decode cX8_tells 18 = .ok (.invokevirtual 94, 3) := by decide +kernel
theorem dX8_tells_21 : decode cX8_tells 21 = .ok (.ifCond .eq 19, 3) := by decide +kernel
theorem dX8_tells_24 : decode cX8_tells 24 = .ok (.aload_n 0, 1) := by decide +kernel
theorem dX8_tells_25 : decode cX8_tells 25 = .ok (.getfield 13, 3) := by decide +kernel
theorem dX8_tells_28 : decode cX8_tells 28 = .ok (.bipush 9, 2) := by decide +kernel
theorem dX8_tells_30 : decode cX8_tells 30 = .ok (.iload_n 1, 1) := by decide +kernel
theorem dX8_tells_31 : decode cX8_tells 31 = .ok (.iadd, 1) := by decide +kernel
theorem dX8_tells_32 : decode cX8_tells 32 = .ok (.aload_n 0, 1) := by decide +kernel
theorem dX8_tells_33 : decode cX8_tells 33 = .ok (.iconst 1, 1) := by decide +kernel
theorem dX8_tells_34 : decode cX8_tells 34 = .ok (.bipush 20, 2) := by decide +kernel
theorem dX8_tells_36 : decode cX8_tells 36 = .ok (.invokevirtual 111, 3) := by decide +kernel
theorem dX8_tells_39 : decode cX8_tells 39 = .ok (.iastore, 1) := by decide +kernel
theorem dX8_tells_40 : decode cX8_tells 40 = .ok (.aload_n 0, 1) := by decide +kernel
theorem dX8_tells_41 : decode cX8_tells 41 = .ok (.invokevirtual 94, 3) := by decide +kernel
theorem dX8_tells_44 : decode cX8_tells 44 = .ok (.ifCond .eq 19, 3) := by decide +kernel
theorem dX8_tells_47 : decode cX8_tells 47 = .ok (.aload_n 0, 1) := by decide +kernel
theorem dX8_tells_48 : decode cX8_tells 48 = .ok (.getfield 13, 3) := by decide +kernel
theorem dX8_tells_51 : decode cX8_tells 51 = .ok (.bipush 18, 2) := by decide +kernel
theorem dX8_tells_53 : decode cX8_tells 53 = .ok (.iload_n 1, 1) := by decide +kernel
theorem dX8_tells_54 : decode cX8_tells 54 = .ok (.iadd, 1) := by decide +kernel
theorem dX8_tells_55 : decode cX8_tells 55 = .ok (.aload_n 0, 1) := by decide +kernel
theorem dX8_tells_56 : decode cX8_tells 56 = .ok (.iconst 0, 1) := by decide +kernel
theorem dX8_tells_57 : decode cX8_tells 57 = .ok (.bipush 9, 2) := by decide +kernel
theorem dX8_tells_59 : decode cX8_tells 59 = .ok (.invokevirtual 111, 3) := by decide +kernel
theorem dX8_tells_62 : decode cX8_tells 62 = .ok (.iastore, 1) := by decide +kernel
theorem dX8_tells_63 : decode cX8_tells 63 = .ok (.aload_n 0, 1) := by decide +kernel
theorem dX8_tells_64 : decode cX8_tells 64 = .ok (.dup, 1) := by decide +kernel
theorem dX8_tells_65 : decode cX8_tells 65 = .ok (.getfield 108, 3) := by decide +kernel
theorem dX8_tells_68 : decode cX8_tells 68 = .ok (.iconst 1, 1) := by decide +kernel
theorem dX8_tells_69 : decode cX8_tells 69 = .ok (.iadd, 1) := by decide +kernel
theorem dX8_tells_70 : decode cX8_tells 70 = .ok (.putfield 108, 3) := by decide +kernel
theorem dX8_tells_73 : decode cX8_tells 73 = .ok (.return_, 1) := by decide +kernel
theorem dX8_reads_0 : decode cX8_reads 0 = .ok (.iconst 0, 1) := by decide +kernel
theorem dX8_reads_1 : decode cX8_reads 1 = .ok (.istore_n 1, 1) := by decide +kernel
theorem dX8_reads_2 : decode cX8_reads 2 = .ok (.aload_n 0, 1) := by decide +kernel
theorem dX8_reads_3 : decode cX8_reads 3 = .ok (.invokevirtual 101, 3) := by decide +kernel
theorem dX8_reads_6 : decode cX8_reads 6 = .ok (.aload_n 0, 1) := by decide +kernel
theorem dX8_reads_7 : decode cX8_reads 7 = .ok (.invokevirtual 94, 3) := by decide +kernel
theorem dX8_reads_10 : decode cX8_reads 10 = .ok (.ifCond .eq 152, 3) := by decide +kernel
theorem dX8_reads_13 : decode cX8_reads 13 = .ok (.aload_n 0, 1) := by decide +kernel
theorem dX8_reads_14 : decode cX8_reads 14 = .ok (.getfield 84, 3) := by decide +kernel
theorem dX8_reads_17 : decode cX8_reads 17 = .ok (.aload_n 0, 1) := by decide +kernel
theorem dX8_reads_18 : decode cX8_reads 18 = .ok (.getfield 80, 3) := by decide +kernel
theorem dX8_reads_21 : decode cX8_reads 21 = .ok (.if_icmp .ge 141, 3) := by decide +kernel
theorem dX8_reads_24 : decode cX8_reads 24 = .ok (.aload_n 0, 1) := by decide +kernel
theorem dX8_reads_25 : decode cX8_reads 25 = .ok (.aload_n 0, 1) := by decide +kernel
theorem dX8_reads_26 : decode cX8_reads 26 = .ok (.getfield 84, 3) := by decide +kernel
theorem dX8_reads_29 : decode cX8_reads 29 = .ok (.invokevirtual 87, 3) := by decide +kernel
theorem dX8_reads_32 : decode cX8_reads 32 = .ok (.istore_n 2, 1) := by decide +kernel
theorem dX8_reads_33 : decode cX8_reads 33 = .ok (.iload_n 2, 1) := by decide +kernel
theorem dX8_reads_34 : decode cX8_reads 34 = .ok (.bipush 103, 2) := by decide +kernel
theorem dX8_reads_36 : decode cX8_reads 36 = .ok (.if_icmp .eq 13, 3) := by decide +kernel
theorem dX8_reads_39 : decode cX8_reads 39 = .ok (.iload_n 2, 1) := by decide +kernel
theorem dX8_reads_40 : decode cX8_reads 40 = .ok (.bipush 115, 2) := by decide +kernel
theorem dX8_reads_42 : decode cX8_reads 42 = .ok (.if_icmp .ne 11, 3) := by decide +kernel
theorem dX8_reads_45 : decode cX8_reads 45 = .ok (.iload_n 1, 1) := by decide +kernel
theorem dX8_reads_46 : decode cX8_reads 46 = .ok (.ifCond .eq 7, 3) := by decide +kernel
theorem dX8_reads_49 : decode cX8_reads 49 = .ok (.iconst 1, 1) := by decide +kernel
theorem dX8_reads_50 : decode cX8_reads 50 = .ok (.goto 4, 3) := by decide +kernel
theorem dX8_reads_53 : decode cX8_reads 53 = .ok (.iconst 0, 1) := by decide +kernel
theorem dX8_reads_54 : decode cX8_reads 54 = .ok (.istore_n 3, 1) := by decide +kernel
theorem dX8_reads_55 : decode cX8_reads 55 = .ok (.iload_n 3, 1) := by decide +kernel
theorem dX8_reads_56 : decode cX8_reads 56 = .ok (.ifCond .ne 15, 3) := by decide +kernel
theorem dX8_reads_59 : decode cX8_reads 59 = .ok (.aload_n 0, 1) := by decide +kernel
theorem dX8_reads_60 : decode cX8_reads 60 = .ok (.iconst 1, 1) := by decide +kernel
theorem dX8_reads_61 : decode cX8_reads 61 = .ok (.aload_n 0, 1) := by decide +kernel
theorem dX8_reads_62 : decode cX8_reads 62 = .ok (.getfield 84, 3) := by decide +kernel
theorem dX8_reads_65 : decode cX8_reads 65 = .ok (.invokevirtual 104, 3) := by decide +kernel
theorem dX8_reads_68 : decode cX8_reads 68 = .ok (.goto 91, 3) := by decide +kernel
theorem dX8_reads_71 : decode cX8_reads 71 = .ok (.iload_n 2, 1) := by decide +kernel
theorem dX8_reads_72 : decode cX8_reads 72 = .ok (.bipush 103, 2) := by decide +kernel
theorem dX8_reads_74 : decode cX8_reads 74 = .ok (.if_icmp .ne 7, 3) := by decide +kernel
theorem dX8_reads_77 : decode cX8_reads 77 = .ok (.iload_n 1, 1) := by decide +kernel
theorem dX8_reads_78 : decode cX8_reads 78 = .ok (.ifCond .ne 18, 3) := by decide +kernel
theorem dX8_reads_81 : decode cX8_reads 81 = .ok (.iload_n 2, 1) := by decide +kernel
theorem dX8_reads_82 : decode cX8_reads 82 = .ok (.bipush 115, 2) := by decide +kernel
theorem dX8_reads_84 : decode cX8_reads 84 = .ok (.if_icmp .ne 24, 3) := by decide +kernel
theorem dX8_reads_87 : decode cX8_reads 87 = .ok (.aload_n 0, 1) := by decide +kernel
theorem dX8_reads_88 : decode cX8_reads 88 = .ok (.getfield 108, 3) := by decide +kernel
theorem dX8_reads_91 : decode cX8_reads 91 = .ok (.bipush 9, 2) := by decide +kernel
theorem dX8_reads_93 : decode cX8_reads 93 = .ok (.if_icmp .ne 15, 3) := by decide +kernel
theorem dX8_reads_96 : decode cX8_reads 96 = .ok (.aload_n 0, 1) := by decide +kernel
theorem dX8_reads_97 : decode cX8_reads 97 = .ok (.iconst 3, 1) := by decide +kernel
theorem dX8_reads_98 : decode cX8_reads 98 = .ok (.aload_n 0, 1) := by decide +kernel
theorem dX8_reads_99 : decode cX8_reads 99 = .ok (.getfield 84, 3) := by decide +kernel
theorem dX8_reads_102 : decode cX8_reads 102 = .ok (.invokevirtual 104, 3) := by decide +kernel
theorem dX8_reads_105 : decode cX8_reads 105 = .ok (.goto 54, 3) := by decide +kernel
theorem dX8_reads_108 : decode cX8_reads 108 = .ok (.aload_n 0, 1) := by decide +kernel
theorem dX8_reads_109 : decode cX8_reads 109 = .ok (.dup, 1) := by decide +kernel
theorem dX8_reads_110 : decode cX8_reads 110 = .ok (.getfield 84, 3) := by decide +kernel
theorem dX8_reads_113 : decode cX8_reads 113 = .ok (.iconst 1, 1) := by decide +kernel
theorem dX8_reads_114 : decode cX8_reads 114 = .ok (.iadd, 1) := by decide +kernel
theorem dX8_reads_115 : decode cX8_reads 115 = .ok (.putfield 84, 3) := by decide +kernel
theorem dX8_reads_118 : decode cX8_reads 118 = .ok (.iload_n 2, 1) := by decide +kernel
theorem dX8_reads_119 : decode cX8_reads 119 = .ok (.bipush 103, 2) := by decide +kernel
theorem dX8_reads_121 : decode cX8_reads 121 = .ok (.if_icmp .ne 19, 3) := by decide +kernel
theorem dX8_reads_124 : decode cX8_reads 124 = .ok (.iconst 1, 1) := by decide +kernel
theorem dX8_reads_125 : decode cX8_reads 125 = .ok (.istore_n 1, 1) := by decide +kernel
theorem dX8_reads_126 : decode cX8_reads 126 = .ok (.aload_n 0, 1) := by decide +kernel
theorem dX8_reads_127 : decode cX8_reads 127 = .ok (.aload_n 0, 1) := by decide +kernel
theorem dX8_reads_128 : decode cX8_reads 128 = .ok (.iconst 0, 1) := by decide +kernel
theorem dX8_reads_129 : decode cX8_reads 129 = .ok (.bipush 9, 2) := by decide +kernel
theorem dX8_reads_131 : decode cX8_reads 131 = .ok (.invokevirtual 111, 3) := by decide +kernel
theorem dX8_reads_134 : decode cX8_reads 134 = .ok (.putfield 115, 3) := by decide +kernel
theorem dX8_reads_137 : decode cX8_reads 137 = .ok (.goto 7, 3) := by decide +kernel
theorem dX8_reads_140 : decode cX8_reads 140 = .ok (.aload_n 0, 1) := by decide +kernel
theorem dX8_reads_141 : decode cX8_reads 141 = .ok (.invokevirtual 118, 3) := by decide +kernel
theorem dX8_reads_144 : decode cX8_reads 144 = .ok (.aload_n 0, 1) := by decide +kernel
theorem dX8_reads_145 : decode cX8_reads 145 = .ok (.invokevirtual 94, 3) := by decide +kernel
theorem dX8_reads_148 : decode cX8_reads 148 = .ok (.ifCond .eq 11, 3) := by decide +kernel
theorem dX8_reads_151 : decode cX8_reads 151 = .ok (.aload_n 0, 1) := by decide +kernel
theorem dX8_reads_152 : decode cX8_reads 152 = .ok (.invokevirtual 121, 3) := by decide +kernel
theorem dX8_reads_155 : decode cX8_reads 155 = .ok (.aload_n 0, 1) := by decide +kernel
theorem dX8_reads_156 : decode cX8_reads 156 = .ok (.invokevirtual 101, 3) := by decide +kernel
theorem dX8_reads_159 : decode cX8_reads 159 = .ok (.goto (-153), 3) := by decide +kernel
theorem dX8_reads_162 : decode cX8_reads 162 = .ok (.return_, 1) := by decide +kernel
theorem dX8_county_0 : decode cX8_county 0 = .ok (.aload_n 0, 1) := by decide +kernel
theorem dX8_county_1 : decode cX8_county 1 = .ok (.iconst 0, 1) := by decide +kernel
theorem dX8_county_2 : decode cX8_county 2 = .ok (.putfield 72, 3) := by decide +kernel
theorem dX8_county_5 : decode cX8_county 5 = .ok (.aload_n 0, 1) := by decide +kernel
theorem dX8_county_6 : decode cX8_county 6 = .ok (.iconst 0, 1) := by decide +kernel
theorem dX8_county_7 : decode cX8_county 7 = .ok (.putfield 84, 3) := by decide +kernel
theorem dX8_county_10 : decode cX8_county 10 = .ok (.aload_n 0, 1) := by decide +kernel
theorem dX8_county_11 : decode cX8_county 11 = .ok (.iconst 0, 1) := by decide +kernel
theorem dX8_county_12 : decode cX8_county 12 = .ok (.putfield 91, 3) := by decide +kernel
theorem dX8_county_15 : decode cX8_county 15 = .ok (.aload_n 0, 1) := by decide +kernel
theorem dX8_county_16 : decode cX8_county 16 = .ok (.iconst (-1), 1) := by decide +kernel
theorem dX8_county_17 : decode cX8_county 17 = .ok (.putfield 115, 3) := by decide +kernel
theorem dX8_county_20 : decode cX8_county 20 = .ok (.aload_n 0, 1) := by decide +kernel
theorem dX8_county_21 : decode cX8_county 21 = .ok (.iconst 0, 1) := by decide +kernel
theorem dX8_county_22 : decode cX8_county 22 = .ok (.putfield 108, 3) := by decide +kernel
theorem dX8_county_25 : decode cX8_county 25 = .ok (.aload_n 0, 1) := by decide +kernel
theorem dX8_county_26 : decode cX8_county 26 = .ok (.invokevirtual 124, 3) := by decide +kernel
theorem dX8_county_29 : decode cX8_county 29 = .ok (.aload_n 0, 1) := by decide +kernel
theorem dX8_county_30 : decode cX8_county 30 = .ok (.iconst 0, 1) := by decide +kernel
theorem dX8_county_31 : decode cX8_county 31 = .ok (.putfield 80, 3) := by decide +kernel
theorem dX8_county_34 : decode cX8_county 34 = .ok (.aload_n 0, 1) := by decide +kernel
theorem dX8_county_35 : decode cX8_county 35 = .ok (.aload_n 0, 1) := by decide +kernel
theorem dX8_county_36 : decode cX8_county 36 = .ok (.invokevirtual 94, 3) := by decide +kernel
theorem dX8_county_39 : decode cX8_county 39 = .ok (.ifCond .eq 7, 3) := by decide +kernel
theorem dX8_county_42 : decode cX8_county 42 = .ok (.iconst (-1), 1) := by decide +kernel
theorem dX8_county_43 : decode cX8_county 43 = .ok (.goto 7, 3) := by decide +kernel
theorem dX8_county_46 : decode cX8_county 46 = .ok (.aload_n 0, 1) := by decide +kernel
theorem dX8_county_47 : decode cX8_county 47 = .ok (.getfield 98, 3) := by decide +kernel
theorem dX8_county_50 : decode cX8_county 50 = .ok (.putfield 68, 3) := by decide +kernel
theorem dX8_county_53 : decode cX8_county 53 = .ok (.aload_n 0, 1) := by decide +kernel
theorem dX8_county_54 : decode cX8_county 54 = .ok (.invokevirtual 94, 3) := by decide +kernel
theorem dX8_county_57 : decode cX8_county 57 = .ok (.ifCond .ne 11, 3) := by decide +kernel
theorem dX8_county_60 : decode cX8_county 60 = .ok (.bipush (-10), 2) := by decide +kernel
theorem dX8_county_62 : decode cX8_county 62 = .ok (.aload_n 0, 1) := by decide +kernel
theorem dX8_county_63 : decode cX8_county 63 = .ok (.getfield 91, 3) := by decide +kernel
theorem dX8_county_66 : decode cX8_county 66 = .ok (.isub, 1) := by decide +kernel
theorem dX8_county_67 : decode cX8_county 67 = .ok (.ireturn, 1) := by decide +kernel
theorem dX8_county_68 : decode cX8_county 68 = .ok (.aload_n 0, 1) := by decide +kernel
theorem dX8_county_69 : decode cX8_county 69 = .ok (.invokevirtual 127, 3) := by decide +kernel
theorem dX8_county_72 : decode cX8_county 72 = .ok (.aload_n 0, 1) := by decide +kernel
theorem dX8_county_73 : decode cX8_county 73 = .ok (.getfield 130, 3) := by decide +kernel
theorem dX8_county_76 : decode cX8_county 76 = .ok (.ireturn, 1) := by decide +kernel
theorem dX8_settles_0 : decode cX8_settles 0 = .ok (.aload_n 0, 1) := by decide +kernel
theorem dX8_settles_1 : decode cX8_settles 1 = .ok (.aload_n 0, 1) := by decide +kernel
theorem dX8_settles_2 : decode cX8_settles 2 = .ok (.getfield 115, 3) := by decide +kernel
theorem dX8_settles_5 : decode cX8_settles 5 = .ok (.iconst (-1), 1) := by decide +kernel
theorem dX8_settles_6 : decode cX8_settles 6 = .ok (.if_icmp .eq 7, 3) := by decide +kernel
theorem dX8_settles_9 : decode cX8_settles 9 = .ok (.iconst 1, 1) := by decide +kernel
theorem dX8_settles_10 : decode cX8_settles 10 = .ok (.goto 4, 3) := by decide +kernel
theorem dX8_settles_13 : decode cX8_settles 13 = .ok (.iconst 0, 1) := by decide +kernel
theorem dX8_settles_14 : decode cX8_settles 14 = .ok (.putfield 133, 3) := by decide +kernel
theorem dX8_settles_17 : decode cX8_settles 17 = .ok (.aload_n 0, 1) := by decide +kernel
theorem dX8_settles_18 : decode cX8_settles 18 = .ok (.aload_n 0, 1) := by decide +kernel
theorem dX8_settles_19 : decode cX8_settles 19 = .ok (.getfield 115, 3) := by decide +kernel
theorem dX8_settles_22 : decode cX8_settles 22 = .ok (.putfield 137, 3) := by decide +kernel
theorem dX8_settles_25 : decode cX8_settles 25 = .ok (.aload_n 0, 1) := by decide +kernel
theorem dX8_settles_26 : decode cX8_settles 26 = .ok (.aload_n 0, 1) := by decide +kernel
theorem dX8_settles_27 : decode cX8_settles 27 = .ok (.getfield 108, 3) := by decide +kernel
theorem dX8_settles_30 : decode cX8_settles 30 = .ok (.putfield 130, 3) := by decide +kernel
theorem dX8_settles_33 : decode cX8_settles 33 = .ok (.iconst 0, 1) := by decide +kernel
theorem dX8_settles_34 : decode cX8_settles 34 = .ok (.istore_n 1, 1) := by decide +kernel
theorem dX8_settles_35 : decode cX8_settles 35 = .ok (.iload_n 1, 1) := by decide +kernel
theorem dX8_settles_36 : decode cX8_settles 36 = .ok (.bipush 9, 2) := by decide +kernel
theorem dX8_settles_38 : decode cX8_settles 38 = .ok (.if_icmp .ge 124, 3) := by decide +kernel
theorem dX8_settles_41 : decode cX8_settles 41 = .ok (.iload_n 1, 1) := by decide +kernel
theorem dX8_settles_42 : decode cX8_settles 42 = .ok (.aload_n 0, 1) := by decide +kernel
theorem dX8_settles_43 : decode cX8_settles 43 = .ok (.getfield 130, 3) := by decide +kernel
theorem dX8_settles_46 : decode cX8_settles 46 = .ok (.if_icmp .ge 7, 3) := by decide +kernel
theorem dX8_settles_49 : decode cX8_settles 49 = .ok (.iconst 1, 1) := by decide +kernel
theorem dX8_settles_50 : decode cX8_settles 50 = .ok (.goto 4, 3) := by decide +kernel
theorem dX8_settles_53 : decode cX8_settles 53 = .ok (.iconst 0, 1) := by decide +kernel
theorem dX8_settles_54 : decode cX8_settles 54 = .ok (.istore_n 2, 1) := by decide +kernel
theorem dX8_settles_55 : decode cX8_settles 55 = .ok (.aload_n 0, 1) := by decide +kernel
theorem dX8_settles_56 : decode cX8_settles 56 = .ok (.getfield 19, 3) := by decide +kernel
theorem dX8_settles_59 : decode cX8_settles 59 = .ok (.iconst 0, 1) := by decide +kernel
theorem dX8_settles_60 : decode cX8_settles 60 = .ok (.iload_n 1, 1) := by decide +kernel
theorem dX8_settles_61 : decode cX8_settles 61 = .ok (.iadd, 1) := by decide +kernel
theorem dX8_settles_62 : decode cX8_settles 62 = .ok (.iload_n 1, 1) := by decide +kernel
theorem dX8_settles_63 : decode cX8_settles 63 = .ok (.iastore, 1) := by decide +kernel
theorem dX8_settles_64 : decode cX8_settles 64 = .ok (.aload_n 0, 1) := by decide +kernel
theorem dX8_settles_65 : decode cX8_settles 65 = .ok (.getfield 19, 3) := by decide +kernel
theorem dX8_settles_68 : decode cX8_settles 68 = .ok (.bipush 9, 2) := by decide +kernel
theorem dX8_settles_70 : decode cX8_settles 70 = .ok (.iload_n 1, 1) := by decide +kernel
theorem dX8_settles_71 : decode cX8_settles 71 = .ok (.iadd, 1) := by decide +kernel
theorem dX8_settles_72 : decode cX8_settles 72 = .ok (.iconst 0, 1) := by decide +kernel
theorem dX8_settles_73 : decode cX8_settles 73 = .ok (.iastore, 1) := by decide +kernel
theorem dX8_settles_74 : decode cX8_settles 74 = .ok (.aload_n 0, 1) := by decide +kernel
theorem dX8_settles_75 : decode cX8_settles 75 = .ok (.getfield 19, 3) := by decide +kernel
theorem dX8_settles_78 : decode cX8_settles 78 = .ok (.bipush 18, 2) := by decide +kernel
theorem dX8_settles_80 : decode cX8_settles 80 = .ok (.iload_n 1, 1) := by decide +kernel
theorem dX8_settles_81 : decode cX8_settles 81 = .ok (.iadd, 1) := by decide +kernel
theorem dX8_settles_82 : decode cX8_settles 82 = .ok (.iconst (-1), 1) := by decide +kernel
theorem dX8_settles_83 : decode cX8_settles 83 = .ok (.iastore, 1) := by decide +kernel
theorem dX8_settles_84 : decode cX8_settles 84 = .ok (.aload_n 0, 1) := by decide +kernel
theorem dX8_settles_85 : decode cX8_settles 85 = .ok (.getfield 19, 3) := by decide +kernel
theorem dX8_settles_88 : decode cX8_settles 88 = .ok (.bipush 27, 2) := by decide +kernel
theorem dX8_settles_90 : decode cX8_settles 90 = .ok (.iload_n 1, 1) := by decide +kernel
theorem dX8_settles_91 : decode cX8_settles 91 = .ok (.iadd, 1) := by decide +kernel
theorem dX8_settles_92 : decode cX8_settles 92 = .ok (.iload_n 2, 1) := by decide +kernel
theorem dX8_settles_93 : decode cX8_settles 93 = .ok (.ifCond .eq 12, 3) := by decide +kernel
theorem dX8_settles_96 : decode cX8_settles 96 = .ok (.aload_n 0, 1) := by decide +kernel
theorem dX8_settles_97 : decode cX8_settles 97 = .ok (.getfield 13, 3) := by decide +kernel
theorem dX8_settles_100 : decode cX8_settles 100 = .ok (.iload_n 1, 1) := by decide +kernel
theorem dX8_settles_101 : decode cX8_settles 101 = .ok (.iaload, 1) := by decide +kernel
theorem dX8_settles_102 : decode cX8_settles 102 = .ok (.goto 4, 3) := by decide +kernel
theorem dX8_settles_105 : decode cX8_settles 105 = .ok (.iconst 0, 1) := by decide +kernel
theorem dX8_settles_106 : decode cX8_settles 106 = .ok (.iastore, 1) := by decide +kernel
theorem dX8_settles_107 : decode cX8_settles 107 = .ok (.aload_n 0, 1) := by decide +kernel
theorem dX8_settles_108 : decode cX8_settles 108 = .ok (.getfield 16, 3) := by decide +kernel
theorem dX8_settles_111 : decode cX8_settles 111 = .ok (.iload_n 1, 1) := by decide +kernel
theorem dX8_settles_112 : decode cX8_settles 112 = .ok (.iload_n 2, 1) := by decide +kernel
theorem dX8_settles_113 : decode cX8_settles 113 = .ok (.ifCond .eq 15, 3) := by decide +kernel
theorem dX8_settles_116 : decode cX8_settles 116 = .ok (.aload_n 0, 1) := by decide +kernel
theorem dX8_settles_117 : decode cX8_settles 117 = .ok (.getfield 13, 3) := by decide +kernel
theorem dX8_settles_120 : decode cX8_settles 120 = .ok (.bipush 9, 2) := by decide +kernel
theorem dX8_settles_122 : decode cX8_settles 122 = .ok (.iload_n 1, 1) := by decide +kernel
theorem dX8_settles_123 : decode cX8_settles 123 = .ok (.iadd, 1) := by decide +kernel
theorem dX8_settles_124 : decode cX8_settles 124 = .ok (.iaload, 1) := by decide +kernel
theorem dX8_settles_125 : decode cX8_settles 125 = .ok (.goto 4, 3) := by decide +kernel
theorem dX8_settles_128 : decode cX8_settles 128 = .ok (.iconst 0, 1) := by decide +kernel
theorem dX8_settles_129 : decode cX8_settles 129 = .ok (.iastore, 1) := by decide +kernel
theorem dX8_settles_130 : decode cX8_settles 130 = .ok (.aload_n 0, 1) := by decide +kernel
theorem dX8_settles_131 : decode cX8_settles 131 = .ok (.getfield 19, 3) := by decide +kernel
theorem dX8_settles_134 : decode cX8_settles 134 = .ok (.bipush 36, 2) := by decide +kernel
theorem dX8_settles_136 : decode cX8_settles 136 = .ok (.iload_n 1, 1) := by decide +kernel
theorem dX8_settles_137 : decode cX8_settles 137 = .ok (.iadd, 1) := by decide +kernel
theorem dX8_settles_138 : decode cX8_settles 138 = .ok (.iload_n 2, 1) := by decide +kernel
theorem dX8_settles_139 : decode cX8_settles 139 = .ok (.ifCond .eq 15, 3) := by decide +kernel
theorem dX8_settles_142 : decode cX8_settles 142 = .ok (.aload_n 0, 1) := by decide +kernel
theorem dX8_settles_143 : decode cX8_settles 143 = .ok (.getfield 13, 3) := by decide +kernel
theorem dX8_settles_146 : decode cX8_settles 146 = .ok (.bipush 18, 2) := by decide +kernel
theorem dX8_settles_148 : decode cX8_settles 148 = .ok (.iload_n 1, 1) := by decide +kernel
theorem dX8_settles_149 : decode cX8_settles 149 = .ok (.iadd, 1) := by decide +kernel
theorem dX8_settles_150 : decode cX8_settles 150 = .ok (.iaload, 1) := by decide +kernel
theorem dX8_settles_151 : decode cX8_settles 151 = .ok (.goto 4, 3) := by decide +kernel
theorem dX8_settles_154 : decode cX8_settles 154 = .ok (.iconst 0, 1) := by decide +kernel
theorem dX8_settles_155 : decode cX8_settles 155 = .ok (.iastore, 1) := by decide +kernel
theorem dX8_settles_156 : decode cX8_settles 156 = .ok (.iinc 1 1, 3) := by decide +kernel
theorem dX8_settles_159 : decode cX8_settles 159 = .ok (.goto (-124), 3) := by decide +kernel
theorem dX8_settles_162 : decode cX8_settles 162 = .ok (.aload_n 0, 1) := by decide +kernel
theorem dX8_settles_163 : decode cX8_settles 163 = .ok (.getfield 19, 3) := by decide +kernel
theorem dX8_settles_166 : decode cX8_settles 166 = .ok (.bipush 45, 2) := by decide +kernel
theorem dX8_settles_168 : decode cX8_settles 168 = .ok (.iconst 1, 1) := by decide +kernel
theorem dX8_settles_169 : decode cX8_settles 169 = .ok (.aload_n 0, 1) := by decide +kernel
theorem dX8_settles_170 : decode cX8_settles 170 = .ok (.getfield 130, 3) := by decide +kernel
theorem dX8_settles_173 : decode cX8_settles 173 = .ok (.ishl, 1) := by decide +kernel
theorem dX8_settles_174 : decode cX8_settles 174 = .ok (.iconst 1, 1) := by decide +kernel
theorem dX8_settles_175 : decode cX8_settles 175 = .ok (.isub, 1) := by decide +kernel
theorem dX8_settles_176 : decode cX8_settles 176 = .ok (.iastore, 1) := by decide +kernel
theorem dX8_settles_177 : decode cX8_settles 177 = .ok (.aload_n 0, 1) := by decide +kernel
theorem dX8_settles_178 : decode cX8_settles 178 = .ok (.getfield 19, 3) := by decide +kernel
theorem dX8_settles_181 : decode cX8_settles 181 = .ok (.bipush 46, 2) := by decide +kernel
theorem dX8_settles_183 : decode cX8_settles 183 = .ok (.iconst 0, 1) := by decide +kernel
theorem dX8_settles_184 : decode cX8_settles 184 = .ok (.iastore, 1) := by decide +kernel
theorem dX8_settles_185 : decode cX8_settles 185 = .ok (.aload_n 0, 1) := by decide +kernel
theorem dX8_settles_186 : decode cX8_settles 186 = .ok (.getfield 19, 3) := by decide +kernel
theorem dX8_settles_189 : decode cX8_settles 189 = .ok (.bipush 47, 2) := by decide +kernel
theorem dX8_settles_191 : decode cX8_settles 191 = .ok (.iconst 0, 1) := by decide +kernel
theorem dX8_settles_192 : decode cX8_settles 192 = .ok (.iastore, 1) := by decide +kernel
theorem dX8_settles_193 : decode cX8_settles 193 = .ok (.aload_n 0, 1) := by decide +kernel
theorem dX8_settles_194 : decode cX8_settles 194 = .ok (.iconst 0, 1) := by decide +kernel
theorem dX8_settles_195 : decode cX8_settles 195 = .ok (.putfield 140, 3) := by decide +kernel
theorem dX8_settles_198 : decode cX8_settles 198 = .ok (.aload_n 0, 1) := by decide +kernel
theorem dX8_settles_199 : decode cX8_settles 199 = .ok (.iconst 0, 1) := by decide +kernel
theorem dX8_settles_200 : decode cX8_settles 200 = .ok (.putfield 143, 3) := by decide +kernel
theorem dX8_settles_203 : decode cX8_settles 203 = .ok (.aload_n 0, 1) := by decide +kernel
theorem dX8_settles_204 : decode cX8_settles 204 = .ok (.getfield 25, 3) := by decide +kernel
theorem dX8_settles_207 : decode cX8_settles 207 = .ok (.iconst 0, 1) := by decide +kernel
theorem dX8_settles_208 : decode cX8_settles 208 = .ok (.iconst 0, 1) := by decide +kernel
theorem dX8_settles_209 : decode cX8_settles 209 = .ok (.bastore, 1) := by decide +kernel
theorem dX8_settles_210 : decode cX8_settles 210 = .ok (.aload_n 0, 1) := by decide +kernel
theorem dX8_settles_211 : decode cX8_settles 211 = .ok (.getfield 25, 3) := by decide +kernel
theorem dX8_settles_214 : decode cX8_settles 214 = .ok (.iconst 1, 1) := by decide +kernel
theorem dX8_settles_215 : decode cX8_settles 215 = .ok (.iconst 0, 1) := by decide +kernel
theorem dX8_settles_216 : decode cX8_settles 216 = .ok (.bastore, 1) := by decide +kernel
theorem dX8_settles_217 : decode cX8_settles 217 = .ok (.return_, 1) := by decide +kernel
theorem dX8_fault_0 : decode cX8_fault 0 = .ok (.aload_n 0, 1) := by decide +kernel
theorem dX8_fault_1 : decode cX8_fault 1 = .ok (.iconst 0, 1) := by decide +kernel
theorem dX8_fault_2 : decode cX8_fault 2 = .ok (.putfield 72, 3) := by decide +kernel
theorem dX8_fault_5 : decode cX8_fault 5 = .ok (.aload_n 0, 1) := by decide +kernel
theorem dX8_fault_6 : decode cX8_fault 6 = .ok (.getfield 68, 3) := by decide +kernel
theorem dX8_fault_9 : decode cX8_fault 9 = .ok (.ireturn, 1) := by decide +kernel
theorem dX8_isSkittle_0 : decode cX8_isSkittle 0 = .ok (.iload_n 1, 1) := by decide +kernel
theorem dX8_isSkittle_1 : decode cX8_isSkittle 1 = .ok (.iconst 0, 1) := by decide +kernel
theorem dX8_isSkittle_2 : decode cX8_isSkittle 2 = .ok (.aload_n 0, 1) := by decide +kernel
theorem dX8_isSkittle_3 : decode cX8_isSkittle 3 = .ok (.getfield 130, 3) := by decide +kernel
theorem dX8_isSkittle_6 : decode cX8_isSkittle 6 = .ok (.iconst 1, 1) := by decide +kernel
theorem dX8_isSkittle_7 : decode cX8_isSkittle 7 = .ok (.isub, 1) := by decide +kernel
theorem dX8_isSkittle_8 : decode cX8_isSkittle 8 = .ok (.invokestatic 75, 3) := by decide +kernel
theorem dX8_isSkittle_11 : decode cX8_isSkittle 11 = .ok (.ireturn, 1) := by decide +kernel
theorem dX8_isSet_0 : decode cX8_isSet 0 = .ok (.iload_n 1, 1) := by decide +kernel
theorem dX8_isSet_1 : decode cX8_isSet 1 = .ok (.iconst 0, 1) := by decide +kernel
theorem dX8_isSet_2 : decode cX8_isSet 2 = .ok (.iconst 1, 1) := by decide +kernel
theorem dX8_isSet_3 : decode cX8_isSet 3 = .ok (.aload_n 0, 1) := by decide +kernel
theorem dX8_isSet_4 : decode cX8_isSet 4 = .ok (.getfield 130, 3) := by decide +kernel
theorem dX8_isSet_7 : decode cX8_isSet 7 = .ok (.ishl, 1) := by decide +kernel
theorem dX8_isSet_8 : decode cX8_isSet 8 = .ok (.iconst 1, 1) := by decide +kernel
theorem dX8_isSet_9 : decode cX8_isSet 9 = .ok (.isub, 1) := by decide +kernel
theorem dX8_isSet_10 : decode cX8_isSet 10 = .ok (.invokestatic 75, 3) := by decide +kernel
theorem dX8_isSet_13 : decode cX8_isSet 13 = .ok (.ireturn, 1) := by decide +kernel
theorem dX8_isPlate_0 : decode cX8_isPlate 0 = .ok (.iload_n 0, 1) := by decide +kernel
theorem dX8_isPlate_1 : decode cX8_isPlate 1 = .ok (.iconst 0, 1) := by decide +kernel
theorem dX8_isPlate_2 : decode cX8_isPlate 2 = .ok (.bipush 8, 2) := by decide +kernel
theorem dX8_isPlate_4 : decode cX8_isPlate 4 = .ok (.invokestatic 75, 3) := by decide +kernel
theorem dX8_isPlate_7 : decode cX8_isPlate 7 = .ok (.ireturn, 1) := by decide +kernel
theorem dX8_rowOf_0 : decode cX8_rowOf 0 = .ok (.iload_n 0, 1) := by decide +kernel
theorem dX8_rowOf_1 : decode cX8_rowOf 1 = .ok (.ifCond .ne 7, 3) := by decide +kernel
theorem dX8_rowOf_4 : decode cX8_rowOf 4 = .ok (.iconst 0, 1) := by decide +kernel
theorem dX8_rowOf_5 : decode cX8_rowOf 5 = .ok (.goto 33, 3) := by decide +kernel
theorem dX8_rowOf_8 : decode cX8_rowOf 8 = .ok (.iload_n 0, 1) := by decide +kernel
theorem dX8_rowOf_9 : decode cX8_rowOf 9 = .ok (.iconst 3, 1) := by decide +kernel
theorem dX8_rowOf_10 : decode cX8_rowOf 10 = .ok (.if_icmp .ge 7, 3) := by decide +kernel
theorem dX8_rowOf_13 : decode cX8_rowOf 13 = .ok (.iconst 1, 1) := by decide +kernel
theorem dX8_rowOf_14 : decode cX8_rowOf 14 = .ok (.goto 24, 3) := by decide +kernel
theorem dX8_rowOf_17 : decode cX8_rowOf 17 = .ok (.iload_n 0, 1) := by decide +kernel
theorem dX8_rowOf_18 : decode cX8_rowOf 18 = .ok (.bipush 6, 2) := by decide +kernel
theorem dX8_rowOf_20 : decode cX8_rowOf 20 = .ok (.if_icmp .ge 7, 3) := by decide +kernel
theorem dX8_rowOf_23 : decode cX8_rowOf 23 = .ok (.iconst 2, 1) := by decide +kernel
theorem dX8_rowOf_24 : decode cX8_rowOf 24 = .ok (.goto 14, 3) := by decide +kernel
theorem dX8_rowOf_27 : decode cX8_rowOf 27 = .ok (.iload_n 0, 1) := by decide +kernel
theorem dX8_rowOf_28 : decode cX8_rowOf 28 = .ok (.bipush 8, 2) := by decide +kernel
theorem dX8_rowOf_30 : decode cX8_rowOf 30 = .ok (.if_icmp .ge 7, 3) := by decide +kernel
theorem dX8_rowOf_33 : decode cX8_rowOf 33 = .ok (.iconst 3, 1) := by decide +kernel
theorem dX8_rowOf_34 : decode cX8_rowOf 34 = .ok (.goto 4, 3) := by decide +kernel
theorem dX8_rowOf_37 : decode cX8_rowOf 37 = .ok (.iconst 4, 1) := by decide +kernel
theorem dX8_rowOf_38 : decode cX8_rowOf 38 = .ok (.ireturn, 1) := by decide +kernel
theorem dX8_columnOf_0 : decode cX8_columnOf 0 = .ok (.iload_n 0, 1) := by decide +kernel
theorem dX8_columnOf_1 : decode cX8_columnOf 1 = .ok (.ifCond .eq 9, 3) := by decide +kernel
theorem dX8_columnOf_4 : decode cX8_columnOf 4 = .ok (.iload_n 0, 1) := by decide +kernel
theorem dX8_columnOf_5 : decode cX8_columnOf 5 = .ok (.bipush 8, 2) := by decide +kernel
theorem dX8_columnOf_7 : decode cX8_columnOf 7 = .ok (.if_icmp .ne 7, 3) := by decide +kernel
theorem dX8_columnOf_10 : decode cX8_columnOf 10 = .ok (.iconst 2, 1) := by decide +kernel
theorem dX8_columnOf_11 : decode cX8_columnOf 11 = .ok (.goto 37, 3) := by decide +kernel
theorem dX8_columnOf_14 : decode cX8_columnOf 14 = .ok (.iload_n 0, 1) := by decide +kernel
theorem dX8_columnOf_15 : decode cX8_columnOf 15 = .ok (.iconst 3, 1) := by decide +kernel
theorem dX8_columnOf_16 : decode cX8_columnOf 16 = .ok (.if_icmp .ge 11, 3) := by decide +kernel
theorem dX8_columnOf_19 : decode cX8_columnOf 19 = .ok (.iconst 2, 1) := by decide +kernel
theorem dX8_columnOf_20 : decode cX8_columnOf 20 = .ok (.iload_n 0, 1) := by decide +kernel
theorem dX8_columnOf_21 : decode cX8_columnOf 21 = .ok (.imul, 1) := by decide +kernel
theorem dX8_columnOf_22 : decode cX8_columnOf 22 = .ok (.iconst 1, 1) := by decide +kernel
theorem dX8_columnOf_23 : decode cX8_columnOf 23 = .ok (.isub, 1) := by decide +kernel
theorem dX8_columnOf_24 : decode cX8_columnOf 24 = .ok (.goto 24, 3) := by decide +kernel
theorem dX8_columnOf_27 : decode cX8_columnOf 27 = .ok (.iload_n 0, 1) := by decide +kernel
theorem dX8_columnOf_28 : decode cX8_columnOf 28 = .ok (.bipush 6, 2) := by decide +kernel
theorem dX8_columnOf_30 : decode cX8_columnOf 30 = .ok (.if_icmp .ge 12, 3) := by decide +kernel
theorem dX8_columnOf_33 : decode cX8_columnOf 33 = .ok (.iconst 2, 1) := by decide +kernel
theorem dX8_columnOf_34 : decode cX8_columnOf 34 = .ok (.iload_n 0, 1) := by decide +kernel
theorem dX8_columnOf_35 : decode cX8_columnOf 35 = .ok (.imul, 1) := by decide +kernel
theorem dX8_columnOf_36 : decode cX8_columnOf 36 = .ok (.bipush 6, 2) := by decide +kernel
theorem dX8_columnOf_38 : decode cX8_columnOf 38 = .ok (.isub, 1) := by decide +kernel
theorem dX8_columnOf_39 : decode cX8_columnOf 39 = .ok (.goto 9, 3) := by decide +kernel
theorem dX8_columnOf_42 : decode cX8_columnOf 42 = .ok (.iconst 2, 1) := by decide +kernel
theorem dX8_columnOf_43 : decode cX8_columnOf 43 = .ok (.iload_n 0, 1) := by decide +kernel
theorem dX8_columnOf_44 : decode cX8_columnOf 44 = .ok (.imul, 1) := by decide +kernel
theorem dX8_columnOf_45 : decode cX8_columnOf 45 = .ok (.bipush 11, 2) := by decide +kernel
theorem dX8_columnOf_47 : decode cX8_columnOf 47 = .ok (.isub, 1) := by decide +kernel
theorem dX8_columnOf_48 : decode cX8_columnOf 48 = .ok (.ireturn, 1) := by decide +kernel
theorem dX8_plateAt_0 : decode cX8_plateAt 0 = .ok (.iconst 0, 1) := by decide +kernel
theorem dX8_plateAt_1 : decode cX8_plateAt 1 = .ok (.istore_n 2, 1) := by decide +kernel
theorem dX8_plateAt_2 : decode cX8_plateAt 2 = .ok (.iload_n 2, 1) := by decide +kernel
theorem dX8_plateAt_3 : decode cX8_plateAt 3 = .ok (.bipush 9, 2) := by decide +kernel
theorem dX8_plateAt_5 : decode cX8_plateAt 5 = .ok (.if_icmp .ge 27, 3) := by decide +kernel
theorem dX8_plateAt_8 : decode cX8_plateAt 8 = .ok (.iload_n 2, 1) := by decide +kernel
theorem dX8_plateAt_9 : decode cX8_plateAt 9 = .ok (.invokestatic 146, 3) := by decide +kernel
theorem dX8_plateAt_12 : decode cX8_plateAt 12 = .ok (.iload_n 0, 1) := by decide +kernel
theorem dX8_plateAt_13 : decode cX8_plateAt 13 = .ok (.if_icmp .ne 13, 3) := by decide +kernel
theorem dX8_plateAt_16 : decode cX8_plateAt 16 = .ok (.iload_n 2, 1) := by decide +kernel
theorem dX8_plateAt_17 : decode cX8_plateAt 17 = .ok (.invokestatic 149, 3) := by decide +kernel
theorem dX8_plateAt_20 : decode cX8_plateAt 20 = .ok (.iload_n 1, 1) := by decide +kernel
theorem dX8_plateAt_21 : decode cX8_plateAt 21 = .ok (.if_icmp .ne 5, 3) := by decide +kernel
theorem dX8_plateAt_24 : decode cX8_plateAt 24 = .ok (.iload_n 2, 1) := by decide +kernel
theorem dX8_plateAt_25 : decode cX8_plateAt 25 = .ok (.ireturn, 1) := by decide +kernel
theorem dX8_plateAt_26 : decode cX8_plateAt 26 = .ok (.iinc 2 1, 3) := by decide +kernel
theorem dX8_plateAt_29 : decode cX8_plateAt 29 = .ok (.goto (-27), 3) := by decide +kernel
theorem dX8_plateAt_32 : decode cX8_plateAt 32 = .ok (.iconst (-1), 1) := by decide +kernel
theorem dX8_plateAt_33 : decode cX8_plateAt 33 = .ok (.ireturn, 1) := by decide +kernel
theorem dX8_bearsOn_0 : decode cX8_bearsOn 0 = .ok (.aload_n 0, 1) := by decide +kernel
theorem dX8_bearsOn_1 : decode cX8_bearsOn 1 = .ok (.getfield 19, 3) := by decide +kernel
theorem dX8_bearsOn_4 : decode cX8_bearsOn 4 = .ok (.bipush 27, 2) := by decide +kernel
theorem dX8_bearsOn_6 : decode cX8_bearsOn 6 = .ok (.iload_n 1, 1) := by decide +kernel
theorem dX8_bearsOn_7 : decode cX8_bearsOn 7 = .ok (.iadd, 1) := by decide +kernel
theorem dX8_bearsOn_8 : decode cX8_bearsOn 8 = .ok (.iaload, 1) := by decide +kernel
theorem dX8_bearsOn_9 : decode cX8_bearsOn 9 = .ok (.istore_n 3, 1) := by decide +kernel
theorem dX8_bearsOn_10 : decode cX8_bearsOn 10 = .ok (.aload_n 0, 1) := by decide +kernel
theorem dX8_bearsOn_11 : decode cX8_bearsOn 11 = .ok (.getfield 19, 3) := by decide +kernel
theorem dX8_bearsOn_14 : decode cX8_bearsOn 14 = .ok (.bipush 36, 2) := by decide +kernel
theorem dX8_bearsOn_16 : decode cX8_bearsOn 16 = .ok (.iload_n 1, 1) := by decide +kernel
theorem dX8_bearsOn_17 : decode cX8_bearsOn 17 = .ok (.iadd, 1) := by decide +kernel
theorem dX8_bearsOn_18 : decode cX8_bearsOn 18 = .ok (.iaload, 1) := by decide +kernel
theorem dX8_bearsOn_19 : decode cX8_bearsOn 19 = .ok (.istore 4, 2) := by decide +kernel
theorem dX8_bearsOn_21 : decode cX8_bearsOn 21 = .ok (.iload_n 3, 1) := by decide +kernel
theorem dX8_bearsOn_22 : decode cX8_bearsOn 22 = .ok (.iconst 3, 1) := by decide +kernel
theorem dX8_bearsOn_23 : decode cX8_bearsOn 23 = .ok (.if_icmp .ne 14, 3) := by decide +kernel
theorem dX8_bearsOn_26 : decode cX8_bearsOn 26 = .ok (.aload_n 0, 1) := by decide +kernel
theorem dX8_bearsOn_27 : decode cX8_bearsOn 27 = .ok (.getfield 16, 3) := by decide +kernel
theorem dX8_bearsOn_30 : decode cX8_bearsOn 30 = .ok (.iload_n 1, 1) := by decide +kernel
theorem dX8_bearsOn_31 : decode cX8_bearsOn 31 = .ok (.iaload, 1) := by decide +kernel
theorem dX8_bearsOn_32 : decode cX8_bearsOn 32 = .ok (.iconst 2, 1) := by decide +kernel
theorem dX8_bearsOn_33 : decode cX8_bearsOn 33 = .ok (.idiv, 1) := by decide +kernel
theorem dX8_bearsOn_34 : decode cX8_bearsOn 34 = .ok (.goto 24, 3) := by decide +kernel
theorem dX8_bearsOn_37 : decode cX8_bearsOn 37 = .ok (.aload_n 0, 1) := by decide +kernel
theorem dX8_bearsOn_38 : decode cX8_bearsOn 38 = .ok (.getfield 16, 3) := by decide +kernel
theorem dX8_bearsOn_41 : decode cX8_bearsOn 41 = .ok (.iload_n 1, 1) := by decide +kernel
theorem dX8_bearsOn_42 : decode cX8_bearsOn 42 = .ok (.iaload, 1) := by decide +kernel
theorem dX8_bearsOn_43 : decode cX8_bearsOn 43 = .ok (.iload_n 3, 1) := by decide +kernel
theorem dX8_bearsOn_44 : decode cX8_bearsOn 44 = .ok (.iconst 1, 1) := by decide +kernel
theorem dX8_bearsOn_45 : decode cX8_bearsOn 45 = .ok (.if_icmp .ne 10, 3) := by decide +kernel
theorem dX8_bearsOn_48 : decode cX8_bearsOn 48 = .ok (.iload 4, 2) := by decide +kernel
theorem dX8_bearsOn_50 : decode cX8_bearsOn 50 = .ok (.iconst 2, 1) := by decide +kernel
theorem dX8_bearsOn_51 : decode cX8_bearsOn 51 = .ok (.idiv, 1) := by decide +kernel
theorem dX8_bearsOn_52 : decode cX8_bearsOn 52 = .ok (.goto 5, 3) := by decide +kernel
theorem dX8_bearsOn_55 : decode cX8_bearsOn 55 = .ok (.iload 4, 2) := by decide +kernel
theorem dX8_bearsOn_57 : decode cX8_bearsOn 57 = .ok (.isub, 1) := by decide +kernel
theorem dX8_bearsOn_58 : decode cX8_bearsOn 58 = .ok (.istore 5, 2) := by decide +kernel
theorem dX8_bearsOn_60 : decode cX8_bearsOn 60 = .ok (.iload 5, 2) := by decide +kernel
theorem dX8_bearsOn_62 : decode cX8_bearsOn 62 = .ok (.iload_n 3, 1) := by decide +kernel
theorem dX8_bearsOn_63 : decode cX8_bearsOn 63 = .ok (.iconst 2, 1) := by decide +kernel
theorem dX8_bearsOn_64 : decode cX8_bearsOn 64 = .ok (.if_icmp .ne 14, 3) := by decide +kernel
theorem dX8_bearsOn_67 : decode cX8_bearsOn 67 = .ok (.iload_n 2, 1) := by decide +kernel
theorem dX8_bearsOn_68 : decode cX8_bearsOn 68 = .ok (.invokestatic 146, 3) := by decide +kernel
theorem dX8_bearsOn_71 : decode cX8_bearsOn 71 = .ok (.ifCond .ne 7, 3) := by decide +kernel
theorem dX8_bearsOn_74 : decode cX8_bearsOn 74 = .ok (.iconst 2, 1) := by decide +kernel
theorem dX8_bearsOn_75 : decode cX8_bearsOn 75 = .ok (.goto 4, 3) := by decide +kernel
theorem dX8_bearsOn_78 : decode cX8_bearsOn 78 = .ok (.iconst 0, 1) := by decide +kernel
theorem dX8_bearsOn_79 : decode cX8_bearsOn 79 = .ok (.iadd, 1) := by decide +kernel
theorem dX8_bearsOn_80 : decode cX8_bearsOn 80 = .ok (.istore 5, 2) := by decide +kernel
theorem dX8_bearsOn_82 : decode cX8_bearsOn 82 = .ok (.iload 5, 2) := by decide +kernel
theorem dX8_bearsOn_84 : decode cX8_bearsOn 84 = .ok (.iconst 1, 1) := by decide +kernel
theorem dX8_bearsOn_85 : decode cX8_bearsOn 85 = .ok (.if_icmp .ge 7, 3) := by decide +kernel
theorem dX8_bearsOn_88 : decode cX8_bearsOn 88 = .ok (.iconst 1, 1) := by decide +kernel
theorem dX8_bearsOn_89 : decode cX8_bearsOn 89 = .ok (.goto 5, 3) := by decide +kernel
theorem dX8_bearsOn_92 : decode cX8_bearsOn 92 = .ok (.iload 5, 2) := by decide +kernel
theorem dX8_bearsOn_94 : decode cX8_bearsOn 94 = .ok (.ireturn, 1) := by decide +kernel
theorem dX8_sets_0 : decode cX8_sets 0 = .ok (.iconst 0, 1) := by decide +kernel
theorem dX8_sets_1 : decode cX8_sets 1 = .ok (.istore_n 3, 1) := by decide +kernel
theorem dX8_sets_2 : decode cX8_sets 2 = .ok (.iload_n 3, 1) := by decide +kernel
theorem dX8_sets_3 : decode cX8_sets 3 = .ok (.bipush 9, 2) := by decide +kernel
theorem dX8_sets_5 : decode cX8_sets 5 = .ok (.if_icmp .ge 16, 3) := by decide +kernel
theorem dX8_sets_8 : decode cX8_sets 8 = .ok (.aload_n 0, 1) := by decide +kernel
theorem dX8_sets_9 : decode cX8_sets 9 = .ok (.getfield 38, 3) := by decide +kernel
theorem dX8_sets_12 : decode cX8_sets 12 = .ok (.iload_n 3, 1) := by decide +kernel
theorem dX8_sets_13 : decode cX8_sets 13 = .ok (.iconst (-1), 1) := by decide +kernel
theorem dX8_sets_14 : decode cX8_sets 14 = .ok (.iastore, 1) := by decide +kernel
theorem dX8_sets_15 : decode cX8_sets 15 = .ok (.iinc 3 1, 3) := by decide +kernel
theorem dX8_sets_18 : decode cX8_sets 18 = .ok (.goto (-16), 3) := by decide +kernel
theorem dX8_sets_21 : decode cX8_sets 21 = .ok (.iconst 0, 1) := by decide +kernel
theorem dX8_sets_22 : decode cX8_sets 22 = .ok (.istore_n 3, 1) := by decide +kernel
theorem dX8_sets_23 : decode cX8_sets 23 = .ok (.iload_n 3, 1) := by decide +kernel
theorem dX8_sets_24 : decode cX8_sets 24 = .ok (.aload_n 0, 1) := by decide +kernel
theorem dX8_sets_25 : decode cX8_sets 25 = .ok (.getfield 130, 3) := by decide +kernel
theorem dX8_sets_28 : decode cX8_sets 28 = .ok (.if_icmp .ge 64, 3) := by decide +kernel
theorem dX8_sets_31 : decode cX8_sets 31 = .ok (.aload_n 0, 1) := by decide +kernel
theorem dX8_sets_32 : decode cX8_sets 32 = .ok (.getfield 19, 3) := by decide +kernel
theorem dX8_sets_35 : decode cX8_sets 35 = .ok (.iconst 0, 1) := by decide +kernel
theorem dX8_sets_36 : decode cX8_sets 36 = .ok (.iload_n 3, 1) := by decide +kernel
theorem dX8_sets_37 : decode cX8_sets 37 = .ok (.iadd, 1) := by decide +kernel
theorem dX8_sets_38 : decode cX8_sets 38 = .ok (.iaload, 1) := by decide +kernel
theorem dX8_sets_39 : decode cX8_sets 39 = .ok (.istore 4, 2) := by decide +kernel
theorem dX8_sets_41 : decode cX8_sets 41 = .ok (.iload 4, 2) := by decide +kernel
theorem dX8_sets_43 : decode cX8_sets 43 = .ok (.iload_n 1, 1) := by decide +kernel
theorem dX8_sets_44 : decode cX8_sets 44 = .ok (.if_icmp .ne 7, 3) := by decide +kernel
theorem dX8_sets_47 : decode cX8_sets 47 = .ok (.iload_n 2, 1) := by decide +kernel
theorem dX8_sets_48 : decode cX8_sets 48 = .ok (.goto 15, 3) := by decide +kernel
theorem dX8_sets_51 : decode cX8_sets 51 = .ok (.iload 4, 2) := by decide +kernel
theorem dX8_sets_53 : decode cX8_sets 53 = .ok (.iload_n 2, 1) := by decide +kernel
theorem dX8_sets_54 : decode cX8_sets 54 = .ok (.if_icmp .ne 7, 3) := by decide +kernel
theorem dX8_sets_57 : decode cX8_sets 57 = .ok (.iload_n 1, 1) := by decide +kernel
theorem dX8_sets_58 : decode cX8_sets 58 = .ok (.goto 5, 3) := by decide +kernel
theorem dX8_sets_61 : decode cX8_sets 61 = .ok (.iload 4, 2) := by decide +kernel
theorem dX8_sets_63 : decode cX8_sets 63 = .ok (.istore 4, 2) := by decide +kernel
theorem dX8_sets_65 : decode cX8_sets 65 = .ok (.aload_n 0, 1) := by decide +kernel
theorem dX8_sets_66 : decode cX8_sets 66 = .ok (.getfield 38, 3) := by decide +kernel
theorem dX8_sets_69 : decode cX8_sets 69 = .ok (.iload 4, 2) := by decide +kernel
theorem dX8_sets_71 : decode cX8_sets 71 = .ok (.iload_n 3, 1) := by decide +kernel
theorem dX8_sets_72 : decode cX8_sets 72 = .ok (.iastore, 1) := by decide +kernel
theorem dX8_sets_73 : decode cX8_sets 73 = .ok (.aload_n 0, 1) := by decide +kernel
theorem dX8_sets_74 : decode cX8_sets 74 = .ok (.getfield 41, 3) := by decide +kernel
theorem dX8_sets_77 : decode cX8_sets 77 = .ok (.iload_n 3, 1) := by decide +kernel
theorem dX8_sets_78 : decode cX8_sets 78 = .ok (.aload_n 0, 1) := by decide +kernel
theorem dX8_sets_79 : decode cX8_sets 79 = .ok (.iload_n 3, 1) := by decide +kernel
theorem dX8_sets_80 : decode cX8_sets 80 = .ok (.iload 4, 2) := by decide +kernel
theorem dX8_sets_82 : decode cX8_sets 82 = .ok (.invokevirtual 152, 3) := by decide +kernel
theorem dX8_sets_85 : decode cX8_sets 85 = .ok (.iastore, 1) := by decide +kernel
theorem dX8_sets_86 : decode cX8_sets 86 = .ok (.iinc 3 1, 3) := by decide +kernel
theorem dX8_sets_89 : decode cX8_sets 89 = .ok (.goto (-66), 3) := by decide +kernel
theorem dX8_sets_92 : decode cX8_sets 92 = .ok (.return_, 1) := by decide +kernel
theorem dX8_rocksNow_0 : decode cX8_rocksNow 0 = .ok (.aload_n 0, 1) := by decide +kernel
theorem dX8_rocksNow_1 : decode cX8_rocksNow 1 = .ok (.getfield 44, 3) := by decide +kernel
theorem dX8_rocksNow_4 : decode cX8_rocksNow 4 = .ok (.iload_n 1, 1) := by decide +kernel
theorem dX8_rocksNow_5 : decode cX8_rocksNow 5 = .ok (.dup2, 1) := by decide +kernel
theorem dX8_rocksNow_6 : decode cX8_rocksNow 6 = .ok (.iaload, 1) := by decide +kernel
theorem dX8_rocksNow_7 : decode cX8_rocksNow 7 = .ok (.iconst 1, 1) := by decide +kernel
theorem dX8_rocksNow_8 : decode cX8_rocksNow 8 = .ok (.iadd, 1) := by decide +kernel
theorem dX8_rocksNow_9 : decode cX8_rocksNow 9 = .ok (.iastore, 1) := by decide +kernel
theorem dX8_rocksNow_10 : decode cX8_rocksNow 10 = .ok (.aload_n 0, 1) := by decide +kernel
theorem dX8_rocksNow_11 : decode cX8_rocksNow 11 = .ok (.dup, 1) := by decide +kernel
theorem dX8_rocksNow_12 : decode cX8_rocksNow 12 = .ok (.getfield 155, 3) := by decide +kernel
theorem dX8_rocksNow_15 : decode cX8_rocksNow 15 = .ok (.iconst 1, 1) := by decide +kernel
theorem dX8_rocksNow_16 : decode cX8_rocksNow 16 = .ok (.iadd, 1) := by decide +kernel
theorem dX8_rocksNow_17 : decode cX8_rocksNow 17 = .ok (.putfield 155, 3) := by decide +kernel
theorem dX8_rocksNow_20 : decode cX8_rocksNow 20 = .ok (.return_, 1) := by decide +kernel
theorem dX8_fallsNow_0 : decode cX8_fallsNow 0 = .ok (.aload_n 0, 1) := by decide +kernel
theorem dX8_fallsNow_1 : decode cX8_fallsNow 1 = .ok (.dup, 1) := by decide +kernel
theorem dX8_fallsNow_2 : decode cX8_fallsNow 2 = .ok (.getfield 158, 3) := by decide +kernel
theorem dX8_fallsNow_5 : decode cX8_fallsNow 5 = .ok (.iconst 1, 1) := by decide +kernel
theorem dX8_fallsNow_6 : decode cX8_fallsNow 6 = .ok (.iload_n 1, 1) := by decide +kernel
theorem dX8_fallsNow_7 : decode cX8_fallsNow 7 = .ok (.ishl, 1) := by decide +kernel
theorem dX8_fallsNow_8 : decode cX8_fallsNow 8 = .ok (.iconst (-1), 1) := by decide +kernel
theorem dX8_fallsNow_9 : decode cX8_fallsNow 9 = .ok (.ixor, 1) := by decide +kernel
theorem dX8_fallsNow_10 : decode cX8_fallsNow 10 = .ok (.iand, 1) := by decide +kernel
theorem dX8_fallsNow_11 : decode cX8_fallsNow 11 = .ok (.putfield 158, 3) := by decide +kernel
theorem dX8_fallsNow_14 : decode cX8_fallsNow 14 = .ok (.aload_n 0, 1) := by decide +kernel
theorem dX8_fallsNow_15 : decode cX8_fallsNow 15 = .ok (.getfield 47, 3) := by decide +kernel
theorem dX8_fallsNow_18 : decode cX8_fallsNow 18 = .ok (.iload_n 1, 1) := by decide +kernel
theorem dX8_fallsNow_19 : decode cX8_fallsNow 19 = .ok (.iload_n 2, 1) := by decide +kernel
theorem dX8_fallsNow_20 : decode cX8_fallsNow 20 = .ok (.iastore, 1) := by decide +kernel
theorem dX8_fallsNow_21 : decode cX8_fallsNow 21 = .ok (.return_, 1) := by decide +kernel
theorem dX8_plateOf_0 : decode cX8_plateOf 0 = .ok (.iconst 0, 1) := by decide +kernel
theorem dX8_plateOf_1 : decode cX8_plateOf 1 = .ok (.istore_n 2, 1) := by decide +kernel
theorem dX8_plateOf_2 : decode cX8_plateOf 2 = .ok (.aload_n 0, 1) := by decide +kernel
theorem dX8_plateOf_3 : decode cX8_plateOf 3 = .ok (.getfield 38, 3) := by decide +kernel
theorem dX8_plateOf_6 : decode cX8_plateOf 6 = .ok (.iload_n 2, 1) := by decide +kernel
theorem dX8_plateOf_7 : decode cX8_plateOf 7 = .ok (.iaload, 1) := by decide +kernel
theorem dX8_plateOf_8 : decode cX8_plateOf 8 = .ok (.iload_n 1, 1) := by decide +kernel
theorem dX8_plateOf_9 : decode cX8_plateOf 9 = .ok (.if_icmp .eq 9, 3) := by decide +kernel
theorem dX8_plateOf_12 : decode cX8_plateOf 12 = .ok (.iinc 2 1, 3) := by decide +kernel
theorem dX8_plateOf_15 : decode cX8_plateOf 15 = .ok (.goto (-13), 3) := by decide +kernel
theorem dX8_plateOf_18 : decode cX8_plateOf 18 = .ok (.iload_n 2, 1) := by decide +kernel
theorem dX8_plateOf_19 : decode cX8_plateOf 19 = .ok (.ireturn, 1) := by decide +kernel
theorem dX8_falls_0 : decode cX8_falls 0 = .ok (.aload_n 0, 1) := by decide +kernel
theorem dX8_falls_1 : decode cX8_falls 1 = .ok (.iload_n 1, 1) := by decide +kernel
theorem dX8_falls_2 : decode cX8_falls 2 = .ok (.iconst (-1), 1) := by decide +kernel
theorem dX8_falls_3 : decode cX8_falls 3 = .ok (.invokevirtual 161, 3) := by decide +kernel
theorem dX8_falls_6 : decode cX8_falls 6 = .ok (.aload_n 0, 1) := by decide +kernel
theorem dX8_falls_7 : decode cX8_falls 7 = .ok (.getfield 50, 3) := by decide +kernel
theorem dX8_falls_10 : decode cX8_falls 10 = .ok (.iconst 0, 1) := by decide +kernel
theorem dX8_falls_11 : decode cX8_falls 11 = .ok (.iload_n 1, 1) := by decide +kernel
theorem dX8_falls_12 : decode cX8_falls 12 = .ok (.iastore, 1) := by decide +kernel
theorem dX8_falls_13 : decode cX8_falls 13 = .ok (.aload_n 0, 1) := by decide +kernel
theorem dX8_falls_14 : decode cX8_falls 14 = .ok (.getfield 53, 3) := by decide +kernel
theorem dX8_falls_17 : decode cX8_falls 17 = .ok (.iconst 0, 1) := by decide +kernel
theorem dX8_falls_18 : decode cX8_falls 18 = .ok (.iload_n 2, 1) := by decide +kernel
theorem dX8_falls_19 : decode cX8_falls 19 = .ok (.iastore, 1) := by decide +kernel
theorem dX8_falls_20 : decode cX8_falls 20 = .ok (.aload_n 0, 1) := by decide +kernel
theorem dX8_falls_21 : decode cX8_falls 21 = .ok (.getfield 56, 3) := by decide +kernel
theorem dX8_falls_24 : decode cX8_falls 24 = .ok (.iconst 0, 1) := by decide +kernel
theorem dX8_falls_25 : decode cX8_falls 25 = .ok (.iconst (-1), 1) := by decide +kernel
theorem dX8_falls_26 : decode cX8_falls 26 = .ok (.iastore, 1) := by decide +kernel
theorem dX8_falls_27 : decode cX8_falls 27 = .ok (.iconst 0, 1) := by decide +kernel
theorem dX8_falls_28 : decode cX8_falls 28 = .ok (.istore_n 3, 1) := by decide +kernel
theorem dX8_falls_29 : decode cX8_falls 29 = .ok (.iload_n 3, 1) := by decide +kernel
theorem dX8_falls_30 : decode cX8_falls 30 = .ok (.ifCond .lt 179, 3) := by decide +kernel
theorem dX8_falls_33 : decode cX8_falls 33 = .ok (.aload_n 0, 1) := by decide +kernel
theorem dX8_falls_34 : decode cX8_falls 34 = .ok (.getfield 56, 3) := by decide +kernel
theorem dX8_falls_37 : decode cX8_falls 37 = .ok (.iload_n 3, 1) := by decide +kernel
theorem dX8_falls_38 : decode cX8_falls 38 = .ok (.iaload, 1) := by decide +kernel
theorem dX8_falls_39 : decode cX8_falls 39 = .ok (.iconst 1, 1) := by decide +kernel
theorem dX8_falls_40 : decode cX8_falls 40 = .ok (.if_icmp .le 9, 3) := by decide +kernel
theorem dX8_falls_43 : decode cX8_falls 43 = .ok (.iinc 3 (-1), 3) := by decide +kernel
theorem dX8_falls_46 : decode cX8_falls 46 = .ok (.goto (-17), 3) := by decide +kernel
theorem dX8_falls_49 : decode cX8_falls 49 = .ok (.aload_n 0, 1) := by decide +kernel
theorem dX8_falls_50 : decode cX8_falls 50 = .ok (.aload_n 0, 1) := by decide +kernel
theorem dX8_falls_51 : decode cX8_falls 51 = .ok (.getfield 50, 3) := by decide +kernel
theorem dX8_falls_54 : decode cX8_falls 54 = .ok (.iload_n 3, 1) := by decide +kernel
theorem dX8_falls_55 : decode cX8_falls 55 = .ok (.iaload, 1) := by decide +kernel
theorem dX8_falls_56 : decode cX8_falls 56 = .ok (.invokevirtual 164, 3) := by decide +kernel
theorem dX8_falls_59 : decode cX8_falls 59 = .ok (.istore 4, 2) := by decide +kernel
theorem dX8_falls_61 : decode cX8_falls 61 = .ok (.iload 4, 2) := by decide +kernel
theorem dX8_falls_63 : decode cX8_falls 63 = .ok (.invokestatic 146, 3) := by decide +kernel
theorem dX8_falls_66 : decode cX8_falls 66 = .ok (.iconst 1, 1) := by decide +kernel
theorem dX8_falls_67 : decode cX8_falls 67 = .ok (.iadd, 1) := by decide +kernel
theorem dX8_falls_68 : decode cX8_falls 68 = .ok (.iload 4, 2) := by decide +kernel
theorem dX8_falls_70 : decode cX8_falls 70 = .ok (.invokestatic 149, 3) := by decide +kernel
theorem dX8_falls_73 : decode cX8_falls 73 = .ok (.aload_n 0, 1) := by decide +kernel
theorem dX8_falls_74 : decode cX8_falls 74 = .ok (.getfield 56, 3) := by decide +kernel
theorem dX8_falls_77 : decode cX8_falls 77 = .ok (.iload_n 3, 1) := by decide +kernel
theorem dX8_falls_78 : decode cX8_falls 78 = .ok (.iaload, 1) := by decide +kernel
theorem dX8_falls_79 : decode cX8_falls 79 = .ok (.iadd, 1) := by decide +kernel
theorem dX8_falls_80 : decode cX8_falls 80 = .ok (.invokestatic 167, 3) := by decide +kernel
theorem dX8_falls_83 : decode cX8_falls 83 = .ok (.istore 5, 2) := by decide +kernel
theorem dX8_falls_85 : decode cX8_falls 85 = .ok (.aload_n 0, 1) := by decide +kernel
theorem dX8_falls_86 : decode cX8_falls 86 = .ok (.getfield 53, 3) := by decide +kernel
theorem dX8_falls_89 : decode cX8_falls 89 = .ok (.iload_n 3, 1) := by decide +kernel
theorem dX8_falls_90 : decode cX8_falls 90 = .ok (.iaload, 1) := by decide +kernel
theorem dX8_falls_91 : decode cX8_falls 91 = .ok (.iconst 2, 1) := by decide +kernel
theorem dX8_falls_92 : decode cX8_falls 92 = .ok (.idiv, 1) := by decide +kernel
theorem dX8_falls_93 : decode cX8_falls 93 = .ok (.istore 6, 2) := by decide +kernel
theorem dX8_falls_95 : decode cX8_falls 95 = .ok (.aload_n 0, 1) := by decide +kernel
theorem dX8_falls_96 : decode cX8_falls 96 = .ok (.getfield 56, 3) := by decide +kernel
theorem dX8_falls_99 : decode cX8_falls 99 = .ok (.iload_n 3, 1) := by decide +kernel
theorem dX8_falls_100 : decode cX8_falls 100 = .ok (.dup2, 1) := by decide +kernel
theorem dX8_falls_101 : decode cX8_falls 101 = .ok (.iaload, 1) := by decide +kernel
theorem dX8_falls_102 : decode cX8_falls 102 = .ok (.iconst 2, 1) := by decide +kernel
theorem dX8_falls_103 : decode cX8_falls 103 = .ok (.iadd, 1) := by decide +kernel
theorem dX8_falls_104 : decode cX8_falls 104 = .ok (.iastore, 1) := by decide +kernel
theorem dX8_falls_105 : decode cX8_falls 105 = .ok (.iload 5, 2) := by decide +kernel
theorem dX8_falls_107 : decode cX8_falls 107 = .ok (.iconst (-1), 1) := by decide +kernel
theorem dX8_falls_108 : decode cX8_falls 108 = .ok (.if_icmp .ne 7, 3) := by decide +kernel
theorem dX8_falls_111 : decode cX8_falls 111 = .ok (.iconst (-1), 1) := by decide +kernel
theorem dX8_falls_112 : decode cX8_falls 112 = .ok (.goto 10, 3) := by decide +kernel
theorem dX8_falls_115 : decode cX8_falls 115 = .ok (.aload_n 0, 1) := by decide +kernel
theorem dX8_falls_116 : decode cX8_falls 116 = .ok (.getfield 38, 3) := by decide +kernel
theorem dX8_falls_119 : decode cX8_falls 119 = .ok (.iload 5, 2) := by decide +kernel
theorem dX8_falls_121 : decode cX8_falls 121 = .ok (.iaload, 1) := by decide +kernel
theorem dX8_falls_122 : decode cX8_falls 122 = .ok (.istore 7, 2) := by decide +kernel
theorem dX8_falls_124 : decode cX8_falls 124 = .ok (.iload 7, 2) := by decide +kernel
theorem dX8_falls_126 : decode cX8_falls 126 = .ok (.iconst (-1), 1) := by decide +kernel
theorem dX8_falls_127 : decode cX8_falls 127 = .ok (.if_icmp .eq 79, 3) := by decide +kernel
theorem dX8_falls_130 : decode cX8_falls 130 = .ok (.aload_n 0, 1) := by decide +kernel
theorem dX8_falls_131 : decode cX8_falls 131 = .ok (.getfield 158, 3) := by decide +kernel
theorem dX8_falls_134 : decode cX8_falls 134 = .ok (.iload 7, 2) := by decide +kernel
theorem dX8_falls_136 : decode cX8_falls 136 = .ok (.invokestatic 170, 3) := by decide +kernel
theorem dX8_falls_139 : decode cX8_falls 139 = .ok (.ifCond .eq 67, 3) := by decide +kernel
theorem dX8_falls_142 : decode cX8_falls 142 = .ok (.iload 6, 2) := by decide +kernel
theorem dX8_falls_144 : decode cX8_falls 144 = .ok (.ifCond .le 62, 3) := by decide +kernel
theorem dX8_falls_147 : decode cX8_falls 147 = .ok (.iload 6, 2) := by decide +kernel
theorem dX8_falls_149 : decode cX8_falls 149 = .ok (.aload_n 0, 1) := by decide +kernel
theorem dX8_falls_150 : decode cX8_falls 150 = .ok (.getfield 41, 3) := by decide +kernel
theorem dX8_falls_153 : decode cX8_falls 153 = .ok (.iload 7, 2) := by decide +kernel
theorem dX8_falls_155 : decode cX8_falls 155 = .ok (.iaload, 1) := by decide +kernel
theorem dX8_falls_156 : decode cX8_falls 156 = .ok (.if_icmp .lt 44, 3) := by decide +kernel
theorem dX8_falls_159 : decode cX8_falls 159 = .ok (.aload_n 0, 1) := by decide +kernel
theorem dX8_falls_160 : decode cX8_falls 160 = .ok (.iload 7, 2) := by decide +kernel
theorem dX8_falls_162 : decode cX8_falls 162 = .ok (.aload_n 0, 1) := by decide +kernel
theorem dX8_falls_163 : decode cX8_falls 163 = .ok (.getfield 50, 3) := by decide +kernel
theorem dX8_falls_166 : decode cX8_falls 166 = .ok (.iload_n 3, 1) := by decide +kernel
theorem dX8_falls_167 : decode cX8_falls 167 = .ok (.iaload, 1) := by decide +kernel
theorem dX8_falls_168 : decode cX8_falls 168 = .ok (.invokevirtual 161, 3) := by decide +kernel
theorem dX8_falls_171 : decode cX8_falls 171 = .ok (.iinc 3 1, 3) := by decide +kernel
theorem dX8_falls_174 : decode cX8_falls 174 = .ok (.aload_n 0, 1) := by decide +kernel
theorem dX8_falls_175 : decode cX8_falls 175 = .ok (.getfield 50, 3) := by decide +kernel
theorem dX8_falls_178 : decode cX8_falls 178 = .ok (.iload_n 3, 1) := by decide +kernel
theorem dX8_falls_179 : decode cX8_falls 179 = .ok (.iload 7, 2) := by decide +kernel
theorem dX8_falls_181 : decode cX8_falls 181 = .ok (.iastore, 1) := by decide +kernel
theorem dX8_falls_182 : decode cX8_falls 182 = .ok (.aload_n 0, 1) := by decide +kernel
theorem dX8_falls_183 : decode cX8_falls 183 = .ok (.getfield 53, 3) := by decide +kernel
theorem dX8_falls_186 : decode cX8_falls 186 = .ok (.iload_n 3, 1) := by decide +kernel
theorem dX8_falls_187 : decode cX8_falls 187 = .ok (.iload 6, 2) := by decide +kernel
theorem dX8_falls_189 : decode cX8_falls 189 = .ok (.iastore, 1) := by decide +kernel
theorem dX8_falls_190 : decode cX8_falls 190 = .ok (.aload_n 0, 1) := by decide +kernel
theorem dX8_falls_191 : decode cX8_falls 191 = .ok (.getfield 56, 3) := by decide +kernel
theorem dX8_falls_194 : decode cX8_falls 194 = .ok (.iload_n 3, 1) := by decide +kernel
theorem dX8_falls_195 : decode cX8_falls 195 = .ok (.iconst (-1), 1) := by decide +kernel
theorem dX8_falls_196 : decode cX8_falls 196 = .ok (.iastore, 1) := by decide +kernel
theorem dX8_falls_197 : decode cX8_falls 197 = .ok (.goto 9, 3) := by decide +kernel
theorem dX8_falls_200 : decode cX8_falls 200 = .ok (.aload_n 0, 1) := by decide +kernel
theorem dX8_falls_201 : decode cX8_falls 201 = .ok (.iload 7, 2) := by decide +kernel
theorem dX8_falls_203 : decode cX8_falls 203 = .ok (.invokevirtual 174, 3) := by decide +kernel
theorem dX8_falls_206 : decode cX8_falls 206 = .ok (.goto (-177), 3) := by decide +kernel
theorem dX8_falls_209 : decode cX8_falls 209 = .ok (.return_, 1) := by decide +kernel
theorem dX8_goes_0 : decode cX8_goes 0 = .ok (.aload_n 0, 1) := by decide +kernel
theorem dX8_goes_1 : decode cX8_goes 1 = .ok (.iload_n 1, 1) := by decide +kernel
theorem dX8_goes_2 : decode cX8_goes 2 = .ok (.putfield 158, 3) := by decide +kernel
theorem dX8_goes_5 : decode cX8_goes 5 = .ok (.aload_n 0, 1) := by decide +kernel
theorem dX8_goes_6 : decode cX8_goes 6 = .ok (.iconst 0, 1) := by decide +kernel
theorem dX8_goes_7 : decode cX8_goes 7 = .ok (.putfield 155, 3) := by decide +kernel
theorem dX8_goes_10 : decode cX8_goes 10 = .ok (.aload_n 0, 1) := by decide +kernel
theorem dX8_goes_11 : decode cX8_goes 11 = .ok (.iconst (-1), 1) := by decide +kernel
theorem dX8_goes_12 : decode cX8_goes 12 = .ok (.putfield 178, 3) := by decide +kernel
theorem dX8_goes_15 : decode cX8_goes 15 = .ok (.iconst 0, 1) := by decide +kernel
theorem dX8_goes_16 : decode cX8_goes 16 = .ok (.istore 5, 2) := by decide +kernel
theorem dX8_goes_18 : decode cX8_goes 18 = .ok (.iload 5, 2) := by decide +kernel
theorem dX8_goes_20 : decode cX8_goes 20 = .ok (.bipush 9, 2) := by decide +kernel
theorem dX8_goes_22 : decode cX8_goes 22 = .ok (.if_icmp .ge 26, 3) := by decide +kernel
theorem dX8_goes_25 : decode cX8_goes 25 = .ok (.aload_n 0, 1) := by decide +kernel
theorem dX8_goes_26 : decode cX8_goes 26 = .ok (.getfield 44, 3) := by decide +kernel
theorem dX8_goes_29 : decode cX8_goes 29 = .ok (.iload 5, 2) := by decide +kernel
theorem dX8_goes_31 : decode cX8_goes 31 = .ok (.iconst 0, 1) := by decide +kernel
theorem dX8_goes_32 : decode cX8_goes 32 = .ok (.iastore, 1) := by decide +kernel
theorem dX8_goes_33 : decode cX8_goes 33 = .ok (.aload_n 0, 1) := by decide +kernel
theorem dX8_goes_34 : decode cX8_goes 34 = .ok (.getfield 47, 3) := by decide +kernel
theorem dX8_goes_37 : decode cX8_goes 37 = .ok (.iload 5, 2) := by decide +kernel
theorem dX8_goes_39 : decode cX8_goes 39 = .ok (.bipush (-2), 2) := by decide +kernel
theorem dX8_goes_41 : decode cX8_goes 41 = .ok (.iastore, 1) := by decide +kernel
theorem dX8_goes_42 : decode cX8_goes 42 = .ok (.iinc 5 1, 3) := by decide +kernel
theorem dX8_goes_45 : decode cX8_goes 45 = .ok (.goto (-27), 3) := by decide +kernel
theorem dX8_goes_48 : decode cX8_goes 48 = .ok (.iload_n 2, 1) := by decide +kernel
theorem dX8_goes_49 : decode cX8_goes 49 = .ok (.istore 5, 2) := by decide +kernel
theorem dX8_goes_51 : decode cX8_goes 51 = .ok (.iload 4, 2) := by decide +kernel
theorem dX8_goes_53 : decode cX8_goes 53 = .ok (.istore 6, 2) := by decide +kernel
theorem dX8_goes_55 : decode cX8_goes 55 = .ok (.iconst 0, 1) := by decide +kernel
theorem dX8_goes_56 : decode cX8_goes 56 = .ok (.istore 7, 2) := by decide +kernel
theorem dX8_goes_58 : decode cX8_goes 58 = .ok (.iload 7, 2) := by decide +kernel
theorem dX8_goes_60 : decode cX8_goes 60 = .ok (.iconst 5, 1) := by decide +kernel
theorem dX8_goes_61 : decode cX8_goes 61 = .ok (.if_icmp .ge 159, 3) := by decide +kernel
theorem dX8_goes_64 : decode cX8_goes 64 = .ok (.aload_n 0, 1) := by decide +kernel
theorem dX8_goes_65 : decode cX8_goes 65 = .ok (.getfield 178, 3) := by decide +kernel
theorem dX8_goes_68 : decode cX8_goes 68 = .ok (.iconst (-1), 1) := by decide +kernel
theorem dX8_goes_69 : decode cX8_goes 69 = .ok (.if_icmp .ne 151, 3) := by decide +kernel
theorem dX8_goes_72 : decode cX8_goes 72 = .ok (.iload 7, 2) := by decide +kernel
theorem dX8_goes_74 : decode cX8_goes 74 = .ok (.iload 5, 2) := by decide +kernel
theorem dX8_goes_76 : decode cX8_goes 76 = .ok (.invokestatic 167, 3) := by decide +kernel
theorem dX8_goes_79 : decode cX8_goes 79 = .ok (.istore 8, 2) := by decide +kernel
theorem dX8_goes_81 : decode cX8_goes 81 = .ok (.iload 8, 2) := by decide +kernel
theorem dX8_goes_83 : decode cX8_goes 83 = .ok (.iconst (-1), 1) := by decide +kernel
theorem dX8_goes_84 : decode cX8_goes 84 = .ok (.if_icmp .ne 7, 3) := by decide +kernel
theorem dX8_goes_87 : decode cX8_goes 87 = .ok (.iconst (-1), 1) := by decide +kernel
theorem dX8_goes_88 : decode cX8_goes 88 = .ok (.goto 10, 3) := by decide +kernel
theorem dX8_goes_91 : decode cX8_goes 91 = .ok (.aload_n 0, 1) := by decide +kernel
theorem dX8_goes_92 : decode cX8_goes 92 = .ok (.getfield 38, 3) := by decide +kernel
theorem dX8_goes_95 : decode cX8_goes 95 = .ok (.iload 8, 2) := by decide +kernel
theorem dX8_goes_97 : decode cX8_goes 97 = .ok (.iaload, 1) := by decide +kernel
theorem dX8_goes_98 : decode cX8_goes 98 = .ok (.istore 9, 2) := by decide +kernel
theorem dX8_goes_100 : decode cX8_goes 100 = .ok (.iload 9, 2) := by decide +kernel
theorem dX8_goes_102 : decode cX8_goes 102 = .ok (.iconst (-1), 1) := by decide +kernel
theorem dX8_goes_103 : decode cX8_goes 103 = .ok (.if_icmp .eq 66, 3) := by decide +kernel
theorem dX8_goes_106 : decode cX8_goes 106 = .ok (.aload_n 0, 1) := by decide +kernel
theorem dX8_goes_107 : decode cX8_goes 107 = .ok (.getfield 158, 3) := by decide +kernel
theorem dX8_goes_110 : decode cX8_goes 110 = .ok (.iload 9, 2) := by decide +kernel
theorem dX8_goes_112 : decode cX8_goes 112 = .ok (.invokestatic 170, 3) := by decide +kernel
theorem dX8_goes_115 : decode cX8_goes 115 = .ok (.ifCond .eq 54, 3) := by decide +kernel
theorem dX8_goes_118 : decode cX8_goes 118 = .ok (.iload 6, 2) := by decide +kernel
theorem dX8_goes_120 : decode cX8_goes 120 = .ok (.aload_n 0, 1) := by decide +kernel
theorem dX8_goes_121 : decode cX8_goes 121 = .ok (.getfield 41, 3) := by decide +kernel
theorem dX8_goes_124 : decode cX8_goes 124 = .ok (.iload 9, 2) := by decide +kernel
theorem dX8_goes_126 : decode cX8_goes 126 = .ok (.iaload, 1) := by decide +kernel
theorem dX8_goes_127 : decode cX8_goes 127 = .ok (.if_icmp .lt 30, 3) := by decide +kernel
theorem dX8_goes_130 : decode cX8_goes 130 = .ok (.aload_n 0, 1) := by decide +kernel
theorem dX8_goes_131 : decode cX8_goes 131 = .ok (.iload 9, 2) := by decide +kernel
theorem dX8_goes_133 : decode cX8_goes 133 = .ok (.iload 6, 2) := by decide +kernel
theorem dX8_goes_135 : decode cX8_goes 135 = .ok (.invokevirtual 181, 3) := by decide +kernel
theorem dX8_goes_138 : decode cX8_goes 138 = .ok (.iload 6, 2) := by decide +kernel
theorem dX8_goes_140 : decode cX8_goes 140 = .ok (.aload_n 0, 1) := by decide +kernel
theorem dX8_goes_141 : decode cX8_goes 141 = .ok (.getfield 41, 3) := by decide +kernel
theorem dX8_goes_144 : decode cX8_goes 144 = .ok (.iload 9, 2) := by decide +kernel
theorem dX8_goes_146 : decode cX8_goes 146 = .ok (.iaload, 1) := by decide +kernel
theorem dX8_goes_147 : decode cX8_goes 147 = .ok (.iconst 2, 1) := by decide +kernel
theorem dX8_goes_148 : decode cX8_goes 148 = .ok (.idiv, 1) := by decide +kernel
theorem dX8_goes_149 : decode cX8_goes 149 = .ok (.iconst 1, 1) := by decide +kernel
theorem dX8_goes_150 : decode cX8_goes 150 = .ok (.iadd, 1) := by decide +kernel
theorem dX8_goes_151 : decode cX8_goes 151 = .ok (.isub, 1) := by decide +kernel
theorem dX8_goes_152 : decode cX8_goes 152 = .ok (.istore 6, 2) := by decide +kernel
theorem dX8_goes_154 : decode cX8_goes 154 = .ok (.goto 15, 3) := by decide +kernel
theorem dX8_goes_157 : decode cX8_goes 157 = .ok (.aload_n 0, 1) := by decide +kernel
theorem dX8_goes_158 : decode cX8_goes 158 = .ok (.iload 9, 2) := by decide +kernel
theorem dX8_goes_160 : decode cX8_goes 160 = .ok (.invokevirtual 174, 3) := by decide +kernel
theorem dX8_goes_163 : decode cX8_goes 163 = .ok (.aload_n 0, 1) := by decide +kernel
theorem dX8_goes_164 : decode cX8_goes 164 = .ok (.iload 7, 2) := by decide +kernel
theorem dX8_goes_166 : decode cX8_goes 166 = .ok (.putfield 178, 3) := by decide +kernel
theorem dX8_goes_169 : decode cX8_goes 169 = .ok (.iload 6, 2) := by decide +kernel
theorem dX8_goes_171 : decode cX8_goes 171 = .ok (.aload_n 0, 1) := by decide +kernel
theorem dX8_goes_172 : decode cX8_goes 172 = .ok (.getfield 137, 3) := by decide +kernel
theorem dX8_goes_175 : decode cX8_goes 175 = .ok (.iconst 3, 1) := by decide +kernel
theorem dX8_goes_176 : decode cX8_goes 176 = .ok (.idiv, 1) := by decide +kernel
theorem dX8_goes_177 : decode cX8_goes 177 = .ok (.isub, 1) := by decide +kernel
theorem dX8_goes_178 : decode cX8_goes 178 = .ok (.istore 6, 2) := by decide +kernel
theorem dX8_goes_180 : decode cX8_goes 180 = .ok (.aload_n 0, 1) := by decide +kernel
theorem dX8_goes_181 : decode cX8_goes 181 = .ok (.aload_n 0, 1) := by decide +kernel
theorem dX8_goes_182 : decode cX8_goes 182 = .ok (.getfield 178, 3) := by decide +kernel
theorem dX8_goes_185 : decode cX8_goes 185 = .ok (.iconst (-1), 1) := by decide +kernel
theorem dX8_goes_186 : decode cX8_goes 186 = .ok (.if_icmp .ne 13, 3) := by decide +kernel
theorem dX8_goes_189 : decode cX8_goes 189 = .ok (.iload 6, 2) := by decide +kernel
theorem dX8_goes_191 : decode cX8_goes 191 = .ok (.ifCond .gt 8, 3) := by decide +kernel
theorem dX8_goes_194 : decode cX8_goes 194 = .ok (.iload 7, 2) := by decide +kernel
theorem dX8_goes_196 : decode cX8_goes 196 = .ok (.goto 7, 3) := by decide +kernel
theorem dX8_goes_199 : decode cX8_goes 199 = .ok (.aload_n 0, 1) := by decide +kernel
theorem dX8_goes_200 : decode cX8_goes 200 = .ok (.getfield 178, 3) := by decide +kernel
theorem dX8_goes_203 : decode cX8_goes 203 = .ok (.putfield 178, 3) := by decide +kernel
theorem dX8_goes_206 : decode cX8_goes 206 = .ok (.iload 5, 2) := by decide +kernel
theorem dX8_goes_208 : decode cX8_goes 208 = .ok (.iload_n 3, 1) := by decide +kernel
theorem dX8_goes_209 : decode cX8_goes 209 = .ok (.iconst 1, 1) := by decide +kernel
theorem dX8_goes_210 : decode cX8_goes 210 = .ok (.isub, 1) := by decide +kernel
theorem dX8_goes_211 : decode cX8_goes 211 = .ok (.iadd, 1) := by decide +kernel
theorem dX8_goes_212 : decode cX8_goes 212 = .ok (.istore 5, 2) := by decide +kernel
theorem dX8_goes_214 : decode cX8_goes 214 = .ok (.iinc 7 1, 3) := by decide +kernel
theorem dX8_goes_217 : decode cX8_goes 217 = .ok (.goto (-159), 3) := by decide +kernel
theorem dX8_goes_220 : decode cX8_goes 220 = .ok (.iload_n 1, 1) := by decide +kernel
theorem dX8_goes_221 : decode cX8_goes 221 = .ok (.aload_n 0, 1) := by decide +kernel
theorem dX8_goes_222 : decode cX8_goes 222 = .ok (.getfield 158, 3) := by decide +kernel
theorem dX8_goes_225 : decode cX8_goes 225 = .ok (.iconst (-1), 1) := by decide +kernel
theorem dX8_goes_226 : decode cX8_goes 226 = .ok (.ixor, 1) := by decide +kernel
theorem dX8_goes_227 : decode cX8_goes 227 = .ok (.iand, 1) := by decide +kernel
theorem dX8_goes_228 : decode cX8_goes 228 = .ok (.ireturn, 1) := by decide +kernel
theorem dX8_goesBy_0 : decode cX8_goesBy 0 = .ok (.aload_n 0, 1) := by decide +kernel
theorem dX8_goesBy_1 : decode cX8_goesBy 1 = .ok (.iload_n 1, 1) := by decide +kernel
theorem dX8_goesBy_2 : decode cX8_goesBy 2 = .ok (.iload_n 2, 1) := by decide +kernel
theorem dX8_goesBy_3 : decode cX8_goesBy 3 = .ok (.bipush 120, 2) := by decide +kernel
theorem dX8_goesBy_5 : decode cX8_goesBy 5 = .ok (.idiv, 1) := by decide +kernel
theorem dX8_goesBy_6 : decode cX8_goesBy 6 = .ok (.iload_n 2, 1) := by decide +kernel
end
section
theorem dX8_goesBy_7 : decode cX8_goesBy 7 = .ok (.bipush 40, 2) := by decide +kernel
theorem dX8_goesBy_9 : decode cX8_goesBy 9 = .ok (.idiv, 1) := by decide +kernel
theorem dX8_goesBy_10 : decode cX8_goesBy 10 = .ok (.iconst 3, 1) := by decide +kernel
theorem dX8_goesBy_11 : decode cX8_goesBy 11 = .ok (.irem, 1) := by decide +kernel
theorem dX8_goesBy_12 : decode cX8_goesBy 12 = .ok (.iconst 1, 1) := by decide +kernel
theorem dX8_goesBy_13 : decode cX8_goesBy 13 = .ok (.iload_n 2, 1) := by decide +kernel
theorem dX8_goesBy_14 : decode cX8_goesBy 14 = .ok (.bipush 40, 2) := by decide +kernel
theorem dX8_goesBy_16 : decode cX8_goesBy 16 = .ok (.irem, 1) := by decide +kernel
theorem dX8_goesBy_17 : decode cX8_goesBy 17 = .ok (.iadd, 1) := by decide +kernel
theorem dX8_goesBy_18 : decode cX8_goesBy 18 = .ok (.invokevirtual 184, 3) := by decide +kernel
theorem dX8_goesBy_21 : decode cX8_goesBy 21 = .ok (.ireturn, 1) := by decide +kernel
theorem dX8_numberOf_0 : decode cX8_numberOf 0 = .ok (.sipush 1000, 3) := by decide +kernel
theorem dX8_numberOf_3 : decode cX8_numberOf 3 = .ok (.iload_n 0, 1) := by decide +kernel
theorem dX8_numberOf_4 : decode cX8_numberOf 4 = .ok (.bipush 120, 2) := by decide +kernel
theorem dX8_numberOf_6 : decode cX8_numberOf 6 = .ok (.idiv, 1) := by decide +kernel
theorem dX8_numberOf_7 : decode cX8_numberOf 7 = .ok (.imul, 1) := by decide +kernel
theorem dX8_numberOf_8 : decode cX8_numberOf 8 = .ok (.bipush 100, 2) := by decide +kernel
theorem dX8_numberOf_10 : decode cX8_numberOf 10 = .ok (.iload_n 0, 1) := by decide +kernel
theorem dX8_numberOf_11 : decode cX8_numberOf 11 = .ok (.bipush 40, 2) := by decide +kernel
theorem dX8_numberOf_13 : decode cX8_numberOf 13 = .ok (.idiv, 1) := by decide +kernel
theorem dX8_numberOf_14 : decode cX8_numberOf 14 = .ok (.iconst 3, 1) := by decide +kernel
theorem dX8_numberOf_15 : decode cX8_numberOf 15 = .ok (.irem, 1) := by decide +kernel
theorem dX8_numberOf_16 : decode cX8_numberOf 16 = .ok (.imul, 1) := by decide +kernel
theorem dX8_numberOf_17 : decode cX8_numberOf 17 = .ok (.iadd, 1) := by decide +kernel
theorem dX8_numberOf_18 : decode cX8_numberOf 18 = .ok (.iconst 1, 1) := by decide +kernel
theorem dX8_numberOf_19 : decode cX8_numberOf 19 = .ok (.iadd, 1) := by decide +kernel
theorem dX8_numberOf_20 : decode cX8_numberOf 20 = .ok (.iload_n 0, 1) := by decide +kernel
theorem dX8_numberOf_21 : decode cX8_numberOf 21 = .ok (.bipush 40, 2) := by decide +kernel
theorem dX8_numberOf_23 : decode cX8_numberOf 23 = .ok (.irem, 1) := by decide +kernel
theorem dX8_numberOf_24 : decode cX8_numberOf 24 = .ok (.iadd, 1) := by decide +kernel
theorem dX8_numberOf_25 : decode cX8_numberOf 25 = .ok (.ireturn, 1) := by decide +kernel
theorem dX8_isBall_0 : decode cX8_isBall 0 = .ok (.iload_n 1, 1) := by decide +kernel
theorem dX8_isBall_1 : decode cX8_isBall 1 = .ok (.iconst 0, 1) := by decide +kernel
theorem dX8_isBall_2 : decode cX8_isBall 2 = .ok (.iconst 4, 1) := by decide +kernel
theorem dX8_isBall_3 : decode cX8_isBall 3 = .ok (.invokestatic 75, 3) := by decide +kernel
theorem dX8_isBall_6 : decode cX8_isBall 6 = .ok (.ifCond .eq 26, 3) := by decide +kernel
theorem dX8_isBall_9 : decode cX8_isBall 9 = .ok (.iload_n 2, 1) := by decide +kernel
theorem dX8_isBall_10 : decode cX8_isBall 10 = .ok (.iconst 0, 1) := by decide +kernel
theorem dX8_isBall_11 : decode cX8_isBall 11 = .ok (.iconst 2, 1) := by decide +kernel
theorem dX8_isBall_12 : decode cX8_isBall 12 = .ok (.invokestatic 75, 3) := by decide +kernel
theorem dX8_isBall_15 : decode cX8_isBall 15 = .ok (.ifCond .eq 17, 3) := by decide +kernel
theorem dX8_isBall_18 : decode cX8_isBall 18 = .ok (.iload_n 3, 1) := by decide +kernel
theorem dX8_isBall_19 : decode cX8_isBall 19 = .ok (.iconst 1, 1) := by decide +kernel
theorem dX8_isBall_20 : decode cX8_isBall 20 = .ok (.bipush 40, 2) := by decide +kernel
theorem dX8_isBall_22 : decode cX8_isBall 22 = .ok (.invokestatic 75, 3) := by decide +kernel
theorem dX8_isBall_25 : decode cX8_isBall 25 = .ok (.ifCond .eq 7, 3) := by decide +kernel
theorem dX8_isBall_28 : decode cX8_isBall 28 = .ok (.iconst 1, 1) := by decide +kernel
theorem dX8_isBall_29 : decode cX8_isBall 29 = .ok (.goto 4, 3) := by decide +kernel
theorem dX8_isBall_32 : decode cX8_isBall 32 = .ok (.iconst 0, 1) := by decide +kernel
theorem dX8_isBall_33 : decode cX8_isBall 33 = .ok (.ireturn, 1) := by decide +kernel
theorem dX8_worst_0 : decode cX8_worst 0 = .ok (.aload_n 0, 1) := by decide +kernel
theorem dX8_worst_1 : decode cX8_worst 1 = .ok (.getfield 133, 3) := by decide +kernel
theorem dX8_worst_4 : decode cX8_worst 4 = .ok (.ifCond .ne 5, 3) := by decide +kernel
theorem dX8_worst_7 : decode cX8_worst 7 = .ok (.iconst (-1), 1) := by decide +kernel
theorem dX8_worst_8 : decode cX8_worst 8 = .ok (.ireturn, 1) := by decide +kernel
theorem dX8_worst_9 : decode cX8_worst 9 = .ok (.aload_n 0, 1) := by decide +kernel
theorem dX8_worst_10 : decode cX8_worst 10 = .ok (.iconst 0, 1) := by decide +kernel
theorem dX8_worst_11 : decode cX8_worst 11 = .ok (.iconst 0, 1) := by decide +kernel
theorem dX8_worst_12 : decode cX8_worst 12 = .ok (.invokevirtual 188, 3) := by decide +kernel
theorem dX8_worst_15 : decode cX8_worst 15 = .ok (.iconst 0, 1) := by decide +kernel
theorem dX8_worst_16 : decode cX8_worst 16 = .ok (.istore_n 2, 1) := by decide +kernel
theorem dX8_worst_17 : decode cX8_worst 17 = .ok (.iconst (-1), 1) := by decide +kernel
theorem dX8_worst_18 : decode cX8_worst 18 = .ok (.istore_n 3, 1) := by decide +kernel
theorem dX8_worst_19 : decode cX8_worst 19 = .ok (.iconst 0, 1) := by decide +kernel
theorem dX8_worst_20 : decode cX8_worst 20 = .ok (.istore 4, 2) := by decide +kernel
theorem dX8_worst_22 : decode cX8_worst 22 = .ok (.iload 4, 2) := by decide +kernel
theorem dX8_worst_24 : decode cX8_worst 24 = .ok (.sipush 600, 3) := by decide +kernel
theorem dX8_worst_27 : decode cX8_worst 27 = .ok (.if_icmp .ge 56, 3) := by decide +kernel
theorem dX8_worst_30 : decode cX8_worst 30 = .ok (.aload_n 0, 1) := by decide +kernel
theorem dX8_worst_31 : decode cX8_worst 31 = .ok (.aload_n 0, 1) := by decide +kernel
theorem dX8_worst_32 : decode cX8_worst 32 = .ok (.getfield 19, 3) := by decide +kernel
theorem dX8_worst_35 : decode cX8_worst 35 = .ok (.bipush 45, 2) := by decide +kernel
theorem dX8_worst_37 : decode cX8_worst 37 = .ok (.iaload, 1) := by decide +kernel
theorem dX8_worst_38 : decode cX8_worst 38 = .ok (.iload 4, 2) := by decide +kernel
theorem dX8_worst_40 : decode cX8_worst 40 = .ok (.invokevirtual 191, 3) := by decide +kernel
theorem dX8_worst_43 : decode cX8_worst 43 = .ok (.invokestatic 194, 3) := by decide +kernel
theorem dX8_worst_46 : decode cX8_worst 46 = .ok (.istore 5, 2) := by decide +kernel
theorem dX8_worst_48 : decode cX8_worst 48 = .ok (.iload 5, 2) := by decide +kernel
theorem dX8_worst_50 : decode cX8_worst 50 = .ok (.iload_n 3, 1) := by decide +kernel
theorem dX8_worst_51 : decode cX8_worst 51 = .ok (.if_icmp .le 11, 3) := by decide +kernel
theorem dX8_worst_54 : decode cX8_worst 54 = .ok (.iload 4, 2) := by decide +kernel
theorem dX8_worst_56 : decode cX8_worst 56 = .ok (.invokestatic 197, 3) := by decide +kernel
theorem dX8_worst_59 : decode cX8_worst 59 = .ok (.goto 4, 3) := by decide +kernel
theorem dX8_worst_62 : decode cX8_worst 62 = .ok (.iload_n 2, 1) := by decide +kernel
theorem dX8_worst_63 : decode cX8_worst 63 = .ok (.istore_n 2, 1) := by decide +kernel
theorem dX8_worst_64 : decode cX8_worst 64 = .ok (.iload 5, 2) := by decide +kernel
theorem dX8_worst_66 : decode cX8_worst 66 = .ok (.iload_n 3, 1) := by decide +kernel
theorem dX8_worst_67 : decode cX8_worst 67 = .ok (.if_icmp .le 8, 3) := by decide +kernel
theorem dX8_worst_70 : decode cX8_worst 70 = .ok (.iload 5, 2) := by decide +kernel
theorem dX8_worst_72 : decode cX8_worst 72 = .ok (.goto 4, 3) := by decide +kernel
theorem dX8_worst_75 : decode cX8_worst 75 = .ok (.iload_n 3, 1) := by decide +kernel
theorem dX8_worst_76 : decode cX8_worst 76 = .ok (.istore_n 3, 1) := by decide +kernel
theorem dX8_worst_77 : decode cX8_worst 77 = .ok (.iinc 4 1, 3) := by decide +kernel
theorem dX8_worst_80 : decode cX8_worst 80 = .ok (.goto (-58), 3) := by decide +kernel
theorem dX8_worst_83 : decode cX8_worst 83 = .ok (.iload_n 1, 1) := by decide +kernel
theorem dX8_worst_84 : decode cX8_worst 84 = .ok (.ifCond .ne 7, 3) := by decide +kernel
theorem dX8_worst_87 : decode cX8_worst 87 = .ok (.iload_n 2, 1) := by decide +kernel
theorem dX8_worst_88 : decode cX8_worst 88 = .ok (.goto 4, 3) := by decide +kernel
theorem dX8_worst_91 : decode cX8_worst 91 = .ok (.iload_n 3, 1) := by decide +kernel
theorem dX8_worst_92 : decode cX8_worst 92 = .ok (.ireturn, 1) := by decide +kernel
theorem dX8_safest_0 : decode cX8_safest 0 = .ok (.aload_n 0, 1) := by decide +kernel
theorem dX8_safest_1 : decode cX8_safest 1 = .ok (.getfield 133, 3) := by decide +kernel
theorem dX8_safest_4 : decode cX8_safest 4 = .ok (.ifCond .eq 13, 3) := by decide +kernel
theorem dX8_safest_7 : decode cX8_safest 7 = .ok (.aload_n 0, 1) := by decide +kernel
theorem dX8_safest_8 : decode cX8_safest 8 = .ok (.getfield 19, 3) := by decide +kernel
theorem dX8_safest_11 : decode cX8_safest 11 = .ok (.bipush 45, 2) := by decide +kernel
theorem dX8_safest_13 : decode cX8_safest 13 = .ok (.iaload, 1) := by decide +kernel
theorem dX8_safest_14 : decode cX8_safest 14 = .ok (.ifCond .ne 5, 3) := by decide +kernel
theorem dX8_safest_17 : decode cX8_safest 17 = .ok (.iconst (-1), 1) := by decide +kernel
theorem dX8_safest_18 : decode cX8_safest 18 = .ok (.ireturn, 1) := by decide +kernel
theorem dX8_safest_19 : decode cX8_safest 19 = .ok (.aload_n 0, 1) := by decide +kernel
theorem dX8_safest_20 : decode cX8_safest 20 = .ok (.iconst 0, 1) := by decide +kernel
theorem dX8_safest_21 : decode cX8_safest 21 = .ok (.iconst 0, 1) := by decide +kernel
theorem dX8_safest_22 : decode cX8_safest 22 = .ok (.invokevirtual 188, 3) := by decide +kernel
theorem dX8_safest_25 : decode cX8_safest 25 = .ok (.iconst (-1), 1) := by decide +kernel
theorem dX8_safest_26 : decode cX8_safest 26 = .ok (.istore_n 2, 1) := by decide +kernel
theorem dX8_safest_27 : decode cX8_safest 27 = .ok (.sipush 1000, 3) := by decide +kernel
theorem dX8_safest_30 : decode cX8_safest 30 = .ok (.istore_n 3, 1) := by decide +kernel
theorem dX8_safest_31 : decode cX8_safest 31 = .ok (.iconst 0, 1) := by decide +kernel
theorem dX8_safest_32 : decode cX8_safest 32 = .ok (.istore 4, 2) := by decide +kernel
theorem dX8_safest_34 : decode cX8_safest 34 = .ok (.iload 4, 2) := by decide +kernel
theorem dX8_safest_36 : decode cX8_safest 36 = .ok (.aload_n 0, 1) := by decide +kernel
theorem dX8_safest_37 : decode cX8_safest 37 = .ok (.getfield 130, 3) := by decide +kernel
theorem dX8_safest_40 : decode cX8_safest 40 = .ok (.if_icmp .ge 101, 3) := by decide +kernel
theorem dX8_safest_43 : decode cX8_safest 43 = .ok (.aload_n 0, 1) := by decide +kernel
theorem dX8_safest_44 : decode cX8_safest 44 = .ok (.getfield 19, 3) := by decide +kernel
theorem dX8_safest_47 : decode cX8_safest 47 = .ok (.bipush 45, 2) := by decide +kernel
theorem dX8_safest_49 : decode cX8_safest 49 = .ok (.iaload, 1) := by decide +kernel
theorem dX8_safest_50 : decode cX8_safest 50 = .ok (.iload 4, 2) := by decide +kernel
theorem dX8_safest_52 : decode cX8_safest 52 = .ok (.invokestatic 170, 3) := by decide +kernel
theorem dX8_safest_55 : decode cX8_safest 55 = .ok (.ifCond .eq 80, 3) := by decide +kernel
theorem dX8_safest_58 : decode cX8_safest 58 = .ok (.iconst 0, 1) := by decide +kernel
theorem dX8_safest_59 : decode cX8_safest 59 = .ok (.istore 5, 2) := by decide +kernel
theorem dX8_safest_61 : decode cX8_safest 61 = .ok (.iconst 0, 1) := by decide +kernel
theorem dX8_safest_62 : decode cX8_safest 62 = .ok (.istore 6, 2) := by decide +kernel
theorem dX8_safest_64 : decode cX8_safest 64 = .ok (.iload 6, 2) := by decide +kernel
theorem dX8_safest_66 : decode cX8_safest 66 = .ok (.sipush 600, 3) := by decide +kernel
theorem dX8_safest_69 : decode cX8_safest 69 = .ok (.if_icmp .ge 40, 3) := by decide +kernel
theorem dX8_safest_72 : decode cX8_safest 72 = .ok (.iload 5, 2) := by decide +kernel
theorem dX8_safest_74 : decode cX8_safest 74 = .ok (.aload_n 0, 1) := by decide +kernel
theorem dX8_safest_75 : decode cX8_safest 75 = .ok (.aload_n 0, 1) := by decide +kernel
theorem dX8_safest_76 : decode cX8_safest 76 = .ok (.getfield 19, 3) := by decide +kernel
theorem dX8_safest_79 : decode cX8_safest 79 = .ok (.bipush 45, 2) := by decide +kernel
theorem dX8_safest_81 : decode cX8_safest 81 = .ok (.iaload, 1) := by decide +kernel
theorem dX8_safest_82 : decode cX8_safest 82 = .ok (.iload 6, 2) := by decide +kernel
theorem dX8_safest_84 : decode cX8_safest 84 = .ok (.invokevirtual 191, 3) := by decide +kernel
theorem dX8_safest_87 : decode cX8_safest 87 = .ok (.iload 4, 2) := by decide +kernel
theorem dX8_safest_89 : decode cX8_safest 89 = .ok (.invokestatic 170, 3) := by decide +kernel
theorem dX8_safest_92 : decode cX8_safest 92 = .ok (.ifCond .eq 7, 3) := by decide +kernel
theorem dX8_safest_95 : decode cX8_safest 95 = .ok (.iconst 1, 1) := by decide +kernel
theorem dX8_safest_96 : decode cX8_safest 96 = .ok (.goto 4, 3) := by decide +kernel
theorem dX8_safest_99 : decode cX8_safest 99 = .ok (.iconst 0, 1) := by decide +kernel
theorem dX8_safest_100 : decode cX8_safest 100 = .ok (.iadd, 1) := by decide +kernel
theorem dX8_safest_101 : decode cX8_safest 101 = .ok (.istore 5, 2) := by decide +kernel
theorem dX8_safest_103 : decode cX8_safest 103 = .ok (.iinc 6 1, 3) := by decide +kernel
theorem dX8_safest_106 : decode cX8_safest 106 = .ok (.goto (-42), 3) := by decide +kernel
theorem dX8_safest_109 : decode cX8_safest 109 = .ok (.iload 5, 2) := by decide +kernel
theorem dX8_safest_111 : decode cX8_safest 111 = .ok (.iload_n 3, 1) := by decide +kernel
theorem dX8_safest_112 : decode cX8_safest 112 = .ok (.if_icmp .ge 8, 3) := by decide +kernel
theorem dX8_safest_115 : decode cX8_safest 115 = .ok (.iload 4, 2) := by decide +kernel
theorem dX8_safest_117 : decode cX8_safest 117 = .ok (.goto 4, 3) := by decide +kernel
theorem dX8_safest_120 : decode cX8_safest 120 = .ok (.iload_n 2, 1) := by decide +kernel
theorem dX8_safest_121 : decode cX8_safest 121 = .ok (.istore_n 2, 1) := by decide +kernel
theorem dX8_safest_122 : decode cX8_safest 122 = .ok (.iload 5, 2) := by decide +kernel
theorem dX8_safest_124 : decode cX8_safest 124 = .ok (.iload_n 3, 1) := by decide +kernel
theorem dX8_safest_125 : decode cX8_safest 125 = .ok (.if_icmp .ge 8, 3) := by decide +kernel
theorem dX8_safest_128 : decode cX8_safest 128 = .ok (.iload 5, 2) := by decide +kernel
theorem dX8_safest_130 : decode cX8_safest 130 = .ok (.goto 4, 3) := by decide +kernel
theorem dX8_safest_133 : decode cX8_safest 133 = .ok (.iload_n 3, 1) := by decide +kernel
theorem dX8_safest_134 : decode cX8_safest 134 = .ok (.istore_n 3, 1) := by decide +kernel
theorem dX8_safest_135 : decode cX8_safest 135 = .ok (.iinc 4 1, 3) := by decide +kernel
theorem dX8_safest_138 : decode cX8_safest 138 = .ok (.goto (-104), 3) := by decide +kernel
theorem dX8_safest_141 : decode cX8_safest 141 = .ok (.iload_n 1, 1) := by decide +kernel
theorem dX8_safest_142 : decode cX8_safest 142 = .ok (.ifCond .ne 7, 3) := by decide +kernel
theorem dX8_safest_145 : decode cX8_safest 145 = .ok (.iload_n 2, 1) := by decide +kernel
theorem dX8_safest_146 : decode cX8_safest 146 = .ok (.goto 4, 3) := by decide +kernel
theorem dX8_safest_149 : decode cX8_safest 149 = .ok (.iload_n 3, 1) := by decide +kernel
theorem dX8_safest_150 : decode cX8_safest 150 = .ok (.ireturn, 1) := by decide +kernel
theorem dX8_firm_0 : decode cX8_firm 0 = .ok (.aload_n 0, 1) := by decide +kernel
theorem dX8_firm_1 : decode cX8_firm 1 = .ok (.getfield 133, 3) := by decide +kernel
theorem dX8_firm_4 : decode cX8_firm 4 = .ok (.ifCond .ne 5, 3) := by decide +kernel
theorem dX8_firm_7 : decode cX8_firm 7 = .ok (.iconst (-1), 1) := by decide +kernel
theorem dX8_firm_8 : decode cX8_firm 8 = .ok (.ireturn, 1) := by decide +kernel
theorem dX8_firm_9 : decode cX8_firm 9 = .ok (.aload_n 0, 1) := by decide +kernel
theorem dX8_firm_10 : decode cX8_firm 10 = .ok (.iconst 0, 1) := by decide +kernel
theorem dX8_firm_11 : decode cX8_firm 11 = .ok (.iconst 0, 1) := by decide +kernel
theorem dX8_firm_12 : decode cX8_firm 12 = .ok (.invokevirtual 200, 3) := by decide +kernel
theorem dX8_firm_15 : decode cX8_firm 15 = .ok (.ireturn, 1) := by decide +kernel
theorem dX8_talks_0 : decode cX8_talks 0 = .ok (.iconst 0, 1) := by decide +kernel
theorem dX8_talks_1 : decode cX8_talks 1 = .ok (.istore_n 1, 1) := by decide +kernel
theorem dX8_talks_2 : decode cX8_talks 2 = .ok (.iconst 0, 1) := by decide +kernel
theorem dX8_talks_3 : decode cX8_talks 3 = .ok (.istore_n 2, 1) := by decide +kernel
theorem dX8_talks_4 : decode cX8_talks 4 = .ok (.iload_n 2, 1) := by decide +kernel
theorem dX8_talks_5 : decode cX8_talks 5 = .ok (.aload_n 0, 1) := by decide +kernel
theorem dX8_talks_6 : decode cX8_talks 6 = .ok (.getfield 130, 3) := by decide +kernel
theorem dX8_talks_9 : decode cX8_talks 9 = .ok (.if_icmp .ge 143, 3) := by decide +kernel
theorem dX8_talks_12 : decode cX8_talks 12 = .ok (.iload_n 2, 1) := by decide +kernel
theorem dX8_talks_13 : decode cX8_talks 13 = .ok (.iconst 1, 1) := by decide +kernel
theorem dX8_talks_14 : decode cX8_talks 14 = .ok (.iadd, 1) := by decide +kernel
theorem dX8_talks_15 : decode cX8_talks 15 = .ok (.istore_n 3, 1) := by decide +kernel
theorem dX8_talks_16 : decode cX8_talks 16 = .ok (.iload_n 3, 1) := by decide +kernel
theorem dX8_talks_17 : decode cX8_talks 17 = .ok (.aload_n 0, 1) := by decide +kernel
theorem dX8_talks_18 : decode cX8_talks 18 = .ok (.getfield 130, 3) := by decide +kernel
theorem dX8_talks_21 : decode cX8_talks 21 = .ok (.if_icmp .ge 125, 3) := by decide +kernel
theorem dX8_talks_24 : decode cX8_talks 24 = .ok (.aload_n 0, 1) := by decide +kernel
theorem dX8_talks_25 : decode cX8_talks 25 = .ok (.getfield 19, 3) := by decide +kernel
theorem dX8_talks_28 : decode cX8_talks 28 = .ok (.iconst 0, 1) := by decide +kernel
theorem dX8_talks_29 : decode cX8_talks 29 = .ok (.iload_n 2, 1) := by decide +kernel
theorem dX8_talks_30 : decode cX8_talks 30 = .ok (.iadd, 1) := by decide +kernel
theorem dX8_talks_31 : decode cX8_talks 31 = .ok (.iaload, 1) := by decide +kernel
theorem dX8_talks_32 : decode cX8_talks 32 = .ok (.invokestatic 146, 3) := by decide +kernel
theorem dX8_talks_35 : decode cX8_talks 35 = .ok (.aload_n 0, 1) := by decide +kernel
theorem dX8_talks_36 : decode cX8_talks 36 = .ok (.getfield 19, 3) := by decide +kernel
theorem dX8_talks_39 : decode cX8_talks 39 = .ok (.iconst 0, 1) := by decide +kernel
theorem dX8_talks_40 : decode cX8_talks 40 = .ok (.iload_n 3, 1) := by decide +kernel
theorem dX8_talks_41 : decode cX8_talks 41 = .ok (.iadd, 1) := by decide +kernel
theorem dX8_talks_42 : decode cX8_talks 42 = .ok (.iaload, 1) := by decide +kernel
theorem dX8_talks_43 : decode cX8_talks 43 = .ok (.invokestatic 146, 3) := by decide +kernel
theorem dX8_talks_46 : decode cX8_talks 46 = .ok (.isub, 1) := by decide +kernel
theorem dX8_talks_47 : decode cX8_talks 47 = .ok (.istore 4, 2) := by decide +kernel
theorem dX8_talks_49 : decode cX8_talks 49 = .ok (.aload_n 0, 1) := by decide +kernel
theorem dX8_talks_50 : decode cX8_talks 50 = .ok (.getfield 19, 3) := by decide +kernel
theorem dX8_talks_53 : decode cX8_talks 53 = .ok (.iconst 0, 1) := by decide +kernel
theorem dX8_talks_54 : decode cX8_talks 54 = .ok (.iload_n 2, 1) := by decide +kernel
theorem dX8_talks_55 : decode cX8_talks 55 = .ok (.iadd, 1) := by decide +kernel
theorem dX8_talks_56 : decode cX8_talks 56 = .ok (.iaload, 1) := by decide +kernel
theorem dX8_talks_57 : decode cX8_talks 57 = .ok (.invokestatic 149, 3) := by decide +kernel
theorem dX8_talks_60 : decode cX8_talks 60 = .ok (.aload_n 0, 1) := by decide +kernel
theorem dX8_talks_61 : decode cX8_talks 61 = .ok (.getfield 19, 3) := by decide +kernel
theorem dX8_talks_64 : decode cX8_talks 64 = .ok (.iconst 0, 1) := by decide +kernel
theorem dX8_talks_65 : decode cX8_talks 65 = .ok (.iload_n 3, 1) := by decide +kernel
theorem dX8_talks_66 : decode cX8_talks 66 = .ok (.iadd, 1) := by decide +kernel
theorem dX8_talks_67 : decode cX8_talks 67 = .ok (.iaload, 1) := by decide +kernel
theorem dX8_talks_68 : decode cX8_talks 68 = .ok (.invokestatic 149, 3) := by decide +kernel
theorem dX8_talks_71 : decode cX8_talks 71 = .ok (.isub, 1) := by decide +kernel
theorem dX8_talks_72 : decode cX8_talks 72 = .ok (.istore 5, 2) := by decide +kernel
theorem dX8_talks_74 : decode cX8_talks 74 = .ok (.iload 4, 2) := by decide +kernel
theorem dX8_talks_76 : decode cX8_talks 76 = .ok (.iload 4, 2) := by decide +kernel
theorem dX8_talks_78 : decode cX8_talks 78 = .ok (.imul, 1) := by decide +kernel
theorem dX8_talks_79 : decode cX8_talks 79 = .ok (.iconst 1, 1) := by decide +kernel
theorem dX8_talks_80 : decode cX8_talks 80 = .ok (.if_icmp .ne 16, 3) := by decide +kernel
theorem dX8_talks_83 : decode cX8_talks 83 = .ok (.iload 5, 2) := by decide +kernel
theorem dX8_talks_85 : decode cX8_talks 85 = .ok (.iload 5, 2) := by decide +kernel
theorem dX8_talks_87 : decode cX8_talks 87 = .ok (.imul, 1) := by decide +kernel
theorem dX8_talks_88 : decode cX8_talks 88 = .ok (.iconst 1, 1) := by decide +kernel
theorem dX8_talks_89 : decode cX8_talks 89 = .ok (.if_icmp .ne 7, 3) := by decide +kernel
theorem dX8_talks_92 : decode cX8_talks 92 = .ok (.iconst 1, 1) := by decide +kernel
theorem dX8_talks_93 : decode cX8_talks 93 = .ok (.goto 4, 3) := by decide +kernel
theorem dX8_talks_96 : decode cX8_talks 96 = .ok (.iconst 0, 1) := by decide +kernel
theorem dX8_talks_97 : decode cX8_talks 97 = .ok (.istore 6, 2) := by decide +kernel
theorem dX8_talks_99 : decode cX8_talks 99 = .ok (.iload_n 1, 1) := by decide +kernel
theorem dX8_talks_100 : decode cX8_talks 100 = .ok (.iload 6, 2) := by decide +kernel
theorem dX8_talks_102 : decode cX8_talks 102 = .ok (.ifCond .eq 35, 3) := by decide +kernel
theorem dX8_talks_105 : decode cX8_talks 105 = .ok (.aload_n 0, 1) := by decide +kernel
theorem dX8_talks_106 : decode cX8_talks 106 = .ok (.getfield 19, 3) := by decide +kernel
theorem dX8_talks_109 : decode cX8_talks 109 = .ok (.bipush 45, 2) := by decide +kernel
theorem dX8_talks_111 : decode cX8_talks 111 = .ok (.iaload, 1) := by decide +kernel
theorem dX8_talks_112 : decode cX8_talks 112 = .ok (.iload_n 2, 1) := by decide +kernel
theorem dX8_talks_113 : decode cX8_talks 113 = .ok (.invokestatic 170, 3) := by decide +kernel
theorem dX8_talks_116 : decode cX8_talks 116 = .ok (.ifCond .ne 21, 3) := by decide +kernel
theorem dX8_talks_119 : decode cX8_talks 119 = .ok (.aload_n 0, 1) := by decide +kernel
theorem dX8_talks_120 : decode cX8_talks 120 = .ok (.getfield 19, 3) := by decide +kernel
theorem dX8_talks_123 : decode cX8_talks 123 = .ok (.bipush 45, 2) := by decide +kernel
theorem dX8_talks_125 : decode cX8_talks 125 = .ok (.iaload, 1) := by decide +kernel
theorem dX8_talks_126 : decode cX8_talks 126 = .ok (.iload_n 3, 1) := by decide +kernel
theorem dX8_talks_127 : decode cX8_talks 127 = .ok (.invokestatic 170, 3) := by decide +kernel
theorem dX8_talks_130 : decode cX8_talks 130 = .ok (.ifCond .ne 7, 3) := by decide +kernel
theorem dX8_talks_133 : decode cX8_talks 133 = .ok (.iconst 1, 1) := by decide +kernel
theorem dX8_talks_134 : decode cX8_talks 134 = .ok (.goto 4, 3) := by decide +kernel
theorem dX8_talks_137 : decode cX8_talks 137 = .ok (.iconst 0, 1) := by decide +kernel
theorem dX8_talks_138 : decode cX8_talks 138 = .ok (.iadd, 1) := by decide +kernel
theorem dX8_talks_139 : decode cX8_talks 139 = .ok (.istore_n 1, 1) := by decide +kernel
theorem dX8_talks_140 : decode cX8_talks 140 = .ok (.iinc 3 1, 3) := by decide +kernel
theorem dX8_talks_143 : decode cX8_talks 143 = .ok (.goto (-127), 3) := by decide +kernel
theorem dX8_talks_146 : decode cX8_talks 146 = .ok (.iinc 2 1, 3) := by decide +kernel
theorem dX8_talks_149 : decode cX8_talks 149 = .ok (.goto (-145), 3) := by decide +kernel
theorem dX8_talks_152 : decode cX8_talks 152 = .ok (.iload_n 1, 1) := by decide +kernel
theorem dX8_talks_153 : decode cX8_talks 153 = .ok (.ireturn, 1) := by decide +kernel
theorem dX8_told_0 : decode cX8_told 0 = .ok (.aload_n 0, 1) := by decide +kernel
theorem dX8_told_1 : decode cX8_told 1 = .ok (.iconst 0, 1) := by decide +kernel
theorem dX8_told_2 : decode cX8_told 2 = .ok (.putfield 72, 3) := by decide +kernel
theorem dX8_told_5 : decode cX8_told 5 = .ok (.iload_n 1, 1) := by decide +kernel
theorem dX8_told_6 : decode cX8_told 6 = .ok (.iconst 0, 1) := by decide +kernel
theorem dX8_told_7 : decode cX8_told 7 = .ok (.bipush 13, 2) := by decide +kernel
theorem dX8_told_9 : decode cX8_told 9 = .ok (.invokestatic 75, 3) := by decide +kernel
theorem dX8_told_12 : decode cX8_told 12 = .ok (.ifCond .ne 6, 3) := by decide +kernel
theorem dX8_told_15 : decode cX8_told 15 = .ok (.ldc 79, 2) := by decide +kernel
theorem dX8_told_17 : decode cX8_told 17 = .ok (.ireturn, 1) := by decide +kernel
theorem dX8_told_18 : decode cX8_told 18 = .ok (.iload_n 1, 1) := by decide +kernel
theorem dX8_told_19 : decode cX8_told 19 = .ok (.bipush 6, 2) := by decide +kernel
theorem dX8_told_21 : decode cX8_told 21 = .ok (.if_icmp .ge 87, 3) := by decide +kernel
theorem dX8_told_24 : decode cX8_told 24 = .ok (.iload_n 1, 1) := by decide +kernel
theorem dX8_told_25 : decode cX8_told 25 = .ok (.ifCond .ne 21, 3) := by decide +kernel
theorem dX8_told_28 : decode cX8_told 28 = .ok (.aload_n 0, 1) := by decide +kernel
theorem dX8_told_29 : decode cX8_told 29 = .ok (.getfield 133, 3) := by decide +kernel
theorem dX8_told_32 : decode cX8_told 32 = .ok (.ifCond .eq 10, 3) := by decide +kernel
theorem dX8_told_35 : decode cX8_told 35 = .ok (.aload_n 0, 1) := by decide +kernel
theorem dX8_told_36 : decode cX8_told 36 = .ok (.getfield 137, 3) := by decide +kernel
theorem dX8_told_39 : decode cX8_told 39 = .ok (.goto 68, 3) := by decide +kernel
theorem dX8_told_42 : decode cX8_told 42 = .ok (.iconst (-1), 1) := by decide +kernel
theorem dX8_told_43 : decode cX8_told 43 = .ok (.goto 64, 3) := by decide +kernel
theorem dX8_told_46 : decode cX8_told 46 = .ok (.iload_n 1, 1) := by decide +kernel
theorem dX8_told_47 : decode cX8_told 47 = .ok (.iconst 1, 1) := by decide +kernel
theorem dX8_told_48 : decode cX8_told 48 = .ok (.if_icmp .ne 10, 3) := by decide +kernel
theorem dX8_told_51 : decode cX8_told 51 = .ok (.aload_n 0, 1) := by decide +kernel
theorem dX8_told_52 : decode cX8_told 52 = .ok (.getfield 130, 3) := by decide +kernel
theorem dX8_told_55 : decode cX8_told 55 = .ok (.goto 52, 3) := by decide +kernel
theorem dX8_told_58 : decode cX8_told 58 = .ok (.iload_n 1, 1) := by decide +kernel
theorem dX8_told_59 : decode cX8_told 59 = .ok (.iconst 2, 1) := by decide +kernel
theorem dX8_told_60 : decode cX8_told 60 = .ok (.if_icmp .ne 10, 3) := by decide +kernel
theorem dX8_told_63 : decode cX8_told 63 = .ok (.aload_n 0, 1) := by decide +kernel
theorem dX8_told_64 : decode cX8_told 64 = .ok (.getfield 80, 3) := by decide +kernel
theorem dX8_told_67 : decode cX8_told 67 = .ok (.goto 40, 3) := by decide +kernel
theorem dX8_told_70 : decode cX8_told 70 = .ok (.iload_n 1, 1) := by decide +kernel
theorem dX8_told_71 : decode cX8_told 71 = .ok (.iconst 3, 1) := by decide +kernel
theorem dX8_told_72 : decode cX8_told 72 = .ok (.if_icmp .ne 13, 3) := by decide +kernel
theorem dX8_told_75 : decode cX8_told 75 = .ok (.aload_n 0, 1) := by decide +kernel
theorem dX8_told_76 : decode cX8_told 76 = .ok (.getfield 19, 3) := by decide +kernel
theorem dX8_told_79 : decode cX8_told 79 = .ok (.bipush 45, 2) := by decide +kernel
theorem dX8_told_81 : decode cX8_told 81 = .ok (.iaload, 1) := by decide +kernel
theorem dX8_told_82 : decode cX8_told 82 = .ok (.goto 25, 3) := by decide +kernel
theorem dX8_told_85 : decode cX8_told 85 = .ok (.iload_n 1, 1) := by decide +kernel
theorem dX8_told_86 : decode cX8_told 86 = .ok (.iconst 4, 1) := by decide +kernel
theorem dX8_told_87 : decode cX8_told 87 = .ok (.if_icmp .ne 13, 3) := by decide +kernel
theorem dX8_told_90 : decode cX8_told 90 = .ok (.aload_n 0, 1) := by decide +kernel
theorem dX8_told_91 : decode cX8_told 91 = .ok (.getfield 19, 3) := by decide +kernel
theorem dX8_told_94 : decode cX8_told 94 = .ok (.bipush 46, 2) := by decide +kernel
theorem dX8_told_96 : decode cX8_told 96 = .ok (.iaload, 1) := by decide +kernel
theorem dX8_told_97 : decode cX8_told 97 = .ok (.goto 10, 3) := by decide +kernel
theorem dX8_told_100 : decode cX8_told 100 = .ok (.aload_n 0, 1) := by decide +kernel
theorem dX8_told_101 : decode cX8_told 101 = .ok (.getfield 19, 3) := by decide +kernel
theorem dX8_told_104 : decode cX8_told 104 = .ok (.bipush 47, 2) := by decide +kernel
theorem dX8_told_106 : decode cX8_told 106 = .ok (.iaload, 1) := by decide +kernel
theorem dX8_told_107 : decode cX8_told 107 = .ok (.ireturn, 1) := by decide +kernel
theorem dX8_told_108 : decode cX8_told 108 = .ok (.iload_n 1, 1) := by decide +kernel
theorem dX8_told_109 : decode cX8_told 109 = .ok (.bipush 10, 2) := by decide +kernel
theorem dX8_told_111 : decode cX8_told 111 = .ok (.if_icmp .ge 29, 3) := by decide +kernel
theorem dX8_told_114 : decode cX8_told 114 = .ok (.iload_n 1, 1) := by decide +kernel
theorem dX8_told_115 : decode cX8_told 115 = .ok (.bipush 8, 2) := by decide +kernel
theorem dX8_told_117 : decode cX8_told 117 = .ok (.if_icmp .ge 14, 3) := by decide +kernel
theorem dX8_told_120 : decode cX8_told 120 = .ok (.aload_n 0, 1) := by decide +kernel
theorem dX8_told_121 : decode cX8_told 121 = .ok (.iload_n 1, 1) := by decide +kernel
theorem dX8_told_122 : decode cX8_told 122 = .ok (.bipush 6, 2) := by decide +kernel
theorem dX8_told_124 : decode cX8_told 124 = .ok (.isub, 1) := by decide +kernel
theorem dX8_told_125 : decode cX8_told 125 = .ok (.invokevirtual 203, 3) := by decide +kernel
theorem dX8_told_128 : decode cX8_told 128 = .ok (.goto 11, 3) := by decide +kernel
theorem dX8_told_131 : decode cX8_told 131 = .ok (.aload_n 0, 1) := by decide +kernel
theorem dX8_told_132 : decode cX8_told 132 = .ok (.iload_n 1, 1) := by decide +kernel
theorem dX8_told_133 : decode cX8_told 133 = .ok (.bipush 8, 2) := by decide +kernel
theorem dX8_told_135 : decode cX8_told 135 = .ok (.isub, 1) := by decide +kernel
theorem dX8_told_136 : decode cX8_told 136 = .ok (.invokevirtual 206, 3) := by decide +kernel
theorem dX8_told_139 : decode cX8_told 139 = .ok (.ireturn, 1) := by decide +kernel
theorem dX8_told_140 : decode cX8_told 140 = .ok (.iload_n 1, 1) := by decide +kernel
theorem dX8_told_141 : decode cX8_told 141 = .ok (.bipush 10, 2) := by decide +kernel
theorem dX8_told_143 : decode cX8_told 143 = .ok (.if_icmp .ne 10, 3) := by decide +kernel
theorem dX8_told_146 : decode cX8_told 146 = .ok (.aload_n 0, 1) := by decide +kernel
theorem dX8_told_147 : decode cX8_told 147 = .ok (.invokevirtual 209, 3) := by decide +kernel
theorem dX8_told_150 : decode cX8_told 150 = .ok (.goto 33, 3) := by decide +kernel
theorem dX8_told_153 : decode cX8_told 153 = .ok (.iload_n 1, 1) := by decide +kernel
theorem dX8_told_154 : decode cX8_told 154 = .ok (.bipush 11, 2) := by decide +kernel
theorem dX8_told_156 : decode cX8_told 156 = .ok (.if_icmp .ne 10, 3) := by decide +kernel
theorem dX8_told_159 : decode cX8_told 159 = .ok (.aload_n 0, 1) := by decide +kernel
theorem dX8_told_160 : decode cX8_told 160 = .ok (.invokevirtual 213, 3) := by decide +kernel
theorem dX8_told_163 : decode cX8_told 163 = .ok (.goto 20, 3) := by decide +kernel
theorem dX8_told_166 : decode cX8_told 166 = .ok (.iload_n 1, 1) := by decide +kernel
theorem dX8_told_167 : decode cX8_told 167 = .ok (.bipush 12, 2) := by decide +kernel
theorem dX8_told_169 : decode cX8_told 169 = .ok (.if_icmp .ne 10, 3) := by decide +kernel
theorem dX8_told_172 : decode cX8_told 172 = .ok (.aload_n 0, 1) := by decide +kernel
theorem dX8_told_173 : decode cX8_told 173 = .ok (.getfield 140, 3) := by decide +kernel
theorem dX8_told_176 : decode cX8_told 176 = .ok (.goto 7, 3) := by decide +kernel
theorem dX8_told_179 : decode cX8_told 179 = .ok (.aload_n 0, 1) := by decide +kernel
theorem dX8_told_180 : decode cX8_told 180 = .ok (.getfield 143, 3) := by decide +kernel
theorem dX8_told_183 : decode cX8_told 183 = .ok (.ireturn, 1) := by decide +kernel
theorem dX8_firstTaker_0 : decode cX8_firstTaker 0 = .ok (.iload_n 1, 1) := by decide +kernel
theorem dX8_firstTaker_1 : decode cX8_firstTaker 1 = .ok (.istore_n 2, 1) := by decide +kernel
theorem dX8_firstTaker_2 : decode cX8_firstTaker 2 = .ok (.iconst 0, 1) := by decide +kernel
theorem dX8_firstTaker_3 : decode cX8_firstTaker 3 = .ok (.istore_n 3, 1) := by decide +kernel
theorem dX8_firstTaker_4 : decode cX8_firstTaker 4 = .ok (.iload_n 3, 1) := by decide +kernel
theorem dX8_firstTaker_5 : decode cX8_firstTaker 5 = .ok (.bipush 9, 2) := by decide +kernel
theorem dX8_firstTaker_7 : decode cX8_firstTaker 7 = .ok (.if_icmp .ge 32, 3) := by decide +kernel
theorem dX8_firstTaker_10 : decode cX8_firstTaker 10 = .ok (.aload_n 0, 1) := by decide +kernel
theorem dX8_firstTaker_11 : decode cX8_firstTaker 11 = .ok (.getfield 19, 3) := by decide +kernel
theorem dX8_firstTaker_14 : decode cX8_firstTaker 14 = .ok (.bipush 18, 2) := by decide +kernel
theorem dX8_firstTaker_16 : decode cX8_firstTaker 16 = .ok (.iload_n 2, 1) := by decide +kernel
theorem dX8_firstTaker_17 : decode cX8_firstTaker 17 = .ok (.iadd, 1) := by decide +kernel
theorem dX8_firstTaker_18 : decode cX8_firstTaker 18 = .ok (.iaload, 1) := by decide +kernel
theorem dX8_firstTaker_19 : decode cX8_firstTaker 19 = .ok (.iconst (-1), 1) := by decide +kernel
theorem dX8_firstTaker_20 : decode cX8_firstTaker 20 = .ok (.if_icmp .eq 19, 3) := by decide +kernel
theorem dX8_firstTaker_23 : decode cX8_firstTaker 23 = .ok (.aload_n 0, 1) := by decide +kernel
theorem dX8_firstTaker_24 : decode cX8_firstTaker 24 = .ok (.getfield 19, 3) := by decide +kernel
theorem dX8_firstTaker_27 : decode cX8_firstTaker 27 = .ok (.bipush 18, 2) := by decide +kernel
theorem dX8_firstTaker_29 : decode cX8_firstTaker 29 = .ok (.iload_n 2, 1) := by decide +kernel
theorem dX8_firstTaker_30 : decode cX8_firstTaker 30 = .ok (.iadd, 1) := by decide +kernel
theorem dX8_firstTaker_31 : decode cX8_firstTaker 31 = .ok (.iaload, 1) := by decide +kernel
theorem dX8_firstTaker_32 : decode cX8_firstTaker 32 = .ok (.istore_n 2, 1) := by decide +kernel
theorem dX8_firstTaker_33 : decode cX8_firstTaker 33 = .ok (.iinc 3 1, 3) := by decide +kernel
theorem dX8_firstTaker_36 : decode cX8_firstTaker 36 = .ok (.goto (-32), 3) := by decide +kernel
theorem dX8_firstTaker_39 : decode cX8_firstTaker 39 = .ok (.iload_n 2, 1) := by decide +kernel
theorem dX8_firstTaker_40 : decode cX8_firstTaker 40 = .ok (.ireturn, 1) := by decide +kernel
theorem dX8_skittle_0 : decode cX8_skittle 0 = .ok (.aload_n 0, 1) := by decide +kernel
theorem dX8_skittle_1 : decode cX8_skittle 1 = .ok (.iconst 0, 1) := by decide +kernel
theorem dX8_skittle_2 : decode cX8_skittle 2 = .ok (.putfield 72, 3) := by decide +kernel
theorem dX8_skittle_5 : decode cX8_skittle 5 = .ok (.aload_n 0, 1) := by decide +kernel
theorem dX8_skittle_6 : decode cX8_skittle 6 = .ok (.iload_n 1, 1) := by decide +kernel
theorem dX8_skittle_7 : decode cX8_skittle 7 = .ok (.invokevirtual 216, 3) := by decide +kernel
theorem dX8_skittle_10 : decode cX8_skittle 10 = .ok (.ifCond .ne 6, 3) := by decide +kernel
theorem dX8_skittle_13 : decode cX8_skittle 13 = .ok (.ldc 220, 2) := by decide +kernel
theorem dX8_skittle_15 : decode cX8_skittle 15 = .ok (.ireturn, 1) := by decide +kernel
theorem dX8_skittle_16 : decode cX8_skittle 16 = .ok (.iload_n 2, 1) := by decide +kernel
theorem dX8_skittle_17 : decode cX8_skittle 17 = .ok (.iconst 0, 1) := by decide +kernel
theorem dX8_skittle_18 : decode cX8_skittle 18 = .ok (.bipush 8, 2) := by decide +kernel
theorem dX8_skittle_20 : decode cX8_skittle 20 = .ok (.invokestatic 75, 3) := by decide +kernel
theorem dX8_skittle_23 : decode cX8_skittle 23 = .ok (.ifCond .ne 6, 3) := by decide +kernel
theorem dX8_skittle_26 : decode cX8_skittle 26 = .ok (.ldc 79, 2) := by decide +kernel
theorem dX8_skittle_28 : decode cX8_skittle 28 = .ok (.ireturn, 1) := by decide +kernel
theorem dX8_skittle_29 : decode cX8_skittle 29 = .ok (.iload_n 2, 1) := by decide +kernel
theorem dX8_skittle_30 : decode cX8_skittle 30 = .ok (.iconst 4, 1) := by decide +kernel
theorem dX8_skittle_31 : decode cX8_skittle 31 = .ok (.if_icmp .ge 59, 3) := by decide +kernel
theorem dX8_skittle_34 : decode cX8_skittle 34 = .ok (.iload_n 2, 1) := by decide +kernel
theorem dX8_skittle_35 : decode cX8_skittle 35 = .ok (.ifCond .ne 15, 3) := by decide +kernel
theorem dX8_skittle_38 : decode cX8_skittle 38 = .ok (.aload_n 0, 1) := by decide +kernel
theorem dX8_skittle_39 : decode cX8_skittle 39 = .ok (.getfield 19, 3) := by decide +kernel
theorem dX8_skittle_42 : decode cX8_skittle 42 = .ok (.bipush 27, 2) := by decide +kernel
theorem dX8_skittle_44 : decode cX8_skittle 44 = .ok (.iload_n 1, 1) := by decide +kernel
theorem dX8_skittle_45 : decode cX8_skittle 45 = .ok (.iadd, 1) := by decide +kernel
theorem dX8_skittle_46 : decode cX8_skittle 46 = .ok (.iaload, 1) := by decide +kernel
theorem dX8_skittle_47 : decode cX8_skittle 47 = .ok (.goto 42, 3) := by decide +kernel
theorem dX8_skittle_50 : decode cX8_skittle 50 = .ok (.iload_n 2, 1) := by decide +kernel
theorem dX8_skittle_51 : decode cX8_skittle 51 = .ok (.iconst 1, 1) := by decide +kernel
theorem dX8_skittle_52 : decode cX8_skittle 52 = .ok (.if_icmp .ne 12, 3) := by decide +kernel
theorem dX8_skittle_55 : decode cX8_skittle 55 = .ok (.aload_n 0, 1) := by decide +kernel
theorem dX8_skittle_56 : decode cX8_skittle 56 = .ok (.getfield 16, 3) := by decide +kernel
theorem dX8_skittle_59 : decode cX8_skittle 59 = .ok (.iload_n 1, 1) := by decide +kernel
theorem dX8_skittle_60 : decode cX8_skittle 60 = .ok (.iaload, 1) := by decide +kernel
theorem dX8_skittle_61 : decode cX8_skittle 61 = .ok (.goto 28, 3) := by decide +kernel
theorem dX8_skittle_64 : decode cX8_skittle 64 = .ok (.iload_n 2, 1) := by decide +kernel
theorem dX8_skittle_65 : decode cX8_skittle 65 = .ok (.iconst 2, 1) := by decide +kernel
theorem dX8_skittle_66 : decode cX8_skittle 66 = .ok (.if_icmp .ne 15, 3) := by decide +kernel
theorem dX8_skittle_69 : decode cX8_skittle 69 = .ok (.aload_n 0, 1) := by decide +kernel
theorem dX8_skittle_70 : decode cX8_skittle 70 = .ok (.getfield 19, 3) := by decide +kernel
theorem dX8_skittle_73 : decode cX8_skittle 73 = .ok (.bipush 36, 2) := by decide +kernel
theorem dX8_skittle_75 : decode cX8_skittle 75 = .ok (.iload_n 1, 1) := by decide +kernel
theorem dX8_skittle_76 : decode cX8_skittle 76 = .ok (.iadd, 1) := by decide +kernel
theorem dX8_skittle_77 : decode cX8_skittle 77 = .ok (.iaload, 1) := by decide +kernel
theorem dX8_skittle_78 : decode cX8_skittle 78 = .ok (.goto 11, 3) := by decide +kernel
theorem dX8_skittle_81 : decode cX8_skittle 81 = .ok (.aload_n 0, 1) := by decide +kernel
theorem dX8_skittle_82 : decode cX8_skittle 82 = .ok (.getfield 19, 3) := by decide +kernel
theorem dX8_skittle_85 : decode cX8_skittle 85 = .ok (.iconst 0, 1) := by decide +kernel
theorem dX8_skittle_86 : decode cX8_skittle 86 = .ok (.iload_n 1, 1) := by decide +kernel
theorem dX8_skittle_87 : decode cX8_skittle 87 = .ok (.iadd, 1) := by decide +kernel
theorem dX8_skittle_88 : decode cX8_skittle 88 = .ok (.iaload, 1) := by decide +kernel
theorem dX8_skittle_89 : decode cX8_skittle 89 = .ok (.ireturn, 1) := by decide +kernel
theorem dX8_skittle_90 : decode cX8_skittle 90 = .ok (.iload_n 2, 1) := by decide +kernel
theorem dX8_skittle_91 : decode cX8_skittle 91 = .ok (.bipush 7, 2) := by decide +kernel
theorem dX8_skittle_93 : decode cX8_skittle 93 = .ok (.if_icmp .ge 49, 3) := by decide +kernel
theorem dX8_skittle_96 : decode cX8_skittle 96 = .ok (.iload_n 2, 1) := by decide +kernel
theorem dX8_skittle_97 : decode cX8_skittle 97 = .ok (.iconst 4, 1) := by decide +kernel
theorem dX8_skittle_98 : decode cX8_skittle 98 = .ok (.if_icmp .ne 17, 3) := by decide +kernel
theorem dX8_skittle_101 : decode cX8_skittle 101 = .ok (.aload_n 0, 1) := by decide +kernel
theorem dX8_skittle_102 : decode cX8_skittle 102 = .ok (.getfield 19, 3) := by decide +kernel
theorem dX8_skittle_105 : decode cX8_skittle 105 = .ok (.bipush 45, 2) := by decide +kernel
theorem dX8_skittle_107 : decode cX8_skittle 107 = .ok (.iaload, 1) := by decide +kernel
theorem dX8_skittle_108 : decode cX8_skittle 108 = .ok (.iload_n 1, 1) := by decide +kernel
theorem dX8_skittle_109 : decode cX8_skittle 109 = .ok (.ishr, 1) := by decide +kernel
theorem dX8_skittle_110 : decode cX8_skittle 110 = .ok (.iconst 1, 1) := by decide +kernel
theorem dX8_skittle_111 : decode cX8_skittle 111 = .ok (.iand, 1) := by decide +kernel
theorem dX8_skittle_112 : decode cX8_skittle 112 = .ok (.goto 29, 3) := by decide +kernel
theorem dX8_skittle_115 : decode cX8_skittle 115 = .ok (.iload_n 2, 1) := by decide +kernel
theorem dX8_skittle_116 : decode cX8_skittle 116 = .ok (.iconst 5, 1) := by decide +kernel
theorem dX8_skittle_117 : decode cX8_skittle 117 = .ok (.if_icmp .ne 15, 3) := by decide +kernel
theorem dX8_skittle_120 : decode cX8_skittle 120 = .ok (.aload_n 0, 1) := by decide +kernel
theorem dX8_skittle_121 : decode cX8_skittle 121 = .ok (.getfield 19, 3) := by decide +kernel
theorem dX8_skittle_124 : decode cX8_skittle 124 = .ok (.bipush 9, 2) := by decide +kernel
theorem dX8_skittle_126 : decode cX8_skittle 126 = .ok (.iload_n 1, 1) := by decide +kernel
theorem dX8_skittle_127 : decode cX8_skittle 127 = .ok (.iadd, 1) := by decide +kernel
theorem dX8_skittle_128 : decode cX8_skittle 128 = .ok (.iaload, 1) := by decide +kernel
theorem dX8_skittle_129 : decode cX8_skittle 129 = .ok (.goto 12, 3) := by decide +kernel
theorem dX8_skittle_132 : decode cX8_skittle 132 = .ok (.aload_n 0, 1) := by decide +kernel
theorem dX8_skittle_133 : decode cX8_skittle 133 = .ok (.getfield 19, 3) := by decide +kernel
theorem dX8_skittle_136 : decode cX8_skittle 136 = .ok (.bipush 18, 2) := by decide +kernel
theorem dX8_skittle_138 : decode cX8_skittle 138 = .ok (.iload_n 1, 1) := by decide +kernel
theorem dX8_skittle_139 : decode cX8_skittle 139 = .ok (.iadd, 1) := by decide +kernel
theorem dX8_skittle_140 : decode cX8_skittle 140 = .ok (.iaload, 1) := by decide +kernel
theorem dX8_skittle_141 : decode cX8_skittle 141 = .ok (.ireturn, 1) := by decide +kernel
theorem dX8_skittle_142 : decode cX8_skittle 142 = .ok (.iload_n 2, 1) := by decide +kernel
theorem dX8_skittle_143 : decode cX8_skittle 143 = .ok (.bipush 7, 2) := by decide +kernel
theorem dX8_skittle_145 : decode cX8_skittle 145 = .ok (.if_icmp .ne 11, 3) := by decide +kernel
theorem dX8_skittle_148 : decode cX8_skittle 148 = .ok (.aload_n 0, 1) := by decide +kernel
theorem dX8_skittle_149 : decode cX8_skittle 149 = .ok (.iload_n 1, 1) := by decide +kernel
theorem dX8_skittle_150 : decode cX8_skittle 150 = .ok (.invokevirtual 221, 3) := by decide +kernel
theorem dX8_skittle_153 : decode cX8_skittle 153 = .ok (.goto 16, 3) := by decide +kernel
theorem dX8_skittle_156 : decode cX8_skittle 156 = .ok (.aload_n 0, 1) := by decide +kernel
theorem dX8_skittle_157 : decode cX8_skittle 157 = .ok (.iload_n 1, 1) := by decide +kernel
theorem dX8_skittle_158 : decode cX8_skittle 158 = .ok (.aload_n 0, 1) := by decide +kernel
theorem dX8_skittle_159 : decode cX8_skittle 159 = .ok (.getfield 19, 3) := by decide +kernel
theorem dX8_skittle_162 : decode cX8_skittle 162 = .ok (.iconst 0, 1) := by decide +kernel
theorem dX8_skittle_163 : decode cX8_skittle 163 = .ok (.iload_n 1, 1) := by decide +kernel
theorem dX8_skittle_164 : decode cX8_skittle 164 = .ok (.iadd, 1) := by decide +kernel
theorem dX8_skittle_165 : decode cX8_skittle 165 = .ok (.iaload, 1) := by decide +kernel
theorem dX8_skittle_166 : decode cX8_skittle 166 = .ok (.invokevirtual 152, 3) := by decide +kernel
theorem dX8_skittle_169 : decode cX8_skittle 169 = .ok (.ireturn, 1) := by decide +kernel
theorem dX8_whoOn_0 : decode cX8_whoOn 0 = .ok (.iconst (-1), 1) := by decide +kernel
theorem dX8_whoOn_1 : decode cX8_whoOn 1 = .ok (.istore_n 2, 1) := by decide +kernel
theorem dX8_whoOn_2 : decode cX8_whoOn 2 = .ok (.iconst 0, 1) := by decide +kernel
theorem dX8_whoOn_3 : decode cX8_whoOn 3 = .ok (.istore_n 3, 1) := by decide +kernel
theorem dX8_whoOn_4 : decode cX8_whoOn 4 = .ok (.iload_n 3, 1) := by decide +kernel
theorem dX8_whoOn_5 : decode cX8_whoOn 5 = .ok (.aload_n 0, 1) := by decide +kernel
theorem dX8_whoOn_6 : decode cX8_whoOn 6 = .ok (.getfield 130, 3) := by decide +kernel
theorem dX8_whoOn_9 : decode cX8_whoOn 9 = .ok (.if_icmp .ge 27, 3) := by decide +kernel
theorem dX8_whoOn_12 : decode cX8_whoOn 12 = .ok (.aload_n 0, 1) := by decide +kernel
theorem dX8_whoOn_13 : decode cX8_whoOn 13 = .ok (.getfield 19, 3) := by decide +kernel
theorem dX8_whoOn_16 : decode cX8_whoOn 16 = .ok (.iconst 0, 1) := by decide +kernel
theorem dX8_whoOn_17 : decode cX8_whoOn 17 = .ok (.iload_n 3, 1) := by decide +kernel
theorem dX8_whoOn_18 : decode cX8_whoOn 18 = .ok (.iadd, 1) := by decide +kernel
theorem dX8_whoOn_19 : decode cX8_whoOn 19 = .ok (.iaload, 1) := by decide +kernel
theorem dX8_whoOn_20 : decode cX8_whoOn 20 = .ok (.iload_n 1, 1) := by decide +kernel
theorem dX8_whoOn_21 : decode cX8_whoOn 21 = .ok (.if_icmp .ne 7, 3) := by decide +kernel
theorem dX8_whoOn_24 : decode cX8_whoOn 24 = .ok (.iload_n 3, 1) := by decide +kernel
theorem dX8_whoOn_25 : decode cX8_whoOn 25 = .ok (.goto 4, 3) := by decide +kernel
theorem dX8_whoOn_28 : decode cX8_whoOn 28 = .ok (.iload_n 2, 1) := by decide +kernel
theorem dX8_whoOn_29 : decode cX8_whoOn 29 = .ok (.istore_n 2, 1) := by decide +kernel
theorem dX8_whoOn_30 : decode cX8_whoOn 30 = .ok (.iinc 3 1, 3) := by decide +kernel
theorem dX8_whoOn_33 : decode cX8_whoOn 33 = .ok (.goto (-29), 3) := by decide +kernel
theorem dX8_whoOn_36 : decode cX8_whoOn 36 = .ok (.iload_n 2, 1) := by decide +kernel
theorem dX8_whoOn_37 : decode cX8_whoOn 37 = .ok (.ireturn, 1) := by decide +kernel
theorem dX8_plate_0 : decode cX8_plate 0 = .ok (.aload_n 0, 1) := by decide +kernel
theorem dX8_plate_1 : decode cX8_plate 1 = .ok (.iconst 0, 1) := by decide +kernel
theorem dX8_plate_2 : decode cX8_plate 2 = .ok (.putfield 72, 3) := by decide +kernel
theorem dX8_plate_5 : decode cX8_plate 5 = .ok (.iload_n 1, 1) := by decide +kernel
theorem dX8_plate_6 : decode cX8_plate 6 = .ok (.invokestatic 224, 3) := by decide +kernel
theorem dX8_plate_9 : decode cX8_plate 9 = .ok (.ifCond .eq 11, 3) := by decide +kernel
theorem dX8_plate_12 : decode cX8_plate 12 = .ok (.aload_n 0, 1) := by decide +kernel
theorem dX8_plate_13 : decode cX8_plate 13 = .ok (.iload_n 1, 1) := by decide +kernel
theorem dX8_plate_14 : decode cX8_plate 14 = .ok (.invokevirtual 227, 3) := by decide +kernel
theorem dX8_plate_17 : decode cX8_plate 17 = .ok (.goto 5, 3) := by decide +kernel
theorem dX8_plate_20 : decode cX8_plate 20 = .ok (.ldc 220, 2) := by decide +kernel
theorem dX8_plate_22 : decode cX8_plate 22 = .ok (.ireturn, 1) := by decide +kernel
theorem dX8_notes_0 : decode cX8_notes 0 = .ok (.aload_n 0, 1) := by decide +kernel
theorem dX8_notes_1 : decode cX8_notes 1 = .ok (.getfield 143, 3) := by decide +kernel
theorem dX8_notes_4 : decode cX8_notes 4 = .ok (.bipush 16, 2) := by decide +kernel
theorem dX8_notes_6 : decode cX8_notes 6 = .ok (.if_icmp .ne 39, 3) := by decide +kernel
theorem dX8_notes_9 : decode cX8_notes 9 = .ok (.iconst 0, 1) := by decide +kernel
theorem dX8_notes_10 : decode cX8_notes 10 = .ok (.istore_n 1, 1) := by decide +kernel
theorem dX8_notes_11 : decode cX8_notes 11 = .ok (.iload_n 1, 1) := by decide +kernel
theorem dX8_notes_12 : decode cX8_notes 12 = .ok (.sipush 735, 3) := by decide +kernel
theorem dX8_notes_15 : decode cX8_notes 15 = .ok (.if_icmp .ge 24, 3) := by decide +kernel
theorem dX8_notes_18 : decode cX8_notes 18 = .ok (.aload_n 0, 1) := by decide +kernel
theorem dX8_notes_19 : decode cX8_notes 19 = .ok (.getfield 29, 3) := by decide +kernel
theorem dX8_notes_22 : decode cX8_notes 22 = .ok (.iload_n 1, 1) := by decide +kernel
theorem dX8_notes_23 : decode cX8_notes 23 = .ok (.aload_n 0, 1) := by decide +kernel
theorem dX8_notes_24 : decode cX8_notes 24 = .ok (.getfield 29, 3) := by decide +kernel
theorem dX8_notes_27 : decode cX8_notes 27 = .ok (.iload_n 1, 1) := by decide +kernel
theorem dX8_notes_28 : decode cX8_notes 28 = .ok (.bipush 49, 2) := by decide +kernel
theorem dX8_notes_30 : decode cX8_notes 30 = .ok (.iadd, 1) := by decide +kernel
theorem dX8_notes_31 : decode cX8_notes 31 = .ok (.iaload, 1) := by decide +kernel
theorem dX8_notes_32 : decode cX8_notes 32 = .ok (.iastore, 1) := by decide +kernel
theorem dX8_notes_33 : decode cX8_notes 33 = .ok (.iinc 1 1, 3) := by decide +kernel
theorem dX8_notes_36 : decode cX8_notes 36 = .ok (.goto (-25), 3) := by decide +kernel
theorem dX8_notes_39 : decode cX8_notes 39 = .ok (.aload_n 0, 1) := by decide +kernel
theorem dX8_notes_40 : decode cX8_notes 40 = .ok (.bipush 15, 2) := by decide +kernel
theorem dX8_notes_42 : decode cX8_notes 42 = .ok (.putfield 143, 3) := by decide +kernel
theorem dX8_notes_45 : decode cX8_notes 45 = .ok (.iconst 0, 1) := by decide +kernel
theorem dX8_notes_46 : decode cX8_notes 46 = .ok (.istore_n 1, 1) := by decide +kernel
theorem dX8_notes_47 : decode cX8_notes 47 = .ok (.iload_n 1, 1) := by decide +kernel
theorem dX8_notes_48 : decode cX8_notes 48 = .ok (.bipush 49, 2) := by decide +kernel
theorem dX8_notes_50 : decode cX8_notes 50 = .ok (.if_icmp .ge 29, 3) := by decide +kernel
theorem dX8_notes_53 : decode cX8_notes 53 = .ok (.aload_n 0, 1) := by decide +kernel
theorem dX8_notes_54 : decode cX8_notes 54 = .ok (.getfield 29, 3) := by decide +kernel
theorem dX8_notes_57 : decode cX8_notes 57 = .ok (.bipush 49, 2) := by decide +kernel
theorem dX8_notes_59 : decode cX8_notes 59 = .ok (.aload_n 0, 1) := by decide +kernel
theorem dX8_notes_60 : decode cX8_notes 60 = .ok (.getfield 143, 3) := by decide +kernel
theorem dX8_notes_63 : decode cX8_notes 63 = .ok (.imul, 1) := by decide +kernel
theorem dX8_notes_64 : decode cX8_notes 64 = .ok (.iload_n 1, 1) := by decide +kernel
theorem dX8_notes_65 : decode cX8_notes 65 = .ok (.iadd, 1) := by decide +kernel
theorem dX8_notes_66 : decode cX8_notes 66 = .ok (.aload_n 0, 1) := by decide +kernel
theorem dX8_notes_67 : decode cX8_notes 67 = .ok (.getfield 19, 3) := by decide +kernel
theorem dX8_notes_70 : decode cX8_notes 70 = .ok (.iload_n 1, 1) := by decide +kernel
theorem dX8_notes_71 : decode cX8_notes 71 = .ok (.iaload, 1) := by decide +kernel
theorem dX8_notes_72 : decode cX8_notes 72 = .ok (.iastore, 1) := by decide +kernel
theorem dX8_notes_73 : decode cX8_notes 73 = .ok (.iinc 1 1, 3) := by decide +kernel
theorem dX8_notes_76 : decode cX8_notes 76 = .ok (.goto (-29), 3) := by decide +kernel
theorem dX8_notes_79 : decode cX8_notes 79 = .ok (.aload_n 0, 1) := by decide +kernel
theorem dX8_notes_80 : decode cX8_notes 80 = .ok (.dup, 1) := by decide +kernel
theorem dX8_notes_81 : decode cX8_notes 81 = .ok (.getfield 143, 3) := by decide +kernel
theorem dX8_notes_84 : decode cX8_notes 84 = .ok (.iconst 1, 1) := by decide +kernel
theorem dX8_notes_85 : decode cX8_notes 85 = .ok (.iadd, 1) := by decide +kernel
theorem dX8_notes_86 : decode cX8_notes 86 = .ok (.putfield 143, 3) := by decide +kernel
theorem dX8_notes_89 : decode cX8_notes 89 = .ok (.return_, 1) := by decide +kernel
theorem dX8_throwsBall_0 : decode cX8_throwsBall 0 = .ok (.aload_n 0, 1) := by decide +kernel
theorem dX8_throwsBall_1 : decode cX8_throwsBall 1 = .ok (.iconst 0, 1) := by decide +kernel
theorem dX8_throwsBall_2 : decode cX8_throwsBall 2 = .ok (.iconst 0, 1) := by decide +kernel
theorem dX8_throwsBall_3 : decode cX8_throwsBall 3 = .ok (.invokevirtual 188, 3) := by decide +kernel
theorem dX8_throwsBall_6 : decode cX8_throwsBall 6 = .ok (.aload_n 0, 1) := by decide +kernel
theorem dX8_throwsBall_7 : decode cX8_throwsBall 7 = .ok (.getfield 130, 3) := by decide +kernel
theorem dX8_throwsBall_10 : decode cX8_throwsBall 10 = .ok (.bipush 9, 2) := by decide +kernel
theorem dX8_throwsBall_12 : decode cX8_throwsBall 12 = .ok (.if_icmp .ne 20, 3) := by decide +kernel
theorem dX8_throwsBall_15 : decode cX8_throwsBall 15 = .ok (.aload_n 0, 1) := by decide +kernel
theorem dX8_throwsBall_16 : decode cX8_throwsBall 16 = .ok (.getfield 19, 3) := by decide +kernel
theorem dX8_throwsBall_19 : decode cX8_throwsBall 19 = .ok (.bipush 45, 2) := by decide +kernel
theorem dX8_throwsBall_21 : decode cX8_throwsBall 21 = .ok (.iaload, 1) := by decide +kernel
theorem dX8_throwsBall_22 : decode cX8_throwsBall 22 = .ok (.sipush 511, 3) := by decide +kernel
theorem dX8_throwsBall_25 : decode cX8_throwsBall 25 = .ok (.if_icmp .ne 7, 3) := by decide +kernel
theorem dX8_throwsBall_28 : decode cX8_throwsBall 28 = .ok (.iconst 1, 1) := by decide +kernel
theorem dX8_throwsBall_29 : decode cX8_throwsBall 29 = .ok (.goto 4, 3) := by decide +kernel
theorem dX8_throwsBall_32 : decode cX8_throwsBall 32 = .ok (.iconst 0, 1) := by decide +kernel
theorem dX8_throwsBall_33 : decode cX8_throwsBall 33 = .ok (.istore 4, 2) := by decide +kernel
theorem dX8_throwsBall_35 : decode cX8_throwsBall 35 = .ok (.aload_n 0, 1) := by decide +kernel
theorem dX8_throwsBall_36 : decode cX8_throwsBall 36 = .ok (.aload_n 0, 1) := by decide +kernel
theorem dX8_throwsBall_37 : decode cX8_throwsBall 37 = .ok (.getfield 19, 3) := by decide +kernel
theorem dX8_throwsBall_40 : decode cX8_throwsBall 40 = .ok (.bipush 45, 2) := by decide +kernel
theorem dX8_throwsBall_42 : decode cX8_throwsBall 42 = .ok (.iaload, 1) := by decide +kernel
theorem dX8_throwsBall_43 : decode cX8_throwsBall 43 = .ok (.iload_n 1, 1) := by decide +kernel
theorem dX8_throwsBall_44 : decode cX8_throwsBall 44 = .ok (.iload_n 2, 1) := by decide +kernel
theorem dX8_throwsBall_45 : decode cX8_throwsBall 45 = .ok (.iload_n 3, 1) := by decide +kernel
theorem dX8_throwsBall_46 : decode cX8_throwsBall 46 = .ok (.invokevirtual 184, 3) := by decide +kernel
theorem dX8_throwsBall_49 : decode cX8_throwsBall 49 = .ok (.istore 5, 2) := by decide +kernel
theorem dX8_throwsBall_51 : decode cX8_throwsBall 51 = .ok (.aload_n 0, 1) := by decide +kernel
theorem dX8_throwsBall_52 : decode cX8_throwsBall 52 = .ok (.getfield 19, 3) := by decide +kernel
theorem dX8_throwsBall_55 : decode cX8_throwsBall 55 = .ok (.bipush 45, 2) := by decide +kernel
theorem dX8_throwsBall_57 : decode cX8_throwsBall 57 = .ok (.aload_n 0, 1) := by decide +kernel
theorem dX8_throwsBall_58 : decode cX8_throwsBall 58 = .ok (.getfield 158, 3) := by decide +kernel
theorem dX8_throwsBall_61 : decode cX8_throwsBall 61 = .ok (.iastore, 1) := by decide +kernel
theorem dX8_throwsBall_62 : decode cX8_throwsBall 62 = .ok (.iconst 0, 1) := by decide +kernel
theorem dX8_throwsBall_63 : decode cX8_throwsBall 63 = .ok (.istore 6, 2) := by decide +kernel
theorem dX8_throwsBall_65 : decode cX8_throwsBall 65 = .ok (.iload 6, 2) := by decide +kernel
theorem dX8_throwsBall_67 : decode cX8_throwsBall 67 = .ok (.bipush 9, 2) := by decide +kernel
theorem dX8_throwsBall_69 : decode cX8_throwsBall 69 = .ok (.if_icmp .ge 97, 3) := by decide +kernel
theorem dX8_throwsBall_72 : decode cX8_throwsBall 72 = .ok (.aload_n 0, 1) := by decide +kernel
theorem dX8_throwsBall_73 : decode cX8_throwsBall 73 = .ok (.getfield 19, 3) := by decide +kernel
theorem dX8_throwsBall_76 : decode cX8_throwsBall 76 = .ok (.bipush 9, 2) := by decide +kernel
theorem dX8_throwsBall_78 : decode cX8_throwsBall 78 = .ok (.iload 6, 2) := by decide +kernel
theorem dX8_throwsBall_80 : decode cX8_throwsBall 80 = .ok (.iadd, 1) := by decide +kernel
theorem dX8_throwsBall_81 : decode cX8_throwsBall 81 = .ok (.iaload, 1) := by decide +kernel
theorem dX8_throwsBall_82 : decode cX8_throwsBall 82 = .ok (.aload_n 0, 1) := by decide +kernel
theorem dX8_throwsBall_83 : decode cX8_throwsBall 83 = .ok (.getfield 44, 3) := by decide +kernel
theorem dX8_throwsBall_86 : decode cX8_throwsBall 86 = .ok (.iload 6, 2) := by decide +kernel
theorem dX8_throwsBall_88 : decode cX8_throwsBall 88 = .ok (.iaload, 1) := by decide +kernel
theorem dX8_throwsBall_89 : decode cX8_throwsBall 89 = .ok (.iadd, 1) := by decide +kernel
theorem dX8_throwsBall_90 : decode cX8_throwsBall 90 = .ok (.istore 7, 2) := by decide +kernel
theorem dX8_throwsBall_92 : decode cX8_throwsBall 92 = .ok (.aload_n 0, 1) := by decide +kernel
theorem dX8_throwsBall_93 : decode cX8_throwsBall 93 = .ok (.getfield 19, 3) := by decide +kernel
theorem dX8_throwsBall_96 : decode cX8_throwsBall 96 = .ok (.bipush 9, 2) := by decide +kernel
theorem dX8_throwsBall_98 : decode cX8_throwsBall 98 = .ok (.iload 6, 2) := by decide +kernel
theorem dX8_throwsBall_100 : decode cX8_throwsBall 100 = .ok (.iadd, 1) := by decide +kernel
theorem dX8_throwsBall_101 : decode cX8_throwsBall 101 = .ok (.iload 7, 2) := by decide +kernel
theorem dX8_throwsBall_103 : decode cX8_throwsBall 103 = .ok (.sipush 9999, 3) := by decide +kernel
theorem dX8_throwsBall_106 : decode cX8_throwsBall 106 = .ok (.if_icmp .le 9, 3) := by decide +kernel
theorem dX8_throwsBall_109 : decode cX8_throwsBall 109 = .ok (.sipush 9999, 3) := by decide +kernel
theorem dX8_throwsBall_112 : decode cX8_throwsBall 112 = .ok (.goto 5, 3) := by decide +kernel
theorem dX8_throwsBall_115 : decode cX8_throwsBall 115 = .ok (.iload 7, 2) := by decide +kernel
theorem dX8_throwsBall_117 : decode cX8_throwsBall 117 = .ok (.iastore, 1) := by decide +kernel
theorem dX8_throwsBall_118 : decode cX8_throwsBall 118 = .ok (.aload_n 0, 1) := by decide +kernel
theorem dX8_throwsBall_119 : decode cX8_throwsBall 119 = .ok (.getfield 19, 3) := by decide +kernel
theorem dX8_throwsBall_122 : decode cX8_throwsBall 122 = .ok (.bipush 18, 2) := by decide +kernel
theorem dX8_throwsBall_124 : decode cX8_throwsBall 124 = .ok (.iload 6, 2) := by decide +kernel
theorem dX8_throwsBall_126 : decode cX8_throwsBall 126 = .ok (.iadd, 1) := by decide +kernel
theorem dX8_throwsBall_127 : decode cX8_throwsBall 127 = .ok (.aload_n 0, 1) := by decide +kernel
theorem dX8_throwsBall_128 : decode cX8_throwsBall 128 = .ok (.getfield 47, 3) := by decide +kernel
theorem dX8_throwsBall_131 : decode cX8_throwsBall 131 = .ok (.iload 6, 2) := by decide +kernel
theorem dX8_throwsBall_133 : decode cX8_throwsBall 133 = .ok (.iaload, 1) := by decide +kernel
theorem dX8_throwsBall_134 : decode cX8_throwsBall 134 = .ok (.bipush (-2), 2) := by decide +kernel
theorem dX8_throwsBall_136 : decode cX8_throwsBall 136 = .ok (.if_icmp .ne 16, 3) := by decide +kernel
theorem dX8_throwsBall_139 : decode cX8_throwsBall 139 = .ok (.aload_n 0, 1) := by decide +kernel
theorem dX8_throwsBall_140 : decode cX8_throwsBall 140 = .ok (.getfield 19, 3) := by decide +kernel
theorem dX8_throwsBall_143 : decode cX8_throwsBall 143 = .ok (.bipush 18, 2) := by decide +kernel
theorem dX8_throwsBall_145 : decode cX8_throwsBall 145 = .ok (.iload 6, 2) := by decide +kernel
theorem dX8_throwsBall_147 : decode cX8_throwsBall 147 = .ok (.iadd, 1) := by decide +kernel
theorem dX8_throwsBall_148 : decode cX8_throwsBall 148 = .ok (.iaload, 1) := by decide +kernel
theorem dX8_throwsBall_149 : decode cX8_throwsBall 149 = .ok (.goto 10, 3) := by decide +kernel
theorem dX8_throwsBall_152 : decode cX8_throwsBall 152 = .ok (.aload_n 0, 1) := by decide +kernel
theorem dX8_throwsBall_153 : decode cX8_throwsBall 153 = .ok (.getfield 47, 3) := by decide +kernel
theorem dX8_throwsBall_156 : decode cX8_throwsBall 156 = .ok (.iload 6, 2) := by decide +kernel
theorem dX8_throwsBall_158 : decode cX8_throwsBall 158 = .ok (.iaload, 1) := by decide +kernel
theorem dX8_throwsBall_159 : decode cX8_throwsBall 159 = .ok (.iastore, 1) := by decide +kernel
theorem dX8_throwsBall_160 : decode cX8_throwsBall 160 = .ok (.iinc 6 1, 3) := by decide +kernel
theorem dX8_throwsBall_163 : decode cX8_throwsBall 163 = .ok (.goto (-98), 3) := by decide +kernel
theorem dX8_throwsBall_166 : decode cX8_throwsBall 166 = .ok (.aload_n 0, 1) := by decide +kernel
theorem dX8_throwsBall_167 : decode cX8_throwsBall 167 = .ok (.getfield 19, 3) := by decide +kernel
theorem dX8_throwsBall_170 : decode cX8_throwsBall 170 = .ok (.bipush 46, 2) := by decide +kernel
theorem dX8_throwsBall_172 : decode cX8_throwsBall 172 = .ok (.dup2, 1) := by decide +kernel
theorem dX8_throwsBall_173 : decode cX8_throwsBall 173 = .ok (.iaload, 1) := by decide +kernel
theorem dX8_throwsBall_174 : decode cX8_throwsBall 174 = .ok (.iconst 1, 1) := by decide +kernel
theorem dX8_throwsBall_175 : decode cX8_throwsBall 175 = .ok (.iadd, 1) := by decide +kernel
theorem dX8_throwsBall_176 : decode cX8_throwsBall 176 = .ok (.iastore, 1) := by decide +kernel
theorem dX8_throwsBall_177 : decode cX8_throwsBall 177 = .ok (.aload_n 0, 1) := by decide +kernel
theorem dX8_throwsBall_178 : decode cX8_throwsBall 178 = .ok (.getfield 19, 3) := by decide +kernel
theorem dX8_throwsBall_181 : decode cX8_throwsBall 181 = .ok (.bipush 47, 2) := by decide +kernel
theorem dX8_throwsBall_183 : decode cX8_throwsBall 183 = .ok (.dup2, 1) := by decide +kernel
theorem dX8_throwsBall_184 : decode cX8_throwsBall 184 = .ok (.iaload, 1) := by decide +kernel
theorem dX8_throwsBall_185 : decode cX8_throwsBall 185 = .ok (.iload 4, 2) := by decide +kernel
theorem dX8_throwsBall_187 : decode cX8_throwsBall 187 = .ok (.ifCond .eq 15, 3) := by decide +kernel
theorem dX8_throwsBall_190 : decode cX8_throwsBall 190 = .ok (.iload 5, 2) := by decide +kernel
theorem dX8_throwsBall_192 : decode cX8_throwsBall 192 = .ok (.sipush 511, 3) := by decide +kernel
theorem dX8_throwsBall_195 : decode cX8_throwsBall 195 = .ok (.if_icmp .ne 7, 3) := by decide +kernel
theorem dX8_throwsBall_198 : decode cX8_throwsBall 198 = .ok (.iconst 1, 1) := by decide +kernel
theorem dX8_throwsBall_199 : decode cX8_throwsBall 199 = .ok (.goto 4, 3) := by decide +kernel
theorem dX8_throwsBall_202 : decode cX8_throwsBall 202 = .ok (.iconst 0, 1) := by decide +kernel
theorem dX8_throwsBall_203 : decode cX8_throwsBall 203 = .ok (.iadd, 1) := by decide +kernel
theorem dX8_throwsBall_204 : decode cX8_throwsBall 204 = .ok (.iastore, 1) := by decide +kernel
theorem dX8_throwsBall_205 : decode cX8_throwsBall 205 = .ok (.iload 5, 2) := by decide +kernel
theorem dX8_throwsBall_207 : decode cX8_throwsBall 207 = .ok (.ireturn, 1) := by decide +kernel
theorem dX8_ball_0 : decode cX8_ball 0 = .ok (.aload_n 0, 1) := by decide +kernel
theorem dX8_ball_1 : decode cX8_ball 1 = .ok (.iconst 0, 1) := by decide +kernel
theorem dX8_ball_2 : decode cX8_ball 2 = .ok (.putfield 72, 3) := by decide +kernel
theorem dX8_ball_5 : decode cX8_ball 5 = .ok (.aload_n 0, 1) := by decide +kernel
theorem dX8_ball_6 : decode cX8_ball 6 = .ok (.iload_n 1, 1) := by decide +kernel
theorem dX8_ball_7 : decode cX8_ball 7 = .ok (.iload_n 2, 1) := by decide +kernel
theorem dX8_ball_8 : decode cX8_ball 8 = .ok (.iload_n 3, 1) := by decide +kernel
theorem dX8_ball_9 : decode cX8_ball 9 = .ok (.invokevirtual 230, 3) := by decide +kernel
theorem dX8_ball_12 : decode cX8_ball 12 = .ok (.ifCond .ne 6, 3) := by decide +kernel
theorem dX8_ball_15 : decode cX8_ball 15 = .ok (.ldc 79, 2) := by decide +kernel
theorem dX8_ball_17 : decode cX8_ball 17 = .ok (.ireturn, 1) := by decide +kernel
theorem dX8_ball_18 : decode cX8_ball 18 = .ok (.aload_n 0, 1) := by decide +kernel
theorem dX8_ball_19 : decode cX8_ball 19 = .ok (.getfield 133, 3) := by decide +kernel
theorem dX8_ball_22 : decode cX8_ball 22 = .ok (.ifCond .ne 6, 3) := by decide +kernel
theorem dX8_ball_25 : decode cX8_ball 25 = .ok (.ldc 233, 2) := by decide +kernel
theorem dX8_ball_27 : decode cX8_ball 27 = .ok (.ireturn, 1) := by decide +kernel
theorem dX8_ball_28 : decode cX8_ball 28 = .ok (.aload_n 0, 1) := by decide +kernel
theorem dX8_ball_29 : decode cX8_ball 29 = .ok (.invokevirtual 234, 3) := by decide +kernel
theorem dX8_ball_32 : decode cX8_ball 32 = .ok (.aload_n 0, 1) := by decide +kernel
theorem dX8_ball_33 : decode cX8_ball 33 = .ok (.iload_n 1, 1) := by decide +kernel
theorem dX8_ball_34 : decode cX8_ball 34 = .ok (.iload_n 2, 1) := by decide +kernel
theorem dX8_ball_35 : decode cX8_ball 35 = .ok (.iload_n 3, 1) := by decide +kernel
theorem dX8_ball_36 : decode cX8_ball 36 = .ok (.invokevirtual 237, 3) := by decide +kernel
theorem dX8_ball_39 : decode cX8_ball 39 = .ok (.ireturn, 1) := by decide +kernel
theorem dX8_setUp_0 : decode cX8_setUp 0 = .ok (.aload_n 0, 1) := by decide +kernel
theorem dX8_setUp_1 : decode cX8_setUp 1 = .ok (.iconst 0, 1) := by decide +kernel
theorem dX8_setUp_2 : decode cX8_setUp 2 = .ok (.putfield 72, 3) := by decide +kernel
theorem dX8_setUp_5 : decode cX8_setUp 5 = .ok (.aload_n 0, 1) := by decide +kernel
theorem dX8_setUp_6 : decode cX8_setUp 6 = .ok (.getfield 133, 3) := by decide +kernel
theorem dX8_setUp_9 : decode cX8_setUp 9 = .ok (.ifCond .ne 6, 3) := by decide +kernel
theorem dX8_setUp_12 : decode cX8_setUp 12 = .ok (.ldc 233, 2) := by decide +kernel
theorem dX8_setUp_14 : decode cX8_setUp 14 = .ok (.ireturn, 1) := by decide +kernel
theorem dX8_setUp_15 : decode cX8_setUp 15 = .ok (.aload_n 0, 1) := by decide +kernel
theorem dX8_setUp_16 : decode cX8_setUp 16 = .ok (.invokevirtual 234, 3) := by decide +kernel
theorem dX8_setUp_19 : decode cX8_setUp 19 = .ok (.aload_n 0, 1) := by decide +kernel
theorem dX8_setUp_20 : decode cX8_setUp 20 = .ok (.getfield 130, 3) := by decide +kernel
theorem dX8_setUp_23 : decode cX8_setUp 23 = .ok (.aload_n 0, 1) := by decide +kernel
theorem dX8_setUp_24 : decode cX8_setUp 24 = .ok (.getfield 19, 3) := by decide +kernel
theorem dX8_setUp_27 : decode cX8_setUp 27 = .ok (.bipush 45, 2) := by decide +kernel
theorem dX8_setUp_29 : decode cX8_setUp 29 = .ok (.iaload, 1) := by decide +kernel
theorem dX8_setUp_30 : decode cX8_setUp 30 = .ok (.invokestatic 194, 3) := by decide +kernel
theorem dX8_setUp_33 : decode cX8_setUp 33 = .ok (.isub, 1) := by decide +kernel
theorem dX8_setUp_34 : decode cX8_setUp 34 = .ok (.istore_n 1, 1) := by decide +kernel
theorem dX8_setUp_35 : decode cX8_setUp 35 = .ok (.aload_n 0, 1) := by decide +kernel
theorem dX8_setUp_36 : decode cX8_setUp 36 = .ok (.getfield 19, 3) := by decide +kernel
theorem dX8_setUp_39 : decode cX8_setUp 39 = .ok (.bipush 45, 2) := by decide +kernel
theorem dX8_setUp_41 : decode cX8_setUp 41 = .ok (.iconst 1, 1) := by decide +kernel
theorem dX8_setUp_42 : decode cX8_setUp 42 = .ok (.aload_n 0, 1) := by decide +kernel
theorem dX8_setUp_43 : decode cX8_setUp 43 = .ok (.getfield 130, 3) := by decide +kernel
theorem dX8_setUp_46 : decode cX8_setUp 46 = .ok (.ishl, 1) := by decide +kernel
theorem dX8_setUp_47 : decode cX8_setUp 47 = .ok (.iconst 1, 1) := by decide +kernel
theorem dX8_setUp_48 : decode cX8_setUp 48 = .ok (.isub, 1) := by decide +kernel
theorem dX8_setUp_49 : decode cX8_setUp 49 = .ok (.iastore, 1) := by decide +kernel
theorem dX8_setUp_50 : decode cX8_setUp 50 = .ok (.iload_n 1, 1) := by decide +kernel
theorem dX8_setUp_51 : decode cX8_setUp 51 = .ok (.ireturn, 1) := by decide +kernel
theorem dX8_lift_0 : decode cX8_lift 0 = .ok (.aload_n 0, 1) := by decide +kernel
theorem dX8_lift_1 : decode cX8_lift 1 = .ok (.iconst 0, 1) := by decide +kernel
theorem dX8_lift_2 : decode cX8_lift 2 = .ok (.putfield 72, 3) := by decide +kernel
theorem dX8_lift_5 : decode cX8_lift 5 = .ok (.aload_n 0, 1) := by decide +kernel
theorem dX8_lift_6 : decode cX8_lift 6 = .ok (.iload_n 1, 1) := by decide +kernel
theorem dX8_lift_7 : decode cX8_lift 7 = .ok (.invokevirtual 216, 3) := by decide +kernel
theorem dX8_lift_10 : decode cX8_lift 10 = .ok (.ifCond .ne 6, 3) := by decide +kernel
theorem dX8_lift_13 : decode cX8_lift 13 = .ok (.ldc 220, 2) := by decide +kernel
theorem dX8_lift_15 : decode cX8_lift 15 = .ok (.ireturn, 1) := by decide +kernel
theorem dX8_lift_16 : decode cX8_lift 16 = .ok (.aload_n 0, 1) := by decide +kernel
theorem dX8_lift_17 : decode cX8_lift 17 = .ok (.getfield 19, 3) := by decide +kernel
theorem dX8_lift_20 : decode cX8_lift 20 = .ok (.bipush 45, 2) := by decide +kernel
theorem dX8_lift_22 : decode cX8_lift 22 = .ok (.iaload, 1) := by decide +kernel
theorem dX8_lift_23 : decode cX8_lift 23 = .ok (.iload_n 1, 1) := by decide +kernel
theorem dX8_lift_24 : decode cX8_lift 24 = .ok (.invokestatic 170, 3) := by decide +kernel
theorem dX8_lift_27 : decode cX8_lift 27 = .ok (.ifCond .eq 6, 3) := by decide +kernel
theorem dX8_lift_30 : decode cX8_lift 30 = .ok (.ldc 233, 2) := by decide +kernel
theorem dX8_lift_32 : decode cX8_lift 32 = .ok (.ireturn, 1) := by decide +kernel
theorem dX8_lift_33 : decode cX8_lift 33 = .ok (.aload_n 0, 1) := by decide +kernel
theorem dX8_lift_34 : decode cX8_lift 34 = .ok (.invokevirtual 234, 3) := by decide +kernel
theorem dX8_lift_37 : decode cX8_lift 37 = .ok (.aload_n 0, 1) := by decide +kernel
theorem dX8_lift_38 : decode cX8_lift 38 = .ok (.getfield 19, 3) := by decide +kernel
theorem dX8_lift_41 : decode cX8_lift 41 = .ok (.bipush 45, 2) := by decide +kernel
theorem dX8_lift_43 : decode cX8_lift 43 = .ok (.dup2, 1) := by decide +kernel
theorem dX8_lift_44 : decode cX8_lift 44 = .ok (.iaload, 1) := by decide +kernel
theorem dX8_lift_45 : decode cX8_lift 45 = .ok (.iconst 1, 1) := by decide +kernel
theorem dX8_lift_46 : decode cX8_lift 46 = .ok (.iload_n 1, 1) := by decide +kernel
theorem dX8_lift_47 : decode cX8_lift 47 = .ok (.ishl, 1) := by decide +kernel
theorem dX8_lift_48 : decode cX8_lift 48 = .ok (.ior, 1) := by decide +kernel
theorem dX8_lift_49 : decode cX8_lift 49 = .ok (.iastore, 1) := by decide +kernel
theorem dX8_lift_50 : decode cX8_lift 50 = .ok (.aload_n 0, 1) := by decide +kernel
theorem dX8_lift_51 : decode cX8_lift 51 = .ok (.getfield 19, 3) := by decide +kernel
theorem dX8_lift_54 : decode cX8_lift 54 = .ok (.bipush 45, 2) := by decide +kernel
theorem dX8_lift_56 : decode cX8_lift 56 = .ok (.iaload, 1) := by decide +kernel
theorem dX8_lift_57 : decode cX8_lift 57 = .ok (.invokestatic 194, 3) := by decide +kernel
theorem dX8_lift_60 : decode cX8_lift 60 = .ok (.ireturn, 1) := by decide +kernel
theorem dX8_changes_0 : decode cX8_changes 0 = .ok (.aload_n 0, 1) := by decide +kernel
theorem dX8_changes_1 : decode cX8_changes 1 = .ok (.iload_n 1, 1) := by decide +kernel
theorem dX8_changes_2 : decode cX8_changes 2 = .ok (.invokevirtual 227, 3) := by decide +kernel
theorem dX8_changes_5 : decode cX8_changes 5 = .ok (.istore_n 3, 1) := by decide +kernel
theorem dX8_changes_6 : decode cX8_changes 6 = .ok (.aload_n 0, 1) := by decide +kernel
theorem dX8_changes_7 : decode cX8_changes 7 = .ok (.iload_n 2, 1) := by decide +kernel
theorem dX8_changes_8 : decode cX8_changes 8 = .ok (.invokevirtual 227, 3) := by decide +kernel
theorem dX8_changes_11 : decode cX8_changes 11 = .ok (.istore 4, 2) := by decide +kernel
theorem dX8_changes_13 : decode cX8_changes 13 = .ok (.iload_n 3, 1) := by decide +kernel
theorem dX8_changes_14 : decode cX8_changes 14 = .ok (.iconst (-1), 1) := by decide +kernel
theorem dX8_changes_15 : decode cX8_changes 15 = .ok (.if_icmp .eq 12, 3) := by decide +kernel
theorem dX8_changes_18 : decode cX8_changes 18 = .ok (.aload_n 0, 1) := by decide +kernel
theorem dX8_changes_19 : decode cX8_changes 19 = .ok (.getfield 19, 3) := by decide +kernel
theorem dX8_changes_22 : decode cX8_changes 22 = .ok (.iconst 0, 1) := by decide +kernel
theorem dX8_changes_23 : decode cX8_changes 23 = .ok (.iload_n 3, 1) := by decide +kernel
theorem dX8_changes_24 : decode cX8_changes 24 = .ok (.iadd, 1) := by decide +kernel
theorem dX8_changes_25 : decode cX8_changes 25 = .ok (.iload_n 2, 1) := by decide +kernel
theorem dX8_changes_26 : decode cX8_changes 26 = .ok (.iastore, 1) := by decide +kernel
theorem dX8_changes_27 : decode cX8_changes 27 = .ok (.iload 4, 2) := by decide +kernel
theorem dX8_changes_29 : decode cX8_changes 29 = .ok (.iconst (-1), 1) := by decide +kernel
theorem dX8_changes_30 : decode cX8_changes 30 = .ok (.if_icmp .eq 13, 3) := by decide +kernel
theorem dX8_changes_33 : decode cX8_changes 33 = .ok (.aload_n 0, 1) := by decide +kernel
theorem dX8_changes_34 : decode cX8_changes 34 = .ok (.getfield 19, 3) := by decide +kernel
theorem dX8_changes_37 : decode cX8_changes 37 = .ok (.iconst 0, 1) := by decide +kernel
theorem dX8_changes_38 : decode cX8_changes 38 = .ok (.iload 4, 2) := by decide +kernel
theorem dX8_changes_40 : decode cX8_changes 40 = .ok (.iadd, 1) := by decide +kernel
theorem dX8_changes_41 : decode cX8_changes 41 = .ok (.iload_n 1, 1) := by decide +kernel
theorem dX8_changes_42 : decode cX8_changes 42 = .ok (.iastore, 1) := by decide +kernel
theorem dX8_changes_43 : decode cX8_changes 43 = .ok (.return_, 1) := by decide +kernel
theorem dX8_change_0 : decode cX8_change 0 = .ok (.aload_n 0, 1) := by decide +kernel
theorem dX8_change_1 : decode cX8_change 1 = .ok (.iconst 0, 1) := by decide +kernel
theorem dX8_change_2 : decode cX8_change 2 = .ok (.putfield 72, 3) := by decide +kernel
theorem dX8_change_5 : decode cX8_change 5 = .ok (.iload_n 1, 1) := by decide +kernel
theorem dX8_change_6 : decode cX8_change 6 = .ok (.invokestatic 224, 3) := by decide +kernel
theorem dX8_change_9 : decode cX8_change 9 = .ok (.ifCond .eq 15, 3) := by decide +kernel
theorem dX8_change_12 : decode cX8_change 12 = .ok (.iload_n 2, 1) := by decide +kernel
theorem dX8_change_13 : decode cX8_change 13 = .ok (.invokestatic 224, 3) := by decide +kernel
theorem dX8_change_16 : decode cX8_change 16 = .ok (.ifCond .eq 8, 3) := by decide +kernel
theorem dX8_change_19 : decode cX8_change 19 = .ok (.iload_n 1, 1) := by decide +kernel
theorem dX8_change_20 : decode cX8_change 20 = .ok (.iload_n 2, 1) := by decide +kernel
theorem dX8_change_21 : decode cX8_change 21 = .ok (.if_icmp .ne 6, 3) := by decide +kernel
theorem dX8_change_24 : decode cX8_change 24 = .ok (.ldc 220, 2) := by decide +kernel
theorem dX8_change_26 : decode cX8_change 26 = .ok (.ireturn, 1) := by decide +kernel
theorem dX8_change_27 : decode cX8_change 27 = .ok (.aload_n 0, 1) := by decide +kernel
theorem dX8_change_28 : decode cX8_change 28 = .ok (.invokevirtual 234, 3) := by decide +kernel
theorem dX8_change_31 : decode cX8_change 31 = .ok (.aload_n 0, 1) := by decide +kernel
theorem dX8_change_32 : decode cX8_change 32 = .ok (.iload_n 1, 1) := by decide +kernel
theorem dX8_change_33 : decode cX8_change 33 = .ok (.iload_n 2, 1) := by decide +kernel
theorem dX8_change_34 : decode cX8_change 34 = .ok (.invokevirtual 241, 3) := by decide +kernel
theorem dX8_change_37 : decode cX8_change 37 = .ok (.aload_n 0, 1) := by decide +kernel
theorem dX8_change_38 : decode cX8_change 38 = .ok (.iload_n 1, 1) := by decide +kernel
theorem dX8_change_39 : decode cX8_change 39 = .ok (.invokevirtual 227, 3) := by decide +kernel
theorem dX8_change_42 : decode cX8_change 42 = .ok (.ireturn, 1) := by decide +kernel
theorem dX8_chip_0 : decode cX8_chip 0 = .ok (.aload_n 0, 1) := by decide +kernel
theorem dX8_chip_1 : decode cX8_chip 1 = .ok (.iconst 0, 1) := by decide +kernel
theorem dX8_chip_2 : decode cX8_chip 2 = .ok (.putfield 72, 3) := by decide +kernel
theorem dX8_chip_5 : decode cX8_chip 5 = .ok (.aload_n 0, 1) := by decide +kernel
theorem dX8_chip_6 : decode cX8_chip 6 = .ok (.iload_n 1, 1) := by decide +kernel
theorem dX8_chip_7 : decode cX8_chip 7 = .ok (.invokevirtual 216, 3) := by decide +kernel
theorem dX8_chip_10 : decode cX8_chip 10 = .ok (.ifCond .ne 6, 3) := by decide +kernel
theorem dX8_chip_13 : decode cX8_chip 13 = .ok (.ldc 220, 2) := by decide +kernel
theorem dX8_chip_15 : decode cX8_chip 15 = .ok (.ireturn, 1) := by decide +kernel
theorem dX8_chip_16 : decode cX8_chip 16 = .ok (.iload_n 2, 1) := by decide +kernel
theorem dX8_chip_17 : decode cX8_chip 17 = .ok (.iconst 0, 1) := by decide +kernel
theorem dX8_chip_18 : decode cX8_chip 18 = .ok (.bipush 9, 2) := by decide +kernel
theorem dX8_chip_20 : decode cX8_chip 20 = .ok (.invokestatic 75, 3) := by decide +kernel
theorem dX8_chip_23 : decode cX8_chip 23 = .ok (.ifCond .ne 6, 3) := by decide +kernel
theorem dX8_chip_26 : decode cX8_chip 26 = .ok (.ldc 79, 2) := by decide +kernel
theorem dX8_chip_28 : decode cX8_chip 28 = .ok (.ireturn, 1) := by decide +kernel
theorem dX8_chip_29 : decode cX8_chip 29 = .ok (.aload_n 0, 1) := by decide +kernel
theorem dX8_chip_30 : decode cX8_chip 30 = .ok (.invokevirtual 234, 3) := by decide +kernel
theorem dX8_chip_33 : decode cX8_chip 33 = .ok (.aload_n 0, 1) := by decide +kernel
theorem dX8_chip_34 : decode cX8_chip 34 = .ok (.getfield 19, 3) := by decide +kernel
theorem dX8_chip_37 : decode cX8_chip 37 = .ok (.bipush 36, 2) := by decide +kernel
theorem dX8_chip_39 : decode cX8_chip 39 = .ok (.iload_n 1, 1) := by decide +kernel
theorem dX8_chip_40 : decode cX8_chip 40 = .ok (.iadd, 1) := by decide +kernel
theorem dX8_chip_41 : decode cX8_chip 41 = .ok (.iaload, 1) := by decide +kernel
theorem dX8_chip_42 : decode cX8_chip 42 = .ok (.istore_n 3, 1) := by decide +kernel
theorem dX8_chip_43 : decode cX8_chip 43 = .ok (.aload_n 0, 1) := by decide +kernel
theorem dX8_chip_44 : decode cX8_chip 44 = .ok (.getfield 19, 3) := by decide +kernel
theorem dX8_chip_47 : decode cX8_chip 47 = .ok (.bipush 36, 2) := by decide +kernel
theorem dX8_chip_49 : decode cX8_chip 49 = .ok (.iload_n 1, 1) := by decide +kernel
theorem dX8_chip_50 : decode cX8_chip 50 = .ok (.iadd, 1) := by decide +kernel
theorem dX8_chip_51 : decode cX8_chip 51 = .ok (.iload_n 2, 1) := by decide +kernel
theorem dX8_chip_52 : decode cX8_chip 52 = .ok (.iastore, 1) := by decide +kernel
theorem dX8_chip_53 : decode cX8_chip 53 = .ok (.iload_n 3, 1) := by decide +kernel
theorem dX8_chip_54 : decode cX8_chip 54 = .ok (.ireturn, 1) := by decide +kernel
theorem dX8_replace_0 : decode cX8_replace 0 = .ok (.aload_n 0, 1) := by decide +kernel
theorem dX8_replace_1 : decode cX8_replace 1 = .ok (.iconst 0, 1) := by decide +kernel
theorem dX8_replace_2 : decode cX8_replace 2 = .ok (.putfield 72, 3) := by decide +kernel
theorem dX8_replace_5 : decode cX8_replace 5 = .ok (.aload_n 0, 1) := by decide +kernel
theorem dX8_replace_6 : decode cX8_replace 6 = .ok (.iload_n 1, 1) := by decide +kernel
theorem dX8_replace_7 : decode cX8_replace 7 = .ok (.invokevirtual 216, 3) := by decide +kernel
theorem dX8_replace_10 : decode cX8_replace 10 = .ok (.ifCond .ne 6, 3) := by decide +kernel
theorem dX8_replace_13 : decode cX8_replace 13 = .ok (.ldc 220, 2) := by decide +kernel
theorem dX8_replace_15 : decode cX8_replace 15 = .ok (.ireturn, 1) := by decide +kernel
theorem dX8_replace_16 : decode cX8_replace 16 = .ok (.aload_n 0, 1) := by decide +kernel
theorem dX8_replace_17 : decode cX8_replace 17 = .ok (.getfield 19, 3) := by decide +kernel
theorem dX8_replace_20 : decode cX8_replace 20 = .ok (.bipush 27, 2) := by decide +kernel
theorem dX8_replace_22 : decode cX8_replace 22 = .ok (.iload_n 1, 1) := by decide +kernel
theorem dX8_replace_23 : decode cX8_replace 23 = .ok (.iadd, 1) := by decide +kernel
theorem dX8_replace_24 : decode cX8_replace 24 = .ok (.iaload, 1) := by decide +kernel
theorem dX8_replace_25 : decode cX8_replace 25 = .ok (.istore_n 2, 1) := by decide +kernel
theorem dX8_replace_26 : decode cX8_replace 26 = .ok (.iload_n 2, 1) := by decide +kernel
theorem dX8_replace_27 : decode cX8_replace 27 = .ok (.iconst 3, 1) := by decide +kernel
theorem dX8_replace_28 : decode cX8_replace 28 = .ok (.if_icmp .ne 6, 3) := by decide +kernel
theorem dX8_replace_31 : decode cX8_replace 31 = .ok (.ldc 233, 2) := by decide +kernel
theorem dX8_replace_33 : decode cX8_replace 33 = .ok (.ireturn, 1) := by decide +kernel
theorem dX8_replace_34 : decode cX8_replace 34 = .ok (.aload_n 0, 1) := by decide +kernel
theorem dX8_replace_35 : decode cX8_replace 35 = .ok (.invokevirtual 234, 3) := by decide +kernel
theorem dX8_replace_38 : decode cX8_replace 38 = .ok (.aload_n 0, 1) := by decide +kernel
theorem dX8_replace_39 : decode cX8_replace 39 = .ok (.getfield 19, 3) := by decide +kernel
theorem dX8_replace_42 : decode cX8_replace 42 = .ok (.bipush 27, 2) := by decide +kernel
theorem dX8_replace_44 : decode cX8_replace 44 = .ok (.iload_n 1, 1) := by decide +kernel
theorem dX8_replace_45 : decode cX8_replace 45 = .ok (.iadd, 1) := by decide +kernel
theorem dX8_replace_46 : decode cX8_replace 46 = .ok (.iconst 3, 1) := by decide +kernel
theorem dX8_replace_47 : decode cX8_replace 47 = .ok (.iastore, 1) := by decide +kernel
theorem dX8_replace_48 : decode cX8_replace 48 = .ok (.iload_n 2, 1) := by decide +kernel
theorem dX8_replace_49 : decode cX8_replace 49 = .ok (.ireturn, 1) := by decide +kernel
theorem dX8_draw_0 : decode cX8_draw 0 = .ok (.aload_n 0, 1) := by decide +kernel
theorem dX8_draw_1 : decode cX8_draw 1 = .ok (.getfield 19, 3) := by decide +kernel
theorem dX8_draw_4 : decode cX8_draw 4 = .ok (.bipush 48, 2) := by decide +kernel
theorem dX8_draw_6 : decode cX8_draw 6 = .ok (.iaload, 1) := by decide +kernel
theorem dX8_draw_7 : decode cX8_draw 7 = .ok (.i2l, 1) := by decide +kernel
theorem dX8_draw_8 : decode cX8_draw 8 = .ok (.lstore_n 2, 1) := by decide +kernel
theorem dX8_draw_9 : decode cX8_draw 9 = .ok (.lload_n 2, 1) := by decide +kernel
theorem dX8_draw_10 : decode cX8_draw 10 = .ok (.ldc2_w 244, 3) := by decide +kernel
theorem dX8_draw_13 : decode cX8_draw 13 = .ok (.lmul, 1) := by decide +kernel
theorem dX8_draw_14 : decode cX8_draw 14 = .ok (.ldc2_w 246, 3) := by decide +kernel
theorem dX8_draw_17 : decode cX8_draw 17 = .ok (.ladd, 1) := by decide +kernel
theorem dX8_draw_18 : decode cX8_draw 18 = .ok (.ldc2_w 248, 3) := by decide +kernel
theorem dX8_draw_21 : decode cX8_draw 21 = .ok (.lrem, 1) := by decide +kernel
theorem dX8_draw_22 : decode cX8_draw 22 = .ok (.lstore_n 2, 1) := by decide +kernel
theorem dX8_draw_23 : decode cX8_draw 23 = .ok (.aload_n 0, 1) := by decide +kernel
theorem dX8_draw_24 : decode cX8_draw 24 = .ok (.getfield 19, 3) := by decide +kernel
theorem dX8_draw_27 : decode cX8_draw 27 = .ok (.bipush 48, 2) := by decide +kernel
theorem dX8_draw_29 : decode cX8_draw 29 = .ok (.lload_n 2, 1) := by decide +kernel
theorem dX8_draw_30 : decode cX8_draw 30 = .ok (.l2i, 1) := by decide +kernel
theorem dX8_draw_31 : decode cX8_draw 31 = .ok (.iastore, 1) := by decide +kernel
theorem dX8_draw_32 : decode cX8_draw 32 = .ok (.aload_n 0, 1) := by decide +kernel
theorem dX8_draw_33 : decode cX8_draw 33 = .ok (.getfield 19, 3) := by decide +kernel
theorem dX8_draw_36 : decode cX8_draw 36 = .ok (.bipush 48, 2) := by decide +kernel
theorem dX8_draw_38 : decode cX8_draw 38 = .ok (.iaload, 1) := by decide +kernel
theorem dX8_draw_39 : decode cX8_draw 39 = .ok (.ldc 250, 2) := by decide +kernel
theorem dX8_draw_41 : decode cX8_draw 41 = .ok (.idiv, 1) := by decide +kernel
theorem dX8_draw_42 : decode cX8_draw 42 = .ok (.iload_n 1, 1) := by decide +kernel
theorem dX8_draw_43 : decode cX8_draw 43 = .ok (.irem, 1) := by decide +kernel
theorem dX8_draw_44 : decode cX8_draw 44 = .ok (.ireturn, 1) := by decide +kernel
theorem dX8_drift_0 : decode cX8_drift 0 = .ok (.aload_n 0, 1) := by decide +kernel
theorem dX8_drift_1 : decode cX8_drift 1 = .ok (.iconst 0, 1) := by decide +kernel
theorem dX8_drift_2 : decode cX8_drift 2 = .ok (.putfield 72, 3) := by decide +kernel
theorem dX8_drift_5 : decode cX8_drift 5 = .ok (.iload_n 1, 1) := by decide +kernel
theorem dX8_drift_6 : decode cX8_drift 6 = .ok (.iconst 1, 1) := by decide +kernel
theorem dX8_drift_7 : decode cX8_drift 7 = .ok (.bipush 30, 2) := by decide +kernel
theorem dX8_drift_9 : decode cX8_drift 9 = .ok (.invokestatic 75, 3) := by decide +kernel
theorem dX8_drift_12 : decode cX8_drift 12 = .ok (.ifCond .ne 6, 3) := by decide +kernel
theorem dX8_drift_15 : decode cX8_drift 15 = .ok (.ldc 79, 2) := by decide +kernel
theorem dX8_drift_17 : decode cX8_drift 17 = .ok (.ireturn, 1) := by decide +kernel
theorem dX8_drift_18 : decode cX8_drift 18 = .ok (.aload_n 0, 1) := by decide +kernel
theorem dX8_drift_19 : decode cX8_drift 19 = .ok (.getfield 133, 3) := by decide +kernel
theorem dX8_drift_22 : decode cX8_drift 22 = .ok (.ifCond .ne 6, 3) := by decide +kernel
theorem dX8_drift_25 : decode cX8_drift 25 = .ok (.ldc 233, 2) := by decide +kernel
theorem dX8_drift_27 : decode cX8_drift 27 = .ok (.ireturn, 1) := by decide +kernel
theorem dX8_drift_28 : decode cX8_drift 28 = .ok (.aload_n 0, 1) := by decide +kernel
theorem dX8_drift_29 : decode cX8_drift 29 = .ok (.invokevirtual 234, 3) := by decide +kernel
theorem dX8_drift_32 : decode cX8_drift 32 = .ok (.iconst 0, 1) := by decide +kernel
theorem dX8_drift_33 : decode cX8_drift 33 = .ok (.istore_n 2, 1) := by decide +kernel
theorem dX8_drift_34 : decode cX8_drift 34 = .ok (.iload_n 2, 1) := by decide +kernel
theorem dX8_drift_35 : decode cX8_drift 35 = .ok (.iload_n 1, 1) := by decide +kernel
theorem dX8_drift_36 : decode cX8_drift 36 = .ok (.if_icmp .ge 112, 3) := by decide +kernel
theorem dX8_drift_39 : decode cX8_drift 39 = .ok (.aload_n 0, 1) := by decide +kernel
theorem dX8_drift_40 : decode cX8_drift 40 = .ok (.iconst 4, 1) := by decide +kernel
theorem dX8_drift_41 : decode cX8_drift 41 = .ok (.invokevirtual 251, 3) := by decide +kernel
theorem dX8_drift_44 : decode cX8_drift 44 = .ok (.istore_n 3, 1) := by decide +kernel
theorem dX8_drift_45 : decode cX8_drift 45 = .ok (.iload_n 3, 1) := by decide +kernel
theorem dX8_drift_46 : decode cX8_drift 46 = .ok (.iconst 2, 1) := by decide +kernel
theorem dX8_drift_47 : decode cX8_drift 47 = .ok (.if_icmp .ge 41, 3) := by decide +kernel
theorem dX8_drift_50 : decode cX8_drift 50 = .ok (.aload_n 0, 1) := by decide +kernel
theorem dX8_drift_51 : decode cX8_drift 51 = .ok (.iconst 5, 1) := by decide +kernel
theorem dX8_drift_52 : decode cX8_drift 52 = .ok (.invokevirtual 251, 3) := by decide +kernel
theorem dX8_drift_55 : decode cX8_drift 55 = .ok (.istore 4, 2) := by decide +kernel
theorem dX8_drift_57 : decode cX8_drift 57 = .ok (.aload_n 0, 1) := by decide +kernel
theorem dX8_drift_58 : decode cX8_drift 58 = .ok (.iconst 3, 1) := by decide +kernel
theorem dX8_drift_59 : decode cX8_drift 59 = .ok (.invokevirtual 251, 3) := by decide +kernel
theorem dX8_drift_62 : decode cX8_drift 62 = .ok (.istore 5, 2) := by decide +kernel
theorem dX8_drift_64 : decode cX8_drift 64 = .ok (.iconst 1, 1) := by decide +kernel
theorem dX8_drift_65 : decode cX8_drift 65 = .ok (.aload_n 0, 1) := by decide +kernel
theorem dX8_drift_66 : decode cX8_drift 66 = .ok (.bipush 40, 2) := by decide +kernel
theorem dX8_drift_68 : decode cX8_drift 68 = .ok (.invokevirtual 251, 3) := by decide +kernel
theorem dX8_drift_71 : decode cX8_drift 71 = .ok (.iadd, 1) := by decide +kernel
theorem dX8_drift_72 : decode cX8_drift 72 = .ok (.istore 6, 2) := by decide +kernel
theorem dX8_drift_74 : decode cX8_drift 74 = .ok (.aload_n 0, 1) := by decide +kernel
theorem dX8_drift_75 : decode cX8_drift 75 = .ok (.iload 4, 2) := by decide +kernel
theorem dX8_drift_77 : decode cX8_drift 77 = .ok (.iload 5, 2) := by decide +kernel
theorem dX8_drift_79 : decode cX8_drift 79 = .ok (.iload 6, 2) := by decide +kernel
theorem dX8_drift_81 : decode cX8_drift 81 = .ok (.invokevirtual 237, 3) := by decide +kernel
theorem dX8_drift_84 : decode cX8_drift 84 = .ok (.pop, 1) := by decide +kernel
theorem dX8_drift_85 : decode cX8_drift 85 = .ok (.goto 57, 3) := by decide +kernel
theorem dX8_drift_88 : decode cX8_drift 88 = .ok (.iload_n 3, 1) := by decide +kernel
theorem dX8_drift_89 : decode cX8_drift 89 = .ok (.iconst 2, 1) := by decide +kernel
theorem dX8_drift_90 : decode cX8_drift 90 = .ok (.if_icmp .ne 21, 3) := by decide +kernel
theorem dX8_drift_93 : decode cX8_drift 93 = .ok (.aload_n 0, 1) := by decide +kernel
theorem dX8_drift_94 : decode cX8_drift 94 = .ok (.getfield 19, 3) := by decide +kernel
theorem dX8_drift_97 : decode cX8_drift 97 = .ok (.bipush 45, 2) := by decide +kernel
theorem dX8_drift_99 : decode cX8_drift 99 = .ok (.iconst 1, 1) := by decide +kernel
theorem dX8_drift_100 : decode cX8_drift 100 = .ok (.aload_n 0, 1) := by decide +kernel
theorem dX8_drift_101 : decode cX8_drift 101 = .ok (.getfield 130, 3) := by decide +kernel
theorem dX8_drift_104 : decode cX8_drift 104 = .ok (.ishl, 1) := by decide +kernel
theorem dX8_drift_105 : decode cX8_drift 105 = .ok (.iconst 1, 1) := by decide +kernel
theorem dX8_drift_106 : decode cX8_drift 106 = .ok (.isub, 1) := by decide +kernel
theorem dX8_drift_107 : decode cX8_drift 107 = .ok (.iastore, 1) := by decide +kernel
theorem dX8_drift_108 : decode cX8_drift 108 = .ok (.goto 34, 3) := by decide +kernel
theorem dX8_drift_111 : decode cX8_drift 111 = .ok (.aload_n 0, 1) := by decide +kernel
theorem dX8_drift_112 : decode cX8_drift 112 = .ok (.bipush 9, 2) := by decide +kernel
theorem dX8_drift_114 : decode cX8_drift 114 = .ok (.invokevirtual 251, 3) := by decide +kernel
theorem dX8_drift_117 : decode cX8_drift 117 = .ok (.istore 4, 2) := by decide +kernel
theorem dX8_drift_119 : decode cX8_drift 119 = .ok (.aload_n 0, 1) := by decide +kernel
theorem dX8_drift_120 : decode cX8_drift 120 = .ok (.bipush 9, 2) := by decide +kernel
theorem dX8_drift_122 : decode cX8_drift 122 = .ok (.invokevirtual 251, 3) := by decide +kernel
theorem dX8_drift_125 : decode cX8_drift 125 = .ok (.istore 5, 2) := by decide +kernel
theorem dX8_drift_127 : decode cX8_drift 127 = .ok (.iload 4, 2) := by decide +kernel
theorem dX8_drift_129 : decode cX8_drift 129 = .ok (.iload 5, 2) := by decide +kernel
theorem dX8_drift_131 : decode cX8_drift 131 = .ok (.if_icmp .eq 11, 3) := by decide +kernel
theorem dX8_drift_134 : decode cX8_drift 134 = .ok (.aload_n 0, 1) := by decide +kernel
theorem dX8_drift_135 : decode cX8_drift 135 = .ok (.iload 4, 2) := by decide +kernel
theorem dX8_drift_137 : decode cX8_drift 137 = .ok (.iload 5, 2) := by decide +kernel
theorem dX8_drift_139 : decode cX8_drift 139 = .ok (.invokevirtual 241, 3) := by decide +kernel
theorem dX8_drift_142 : decode cX8_drift 142 = .ok (.iinc 2 1, 3) := by decide +kernel
theorem dX8_drift_145 : decode cX8_drift 145 = .ok (.goto (-111), 3) := by decide +kernel
theorem dX8_drift_148 : decode cX8_drift 148 = .ok (.aload_n 0, 1) := by decide +kernel
theorem dX8_drift_149 : decode cX8_drift 149 = .ok (.getfield 19, 3) := by decide +kernel
theorem dX8_drift_152 : decode cX8_drift 152 = .ok (.bipush 45, 2) := by decide +kernel
theorem dX8_drift_154 : decode cX8_drift 154 = .ok (.iaload, 1) := by decide +kernel
theorem dX8_drift_155 : decode cX8_drift 155 = .ok (.ireturn, 1) := by decide +kernel
theorem dX8_undo_0 : decode cX8_undo 0 = .ok (.aload_n 0, 1) := by decide +kernel
theorem dX8_undo_1 : decode cX8_undo 1 = .ok (.iconst 0, 1) := by decide +kernel
theorem dX8_undo_2 : decode cX8_undo 2 = .ok (.putfield 72, 3) := by decide +kernel
theorem dX8_undo_5 : decode cX8_undo 5 = .ok (.aload_n 0, 1) := by decide +kernel
theorem dX8_undo_6 : decode cX8_undo 6 = .ok (.getfield 143, 3) := by decide +kernel
theorem dX8_undo_9 : decode cX8_undo 9 = .ok (.ifCond .ne 6, 3) := by decide +kernel
theorem dX8_undo_12 : decode cX8_undo 12 = .ok (.ldc 233, 2) := by decide +kernel
theorem dX8_undo_14 : decode cX8_undo 14 = .ok (.ireturn, 1) := by decide +kernel
theorem dX8_undo_15 : decode cX8_undo 15 = .ok (.aload_n 0, 1) := by decide +kernel
theorem dX8_undo_16 : decode cX8_undo 16 = .ok (.dup, 1) := by decide +kernel
theorem dX8_undo_17 : decode cX8_undo 17 = .ok (.getfield 143, 3) := by decide +kernel
theorem dX8_undo_20 : decode cX8_undo 20 = .ok (.iconst 1, 1) := by decide +kernel
theorem dX8_undo_21 : decode cX8_undo 21 = .ok (.isub, 1) := by decide +kernel
theorem dX8_undo_22 : decode cX8_undo 22 = .ok (.putfield 143, 3) := by decide +kernel
theorem dX8_undo_25 : decode cX8_undo 25 = .ok (.iconst 0, 1) := by decide +kernel
theorem dX8_undo_26 : decode cX8_undo 26 = .ok (.istore_n 1, 1) := by decide +kernel
theorem dX8_undo_27 : decode cX8_undo 27 = .ok (.iload_n 1, 1) := by decide +kernel
theorem dX8_undo_28 : decode cX8_undo 28 = .ok (.bipush 48, 2) := by decide +kernel
theorem dX8_undo_30 : decode cX8_undo 30 = .ok (.if_icmp .ge 29, 3) := by decide +kernel
theorem dX8_undo_33 : decode cX8_undo 33 = .ok (.aload_n 0, 1) := by decide +kernel
theorem dX8_undo_34 : decode cX8_undo 34 = .ok (.getfield 19, 3) := by decide +kernel
theorem dX8_undo_37 : decode cX8_undo 37 = .ok (.iload_n 1, 1) := by decide +kernel
theorem dX8_undo_38 : decode cX8_undo 38 = .ok (.aload_n 0, 1) := by decide +kernel
theorem dX8_undo_39 : decode cX8_undo 39 = .ok (.getfield 29, 3) := by decide +kernel
theorem dX8_undo_42 : decode cX8_undo 42 = .ok (.bipush 49, 2) := by decide +kernel
theorem dX8_undo_44 : decode cX8_undo 44 = .ok (.aload_n 0, 1) := by decide +kernel
theorem dX8_undo_45 : decode cX8_undo 45 = .ok (.getfield 143, 3) := by decide +kernel
theorem dX8_undo_48 : decode cX8_undo 48 = .ok (.imul, 1) := by decide +kernel
theorem dX8_undo_49 : decode cX8_undo 49 = .ok (.iload_n 1, 1) := by decide +kernel
theorem dX8_undo_50 : decode cX8_undo 50 = .ok (.iadd, 1) := by decide +kernel
theorem dX8_undo_51 : decode cX8_undo 51 = .ok (.iaload, 1) := by decide +kernel
theorem dX8_undo_52 : decode cX8_undo 52 = .ok (.iastore, 1) := by decide +kernel
theorem dX8_undo_53 : decode cX8_undo 53 = .ok (.iinc 1 1, 3) := by decide +kernel
theorem dX8_undo_56 : decode cX8_undo 56 = .ok (.goto (-29), 3) := by decide +kernel
theorem dX8_undo_59 : decode cX8_undo 59 = .ok (.aload_n 0, 1) := by decide +kernel
theorem dX8_undo_60 : decode cX8_undo 60 = .ok (.getfield 143, 3) := by decide +kernel
theorem dX8_undo_63 : decode cX8_undo 63 = .ok (.ireturn, 1) := by decide +kernel
theorem dX8_wouldFall_0 : decode cX8_wouldFall 0 = .ok (.aload_n 0, 1) := by decide +kernel
theorem dX8_wouldFall_1 : decode cX8_wouldFall 1 = .ok (.iconst 0, 1) := by decide +kernel
theorem dX8_wouldFall_2 : decode cX8_wouldFall 2 = .ok (.putfield 72, 3) := by decide +kernel
theorem dX8_wouldFall_5 : decode cX8_wouldFall 5 = .ok (.aload_n 0, 1) := by decide +kernel
theorem dX8_wouldFall_6 : decode cX8_wouldFall 6 = .ok (.iload_n 1, 1) := by decide +kernel
theorem dX8_wouldFall_7 : decode cX8_wouldFall 7 = .ok (.iload_n 2, 1) := by decide +kernel
theorem dX8_wouldFall_8 : decode cX8_wouldFall 8 = .ok (.iload_n 3, 1) := by decide +kernel
theorem dX8_wouldFall_9 : decode cX8_wouldFall 9 = .ok (.invokevirtual 230, 3) := by decide +kernel
theorem dX8_wouldFall_12 : decode cX8_wouldFall 12 = .ok (.ifCond .eq 13, 3) := by decide +kernel
theorem dX8_wouldFall_15 : decode cX8_wouldFall 15 = .ok (.iload 4, 2) := by decide +kernel
theorem dX8_wouldFall_17 : decode cX8_wouldFall 17 = .ok (.iconst 0, 1) := by decide +kernel
theorem dX8_wouldFall_18 : decode cX8_wouldFall 18 = .ok (.iconst 2, 1) := by decide +kernel
theorem dX8_wouldFall_19 : decode cX8_wouldFall 19 = .ok (.invokestatic 75, 3) := by decide +kernel
theorem dX8_wouldFall_22 : decode cX8_wouldFall 22 = .ok (.ifCond .ne 6, 3) := by decide +kernel
theorem dX8_wouldFall_25 : decode cX8_wouldFall 25 = .ok (.ldc 79, 2) := by decide +kernel
theorem dX8_wouldFall_27 : decode cX8_wouldFall 27 = .ok (.ireturn, 1) := by decide +kernel
theorem dX8_wouldFall_28 : decode cX8_wouldFall 28 = .ok (.aload_n 0, 1) := by decide +kernel
theorem dX8_wouldFall_29 : decode cX8_wouldFall 29 = .ok (.getfield 133, 3) := by decide +kernel
theorem dX8_wouldFall_32 : decode cX8_wouldFall 32 = .ok (.ifCond .ne 6, 3) := by decide +kernel
theorem dX8_wouldFall_35 : decode cX8_wouldFall 35 = .ok (.ldc 233, 2) := by decide +kernel
theorem dX8_wouldFall_37 : decode cX8_wouldFall 37 = .ok (.ireturn, 1) := by decide +kernel
theorem dX8_wouldFall_38 : decode cX8_wouldFall 38 = .ok (.aload_n 0, 1) := by decide +kernel
theorem dX8_wouldFall_39 : decode cX8_wouldFall 39 = .ok (.iconst 0, 1) := by decide +kernel
theorem dX8_wouldFall_40 : decode cX8_wouldFall 40 = .ok (.iconst 0, 1) := by decide +kernel
theorem dX8_wouldFall_41 : decode cX8_wouldFall 41 = .ok (.invokevirtual 188, 3) := by decide +kernel
theorem dX8_wouldFall_44 : decode cX8_wouldFall 44 = .ok (.aload_n 0, 1) := by decide +kernel
theorem dX8_wouldFall_45 : decode cX8_wouldFall 45 = .ok (.aload_n 0, 1) := by decide +kernel
theorem dX8_wouldFall_46 : decode cX8_wouldFall 46 = .ok (.getfield 19, 3) := by decide +kernel
theorem dX8_wouldFall_49 : decode cX8_wouldFall 49 = .ok (.bipush 45, 2) := by decide +kernel
theorem dX8_wouldFall_51 : decode cX8_wouldFall 51 = .ok (.iaload, 1) := by decide +kernel
theorem dX8_wouldFall_52 : decode cX8_wouldFall 52 = .ok (.iload_n 1, 1) := by decide +kernel
theorem dX8_wouldFall_53 : decode cX8_wouldFall 53 = .ok (.iload_n 2, 1) := by decide +kernel
theorem dX8_wouldFall_54 : decode cX8_wouldFall 54 = .ok (.iload_n 3, 1) := by decide +kernel
theorem dX8_wouldFall_55 : decode cX8_wouldFall 55 = .ok (.invokevirtual 184, 3) := by decide +kernel
theorem dX8_wouldFall_58 : decode cX8_wouldFall 58 = .ok (.istore 5, 2) := by decide +kernel
theorem dX8_wouldFall_60 : decode cX8_wouldFall 60 = .ok (.iload 4, 2) := by decide +kernel
theorem dX8_wouldFall_62 : decode cX8_wouldFall 62 = .ok (.ifCond .ne 8, 3) := by decide +kernel
end
section
theorem dX8_wouldFall_65 : decode cX8_wouldFall 65 = .ok (.iload 5, 2) := by decide +kernel
theorem dX8_wouldFall_67 : decode cX8_wouldFall 67 = .ok (.goto 20, 3) := by decide +kernel
theorem dX8_wouldFall_70 : decode cX8_wouldFall 70 = .ok (.iload 4, 2) := by decide +kernel
theorem dX8_wouldFall_72 : decode cX8_wouldFall 72 = .ok (.iconst 1, 1) := by decide +kernel
theorem dX8_wouldFall_73 : decode cX8_wouldFall 73 = .ok (.if_icmp .ne 10, 3) := by decide +kernel
theorem dX8_wouldFall_76 : decode cX8_wouldFall 76 = .ok (.aload_n 0, 1) := by decide +kernel
theorem dX8_wouldFall_77 : decode cX8_wouldFall 77 = .ok (.getfield 155, 3) := by decide +kernel
theorem dX8_wouldFall_80 : decode cX8_wouldFall 80 = .ok (.goto 7, 3) := by decide +kernel
theorem dX8_wouldFall_83 : decode cX8_wouldFall 83 = .ok (.aload_n 0, 1) := by decide +kernel
theorem dX8_wouldFall_84 : decode cX8_wouldFall 84 = .ok (.getfield 178, 3) := by decide +kernel
theorem dX8_wouldFall_87 : decode cX8_wouldFall 87 = .ok (.ireturn, 1) := by decide +kernel
theorem dX8_ballsFor_0 : decode cX8_ballsFor 0 = .ok (.aload_n 0, 1) := by decide +kernel
theorem dX8_ballsFor_1 : decode cX8_ballsFor 1 = .ok (.iconst 0, 1) := by decide +kernel
theorem dX8_ballsFor_2 : decode cX8_ballsFor 2 = .ok (.iconst 0, 1) := by decide +kernel
theorem dX8_ballsFor_3 : decode cX8_ballsFor 3 = .ok (.invokevirtual 188, 3) := by decide +kernel
theorem dX8_ballsFor_6 : decode cX8_ballsFor 6 = .ok (.iconst 0, 1) := by decide +kernel
theorem dX8_ballsFor_7 : decode cX8_ballsFor 7 = .ok (.istore_n 3, 1) := by decide +kernel
theorem dX8_ballsFor_8 : decode cX8_ballsFor 8 = .ok (.iconst (-1), 1) := by decide +kernel
theorem dX8_ballsFor_9 : decode cX8_ballsFor 9 = .ok (.istore 4, 2) := by decide +kernel
theorem dX8_ballsFor_11 : decode cX8_ballsFor 11 = .ok (.iconst 0, 1) := by decide +kernel
theorem dX8_ballsFor_12 : decode cX8_ballsFor 12 = .ok (.istore 5, 2) := by decide +kernel
theorem dX8_ballsFor_14 : decode cX8_ballsFor 14 = .ok (.iload 5, 2) := by decide +kernel
theorem dX8_ballsFor_16 : decode cX8_ballsFor 16 = .ok (.sipush 600, 3) := by decide +kernel
theorem dX8_ballsFor_19 : decode cX8_ballsFor 19 = .ok (.if_icmp .ge 45, 3) := by decide +kernel
theorem dX8_ballsFor_22 : decode cX8_ballsFor 22 = .ok (.aload_n 0, 1) := by decide +kernel
theorem dX8_ballsFor_23 : decode cX8_ballsFor 23 = .ok (.aload_n 0, 1) := by decide +kernel
theorem dX8_ballsFor_24 : decode cX8_ballsFor 24 = .ok (.getfield 19, 3) := by decide +kernel
theorem dX8_ballsFor_27 : decode cX8_ballsFor 27 = .ok (.bipush 45, 2) := by decide +kernel
theorem dX8_ballsFor_29 : decode cX8_ballsFor 29 = .ok (.iaload, 1) := by decide +kernel
theorem dX8_ballsFor_30 : decode cX8_ballsFor 30 = .ok (.iload 5, 2) := by decide +kernel
theorem dX8_ballsFor_32 : decode cX8_ballsFor 32 = .ok (.invokevirtual 191, 3) := by decide +kernel
theorem dX8_ballsFor_35 : decode cX8_ballsFor 35 = .ok (.iload_n 1, 1) := by decide +kernel
theorem dX8_ballsFor_36 : decode cX8_ballsFor 36 = .ok (.if_icmp .ne 22, 3) := by decide +kernel
theorem dX8_ballsFor_39 : decode cX8_ballsFor 39 = .ok (.iload_n 3, 1) := by decide +kernel
theorem dX8_ballsFor_40 : decode cX8_ballsFor 40 = .ok (.ifCond .ne 11, 3) := by decide +kernel
theorem dX8_ballsFor_43 : decode cX8_ballsFor 43 = .ok (.iload 5, 2) := by decide +kernel
theorem dX8_ballsFor_45 : decode cX8_ballsFor 45 = .ok (.invokestatic 197, 3) := by decide +kernel
theorem dX8_ballsFor_48 : decode cX8_ballsFor 48 = .ok (.goto 5, 3) := by decide +kernel
theorem dX8_ballsFor_51 : decode cX8_ballsFor 51 = .ok (.iload 4, 2) := by decide +kernel
theorem dX8_ballsFor_53 : decode cX8_ballsFor 53 = .ok (.istore 4, 2) := by decide +kernel
theorem dX8_ballsFor_55 : decode cX8_ballsFor 55 = .ok (.iinc 3 1, 3) := by decide +kernel
theorem dX8_ballsFor_58 : decode cX8_ballsFor 58 = .ok (.iinc 5 1, 3) := by decide +kernel
theorem dX8_ballsFor_61 : decode cX8_ballsFor 61 = .ok (.goto (-47), 3) := by decide +kernel
theorem dX8_ballsFor_64 : decode cX8_ballsFor 64 = .ok (.iload_n 2, 1) := by decide +kernel
theorem dX8_ballsFor_65 : decode cX8_ballsFor 65 = .ok (.ifCond .ne 7, 3) := by decide +kernel
theorem dX8_ballsFor_68 : decode cX8_ballsFor 68 = .ok (.iload_n 3, 1) := by decide +kernel
theorem dX8_ballsFor_69 : decode cX8_ballsFor 69 = .ok (.goto 5, 3) := by decide +kernel
theorem dX8_ballsFor_72 : decode cX8_ballsFor 72 = .ok (.iload 4, 2) := by decide +kernel
theorem dX8_ballsFor_74 : decode cX8_ballsFor 74 = .ok (.ireturn, 1) := by decide +kernel
theorem dX8_balls_0 : decode cX8_balls 0 = .ok (.aload_n 0, 1) := by decide +kernel
theorem dX8_balls_1 : decode cX8_balls 1 = .ok (.iconst 0, 1) := by decide +kernel
theorem dX8_balls_2 : decode cX8_balls 2 = .ok (.putfield 72, 3) := by decide +kernel
theorem dX8_balls_5 : decode cX8_balls 5 = .ok (.aload_n 0, 1) := by decide +kernel
theorem dX8_balls_6 : decode cX8_balls 6 = .ok (.iload_n 1, 1) := by decide +kernel
theorem dX8_balls_7 : decode cX8_balls 7 = .ok (.invokevirtual 254, 3) := by decide +kernel
theorem dX8_balls_10 : decode cX8_balls 10 = .ok (.ifCond .ne 6, 3) := by decide +kernel
theorem dX8_balls_13 : decode cX8_balls 13 = .ok (.ldc 220, 2) := by decide +kernel
theorem dX8_balls_15 : decode cX8_balls 15 = .ok (.ireturn, 1) := by decide +kernel
theorem dX8_balls_16 : decode cX8_balls 16 = .ok (.iload_n 2, 1) := by decide +kernel
theorem dX8_balls_17 : decode cX8_balls 17 = .ok (.iconst 0, 1) := by decide +kernel
theorem dX8_balls_18 : decode cX8_balls 18 = .ok (.iconst 1, 1) := by decide +kernel
theorem dX8_balls_19 : decode cX8_balls 19 = .ok (.invokestatic 75, 3) := by decide +kernel
theorem dX8_balls_22 : decode cX8_balls 22 = .ok (.ifCond .ne 6, 3) := by decide +kernel
theorem dX8_balls_25 : decode cX8_balls 25 = .ok (.ldc 79, 2) := by decide +kernel
theorem dX8_balls_27 : decode cX8_balls 27 = .ok (.ireturn, 1) := by decide +kernel
theorem dX8_balls_28 : decode cX8_balls 28 = .ok (.aload_n 0, 1) := by decide +kernel
theorem dX8_balls_29 : decode cX8_balls 29 = .ok (.getfield 133, 3) := by decide +kernel
theorem dX8_balls_32 : decode cX8_balls 32 = .ok (.ifCond .eq 12, 3) := by decide +kernel
theorem dX8_balls_35 : decode cX8_balls 35 = .ok (.aload_n 0, 1) := by decide +kernel
theorem dX8_balls_36 : decode cX8_balls 36 = .ok (.iload_n 1, 1) := by decide +kernel
theorem dX8_balls_37 : decode cX8_balls 37 = .ok (.iload_n 2, 1) := by decide +kernel
theorem dX8_balls_38 : decode cX8_balls 38 = .ok (.invokevirtual 200, 3) := by decide +kernel
theorem dX8_balls_41 : decode cX8_balls 41 = .ok (.goto 5, 3) := by decide +kernel
theorem dX8_balls_44 : decode cX8_balls 44 = .ok (.ldc 233, 2) := by decide +kernel
theorem dX8_balls_46 : decode cX8_balls 46 = .ok (.ireturn, 1) := by decide +kernel
theorem dX8_spare_0 : decode cX8_spare 0 = .ok (.aload_n 0, 1) := by decide +kernel
theorem dX8_spare_1 : decode cX8_spare 1 = .ok (.iconst 0, 1) := by decide +kernel
theorem dX8_spare_2 : decode cX8_spare 2 = .ok (.putfield 72, 3) := by decide +kernel
theorem dX8_spare_5 : decode cX8_spare 5 = .ok (.aload_n 0, 1) := by decide +kernel
theorem dX8_spare_6 : decode cX8_spare 6 = .ok (.iload_n 1, 1) := by decide +kernel
theorem dX8_spare_7 : decode cX8_spare 7 = .ok (.invokevirtual 254, 3) := by decide +kernel
theorem dX8_spare_10 : decode cX8_spare 10 = .ok (.ifCond .eq 11, 3) := by decide +kernel
theorem dX8_spare_13 : decode cX8_spare 13 = .ok (.aload_n 0, 1) := by decide +kernel
theorem dX8_spare_14 : decode cX8_spare 14 = .ok (.iload_n 2, 1) := by decide +kernel
theorem dX8_spare_15 : decode cX8_spare 15 = .ok (.invokevirtual 254, 3) := by decide +kernel
theorem dX8_spare_18 : decode cX8_spare 18 = .ok (.ifCond .ne 6, 3) := by decide +kernel
theorem dX8_spare_21 : decode cX8_spare 21 = .ok (.ldc 220, 2) := by decide +kernel
theorem dX8_spare_23 : decode cX8_spare 23 = .ok (.ireturn, 1) := by decide +kernel
theorem dX8_spare_24 : decode cX8_spare 24 = .ok (.aload_n 0, 1) := by decide +kernel
theorem dX8_spare_25 : decode cX8_spare 25 = .ok (.getfield 133, 3) := by decide +kernel
theorem dX8_spare_28 : decode cX8_spare 28 = .ok (.ifCond .ne 6, 3) := by decide +kernel
theorem dX8_spare_31 : decode cX8_spare 31 = .ok (.ldc 233, 2) := by decide +kernel
theorem dX8_spare_33 : decode cX8_spare 33 = .ok (.ireturn, 1) := by decide +kernel
theorem dX8_spare_34 : decode cX8_spare 34 = .ok (.aload_n 0, 1) := by decide +kernel
theorem dX8_spare_35 : decode cX8_spare 35 = .ok (.iconst 0, 1) := by decide +kernel
theorem dX8_spare_36 : decode cX8_spare 36 = .ok (.iconst 0, 1) := by decide +kernel
theorem dX8_spare_37 : decode cX8_spare 37 = .ok (.invokevirtual 188, 3) := by decide +kernel
theorem dX8_spare_40 : decode cX8_spare 40 = .ok (.iconst (-1), 1) := by decide +kernel
theorem dX8_spare_41 : decode cX8_spare 41 = .ok (.istore_n 3, 1) := by decide +kernel
theorem dX8_spare_42 : decode cX8_spare 42 = .ok (.bipush 41, 2) := by decide +kernel
theorem dX8_spare_44 : decode cX8_spare 44 = .ok (.istore 4, 2) := by decide +kernel
theorem dX8_spare_46 : decode cX8_spare 46 = .ok (.iconst 0, 1) := by decide +kernel
theorem dX8_spare_47 : decode cX8_spare 47 = .ok (.istore 5, 2) := by decide +kernel
theorem dX8_spare_49 : decode cX8_spare 49 = .ok (.iload 5, 2) := by decide +kernel
theorem dX8_spare_51 : decode cX8_spare 51 = .ok (.sipush 600, 3) := by decide +kernel
theorem dX8_spare_54 : decode cX8_spare 54 = .ok (.if_icmp .ge 92, 3) := by decide +kernel
theorem dX8_spare_57 : decode cX8_spare 57 = .ok (.aload_n 0, 1) := by decide +kernel
theorem dX8_spare_58 : decode cX8_spare 58 = .ok (.aload_n 0, 1) := by decide +kernel
theorem dX8_spare_59 : decode cX8_spare 59 = .ok (.getfield 19, 3) := by decide +kernel
theorem dX8_spare_62 : decode cX8_spare 62 = .ok (.bipush 45, 2) := by decide +kernel
theorem dX8_spare_64 : decode cX8_spare 64 = .ok (.iaload, 1) := by decide +kernel
theorem dX8_spare_65 : decode cX8_spare 65 = .ok (.iload 5, 2) := by decide +kernel
theorem dX8_spare_67 : decode cX8_spare 67 = .ok (.invokevirtual 191, 3) := by decide +kernel
theorem dX8_spare_70 : decode cX8_spare 70 = .ok (.istore 6, 2) := by decide +kernel
theorem dX8_spare_72 : decode cX8_spare 72 = .ok (.iconst 1, 1) := by decide +kernel
theorem dX8_spare_73 : decode cX8_spare 73 = .ok (.iload 5, 2) := by decide +kernel
theorem dX8_spare_75 : decode cX8_spare 75 = .ok (.bipush 40, 2) := by decide +kernel
theorem dX8_spare_77 : decode cX8_spare 77 = .ok (.irem, 1) := by decide +kernel
theorem dX8_spare_78 : decode cX8_spare 78 = .ok (.iadd, 1) := by decide +kernel
theorem dX8_spare_79 : decode cX8_spare 79 = .ok (.istore 7, 2) := by decide +kernel
theorem dX8_spare_81 : decode cX8_spare 81 = .ok (.iload_n 1, 1) := by decide +kernel
theorem dX8_spare_82 : decode cX8_spare 82 = .ok (.iload 6, 2) := by decide +kernel
theorem dX8_spare_84 : decode cX8_spare 84 = .ok (.iconst (-1), 1) := by decide +kernel
theorem dX8_spare_85 : decode cX8_spare 85 = .ok (.ixor, 1) := by decide +kernel
theorem dX8_spare_86 : decode cX8_spare 86 = .ok (.iand, 1) := by decide +kernel
theorem dX8_spare_87 : decode cX8_spare 87 = .ok (.ifCond .ne 21, 3) := by decide +kernel
theorem dX8_spare_90 : decode cX8_spare 90 = .ok (.iload_n 2, 1) := by decide +kernel
theorem dX8_spare_91 : decode cX8_spare 91 = .ok (.iload 6, 2) := by decide +kernel
theorem dX8_spare_93 : decode cX8_spare 93 = .ok (.iand, 1) := by decide +kernel
theorem dX8_spare_94 : decode cX8_spare 94 = .ok (.ifCond .ne 14, 3) := by decide +kernel
theorem dX8_spare_97 : decode cX8_spare 97 = .ok (.iload 7, 2) := by decide +kernel
theorem dX8_spare_99 : decode cX8_spare 99 = .ok (.iload 4, 2) := by decide +kernel
theorem dX8_spare_101 : decode cX8_spare 101 = .ok (.if_icmp .ge 7, 3) := by decide +kernel
theorem dX8_spare_104 : decode cX8_spare 104 = .ok (.iconst 1, 1) := by decide +kernel
theorem dX8_spare_105 : decode cX8_spare 105 = .ok (.goto 4, 3) := by decide +kernel
theorem dX8_spare_108 : decode cX8_spare 108 = .ok (.iconst 0, 1) := by decide +kernel
theorem dX8_spare_109 : decode cX8_spare 109 = .ok (.istore 8, 2) := by decide +kernel
theorem dX8_spare_111 : decode cX8_spare 111 = .ok (.iload 8, 2) := by decide +kernel
theorem dX8_spare_113 : decode cX8_spare 113 = .ok (.ifCond .eq 11, 3) := by decide +kernel
theorem dX8_spare_116 : decode cX8_spare 116 = .ok (.iload 5, 2) := by decide +kernel
theorem dX8_spare_118 : decode cX8_spare 118 = .ok (.invokestatic 197, 3) := by decide +kernel
theorem dX8_spare_121 : decode cX8_spare 121 = .ok (.goto 4, 3) := by decide +kernel
theorem dX8_spare_124 : decode cX8_spare 124 = .ok (.iload_n 3, 1) := by decide +kernel
theorem dX8_spare_125 : decode cX8_spare 125 = .ok (.istore_n 3, 1) := by decide +kernel
theorem dX8_spare_126 : decode cX8_spare 126 = .ok (.iload 8, 2) := by decide +kernel
theorem dX8_spare_128 : decode cX8_spare 128 = .ok (.ifCond .eq 8, 3) := by decide +kernel
theorem dX8_spare_131 : decode cX8_spare 131 = .ok (.iload 7, 2) := by decide +kernel
theorem dX8_spare_133 : decode cX8_spare 133 = .ok (.goto 5, 3) := by decide +kernel
theorem dX8_spare_136 : decode cX8_spare 136 = .ok (.iload 4, 2) := by decide +kernel
theorem dX8_spare_138 : decode cX8_spare 138 = .ok (.istore 4, 2) := by decide +kernel
theorem dX8_spare_140 : decode cX8_spare 140 = .ok (.iinc 5 1, 3) := by decide +kernel
theorem dX8_spare_143 : decode cX8_spare 143 = .ok (.goto (-94), 3) := by decide +kernel
theorem dX8_spare_146 : decode cX8_spare 146 = .ok (.iload_n 3, 1) := by decide +kernel
theorem dX8_spare_147 : decode cX8_spare 147 = .ok (.ireturn, 1) := by decide +kernel
theorem dX8_allDown_0 : decode cX8_allDown 0 = .ok (.aload_n 0, 1) := by decide +kernel
theorem dX8_allDown_1 : decode cX8_allDown 1 = .ok (.iconst 0, 1) := by decide +kernel
theorem dX8_allDown_2 : decode cX8_allDown 2 = .ok (.putfield 72, 3) := by decide +kernel
theorem dX8_allDown_5 : decode cX8_allDown 5 = .ok (.iload_n 1, 1) := by decide +kernel
theorem dX8_allDown_6 : decode cX8_allDown 6 = .ok (.iconst 0, 1) := by decide +kernel
theorem dX8_allDown_7 : decode cX8_allDown 7 = .ok (.iconst 1, 1) := by decide +kernel
theorem dX8_allDown_8 : decode cX8_allDown 8 = .ok (.invokestatic 75, 3) := by decide +kernel
theorem dX8_allDown_11 : decode cX8_allDown 11 = .ok (.ifCond .ne 6, 3) := by decide +kernel
theorem dX8_allDown_14 : decode cX8_allDown 14 = .ok (.ldc 79, 2) := by decide +kernel
theorem dX8_allDown_16 : decode cX8_allDown 16 = .ok (.ireturn, 1) := by decide +kernel
theorem dX8_allDown_17 : decode cX8_allDown 17 = .ok (.aload_n 0, 1) := by decide +kernel
theorem dX8_allDown_18 : decode cX8_allDown 18 = .ok (.getfield 133, 3) := by decide +kernel
theorem dX8_allDown_21 : decode cX8_allDown 21 = .ok (.ifCond .ne 6, 3) := by decide +kernel
theorem dX8_allDown_24 : decode cX8_allDown 24 = .ok (.ldc 233, 2) := by decide +kernel
theorem dX8_allDown_26 : decode cX8_allDown 26 = .ok (.ireturn, 1) := by decide +kernel
theorem dX8_allDown_27 : decode cX8_allDown 27 = .ok (.aload_n 0, 1) := by decide +kernel
theorem dX8_allDown_28 : decode cX8_allDown 28 = .ok (.iconst 0, 1) := by decide +kernel
theorem dX8_allDown_29 : decode cX8_allDown 29 = .ok (.iconst 0, 1) := by decide +kernel
theorem dX8_allDown_30 : decode cX8_allDown 30 = .ok (.invokevirtual 188, 3) := by decide +kernel
theorem dX8_allDown_33 : decode cX8_allDown 33 = .ok (.iconst 0, 1) := by decide +kernel
theorem dX8_allDown_34 : decode cX8_allDown 34 = .ok (.istore_n 2, 1) := by decide +kernel
theorem dX8_allDown_35 : decode cX8_allDown 35 = .ok (.iload_n 2, 1) := by decide +kernel
theorem dX8_allDown_36 : decode cX8_allDown 36 = .ok (.sipush 512, 3) := by decide +kernel
theorem dX8_allDown_39 : decode cX8_allDown 39 = .ok (.if_icmp .ge 23, 3) := by decide +kernel
theorem dX8_allDown_42 : decode cX8_allDown 42 = .ok (.aload_n 0, 1) := by decide +kernel
theorem dX8_allDown_43 : decode cX8_allDown 43 = .ok (.getfield 59, 3) := by decide +kernel
theorem dX8_allDown_46 : decode cX8_allDown 46 = .ok (.iload_n 2, 1) := by decide +kernel
theorem dX8_allDown_47 : decode cX8_allDown 47 = .ok (.iconst (-1), 1) := by decide +kernel
theorem dX8_allDown_48 : decode cX8_allDown 48 = .ok (.iastore, 1) := by decide +kernel
theorem dX8_allDown_49 : decode cX8_allDown 49 = .ok (.aload_n 0, 1) := by decide +kernel
theorem dX8_allDown_50 : decode cX8_allDown 50 = .ok (.getfield 62, 3) := by decide +kernel
theorem dX8_allDown_53 : decode cX8_allDown 53 = .ok (.iload_n 2, 1) := by decide +kernel
theorem dX8_allDown_54 : decode cX8_allDown 54 = .ok (.iconst (-1), 1) := by decide +kernel
theorem dX8_allDown_55 : decode cX8_allDown 55 = .ok (.iastore, 1) := by decide +kernel
theorem dX8_allDown_56 : decode cX8_allDown 56 = .ok (.iinc 2 1, 3) := by decide +kernel
theorem dX8_allDown_59 : decode cX8_allDown 59 = .ok (.goto (-24), 3) := by decide +kernel
theorem dX8_allDown_62 : decode cX8_allDown 62 = .ok (.aload_n 0, 1) := by decide +kernel
theorem dX8_allDown_63 : decode cX8_allDown 63 = .ok (.getfield 59, 3) := by decide +kernel
theorem dX8_allDown_66 : decode cX8_allDown 66 = .ok (.aload_n 0, 1) := by decide +kernel
theorem dX8_allDown_67 : decode cX8_allDown 67 = .ok (.getfield 19, 3) := by decide +kernel
theorem dX8_allDown_70 : decode cX8_allDown 70 = .ok (.bipush 45, 2) := by decide +kernel
theorem dX8_allDown_72 : decode cX8_allDown 72 = .ok (.iaload, 1) := by decide +kernel
theorem dX8_allDown_73 : decode cX8_allDown 73 = .ok (.iconst 0, 1) := by decide +kernel
theorem dX8_allDown_74 : decode cX8_allDown 74 = .ok (.iastore, 1) := by decide +kernel
theorem dX8_allDown_75 : decode cX8_allDown 75 = .ok (.aload_n 0, 1) := by decide +kernel
theorem dX8_allDown_76 : decode cX8_allDown 76 = .ok (.getfield 65, 3) := by decide +kernel
theorem dX8_allDown_79 : decode cX8_allDown 79 = .ok (.iconst 0, 1) := by decide +kernel
theorem dX8_allDown_80 : decode cX8_allDown 80 = .ok (.aload_n 0, 1) := by decide +kernel
theorem dX8_allDown_81 : decode cX8_allDown 81 = .ok (.getfield 19, 3) := by decide +kernel
theorem dX8_allDown_84 : decode cX8_allDown 84 = .ok (.bipush 45, 2) := by decide +kernel
theorem dX8_allDown_86 : decode cX8_allDown 86 = .ok (.iaload, 1) := by decide +kernel
theorem dX8_allDown_87 : decode cX8_allDown 87 = .ok (.iastore, 1) := by decide +kernel
theorem dX8_allDown_88 : decode cX8_allDown 88 = .ok (.iconst 1, 1) := by decide +kernel
theorem dX8_allDown_89 : decode cX8_allDown 89 = .ok (.istore_n 2, 1) := by decide +kernel
theorem dX8_allDown_90 : decode cX8_allDown 90 = .ok (.iconst 0, 1) := by decide +kernel
theorem dX8_allDown_91 : decode cX8_allDown 91 = .ok (.istore_n 3, 1) := by decide +kernel
theorem dX8_allDown_92 : decode cX8_allDown 92 = .ok (.iload_n 3, 1) := by decide +kernel
theorem dX8_allDown_93 : decode cX8_allDown 93 = .ok (.iload_n 2, 1) := by decide +kernel
theorem dX8_allDown_94 : decode cX8_allDown 94 = .ok (.if_icmp .ge 196, 3) := by decide +kernel
theorem dX8_allDown_97 : decode cX8_allDown 97 = .ok (.aload_n 0, 1) := by decide +kernel
theorem dX8_allDown_98 : decode cX8_allDown 98 = .ok (.getfield 59, 3) := by decide +kernel
theorem dX8_allDown_101 : decode cX8_allDown 101 = .ok (.iconst 0, 1) := by decide +kernel
theorem dX8_allDown_102 : decode cX8_allDown 102 = .ok (.iaload, 1) := by decide +kernel
theorem dX8_allDown_103 : decode cX8_allDown 103 = .ok (.iconst (-1), 1) := by decide +kernel
theorem dX8_allDown_104 : decode cX8_allDown 104 = .ok (.if_icmp .eq 23, 3) := by decide +kernel
theorem dX8_allDown_107 : decode cX8_allDown 107 = .ok (.aload_n 0, 1) := by decide +kernel
theorem dX8_allDown_108 : decode cX8_allDown 108 = .ok (.getfield 59, 3) := by decide +kernel
theorem dX8_allDown_111 : decode cX8_allDown 111 = .ok (.aload_n 0, 1) := by decide +kernel
theorem dX8_allDown_112 : decode cX8_allDown 112 = .ok (.getfield 65, 3) := by decide +kernel
theorem dX8_allDown_115 : decode cX8_allDown 115 = .ok (.iload_n 3, 1) := by decide +kernel
theorem dX8_allDown_116 : decode cX8_allDown 116 = .ok (.iaload, 1) := by decide +kernel
theorem dX8_allDown_117 : decode cX8_allDown 117 = .ok (.iaload, 1) := by decide +kernel
theorem dX8_allDown_118 : decode cX8_allDown 118 = .ok (.aload_n 0, 1) := by decide +kernel
theorem dX8_allDown_119 : decode cX8_allDown 119 = .ok (.getfield 59, 3) := by decide +kernel
theorem dX8_allDown_122 : decode cX8_allDown 122 = .ok (.iconst 0, 1) := by decide +kernel
theorem dX8_allDown_123 : decode cX8_allDown 123 = .ok (.iaload, 1) := by decide +kernel
theorem dX8_allDown_124 : decode cX8_allDown 124 = .ok (.if_icmp .ge 166, 3) := by decide +kernel
theorem dX8_allDown_127 : decode cX8_allDown 127 = .ok (.aload_n 0, 1) := by decide +kernel
theorem dX8_allDown_128 : decode cX8_allDown 128 = .ok (.getfield 65, 3) := by decide +kernel
theorem dX8_allDown_131 : decode cX8_allDown 131 = .ok (.iload_n 3, 1) := by decide +kernel
theorem dX8_allDown_132 : decode cX8_allDown 132 = .ok (.iaload, 1) := by decide +kernel
theorem dX8_allDown_133 : decode cX8_allDown 133 = .ok (.istore 4, 2) := by decide +kernel
theorem dX8_allDown_135 : decode cX8_allDown 135 = .ok (.iconst 0, 1) := by decide +kernel
theorem dX8_allDown_136 : decode cX8_allDown 136 = .ok (.istore 5, 2) := by decide +kernel
theorem dX8_allDown_138 : decode cX8_allDown 138 = .ok (.iload 5, 2) := by decide +kernel
theorem dX8_allDown_140 : decode cX8_allDown 140 = .ok (.sipush 600, 3) := by decide +kernel
theorem dX8_allDown_143 : decode cX8_allDown 143 = .ok (.if_icmp .ge 141, 3) := by decide +kernel
theorem dX8_allDown_146 : decode cX8_allDown 146 = .ok (.iload 4, 2) := by decide +kernel
theorem dX8_allDown_148 : decode cX8_allDown 148 = .ok (.aload_n 0, 1) := by decide +kernel
theorem dX8_allDown_149 : decode cX8_allDown 149 = .ok (.iload 4, 2) := by decide +kernel
theorem dX8_allDown_151 : decode cX8_allDown 151 = .ok (.iload 5, 2) := by decide +kernel
theorem dX8_allDown_153 : decode cX8_allDown 153 = .ok (.invokevirtual 191, 3) := by decide +kernel
theorem dX8_allDown_156 : decode cX8_allDown 156 = .ok (.iconst (-1), 1) := by decide +kernel
theorem dX8_allDown_157 : decode cX8_allDown 157 = .ok (.ixor, 1) := by decide +kernel
theorem dX8_allDown_158 : decode cX8_allDown 158 = .ok (.iand, 1) := by decide +kernel
theorem dX8_allDown_159 : decode cX8_allDown 159 = .ok (.istore 6, 2) := by decide +kernel
theorem dX8_allDown_161 : decode cX8_allDown 161 = .ok (.aload_n 0, 1) := by decide +kernel
theorem dX8_allDown_162 : decode cX8_allDown 162 = .ok (.getfield 59, 3) := by decide +kernel
theorem dX8_allDown_165 : decode cX8_allDown 165 = .ok (.iload 4, 2) := by decide +kernel
theorem dX8_allDown_167 : decode cX8_allDown 167 = .ok (.iaload, 1) := by decide +kernel
theorem dX8_allDown_168 : decode cX8_allDown 168 = .ok (.ifCond .ne 11, 3) := by decide +kernel
theorem dX8_allDown_171 : decode cX8_allDown 171 = .ok (.iload 5, 2) := by decide +kernel
theorem dX8_allDown_173 : decode cX8_allDown 173 = .ok (.invokestatic 197, 3) := by decide +kernel
theorem dX8_allDown_176 : decode cX8_allDown 176 = .ok (.goto 10, 3) := by decide +kernel
theorem dX8_allDown_179 : decode cX8_allDown 179 = .ok (.aload_n 0, 1) := by decide +kernel
theorem dX8_allDown_180 : decode cX8_allDown 180 = .ok (.getfield 62, 3) := by decide +kernel
theorem dX8_allDown_183 : decode cX8_allDown 183 = .ok (.iload 4, 2) := by decide +kernel
theorem dX8_allDown_185 : decode cX8_allDown 185 = .ok (.iaload, 1) := by decide +kernel
theorem dX8_allDown_186 : decode cX8_allDown 186 = .ok (.istore 7, 2) := by decide +kernel
theorem dX8_allDown_188 : decode cX8_allDown 188 = .ok (.aload_n 0, 1) := by decide +kernel
theorem dX8_allDown_189 : decode cX8_allDown 189 = .ok (.getfield 59, 3) := by decide +kernel
theorem dX8_allDown_192 : decode cX8_allDown 192 = .ok (.iload 6, 2) := by decide +kernel
theorem dX8_allDown_194 : decode cX8_allDown 194 = .ok (.iaload, 1) := by decide +kernel
theorem dX8_allDown_195 : decode cX8_allDown 195 = .ok (.iconst (-1), 1) := by decide +kernel
theorem dX8_allDown_196 : decode cX8_allDown 196 = .ok (.if_icmp .ne 42, 3) := by decide +kernel
theorem dX8_allDown_199 : decode cX8_allDown 199 = .ok (.aload_n 0, 1) := by decide +kernel
theorem dX8_allDown_200 : decode cX8_allDown 200 = .ok (.getfield 59, 3) := by decide +kernel
theorem dX8_allDown_203 : decode cX8_allDown 203 = .ok (.iload 6, 2) := by decide +kernel
theorem dX8_allDown_205 : decode cX8_allDown 205 = .ok (.aload_n 0, 1) := by decide +kernel
theorem dX8_allDown_206 : decode cX8_allDown 206 = .ok (.getfield 59, 3) := by decide +kernel
theorem dX8_allDown_209 : decode cX8_allDown 209 = .ok (.iload 4, 2) := by decide +kernel
theorem dX8_allDown_211 : decode cX8_allDown 211 = .ok (.iaload, 1) := by decide +kernel
theorem dX8_allDown_212 : decode cX8_allDown 212 = .ok (.iconst 1, 1) := by decide +kernel
theorem dX8_allDown_213 : decode cX8_allDown 213 = .ok (.iadd, 1) := by decide +kernel
theorem dX8_allDown_214 : decode cX8_allDown 214 = .ok (.iastore, 1) := by decide +kernel
theorem dX8_allDown_215 : decode cX8_allDown 215 = .ok (.aload_n 0, 1) := by decide +kernel
theorem dX8_allDown_216 : decode cX8_allDown 216 = .ok (.getfield 62, 3) := by decide +kernel
theorem dX8_allDown_219 : decode cX8_allDown 219 = .ok (.iload 6, 2) := by decide +kernel
theorem dX8_allDown_221 : decode cX8_allDown 221 = .ok (.iload 7, 2) := by decide +kernel
theorem dX8_allDown_223 : decode cX8_allDown 223 = .ok (.iastore, 1) := by decide +kernel
theorem dX8_allDown_224 : decode cX8_allDown 224 = .ok (.aload_n 0, 1) := by decide +kernel
theorem dX8_allDown_225 : decode cX8_allDown 225 = .ok (.getfield 65, 3) := by decide +kernel
theorem dX8_allDown_228 : decode cX8_allDown 228 = .ok (.iload_n 2, 1) := by decide +kernel
theorem dX8_allDown_229 : decode cX8_allDown 229 = .ok (.iload 6, 2) := by decide +kernel
theorem dX8_allDown_231 : decode cX8_allDown 231 = .ok (.iastore, 1) := by decide +kernel
theorem dX8_allDown_232 : decode cX8_allDown 232 = .ok (.iinc 2 1, 3) := by decide +kernel
theorem dX8_allDown_235 : decode cX8_allDown 235 = .ok (.goto 43, 3) := by decide +kernel
theorem dX8_allDown_238 : decode cX8_allDown 238 = .ok (.aload_n 0, 1) := by decide +kernel
theorem dX8_allDown_239 : decode cX8_allDown 239 = .ok (.getfield 59, 3) := by decide +kernel
theorem dX8_allDown_242 : decode cX8_allDown 242 = .ok (.iload 6, 2) := by decide +kernel
theorem dX8_allDown_244 : decode cX8_allDown 244 = .ok (.iaload, 1) := by decide +kernel
theorem dX8_allDown_245 : decode cX8_allDown 245 = .ok (.aload_n 0, 1) := by decide +kernel
theorem dX8_allDown_246 : decode cX8_allDown 246 = .ok (.getfield 59, 3) := by decide +kernel
theorem dX8_allDown_249 : decode cX8_allDown 249 = .ok (.iload 4, 2) := by decide +kernel
theorem dX8_allDown_251 : decode cX8_allDown 251 = .ok (.iaload, 1) := by decide +kernel
theorem dX8_allDown_252 : decode cX8_allDown 252 = .ok (.iconst 1, 1) := by decide +kernel
theorem dX8_allDown_253 : decode cX8_allDown 253 = .ok (.iadd, 1) := by decide +kernel
theorem dX8_allDown_254 : decode cX8_allDown 254 = .ok (.if_icmp .ne 24, 3) := by decide +kernel
theorem dX8_allDown_257 : decode cX8_allDown 257 = .ok (.iload 7, 2) := by decide +kernel
theorem dX8_allDown_259 : decode cX8_allDown 259 = .ok (.aload_n 0, 1) := by decide +kernel
theorem dX8_allDown_260 : decode cX8_allDown 260 = .ok (.getfield 62, 3) := by decide +kernel
theorem dX8_allDown_263 : decode cX8_allDown 263 = .ok (.iload 6, 2) := by decide +kernel
theorem dX8_allDown_265 : decode cX8_allDown 265 = .ok (.iaload, 1) := by decide +kernel
theorem dX8_allDown_266 : decode cX8_allDown 266 = .ok (.if_icmp .ge 12, 3) := by decide +kernel
theorem dX8_allDown_269 : decode cX8_allDown 269 = .ok (.aload_n 0, 1) := by decide +kernel
theorem dX8_allDown_270 : decode cX8_allDown 270 = .ok (.getfield 62, 3) := by decide +kernel
theorem dX8_allDown_273 : decode cX8_allDown 273 = .ok (.iload 6, 2) := by decide +kernel
theorem dX8_allDown_275 : decode cX8_allDown 275 = .ok (.iload 7, 2) := by decide +kernel
theorem dX8_allDown_277 : decode cX8_allDown 277 = .ok (.iastore, 1) := by decide +kernel
theorem dX8_allDown_278 : decode cX8_allDown 278 = .ok (.iinc 5 1, 3) := by decide +kernel
theorem dX8_allDown_281 : decode cX8_allDown 281 = .ok (.goto (-143), 3) := by decide +kernel
theorem dX8_allDown_284 : decode cX8_allDown 284 = .ok (.iinc 3 1, 3) := by decide +kernel
theorem dX8_allDown_287 : decode cX8_allDown 287 = .ok (.goto (-195), 3) := by decide +kernel
theorem dX8_allDown_290 : decode cX8_allDown 290 = .ok (.iload_n 1, 1) := by decide +kernel
theorem dX8_allDown_291 : decode cX8_allDown 291 = .ok (.ifCond .ne 12, 3) := by decide +kernel
theorem dX8_allDown_294 : decode cX8_allDown 294 = .ok (.aload_n 0, 1) := by decide +kernel
theorem dX8_allDown_295 : decode cX8_allDown 295 = .ok (.getfield 59, 3) := by decide +kernel
theorem dX8_allDown_298 : decode cX8_allDown 298 = .ok (.iconst 0, 1) := by decide +kernel
theorem dX8_allDown_299 : decode cX8_allDown 299 = .ok (.iaload, 1) := by decide +kernel
theorem dX8_allDown_300 : decode cX8_allDown 300 = .ok (.goto 9, 3) := by decide +kernel
theorem dX8_allDown_303 : decode cX8_allDown 303 = .ok (.aload_n 0, 1) := by decide +kernel
theorem dX8_allDown_304 : decode cX8_allDown 304 = .ok (.getfield 62, 3) := by decide +kernel
theorem dX8_allDown_307 : decode cX8_allDown 307 = .ok (.iconst 0, 1) := by decide +kernel
theorem dX8_allDown_308 : decode cX8_allDown 308 = .ok (.iaload, 1) := by decide +kernel
theorem dX8_allDown_309 : decode cX8_allDown 309 = .ok (.ireturn, 1) := by decide +kernel
theorem dX8_mend_0 : decode cX8_mend 0 = .ok (.aload_n 0, 1) := by decide +kernel
theorem dX8_mend_1 : decode cX8_mend 1 = .ok (.iconst 0, 1) := by decide +kernel
theorem dX8_mend_2 : decode cX8_mend 2 = .ok (.putfield 72, 3) := by decide +kernel
theorem dX8_mend_5 : decode cX8_mend 5 = .ok (.aload_n 0, 1) := by decide +kernel
theorem dX8_mend_6 : decode cX8_mend 6 = .ok (.iload_n 1, 1) := by decide +kernel
theorem dX8_mend_7 : decode cX8_mend 7 = .ok (.iload_n 2, 1) := by decide +kernel
theorem dX8_mend_8 : decode cX8_mend 8 = .ok (.iload_n 3, 1) := by decide +kernel
theorem dX8_mend_9 : decode cX8_mend 9 = .ok (.invokevirtual 230, 3) := by decide +kernel
theorem dX8_mend_12 : decode cX8_mend 12 = .ok (.ifCond .eq 13, 3) := by decide +kernel
theorem dX8_mend_15 : decode cX8_mend 15 = .ok (.iload 4, 2) := by decide +kernel
theorem dX8_mend_17 : decode cX8_mend 17 = .ok (.iconst 0, 1) := by decide +kernel
theorem dX8_mend_18 : decode cX8_mend 18 = .ok (.iconst 1, 1) := by decide +kernel
theorem dX8_mend_19 : decode cX8_mend 19 = .ok (.invokestatic 75, 3) := by decide +kernel
theorem dX8_mend_22 : decode cX8_mend 22 = .ok (.ifCond .ne 6, 3) := by decide +kernel
theorem dX8_mend_25 : decode cX8_mend 25 = .ok (.ldc 79, 2) := by decide +kernel
theorem dX8_mend_27 : decode cX8_mend 27 = .ok (.ireturn, 1) := by decide +kernel
theorem dX8_mend_28 : decode cX8_mend 28 = .ok (.aload_n 0, 1) := by decide +kernel
theorem dX8_mend_29 : decode cX8_mend 29 = .ok (.getfield 133, 3) := by decide +kernel
theorem dX8_mend_32 : decode cX8_mend 32 = .ok (.ifCond .ne 6, 3) := by decide +kernel
theorem dX8_mend_35 : decode cX8_mend 35 = .ok (.ldc 233, 2) := by decide +kernel
theorem dX8_mend_37 : decode cX8_mend 37 = .ok (.ireturn, 1) := by decide +kernel
theorem dX8_mend_38 : decode cX8_mend 38 = .ok (.iconst (-1), 1) := by decide +kernel
theorem dX8_mend_39 : decode cX8_mend 39 = .ok (.istore 5, 2) := by decide +kernel
theorem dX8_mend_41 : decode cX8_mend 41 = .ok (.bipush 10, 2) := by decide +kernel
theorem dX8_mend_43 : decode cX8_mend 43 = .ok (.istore 6, 2) := by decide +kernel
theorem dX8_mend_45 : decode cX8_mend 45 = .ok (.iconst 0, 1) := by decide +kernel
theorem dX8_mend_46 : decode cX8_mend 46 = .ok (.istore 7, 2) := by decide +kernel
theorem dX8_mend_48 : decode cX8_mend 48 = .ok (.iload 7, 2) := by decide +kernel
theorem dX8_mend_50 : decode cX8_mend 50 = .ok (.bipush 9, 2) := by decide +kernel
theorem dX8_mend_52 : decode cX8_mend 52 = .ok (.if_icmp .ge 93, 3) := by decide +kernel
theorem dX8_mend_55 : decode cX8_mend 55 = .ok (.iload 7, 2) := by decide +kernel
theorem dX8_mend_57 : decode cX8_mend 57 = .ok (.iconst 1, 1) := by decide +kernel
theorem dX8_mend_58 : decode cX8_mend 58 = .ok (.iadd, 1) := by decide +kernel
theorem dX8_mend_59 : decode cX8_mend 59 = .ok (.istore 8, 2) := by decide +kernel
theorem dX8_mend_61 : decode cX8_mend 61 = .ok (.iload 8, 2) := by decide +kernel
theorem dX8_mend_63 : decode cX8_mend 63 = .ok (.bipush 9, 2) := by decide +kernel
theorem dX8_mend_65 : decode cX8_mend 65 = .ok (.if_icmp .ge 74, 3) := by decide +kernel
theorem dX8_mend_68 : decode cX8_mend 68 = .ok (.aload_n 0, 1) := by decide +kernel
theorem dX8_mend_69 : decode cX8_mend 69 = .ok (.iload 7, 2) := by decide +kernel
theorem dX8_mend_71 : decode cX8_mend 71 = .ok (.iload 8, 2) := by decide +kernel
theorem dX8_mend_73 : decode cX8_mend 73 = .ok (.invokevirtual 188, 3) := by decide +kernel
theorem dX8_mend_76 : decode cX8_mend 76 = .ok (.aload_n 0, 1) := by decide +kernel
theorem dX8_mend_77 : decode cX8_mend 77 = .ok (.aload_n 0, 1) := by decide +kernel
theorem dX8_mend_78 : decode cX8_mend 78 = .ok (.getfield 19, 3) := by decide +kernel
theorem dX8_mend_81 : decode cX8_mend 81 = .ok (.bipush 45, 2) := by decide +kernel
theorem dX8_mend_83 : decode cX8_mend 83 = .ok (.iaload, 1) := by decide +kernel
theorem dX8_mend_84 : decode cX8_mend 84 = .ok (.iload_n 1, 1) := by decide +kernel
theorem dX8_mend_85 : decode cX8_mend 85 = .ok (.iload_n 2, 1) := by decide +kernel
theorem dX8_mend_86 : decode cX8_mend 86 = .ok (.iload_n 3, 1) := by decide +kernel
theorem dX8_mend_87 : decode cX8_mend 87 = .ok (.invokevirtual 184, 3) := by decide +kernel
theorem dX8_mend_90 : decode cX8_mend 90 = .ok (.invokestatic 194, 3) := by decide +kernel
theorem dX8_mend_93 : decode cX8_mend 93 = .ok (.istore 9, 2) := by decide +kernel
theorem dX8_mend_95 : decode cX8_mend 95 = .ok (.iload 9, 2) := by decide +kernel
theorem dX8_mend_97 : decode cX8_mend 97 = .ok (.iload 6, 2) := by decide +kernel
theorem dX8_mend_99 : decode cX8_mend 99 = .ok (.if_icmp .ge 14, 3) := by decide +kernel
theorem dX8_mend_102 : decode cX8_mend 102 = .ok (.bipush 10, 2) := by decide +kernel
theorem dX8_mend_104 : decode cX8_mend 104 = .ok (.iload 7, 2) := by decide +kernel
theorem dX8_mend_106 : decode cX8_mend 106 = .ok (.imul, 1) := by decide +kernel
theorem dX8_mend_107 : decode cX8_mend 107 = .ok (.iload 8, 2) := by decide +kernel
theorem dX8_mend_109 : decode cX8_mend 109 = .ok (.iadd, 1) := by decide +kernel
theorem dX8_mend_110 : decode cX8_mend 110 = .ok (.goto 5, 3) := by decide +kernel
theorem dX8_mend_113 : decode cX8_mend 113 = .ok (.iload 5, 2) := by decide +kernel
theorem dX8_mend_115 : decode cX8_mend 115 = .ok (.istore 5, 2) := by decide +kernel
theorem dX8_mend_117 : decode cX8_mend 117 = .ok (.iload 9, 2) := by decide +kernel
theorem dX8_mend_119 : decode cX8_mend 119 = .ok (.iload 6, 2) := by decide +kernel
theorem dX8_mend_121 : decode cX8_mend 121 = .ok (.if_icmp .ge 8, 3) := by decide +kernel
theorem dX8_mend_124 : decode cX8_mend 124 = .ok (.iload 9, 2) := by decide +kernel
theorem dX8_mend_126 : decode cX8_mend 126 = .ok (.goto 5, 3) := by decide +kernel
theorem dX8_mend_129 : decode cX8_mend 129 = .ok (.iload 6, 2) := by decide +kernel
theorem dX8_mend_131 : decode cX8_mend 131 = .ok (.istore 6, 2) := by decide +kernel
theorem dX8_mend_133 : decode cX8_mend 133 = .ok (.iinc 8 1, 3) := by decide +kernel
theorem dX8_mend_136 : decode cX8_mend 136 = .ok (.goto (-75), 3) := by decide +kernel
theorem dX8_mend_139 : decode cX8_mend 139 = .ok (.iinc 7 1, 3) := by decide +kernel
theorem dX8_mend_142 : decode cX8_mend 142 = .ok (.goto (-94), 3) := by decide +kernel
theorem dX8_mend_145 : decode cX8_mend 145 = .ok (.iload 4, 2) := by decide +kernel
theorem dX8_mend_147 : decode cX8_mend 147 = .ok (.ifCond .ne 8, 3) := by decide +kernel
theorem dX8_mend_150 : decode cX8_mend 150 = .ok (.iload 5, 2) := by decide +kernel
theorem dX8_mend_152 : decode cX8_mend 152 = .ok (.goto 5, 3) := by decide +kernel
theorem dX8_mend_155 : decode cX8_mend 155 = .ok (.iload 6, 2) := by decide +kernel
theorem dX8_mend_157 : decode cX8_mend 157 = .ok (.ireturn, 1) := by decide +kernel
theorem dX8_hand_0 : decode cX8_hand 0 = .ok (.aload_n 0, 1) := by decide +kernel
theorem dX8_hand_1 : decode cX8_hand 1 = .ok (.iconst 0, 1) := by decide +kernel
theorem dX8_hand_2 : decode cX8_hand 2 = .ok (.putfield 72, 3) := by decide +kernel
theorem dX8_hand_5 : decode cX8_hand 5 = .ok (.aload_n 0, 1) := by decide +kernel
theorem dX8_hand_6 : decode cX8_hand 6 = .ok (.iload_n 1, 1) := by decide +kernel
theorem dX8_hand_7 : decode cX8_hand 7 = .ok (.invokevirtual 254, 3) := by decide +kernel
theorem dX8_hand_10 : decode cX8_hand 10 = .ok (.ifCond .ne 6, 3) := by decide +kernel
theorem dX8_hand_13 : decode cX8_hand 13 = .ok (.ldc 220, 2) := by decide +kernel
theorem dX8_hand_15 : decode cX8_hand 15 = .ok (.ireturn, 1) := by decide +kernel
theorem dX8_hand_16 : decode cX8_hand 16 = .ok (.aload_n 0, 1) := by decide +kernel
theorem dX8_hand_17 : decode cX8_hand 17 = .ok (.getfield 133, 3) := by decide +kernel
theorem dX8_hand_20 : decode cX8_hand 20 = .ok (.ifCond .ne 6, 3) := by decide +kernel
theorem dX8_hand_23 : decode cX8_hand 23 = .ok (.ldc 233, 2) := by decide +kernel
theorem dX8_hand_25 : decode cX8_hand 25 = .ok (.ireturn, 1) := by decide +kernel
theorem dX8_hand_26 : decode cX8_hand 26 = .ok (.aload_n 0, 1) := by decide +kernel
theorem dX8_hand_27 : decode cX8_hand 27 = .ok (.iconst 0, 1) := by decide +kernel
theorem dX8_hand_28 : decode cX8_hand 28 = .ok (.iconst 0, 1) := by decide +kernel
theorem dX8_hand_29 : decode cX8_hand 29 = .ok (.invokevirtual 188, 3) := by decide +kernel
theorem dX8_hand_32 : decode cX8_hand 32 = .ok (.iconst 0, 1) := by decide +kernel
theorem dX8_hand_33 : decode cX8_hand 33 = .ok (.istore_n 2, 1) := by decide +kernel
theorem dX8_hand_34 : decode cX8_hand 34 = .ok (.iconst 0, 1) := by decide +kernel
theorem dX8_hand_35 : decode cX8_hand 35 = .ok (.istore_n 3, 1) := by decide +kernel
theorem dX8_hand_36 : decode cX8_hand 36 = .ok (.iload_n 3, 1) := by decide +kernel
theorem dX8_hand_37 : decode cX8_hand 37 = .ok (.sipush 600, 3) := by decide +kernel
theorem dX8_hand_40 : decode cX8_hand 40 = .ok (.if_icmp .ge 38, 3) := by decide +kernel
theorem dX8_hand_43 : decode cX8_hand 43 = .ok (.iload_n 2, 1) := by decide +kernel
theorem dX8_hand_44 : decode cX8_hand 44 = .ok (.aload_n 0, 1) := by decide +kernel
theorem dX8_hand_45 : decode cX8_hand 45 = .ok (.aload_n 0, 1) := by decide +kernel
theorem dX8_hand_46 : decode cX8_hand 46 = .ok (.getfield 19, 3) := by decide +kernel
theorem dX8_hand_49 : decode cX8_hand 49 = .ok (.bipush 45, 2) := by decide +kernel
theorem dX8_hand_51 : decode cX8_hand 51 = .ok (.iaload, 1) := by decide +kernel
theorem dX8_hand_52 : decode cX8_hand 52 = .ok (.iload_n 3, 1) := by decide +kernel
theorem dX8_hand_53 : decode cX8_hand 53 = .ok (.invokevirtual 191, 3) := by decide +kernel
theorem dX8_hand_56 : decode cX8_hand 56 = .ok (.iload_n 1, 1) := by decide +kernel
theorem dX8_hand_57 : decode cX8_hand 57 = .ok (.if_icmp .ne 12, 3) := by decide +kernel
theorem dX8_hand_60 : decode cX8_hand 60 = .ok (.iconst 1, 1) := by decide +kernel
theorem dX8_hand_61 : decode cX8_hand 61 = .ok (.iload_n 3, 1) := by decide +kernel
theorem dX8_hand_62 : decode cX8_hand 62 = .ok (.bipush 120, 2) := by decide +kernel
theorem dX8_hand_64 : decode cX8_hand 64 = .ok (.idiv, 1) := by decide +kernel
theorem dX8_hand_65 : decode cX8_hand 65 = .ok (.ishl, 1) := by decide +kernel
theorem dX8_hand_66 : decode cX8_hand 66 = .ok (.goto 4, 3) := by decide +kernel
theorem dX8_hand_69 : decode cX8_hand 69 = .ok (.iconst 0, 1) := by decide +kernel
theorem dX8_hand_70 : decode cX8_hand 70 = .ok (.ior, 1) := by decide +kernel
theorem dX8_hand_71 : decode cX8_hand 71 = .ok (.istore_n 2, 1) := by decide +kernel
theorem dX8_hand_72 : decode cX8_hand 72 = .ok (.iinc 3 1, 3) := by decide +kernel
theorem dX8_hand_75 : decode cX8_hand 75 = .ok (.goto (-39), 3) := by decide +kernel
theorem dX8_hand_78 : decode cX8_hand 78 = .ok (.iload_n 2, 1) := by decide +kernel
theorem dX8_hand_79 : decode cX8_hand 79 = .ok (.ireturn, 1) := by decide +kernel
theorem dX8_ask_0 : decode cX8_ask 0 = .ok (.aload_n 0, 1) := by decide +kernel
theorem dX8_ask_1 : decode cX8_ask 1 = .ok (.iconst 0, 1) := by decide +kernel
theorem dX8_ask_2 : decode cX8_ask 2 = .ok (.putfield 72, 3) := by decide +kernel
theorem dX8_ask_5 : decode cX8_ask 5 = .ok (.iload_n 1, 1) := by decide +kernel
theorem dX8_ask_6 : decode cX8_ask 6 = .ok (.iconst 0, 1) := by decide +kernel
theorem dX8_ask_7 : decode cX8_ask 7 = .ok (.iconst 4, 1) := by decide +kernel
theorem dX8_ask_8 : decode cX8_ask 8 = .ok (.invokestatic 75, 3) := by decide +kernel
theorem dX8_ask_11 : decode cX8_ask 11 = .ok (.ifCond .ne 6, 3) := by decide +kernel
theorem dX8_ask_14 : decode cX8_ask 14 = .ok (.ldc 79, 2) := by decide +kernel
theorem dX8_ask_16 : decode cX8_ask 16 = .ok (.ireturn, 1) := by decide +kernel
theorem dX8_ask_17 : decode cX8_ask 17 = .ok (.aload_n 0, 1) := by decide +kernel
theorem dX8_ask_18 : decode cX8_ask 18 = .ok (.getfield 133, 3) := by decide +kernel
theorem dX8_ask_21 : decode cX8_ask 21 = .ok (.ifCond .ne 6, 3) := by decide +kernel
theorem dX8_ask_24 : decode cX8_ask 24 = .ok (.ldc 233, 2) := by decide +kernel
theorem dX8_ask_26 : decode cX8_ask 26 = .ok (.ireturn, 1) := by decide +kernel
theorem dX8_ask_27 : decode cX8_ask 27 = .ok (.aload_n 0, 1) := by decide +kernel
theorem dX8_ask_28 : decode cX8_ask 28 = .ok (.iconst 0, 1) := by decide +kernel
theorem dX8_ask_29 : decode cX8_ask 29 = .ok (.iconst 0, 1) := by decide +kernel
theorem dX8_ask_30 : decode cX8_ask 30 = .ok (.invokevirtual 188, 3) := by decide +kernel
theorem dX8_ask_33 : decode cX8_ask 33 = .ok (.iconst (-1), 1) := by decide +kernel
theorem dX8_ask_34 : decode cX8_ask 34 = .ok (.istore_n 2, 1) := by decide +kernel
theorem dX8_ask_35 : decode cX8_ask 35 = .ok (.bipush 120, 2) := by decide +kernel
theorem dX8_ask_37 : decode cX8_ask 37 = .ok (.istore_n 3, 1) := by decide +kernel
theorem dX8_ask_38 : decode cX8_ask 38 = .ok (.iconst 0, 1) := by decide +kernel
theorem dX8_ask_39 : decode cX8_ask 39 = .ok (.istore 4, 2) := by decide +kernel
theorem dX8_ask_41 : decode cX8_ask 41 = .ok (.iload 4, 2) := by decide +kernel
theorem dX8_ask_43 : decode cX8_ask 43 = .ok (.aload_n 0, 1) := by decide +kernel
theorem dX8_ask_44 : decode cX8_ask 44 = .ok (.getfield 130, 3) := by decide +kernel
theorem dX8_ask_47 : decode cX8_ask 47 = .ok (.if_icmp .ge 112, 3) := by decide +kernel
theorem dX8_ask_50 : decode cX8_ask 50 = .ok (.iconst 0, 1) := by decide +kernel
theorem dX8_ask_51 : decode cX8_ask 51 = .ok (.istore 5, 2) := by decide +kernel
theorem dX8_ask_53 : decode cX8_ask 53 = .ok (.iconst 0, 1) := by decide +kernel
theorem dX8_ask_54 : decode cX8_ask 54 = .ok (.istore 6, 2) := by decide +kernel
theorem dX8_ask_56 : decode cX8_ask 56 = .ok (.iload 6, 2) := by decide +kernel
theorem dX8_ask_58 : decode cX8_ask 58 = .ok (.bipush 120, 2) := by decide +kernel
theorem dX8_ask_60 : decode cX8_ask 60 = .ok (.if_icmp .ge 45, 3) := by decide +kernel
theorem dX8_ask_63 : decode cX8_ask 63 = .ok (.iload 5, 2) := by decide +kernel
theorem dX8_ask_65 : decode cX8_ask 65 = .ok (.aload_n 0, 1) := by decide +kernel
theorem dX8_ask_66 : decode cX8_ask 66 = .ok (.aload_n 0, 1) := by decide +kernel
theorem dX8_ask_67 : decode cX8_ask 67 = .ok (.getfield 19, 3) := by decide +kernel
theorem dX8_ask_70 : decode cX8_ask 70 = .ok (.bipush 45, 2) := by decide +kernel
theorem dX8_ask_72 : decode cX8_ask 72 = .ok (.iaload, 1) := by decide +kernel
theorem dX8_ask_73 : decode cX8_ask 73 = .ok (.bipush 120, 2) := by decide +kernel
theorem dX8_ask_75 : decode cX8_ask 75 = .ok (.iload_n 1, 1) := by decide +kernel
theorem dX8_ask_76 : decode cX8_ask 76 = .ok (.imul, 1) := by decide +kernel
theorem dX8_ask_77 : decode cX8_ask 77 = .ok (.iload 6, 2) := by decide +kernel
theorem dX8_ask_79 : decode cX8_ask 79 = .ok (.iadd, 1) := by decide +kernel
theorem dX8_ask_80 : decode cX8_ask 80 = .ok (.invokevirtual 191, 3) := by decide +kernel
theorem dX8_ask_83 : decode cX8_ask 83 = .ok (.iload 4, 2) := by decide +kernel
theorem dX8_ask_85 : decode cX8_ask 85 = .ok (.invokestatic 170, 3) := by decide +kernel
theorem dX8_ask_88 : decode cX8_ask 88 = .ok (.ifCond .eq 7, 3) := by decide +kernel
theorem dX8_ask_91 : decode cX8_ask 91 = .ok (.iconst 1, 1) := by decide +kernel
theorem dX8_ask_92 : decode cX8_ask 92 = .ok (.goto 4, 3) := by decide +kernel
theorem dX8_ask_95 : decode cX8_ask 95 = .ok (.iconst 0, 1) := by decide +kernel
theorem dX8_ask_96 : decode cX8_ask 96 = .ok (.iadd, 1) := by decide +kernel
theorem dX8_ask_97 : decode cX8_ask 97 = .ok (.istore 5, 2) := by decide +kernel
theorem dX8_ask_99 : decode cX8_ask 99 = .ok (.iinc 6 1, 3) := by decide +kernel
theorem dX8_ask_102 : decode cX8_ask 102 = .ok (.goto (-46), 3) := by decide +kernel
theorem dX8_ask_105 : decode cX8_ask 105 = .ok (.iload 5, 2) := by decide +kernel
theorem dX8_ask_107 : decode cX8_ask 107 = .ok (.bipush 120, 2) := by decide +kernel
theorem dX8_ask_109 : decode cX8_ask 109 = .ok (.iload 5, 2) := by decide +kernel
theorem dX8_ask_111 : decode cX8_ask 111 = .ok (.isub, 1) := by decide +kernel
theorem dX8_ask_112 : decode cX8_ask 112 = .ok (.if_icmp .le 8, 3) := by decide +kernel
theorem dX8_ask_115 : decode cX8_ask 115 = .ok (.iload 5, 2) := by decide +kernel
theorem dX8_ask_117 : decode cX8_ask 117 = .ok (.goto 8, 3) := by decide +kernel
theorem dX8_ask_120 : decode cX8_ask 120 = .ok (.bipush 120, 2) := by decide +kernel
theorem dX8_ask_122 : decode cX8_ask 122 = .ok (.iload 5, 2) := by decide +kernel
theorem dX8_ask_124 : decode cX8_ask 124 = .ok (.isub, 1) := by decide +kernel
theorem dX8_ask_125 : decode cX8_ask 125 = .ok (.istore 6, 2) := by decide +kernel
theorem dX8_ask_127 : decode cX8_ask 127 = .ok (.iload 6, 2) := by decide +kernel
theorem dX8_ask_129 : decode cX8_ask 129 = .ok (.iload_n 3, 1) := by decide +kernel
theorem dX8_ask_130 : decode cX8_ask 130 = .ok (.if_icmp .ge 8, 3) := by decide +kernel
theorem dX8_ask_133 : decode cX8_ask 133 = .ok (.iload 4, 2) := by decide +kernel
theorem dX8_ask_135 : decode cX8_ask 135 = .ok (.goto 4, 3) := by decide +kernel
theorem dX8_ask_138 : decode cX8_ask 138 = .ok (.iload_n 2, 1) := by decide +kernel
theorem dX8_ask_139 : decode cX8_ask 139 = .ok (.istore_n 2, 1) := by decide +kernel
theorem dX8_ask_140 : decode cX8_ask 140 = .ok (.iload 6, 2) := by decide +kernel
theorem dX8_ask_142 : decode cX8_ask 142 = .ok (.iload_n 3, 1) := by decide +kernel
theorem dX8_ask_143 : decode cX8_ask 143 = .ok (.if_icmp .ge 8, 3) := by decide +kernel
theorem dX8_ask_146 : decode cX8_ask 146 = .ok (.iload 6, 2) := by decide +kernel
theorem dX8_ask_148 : decode cX8_ask 148 = .ok (.goto 4, 3) := by decide +kernel
theorem dX8_ask_151 : decode cX8_ask 151 = .ok (.iload_n 3, 1) := by decide +kernel
theorem dX8_ask_152 : decode cX8_ask 152 = .ok (.istore_n 3, 1) := by decide +kernel
theorem dX8_ask_153 : decode cX8_ask 153 = .ok (.iinc 4 1, 3) := by decide +kernel
theorem dX8_ask_156 : decode cX8_ask 156 = .ok (.goto (-115), 3) := by decide +kernel
theorem dX8_ask_159 : decode cX8_ask 159 = .ok (.iload_n 2, 1) := by decide +kernel
theorem dX8_ask_160 : decode cX8_ask 160 = .ok (.ireturn, 1) := by decide +kernel
theorem dX8_calm_0 : decode cX8_calm 0 = .ok (.aload_n 0, 1) := by decide +kernel
theorem dX8_calm_1 : decode cX8_calm 1 = .ok (.iconst 0, 1) := by decide +kernel
theorem dX8_calm_2 : decode cX8_calm 2 = .ok (.putfield 72, 3) := by decide +kernel
theorem dX8_calm_5 : decode cX8_calm 5 = .ok (.iload_n 1, 1) := by decide +kernel
theorem dX8_calm_6 : decode cX8_calm 6 = .ok (.iconst 0, 1) := by decide +kernel
theorem dX8_calm_7 : decode cX8_calm 7 = .ok (.bipush 60, 2) := by decide +kernel
theorem dX8_calm_9 : decode cX8_calm 9 = .ok (.invokestatic 75, 3) := by decide +kernel
theorem dX8_calm_12 : decode cX8_calm 12 = .ok (.ifCond .eq 13, 3) := by decide +kernel
theorem dX8_calm_15 : decode cX8_calm 15 = .ok (.iload_n 2, 1) := by decide +kernel
theorem dX8_calm_16 : decode cX8_calm 16 = .ok (.iconst 0, 1) := by decide +kernel
theorem dX8_calm_17 : decode cX8_calm 17 = .ok (.bipush 100, 2) := by decide +kernel
theorem dX8_calm_19 : decode cX8_calm 19 = .ok (.invokestatic 75, 3) := by decide +kernel
theorem dX8_calm_22 : decode cX8_calm 22 = .ok (.ifCond .ne 6, 3) := by decide +kernel
theorem dX8_calm_25 : decode cX8_calm 25 = .ok (.ldc 79, 2) := by decide +kernel
theorem dX8_calm_27 : decode cX8_calm 27 = .ok (.ireturn, 1) := by decide +kernel
theorem dX8_calm_28 : decode cX8_calm 28 = .ok (.ldc2_w 257, 3) := by decide +kernel
theorem dX8_calm_31 : decode cX8_calm 31 = .ok (.lstore_n 3, 1) := by decide +kernel
theorem dX8_calm_32 : decode cX8_calm 32 = .ok (.iconst 0, 1) := by decide +kernel
theorem dX8_calm_33 : decode cX8_calm 33 = .ok (.istore 5, 2) := by decide +kernel
theorem dX8_calm_35 : decode cX8_calm 35 = .ok (.iload 5, 2) := by decide +kernel
theorem dX8_calm_37 : decode cX8_calm 37 = .ok (.iload_n 1, 1) := by decide +kernel
theorem dX8_calm_38 : decode cX8_calm 38 = .ok (.if_icmp .ge 18, 3) := by decide +kernel
theorem dX8_calm_41 : decode cX8_calm 41 = .ok (.lload_n 3, 1) := by decide +kernel
theorem dX8_calm_42 : decode cX8_calm 42 = .ok (.iload_n 2, 1) := by decide +kernel
theorem dX8_calm_43 : decode cX8_calm 43 = .ok (.i2l, 1) := by decide +kernel
theorem dX8_calm_44 : decode cX8_calm 44 = .ok (.lmul, 1) := by decide +kernel
theorem dX8_calm_45 : decode cX8_calm 45 = .ok (.ldc2_w 259, 3) := by decide +kernel
theorem dX8_calm_48 : decode cX8_calm 48 = .ok (.ldiv, 1) := by decide +kernel
theorem dX8_calm_49 : decode cX8_calm 49 = .ok (.lstore_n 3, 1) := by decide +kernel
theorem dX8_calm_50 : decode cX8_calm 50 = .ok (.iinc 5 1, 3) := by decide +kernel
theorem dX8_calm_53 : decode cX8_calm 53 = .ok (.goto (-18), 3) := by decide +kernel
theorem dX8_calm_56 : decode cX8_calm 56 = .ok (.lload_n 3, 1) := by decide +kernel
theorem dX8_calm_57 : decode cX8_calm 57 = .ok (.l2i, 1) := by decide +kernel
theorem dX8_calm_58 : decode cX8_calm 58 = .ok (.ireturn, 1) := by decide +kernel
theorem dX8_write_0 : decode cX8_write 0 = .ok (.aload_n 0, 1) := by decide +kernel
theorem dX8_write_1 : decode cX8_write 1 = .ok (.iconst 0, 1) := by decide +kernel
theorem dX8_write_2 : decode cX8_write 2 = .ok (.putfield 72, 3) := by decide +kernel
theorem dX8_write_5 : decode cX8_write 5 = .ok (.aload_n 0, 1) := by decide +kernel
theorem dX8_write_6 : decode cX8_write 6 = .ok (.iload_n 1, 1) := by decide +kernel
theorem dX8_write_7 : decode cX8_write 7 = .ok (.invokevirtual 216, 3) := by decide +kernel
theorem dX8_write_10 : decode cX8_write 10 = .ok (.ifCond .ne 6, 3) := by decide +kernel
theorem dX8_write_13 : decode cX8_write 13 = .ok (.ldc 220, 2) := by decide +kernel
theorem dX8_write_15 : decode cX8_write 15 = .ok (.ireturn, 1) := by decide +kernel
theorem dX8_write_16 : decode cX8_write 16 = .ok (.aload_n 0, 1) := by decide +kernel
theorem dX8_write_17 : decode cX8_write 17 = .ok (.getfield 140, 3) := by decide +kernel
theorem dX8_write_20 : decode cX8_write 20 = .ok (.bipush 15, 2) := by decide +kernel
theorem dX8_write_22 : decode cX8_write 22 = .ok (.if_icmp .ne 6, 3) := by decide +kernel
theorem dX8_write_25 : decode cX8_write 25 = .ok (.ldc 83, 2) := by decide +kernel
theorem dX8_write_27 : decode cX8_write 27 = .ok (.ireturn, 1) := by decide +kernel
theorem dX8_write_28 : decode cX8_write 28 = .ok (.aload_n 0, 1) := by decide +kernel
theorem dX8_write_29 : decode cX8_write 29 = .ok (.getfield 32, 3) := by decide +kernel
theorem dX8_write_32 : decode cX8_write 32 = .ok (.aload_n 0, 1) := by decide +kernel
theorem dX8_write_33 : decode cX8_write 33 = .ok (.getfield 140, 3) := by decide +kernel
theorem dX8_write_36 : decode cX8_write 36 = .ok (.iload_n 1, 1) := by decide +kernel
theorem dX8_write_37 : decode cX8_write 37 = .ok (.iastore, 1) := by decide +kernel
theorem dX8_write_38 : decode cX8_write 38 = .ok (.aload_n 0, 1) := by decide +kernel
theorem dX8_write_39 : decode cX8_write 39 = .ok (.getfield 35, 3) := by decide +kernel
theorem dX8_write_42 : decode cX8_write 42 = .ok (.aload_n 0, 1) := by decide +kernel
theorem dX8_write_43 : decode cX8_write 43 = .ok (.getfield 140, 3) := by decide +kernel
theorem dX8_write_46 : decode cX8_write 46 = .ok (.iload_n 2, 1) := by decide +kernel
theorem dX8_write_47 : decode cX8_write 47 = .ok (.bastore, 1) := by decide +kernel
theorem dX8_write_48 : decode cX8_write 48 = .ok (.aload_n 0, 1) := by decide +kernel
theorem dX8_write_49 : decode cX8_write 49 = .ok (.dup, 1) := by decide +kernel
theorem dX8_write_50 : decode cX8_write 50 = .ok (.getfield 140, 3) := by decide +kernel
theorem dX8_write_53 : decode cX8_write 53 = .ok (.iconst 1, 1) := by decide +kernel
theorem dX8_write_54 : decode cX8_write 54 = .ok (.iadd, 1) := by decide +kernel
theorem dX8_write_55 : decode cX8_write 55 = .ok (.putfield 140, 3) := by decide +kernel
theorem dX8_write_58 : decode cX8_write 58 = .ok (.aload_n 0, 1) := by decide +kernel
theorem dX8_write_59 : decode cX8_write 59 = .ok (.getfield 140, 3) := by decide +kernel
theorem dX8_write_62 : decode cX8_write 62 = .ok (.ireturn, 1) := by decide +kernel
theorem dX8_tear_0 : decode cX8_tear 0 = .ok (.aload_n 0, 1) := by decide +kernel
theorem dX8_tear_1 : decode cX8_tear 1 = .ok (.iconst 0, 1) := by decide +kernel
theorem dX8_tear_2 : decode cX8_tear 2 = .ok (.putfield 72, 3) := by decide +kernel
theorem dX8_tear_5 : decode cX8_tear 5 = .ok (.aload_n 0, 1) := by decide +kernel
theorem dX8_tear_6 : decode cX8_tear 6 = .ok (.getfield 140, 3) := by decide +kernel
theorem dX8_tear_9 : decode cX8_tear 9 = .ok (.istore_n 1, 1) := by decide +kernel
theorem dX8_tear_10 : decode cX8_tear 10 = .ok (.aload_n 0, 1) := by decide +kernel
theorem dX8_tear_11 : decode cX8_tear 11 = .ok (.iconst 0, 1) := by decide +kernel
theorem dX8_tear_12 : decode cX8_tear 12 = .ok (.putfield 140, 3) := by decide +kernel
theorem dX8_tear_15 : decode cX8_tear 15 = .ok (.iload_n 1, 1) := by decide +kernel
theorem dX8_tear_16 : decode cX8_tear 16 = .ok (.ireturn, 1) := by decide +kernel
theorem dX8_judge_0 : decode cX8_judge 0 = .ok (.aload_n 0, 1) := by decide +kernel
theorem dX8_judge_1 : decode cX8_judge 1 = .ok (.iconst 0, 1) := by decide +kernel
theorem dX8_judge_2 : decode cX8_judge 2 = .ok (.putfield 72, 3) := by decide +kernel
theorem dX8_judge_5 : decode cX8_judge 5 = .ok (.iconst 0, 1) := by decide +kernel
theorem dX8_judge_6 : decode cX8_judge 6 = .ok (.istore_n 1, 1) := by decide +kernel
theorem dX8_judge_7 : decode cX8_judge 7 = .ok (.iload_n 1, 1) := by decide +kernel
theorem dX8_judge_8 : decode cX8_judge 8 = .ok (.aload_n 0, 1) := by decide +kernel
theorem dX8_judge_9 : decode cX8_judge 9 = .ok (.getfield 140, 3) := by decide +kernel
theorem dX8_judge_12 : decode cX8_judge 12 = .ok (.if_icmp .ge 36, 3) := by decide +kernel
theorem dX8_judge_15 : decode cX8_judge 15 = .ok (.aload_n 0, 1) := by decide +kernel
theorem dX8_judge_16 : decode cX8_judge 16 = .ok (.getfield 19, 3) := by decide +kernel
theorem dX8_judge_19 : decode cX8_judge 19 = .ok (.bipush 45, 2) := by decide +kernel
theorem dX8_judge_21 : decode cX8_judge 21 = .ok (.iaload, 1) := by decide +kernel
theorem dX8_judge_22 : decode cX8_judge 22 = .ok (.aload_n 0, 1) := by decide +kernel
theorem dX8_judge_23 : decode cX8_judge 23 = .ok (.getfield 32, 3) := by decide +kernel
theorem dX8_judge_26 : decode cX8_judge 26 = .ok (.iload_n 1, 1) := by decide +kernel
theorem dX8_judge_27 : decode cX8_judge 27 = .ok (.iaload, 1) := by decide +kernel
theorem dX8_judge_28 : decode cX8_judge 28 = .ok (.invokestatic 170, 3) := by decide +kernel
theorem dX8_judge_31 : decode cX8_judge 31 = .ok (.aload_n 0, 1) := by decide +kernel
theorem dX8_judge_32 : decode cX8_judge 32 = .ok (.getfield 35, 3) := by decide +kernel
theorem dX8_judge_35 : decode cX8_judge 35 = .ok (.iload_n 1, 1) := by decide +kernel
theorem dX8_judge_36 : decode cX8_judge 36 = .ok (.baload, 1) := by decide +kernel
theorem dX8_judge_37 : decode cX8_judge 37 = .ok (.if_icmp .eq 5, 3) := by decide +kernel
theorem dX8_judge_40 : decode cX8_judge 40 = .ok (.iload_n 1, 1) := by decide +kernel
theorem dX8_judge_41 : decode cX8_judge 41 = .ok (.ireturn, 1) := by decide +kernel
theorem dX8_judge_42 : decode cX8_judge 42 = .ok (.iinc 1 1, 3) := by decide +kernel
theorem dX8_judge_45 : decode cX8_judge 45 = .ok (.goto (-38), 3) := by decide +kernel
theorem dX8_judge_48 : decode cX8_judge 48 = .ok (.iconst (-1), 1) := by decide +kernel
theorem dX8_judge_49 : decode cX8_judge 49 = .ok (.ireturn, 1) := by decide +kernel
theorem dX8_seed_0 : decode cX8_seed 0 = .ok (.aload_n 0, 1) := by decide +kernel
theorem dX8_seed_1 : decode cX8_seed 1 = .ok (.iconst 0, 1) := by decide +kernel
theorem dX8_seed_2 : decode cX8_seed 2 = .ok (.putfield 72, 3) := by decide +kernel
theorem dX8_seed_5 : decode cX8_seed 5 = .ok (.iload_n 1, 1) := by decide +kernel
theorem dX8_seed_6 : decode cX8_seed 6 = .ok (.ifCond .ge 6, 3) := by decide +kernel
theorem dX8_seed_9 : decode cX8_seed 9 = .ok (.ldc 79, 2) := by decide +kernel
theorem dX8_seed_11 : decode cX8_seed 11 = .ok (.ireturn, 1) := by decide +kernel
theorem dX8_seed_12 : decode cX8_seed 12 = .ok (.aload_n 0, 1) := by decide +kernel
theorem dX8_seed_13 : decode cX8_seed 13 = .ok (.getfield 19, 3) := by decide +kernel
theorem dX8_seed_16 : decode cX8_seed 16 = .ok (.bipush 48, 2) := by decide +kernel
theorem dX8_seed_18 : decode cX8_seed 18 = .ok (.iaload, 1) := by decide +kernel
theorem dX8_seed_19 : decode cX8_seed 19 = .ok (.istore_n 2, 1) := by decide +kernel
theorem dX8_seed_20 : decode cX8_seed 20 = .ok (.aload_n 0, 1) := by decide +kernel
theorem dX8_seed_21 : decode cX8_seed 21 = .ok (.getfield 19, 3) := by decide +kernel
theorem dX8_seed_24 : decode cX8_seed 24 = .ok (.bipush 48, 2) := by decide +kernel
theorem dX8_seed_26 : decode cX8_seed 26 = .ok (.iload_n 1, 1) := by decide +kernel
theorem dX8_seed_27 : decode cX8_seed 27 = .ok (.iastore, 1) := by decide +kernel
theorem dX8_seed_28 : decode cX8_seed 28 = .ok (.iload_n 2, 1) := by decide +kernel
theorem dX8_seed_29 : decode cX8_seed 29 = .ok (.ireturn, 1) := by decide +kernel
theorem dX8_keep_0 : decode cX8_keep 0 = .ok (.aload_n 0, 1) := by decide +kernel
theorem dX8_keep_1 : decode cX8_keep 1 = .ok (.iconst 0, 1) := by decide +kernel
theorem dX8_keep_2 : decode cX8_keep 2 = .ok (.putfield 72, 3) := by decide +kernel
theorem dX8_keep_5 : decode cX8_keep 5 = .ok (.iload_n 1, 1) := by decide +kernel
theorem dX8_keep_6 : decode cX8_keep 6 = .ok (.iconst 0, 1) := by decide +kernel
theorem dX8_keep_7 : decode cX8_keep 7 = .ok (.iconst 1, 1) := by decide +kernel
theorem dX8_keep_8 : decode cX8_keep 8 = .ok (.invokestatic 75, 3) := by decide +kernel
theorem dX8_keep_11 : decode cX8_keep 11 = .ok (.ifCond .ne 6, 3) := by decide +kernel
theorem dX8_keep_14 : decode cX8_keep 14 = .ok (.ldc 220, 2) := by decide +kernel
theorem dX8_keep_16 : decode cX8_keep 16 = .ok (.ireturn, 1) := by decide +kernel
theorem dX8_keep_17 : decode cX8_keep 17 = .ok (.iconst 0, 1) := by decide +kernel
theorem dX8_keep_18 : decode cX8_keep 18 = .ok (.istore_n 2, 1) := by decide +kernel
theorem dX8_keep_19 : decode cX8_keep 19 = .ok (.iload_n 2, 1) := by decide +kernel
theorem dX8_keep_20 : decode cX8_keep 20 = .ok (.bipush 49, 2) := by decide +kernel
theorem dX8_keep_22 : decode cX8_keep 22 = .ok (.if_icmp .ge 26, 3) := by decide +kernel
theorem dX8_keep_25 : decode cX8_keep 25 = .ok (.aload_n 0, 1) := by decide +kernel
theorem dX8_keep_26 : decode cX8_keep 26 = .ok (.getfield 22, 3) := by decide +kernel
theorem dX8_keep_29 : decode cX8_keep 29 = .ok (.bipush 49, 2) := by decide +kernel
theorem dX8_keep_31 : decode cX8_keep 31 = .ok (.iload_n 1, 1) := by decide +kernel
theorem dX8_keep_32 : decode cX8_keep 32 = .ok (.imul, 1) := by decide +kernel
theorem dX8_keep_33 : decode cX8_keep 33 = .ok (.iload_n 2, 1) := by decide +kernel
theorem dX8_keep_34 : decode cX8_keep 34 = .ok (.iadd, 1) := by decide +kernel
theorem dX8_keep_35 : decode cX8_keep 35 = .ok (.aload_n 0, 1) := by decide +kernel
theorem dX8_keep_36 : decode cX8_keep 36 = .ok (.getfield 19, 3) := by decide +kernel
theorem dX8_keep_39 : decode cX8_keep 39 = .ok (.iload_n 2, 1) := by decide +kernel
theorem dX8_keep_40 : decode cX8_keep 40 = .ok (.iaload, 1) := by decide +kernel
theorem dX8_keep_41 : decode cX8_keep 41 = .ok (.iastore, 1) := by decide +kernel
theorem dX8_keep_42 : decode cX8_keep 42 = .ok (.iinc 2 1, 3) := by decide +kernel
theorem dX8_keep_45 : decode cX8_keep 45 = .ok (.goto (-26), 3) := by decide +kernel
theorem dX8_keep_48 : decode cX8_keep 48 = .ok (.aload_n 0, 1) := by decide +kernel
theorem dX8_keep_49 : decode cX8_keep 49 = .ok (.getfield 25, 3) := by decide +kernel
theorem dX8_keep_52 : decode cX8_keep 52 = .ok (.iload_n 1, 1) := by decide +kernel
theorem dX8_keep_53 : decode cX8_keep 53 = .ok (.iconst 1, 1) := by decide +kernel
theorem dX8_keep_54 : decode cX8_keep 54 = .ok (.bastore, 1) := by decide +kernel
theorem dX8_keep_55 : decode cX8_keep 55 = .ok (.aload_n 0, 1) := by decide +kernel
theorem dX8_keep_56 : decode cX8_keep 56 = .ok (.iconst 0, 1) := by decide +kernel
theorem dX8_keep_57 : decode cX8_keep 57 = .ok (.putfield 143, 3) := by decide +kernel
theorem dX8_keep_60 : decode cX8_keep 60 = .ok (.iconst 1, 1) := by decide +kernel
theorem dX8_keep_61 : decode cX8_keep 61 = .ok (.ireturn, 1) := by decide +kernel
theorem dX8_goBack_0 : decode cX8_goBack 0 = .ok (.aload_n 0, 1) := by decide +kernel
theorem dX8_goBack_1 : decode cX8_goBack 1 = .ok (.iconst 0, 1) := by decide +kernel
theorem dX8_goBack_2 : decode cX8_goBack 2 = .ok (.putfield 72, 3) := by decide +kernel
theorem dX8_goBack_5 : decode cX8_goBack 5 = .ok (.iload_n 1, 1) := by decide +kernel
theorem dX8_goBack_6 : decode cX8_goBack 6 = .ok (.iconst 0, 1) := by decide +kernel
theorem dX8_goBack_7 : decode cX8_goBack 7 = .ok (.iconst 1, 1) := by decide +kernel
theorem dX8_goBack_8 : decode cX8_goBack 8 = .ok (.invokestatic 75, 3) := by decide +kernel
theorem dX8_goBack_11 : decode cX8_goBack 11 = .ok (.ifCond .ne 6, 3) := by decide +kernel
theorem dX8_goBack_14 : decode cX8_goBack 14 = .ok (.ldc 220, 2) := by decide +kernel
theorem dX8_goBack_16 : decode cX8_goBack 16 = .ok (.ireturn, 1) := by decide +kernel
theorem dX8_goBack_17 : decode cX8_goBack 17 = .ok (.aload_n 0, 1) := by decide +kernel
theorem dX8_goBack_18 : decode cX8_goBack 18 = .ok (.getfield 25, 3) := by decide +kernel
theorem dX8_goBack_21 : decode cX8_goBack 21 = .ok (.iload_n 1, 1) := by decide +kernel
theorem dX8_goBack_22 : decode cX8_goBack 22 = .ok (.baload, 1) := by decide +kernel
theorem dX8_goBack_23 : decode cX8_goBack 23 = .ok (.ifCond .ne 6, 3) := by decide +kernel
theorem dX8_goBack_26 : decode cX8_goBack 26 = .ok (.ldc 233, 2) := by decide +kernel
theorem dX8_goBack_28 : decode cX8_goBack 28 = .ok (.ireturn, 1) := by decide +kernel
theorem dX8_goBack_29 : decode cX8_goBack 29 = .ok (.iconst 0, 1) := by decide +kernel
theorem dX8_goBack_30 : decode cX8_goBack 30 = .ok (.istore_n 2, 1) := by decide +kernel
theorem dX8_goBack_31 : decode cX8_goBack 31 = .ok (.iload_n 2, 1) := by decide +kernel
theorem dX8_goBack_32 : decode cX8_goBack 32 = .ok (.bipush 49, 2) := by decide +kernel
theorem dX8_goBack_34 : decode cX8_goBack 34 = .ok (.if_icmp .ge 26, 3) := by decide +kernel
theorem dX8_goBack_37 : decode cX8_goBack 37 = .ok (.aload_n 0, 1) := by decide +kernel
theorem dX8_goBack_38 : decode cX8_goBack 38 = .ok (.getfield 19, 3) := by decide +kernel
theorem dX8_goBack_41 : decode cX8_goBack 41 = .ok (.iload_n 2, 1) := by decide +kernel
theorem dX8_goBack_42 : decode cX8_goBack 42 = .ok (.aload_n 0, 1) := by decide +kernel
theorem dX8_goBack_43 : decode cX8_goBack 43 = .ok (.getfield 22, 3) := by decide +kernel
theorem dX8_goBack_46 : decode cX8_goBack 46 = .ok (.bipush 49, 2) := by decide +kernel
theorem dX8_goBack_48 : decode cX8_goBack 48 = .ok (.iload_n 1, 1) := by decide +kernel
theorem dX8_goBack_49 : decode cX8_goBack 49 = .ok (.imul, 1) := by decide +kernel
theorem dX8_goBack_50 : decode cX8_goBack 50 = .ok (.iload_n 2, 1) := by decide +kernel
theorem dX8_goBack_51 : decode cX8_goBack 51 = .ok (.iadd, 1) := by decide +kernel
theorem dX8_goBack_52 : decode cX8_goBack 52 = .ok (.iaload, 1) := by decide +kernel
theorem dX8_goBack_53 : decode cX8_goBack 53 = .ok (.iastore, 1) := by decide +kernel
theorem dX8_goBack_54 : decode cX8_goBack 54 = .ok (.iinc 2 1, 3) := by decide +kernel
theorem dX8_goBack_57 : decode cX8_goBack 57 = .ok (.goto (-26), 3) := by decide +kernel
theorem dX8_goBack_60 : decode cX8_goBack 60 = .ok (.aload_n 0, 1) := by decide +kernel
theorem dX8_goBack_61 : decode cX8_goBack 61 = .ok (.iconst 0, 1) := by decide +kernel
theorem dX8_goBack_62 : decode cX8_goBack 62 = .ok (.putfield 143, 3) := by decide +kernel
theorem dX8_goBack_65 : decode cX8_goBack 65 = .ok (.iconst 1, 1) := by decide +kernel
theorem dX8_goBack_66 : decode cX8_goBack 66 = .ok (.ireturn, 1) := by decide +kernel
end
section
theorem dX0_init_0 : decode cX0_init 0 = .ok (.aload_n 0, 1) := by decide +kernel
theorem dX0_init_1 : decode cX0_init 1 = .ok (.invokespecial 3, 3) := by decide +kernel
theorem dX0_init_4 : decode cX0_init 4 = .ok (.aload_n 0, 1) := by decide +kernel
theorem dX0_init_5 : decode cX0_init 5 = .ok (.sipush 512, 3) := by decide +kernel
theorem dX0_init_8 : decode cX0_init 8 = .ok (.newarray .int, 2) := by decide +kernel
theorem dX0_init_10 : decode cX0_init 10 = .ok (.putfield 9, 3) := by decide +kernel
theorem dX0_init_13 : decode cX0_init 13 = .ok (.aload_n 0, 1) := by decide +kernel
theorem dX0_init_14 : decode cX0_init 14 = .ok (.sipush 512, 3) := by decide +kernel
theorem dX0_init_17 : decode cX0_init 17 = .ok (.newarray .int, 2) := by decide +kernel
theorem dX0_init_19 : decode cX0_init 19 = .ok (.putfield 15, 3) := by decide +kernel
theorem dX0_init_22 : decode cX0_init 22 = .ok (.aload_n 0, 1) := by decide +kernel
theorem dX0_init_23 : decode cX0_init 23 = .ok (.sipush 512, 3) := by decide +kernel
theorem dX0_init_26 : decode cX0_init 26 = .ok (.newarray .int, 2) := by decide +kernel
theorem dX0_init_28 : decode cX0_init 28 = .ok (.putfield 18, 3) := by decide +kernel
theorem dX0_init_31 : decode cX0_init 31 = .ok (.return_, 1) := by decide +kernel
theorem dX0_run_0 : decode cX0_run 0 = .ok (.aload_n 0, 1) := by decide +kernel
theorem dX0_run_1 : decode cX0_run 1 = .ok (.getfield 21, 3) := by decide +kernel
theorem dX0_run_4 : decode cX0_run 4 = .ok (.ifCond .eq 4, 3) := by decide +kernel
theorem dX0_run_7 : decode cX0_run 7 = .ok (.return_, 1) := by decide +kernel
theorem dX0_run_8 : decode cX0_run 8 = .ok (.aload_n 1, 1) := by decide +kernel
theorem dX0_run_9 : decode cX0_run 9 = .ok (.aload_n 2, 1) := by decide +kernel
theorem dX0_run_10 : decode cX0_run 10 = .ok (.invokevirtual 25, 3) := by decide +kernel
theorem dX0_run_13 : decode cX0_run 13 = .ok (.aload_n 0, 1) := by decide +kernel
theorem dX0_run_14 : decode cX0_run 14 = .ok (.getfield 15, 3) := by decide +kernel
theorem dX0_run_17 : decode cX0_run 17 = .ok (.iconst (-1), 1) := by decide +kernel
theorem dX0_run_18 : decode cX0_run 18 = .ok (.invokestatic 31, 3) := by decide +kernel
theorem dX0_run_21 : decode cX0_run 21 = .ok (.aload_n 0, 1) := by decide +kernel
theorem dX0_run_22 : decode cX0_run 22 = .ok (.iconst 0, 1) := by decide +kernel
theorem dX0_run_23 : decode cX0_run 23 = .ok (.putfield 37, 3) := by decide +kernel
theorem dX0_run_26 : decode cX0_run 26 = .ok (.aload_n 0, 1) := by decide +kernel
theorem dX0_run_27 : decode cX0_run 27 = .ok (.aload_n 2, 1) := by decide +kernel
theorem dX0_run_28 : decode cX0_run 28 = .ok (.getfield 41, 3) := by decide +kernel
theorem dX0_run_31 : decode cX0_run 31 = .ok (.iconst 0, 1) := by decide +kernel
theorem dX0_run_32 : decode cX0_run 32 = .ok (.iconst (-1), 1) := by decide +kernel
theorem dX0_run_33 : decode cX0_run 33 = .ok (.invokevirtual 46, 3) := by decide +kernel
theorem dX0_run_36 : decode cX0_run 36 = .ok (.iconst 0, 1) := by decide +kernel
theorem dX0_run_37 : decode cX0_run 37 = .ok (.istore_n 3, 1) := by decide +kernel
theorem dX0_run_38 : decode cX0_run 38 = .ok (.iload_n 3, 1) := by decide +kernel
theorem dX0_run_39 : decode cX0_run 39 = .ok (.aload_n 0, 1) := by decide +kernel
theorem dX0_run_40 : decode cX0_run 40 = .ok (.getfield 37, 3) := by decide +kernel
theorem dX0_run_43 : decode cX0_run 43 = .ok (.if_icmp .ge 37, 3) := by decide +kernel
theorem dX0_run_46 : decode cX0_run 46 = .ok (.iload_n 3, 1) := by decide +kernel
theorem dX0_run_47 : decode cX0_run 47 = .ok (.sipush 512, 3) := by decide +kernel
theorem dX0_run_50 : decode cX0_run 50 = .ok (.if_icmp .ge 30, 3) := by decide +kernel
theorem dX0_run_53 : decode cX0_run 53 = .ok (.aload_n 0, 1) := by decide +kernel
theorem dX0_run_54 : decode cX0_run 54 = .ok (.getfield 15, 3) := by decide +kernel
theorem dX0_run_57 : decode cX0_run 57 = .ok (.iconst 0, 1) := by decide +kernel
theorem dX0_run_58 : decode cX0_run 58 = .ok (.iaload, 1) := by decide +kernel
theorem dX0_run_59 : decode cX0_run 59 = .ok (.iconst (-1), 1) := by decide +kernel
theorem dX0_run_60 : decode cX0_run 60 = .ok (.if_icmp .ne 20, 3) := by decide +kernel
theorem dX0_run_63 : decode cX0_run 63 = .ok (.aload_n 0, 1) := by decide +kernel
theorem dX0_run_64 : decode cX0_run 64 = .ok (.aload_n 1, 1) := by decide +kernel
theorem dX0_run_65 : decode cX0_run 65 = .ok (.aload_n 0, 1) := by decide +kernel
theorem dX0_run_66 : decode cX0_run 66 = .ok (.getfield 9, 3) := by decide +kernel
theorem dX0_run_69 : decode cX0_run 69 = .ok (.iload_n 3, 1) := by decide +kernel
theorem dX0_run_70 : decode cX0_run 70 = .ok (.iaload, 1) := by decide +kernel
theorem dX0_run_71 : decode cX0_run 71 = .ok (.invokevirtual 50, 3) := by decide +kernel
theorem dX0_run_74 : decode cX0_run 74 = .ok (.iinc 3 1, 3) := by decide +kernel
theorem dX0_run_77 : decode cX0_run 77 = .ok (.goto (-39), 3) := by decide +kernel
theorem dX0_run_80 : decode cX0_run 80 = .ok (.aload_n 0, 1) := by decide +kernel
theorem dX0_run_81 : decode cX0_run 81 = .ok (.aload_n 0, 1) := by decide +kernel
theorem dX0_run_82 : decode cX0_run 82 = .ok (.getfield 15, 3) := by decide +kernel
theorem dX0_run_85 : decode cX0_run 85 = .ok (.iconst 0, 1) := by decide +kernel
theorem dX0_run_86 : decode cX0_run 86 = .ok (.iaload, 1) := by decide +kernel
theorem dX0_run_87 : decode cX0_run 87 = .ok (.putfield 54, 3) := by decide +kernel
theorem dX0_run_90 : decode cX0_run 90 = .ok (.aload_n 0, 1) := by decide +kernel
theorem dX0_run_91 : decode cX0_run 91 = .ok (.aload_n 0, 1) := by decide +kernel
theorem dX0_run_92 : decode cX0_run 92 = .ok (.getfield 54, 3) := by decide +kernel
theorem dX0_run_95 : decode cX0_run 95 = .ok (.iconst (-1), 1) := by decide +kernel
theorem dX0_run_96 : decode cX0_run 96 = .ok (.if_icmp .ne 7, 3) := by decide +kernel
theorem dX0_run_99 : decode cX0_run 99 = .ok (.iconst (-1), 1) := by decide +kernel
theorem dX0_run_100 : decode cX0_run 100 = .ok (.goto 9, 3) := by decide +kernel
theorem dX0_run_103 : decode cX0_run 103 = .ok (.aload_n 0, 1) := by decide +kernel
theorem dX0_run_104 : decode cX0_run 104 = .ok (.getfield 18, 3) := by decide +kernel
theorem dX0_run_107 : decode cX0_run 107 = .ok (.iconst 0, 1) := by decide +kernel
theorem dX0_run_108 : decode cX0_run 108 = .ok (.iaload, 1) := by decide +kernel
theorem dX0_run_109 : decode cX0_run 109 = .ok (.putfield 57, 3) := by decide +kernel
theorem dX0_run_112 : decode cX0_run 112 = .ok (.aload_n 0, 1) := by decide +kernel
theorem dX0_run_113 : decode cX0_run 113 = .ok (.iconst 1, 1) := by decide +kernel
theorem dX0_run_114 : decode cX0_run 114 = .ok (.putfield 21, 3) := by decide +kernel
theorem dX0_run_117 : decode cX0_run 117 = .ok (.return_, 1) := by decide +kernel
theorem dX0_goOn_0 : decode cX0_goOn 0 = .ok (.iload_n 2, 1) := by decide +kernel
theorem dX0_goOn_1 : decode cX0_goOn 1 = .ok (.ifCond .lt 10, 3) := by decide +kernel
theorem dX0_goOn_4 : decode cX0_goOn 4 = .ok (.iload_n 2, 1) := by decide +kernel
theorem dX0_goOn_5 : decode cX0_goOn 5 = .ok (.sipush 512, 3) := by decide +kernel
theorem dX0_goOn_8 : decode cX0_goOn 8 = .ok (.if_icmp .lt 4, 3) := by decide +kernel
theorem dX0_goOn_11 : decode cX0_goOn 11 = .ok (.return_, 1) := by decide +kernel
theorem dX0_goOn_12 : decode cX0_goOn 12 = .ok (.iconst 0, 1) := by decide +kernel
theorem dX0_goOn_13 : decode cX0_goOn 13 = .ok (.istore_n 3, 1) := by decide +kernel
theorem dX0_goOn_14 : decode cX0_goOn 14 = .ok (.iload_n 3, 1) := by decide +kernel
theorem dX0_goOn_15 : decode cX0_goOn 15 = .ok (.bipush 15, 2) := by decide +kernel
theorem dX0_goOn_17 : decode cX0_goOn 17 = .ok (.if_icmp .ge 115, 3) := by decide +kernel
theorem dX0_goOn_20 : decode cX0_goOn 20 = .ok (.aload_n 0, 1) := by decide +kernel
theorem dX0_goOn_21 : decode cX0_goOn 21 = .ok (.getfield 15, 3) := by decide +kernel
theorem dX0_goOn_24 : decode cX0_goOn 24 = .ok (.iconst 0, 1) := by decide +kernel
theorem dX0_goOn_25 : decode cX0_goOn 25 = .ok (.iaload, 1) := by decide +kernel
theorem dX0_goOn_26 : decode cX0_goOn 26 = .ok (.iconst (-1), 1) := by decide +kernel
theorem dX0_goOn_27 : decode cX0_goOn 27 = .ok (.if_icmp .ne 105, 3) := by decide +kernel
theorem dX0_goOn_30 : decode cX0_goOn 30 = .ok (.iload_n 3, 1) := by decide +kernel
theorem dX0_goOn_31 : decode cX0_goOn 31 = .ok (.iconst 3, 1) := by decide +kernel
theorem dX0_goOn_32 : decode cX0_goOn 32 = .ok (.idiv, 1) := by decide +kernel
theorem dX0_goOn_33 : decode cX0_goOn 33 = .ok (.istore 4, 2) := by decide +kernel
theorem dX0_goOn_35 : decode cX0_goOn 35 = .ok (.iload_n 3, 1) := by decide +kernel
theorem dX0_goOn_36 : decode cX0_goOn 36 = .ok (.iconst 3, 1) := by decide +kernel
theorem dX0_goOn_37 : decode cX0_goOn 37 = .ok (.irem, 1) := by decide +kernel
theorem dX0_goOn_38 : decode cX0_goOn 38 = .ok (.istore 5, 2) := by decide +kernel
theorem dX0_goOn_40 : decode cX0_goOn 40 = .ok (.aload_n 1, 1) := by decide +kernel
theorem dX0_goOn_41 : decode cX0_goOn 41 = .ok (.iload 4, 2) := by decide +kernel
theorem dX0_goOn_43 : decode cX0_goOn 43 = .ok (.iload 5, 2) := by decide +kernel
theorem dX0_goOn_45 : decode cX0_goOn 45 = .ok (.iload_n 2, 1) := by decide +kernel
theorem dX0_goOn_46 : decode cX0_goOn 46 = .ok (.invokevirtual 60, 3) := by decide +kernel
theorem dX0_goOn_49 : decode cX0_goOn 49 = .ok (.istore 6, 2) := by decide +kernel
theorem dX0_goOn_51 : decode cX0_goOn 51 = .ok (.iload 6, 2) := by decide +kernel
theorem dX0_goOn_53 : decode cX0_goOn 53 = .ok (.bipush 40, 2) := by decide +kernel
theorem dX0_goOn_55 : decode cX0_goOn 55 = .ok (.if_icmp .gt 71, 3) := by decide +kernel
theorem dX0_goOn_58 : decode cX0_goOn 58 = .ok (.aload_n 1, 1) := by decide +kernel
theorem dX0_goOn_59 : decode cX0_goOn 59 = .ok (.iload 4, 2) := by decide +kernel
theorem dX0_goOn_61 : decode cX0_goOn 61 = .ok (.iload 5, 2) := by decide +kernel
theorem dX0_goOn_63 : decode cX0_goOn 63 = .ok (.iload 6, 2) := by decide +kernel
theorem dX0_goOn_65 : decode cX0_goOn 65 = .ok (.iload_n 2, 1) := by decide +kernel
theorem dX0_goOn_66 : decode cX0_goOn 66 = .ok (.invokevirtual 64, 3) := by decide +kernel
theorem dX0_goOn_69 : decode cX0_goOn 69 = .ok (.istore 7, 2) := by decide +kernel
theorem dX0_goOn_71 : decode cX0_goOn 71 = .ok (.aload_n 0, 1) := by decide +kernel
theorem dX0_goOn_72 : decode cX0_goOn 72 = .ok (.getfield 15, 3) := by decide +kernel
theorem dX0_goOn_75 : decode cX0_goOn 75 = .ok (.iload_n 2, 1) := by decide +kernel
theorem dX0_goOn_76 : decode cX0_goOn 76 = .ok (.iaload, 1) := by decide +kernel
theorem dX0_goOn_77 : decode cX0_goOn 77 = .ok (.ifCond .ne 15, 3) := by decide +kernel
theorem dX0_goOn_80 : decode cX0_goOn 80 = .ok (.iload_n 3, 1) := by decide +kernel
theorem dX0_goOn_81 : decode cX0_goOn 81 = .ok (.bipush 40, 2) := by decide +kernel
theorem dX0_goOn_83 : decode cX0_goOn 83 = .ok (.imul, 1) := by decide +kernel
theorem dX0_goOn_84 : decode cX0_goOn 84 = .ok (.iload 6, 2) := by decide +kernel
theorem dX0_goOn_86 : decode cX0_goOn 86 = .ok (.iadd, 1) := by decide +kernel
theorem dX0_goOn_87 : decode cX0_goOn 87 = .ok (.iconst 1, 1) := by decide +kernel
theorem dX0_goOn_88 : decode cX0_goOn 88 = .ok (.isub, 1) := by decide +kernel
theorem dX0_goOn_89 : decode cX0_goOn 89 = .ok (.goto 9, 3) := by decide +kernel
theorem dX0_goOn_92 : decode cX0_goOn 92 = .ok (.aload_n 0, 1) := by decide +kernel
theorem dX0_goOn_93 : decode cX0_goOn 93 = .ok (.getfield 18, 3) := by decide +kernel
theorem dX0_goOn_96 : decode cX0_goOn 96 = .ok (.iload_n 2, 1) := by decide +kernel
theorem dX0_goOn_97 : decode cX0_goOn 97 = .ok (.iaload, 1) := by decide +kernel
theorem dX0_goOn_98 : decode cX0_goOn 98 = .ok (.istore 8, 2) := by decide +kernel
theorem dX0_goOn_100 : decode cX0_goOn 100 = .ok (.aload_n 0, 1) := by decide +kernel
theorem dX0_goOn_101 : decode cX0_goOn 101 = .ok (.iload_n 2, 1) := by decide +kernel
theorem dX0_goOn_102 : decode cX0_goOn 102 = .ok (.iload 7, 2) := by decide +kernel
theorem dX0_goOn_104 : decode cX0_goOn 104 = .ok (.iconst (-1), 1) := by decide +kernel
theorem dX0_goOn_105 : decode cX0_goOn 105 = .ok (.ixor, 1) := by decide +kernel
theorem dX0_goOn_106 : decode cX0_goOn 106 = .ok (.iand, 1) := by decide +kernel
theorem dX0_goOn_107 : decode cX0_goOn 107 = .ok (.aload_n 0, 1) := by decide +kernel
theorem dX0_goOn_108 : decode cX0_goOn 108 = .ok (.getfield 15, 3) := by decide +kernel
theorem dX0_goOn_111 : decode cX0_goOn 111 = .ok (.iload_n 2, 1) := by decide +kernel
theorem dX0_goOn_112 : decode cX0_goOn 112 = .ok (.iaload, 1) := by decide +kernel
theorem dX0_goOn_113 : decode cX0_goOn 113 = .ok (.iconst 1, 1) := by decide +kernel
theorem dX0_goOn_114 : decode cX0_goOn 114 = .ok (.iadd, 1) := by decide +kernel
theorem dX0_goOn_115 : decode cX0_goOn 115 = .ok (.iload 8, 2) := by decide +kernel
theorem dX0_goOn_117 : decode cX0_goOn 117 = .ok (.invokevirtual 46, 3) := by decide +kernel
theorem dX0_goOn_120 : decode cX0_goOn 120 = .ok (.iinc 6 1, 3) := by decide +kernel
theorem dX0_goOn_123 : decode cX0_goOn 123 = .ok (.goto (-72), 3) := by decide +kernel
theorem dX0_goOn_126 : decode cX0_goOn 126 = .ok (.iinc 3 1, 3) := by decide +kernel
theorem dX0_goOn_129 : decode cX0_goOn 129 = .ok (.goto (-115), 3) := by decide +kernel
theorem dX0_goOn_132 : decode cX0_goOn 132 = .ok (.return_, 1) := by decide +kernel
theorem dX0_reach_0 : decode cX0_reach 0 = .ok (.iload_n 1, 1) := by decide +kernel
theorem dX0_reach_1 : decode cX0_reach 1 = .ok (.ifCond .lt 30, 3) := by decide +kernel
theorem dX0_reach_4 : decode cX0_reach 4 = .ok (.iload_n 1, 1) := by decide +kernel
theorem dX0_reach_5 : decode cX0_reach 5 = .ok (.sipush 512, 3) := by decide +kernel
theorem dX0_reach_8 : decode cX0_reach 8 = .ok (.if_icmp .ge 23, 3) := by decide +kernel
theorem dX0_reach_11 : decode cX0_reach 11 = .ok (.aload_n 0, 1) := by decide +kernel
theorem dX0_reach_12 : decode cX0_reach 12 = .ok (.getfield 37, 3) := by decide +kernel
theorem dX0_reach_15 : decode cX0_reach 15 = .ok (.sipush 512, 3) := by decide +kernel
theorem dX0_reach_18 : decode cX0_reach 18 = .ok (.if_icmp .ge 13, 3) := by decide +kernel
theorem dX0_reach_21 : decode cX0_reach 21 = .ok (.aload_n 0, 1) := by decide +kernel
theorem dX0_reach_22 : decode cX0_reach 22 = .ok (.getfield 15, 3) := by decide +kernel
theorem dX0_reach_25 : decode cX0_reach 25 = .ok (.iload_n 1, 1) := by decide +kernel
theorem dX0_reach_26 : decode cX0_reach 26 = .ok (.iaload, 1) := by decide +kernel
theorem dX0_reach_27 : decode cX0_reach 27 = .ok (.iconst (-1), 1) := by decide +kernel
theorem dX0_reach_28 : decode cX0_reach 28 = .ok (.if_icmp .eq 4, 3) := by decide +kernel
theorem dX0_reach_31 : decode cX0_reach 31 = .ok (.return_, 1) := by decide +kernel
theorem dX0_reach_32 : decode cX0_reach 32 = .ok (.aload_n 0, 1) := by decide +kernel
theorem dX0_reach_33 : decode cX0_reach 33 = .ok (.getfield 15, 3) := by decide +kernel
theorem dX0_reach_36 : decode cX0_reach 36 = .ok (.iload_n 1, 1) := by decide +kernel
theorem dX0_reach_37 : decode cX0_reach 37 = .ok (.iload_n 2, 1) := by decide +kernel
theorem dX0_reach_38 : decode cX0_reach 38 = .ok (.iastore, 1) := by decide +kernel
theorem dX0_reach_39 : decode cX0_reach 39 = .ok (.aload_n 0, 1) := by decide +kernel
theorem dX0_reach_40 : decode cX0_reach 40 = .ok (.getfield 18, 3) := by decide +kernel
theorem dX0_reach_43 : decode cX0_reach 43 = .ok (.iload_n 1, 1) := by decide +kernel
theorem dX0_reach_44 : decode cX0_reach 44 = .ok (.iload_n 3, 1) := by decide +kernel
theorem dX0_reach_45 : decode cX0_reach 45 = .ok (.iastore, 1) := by decide +kernel
theorem dX0_reach_46 : decode cX0_reach 46 = .ok (.aload_n 0, 1) := by decide +kernel
theorem dX0_reach_47 : decode cX0_reach 47 = .ok (.getfield 9, 3) := by decide +kernel
theorem dX0_reach_50 : decode cX0_reach 50 = .ok (.aload_n 0, 1) := by decide +kernel
theorem dX0_reach_51 : decode cX0_reach 51 = .ok (.getfield 37, 3) := by decide +kernel
theorem dX0_reach_54 : decode cX0_reach 54 = .ok (.iload_n 1, 1) := by decide +kernel
theorem dX0_reach_55 : decode cX0_reach 55 = .ok (.iastore, 1) := by decide +kernel
theorem dX0_reach_56 : decode cX0_reach 56 = .ok (.aload_n 0, 1) := by decide +kernel
theorem dX0_reach_57 : decode cX0_reach 57 = .ok (.dup, 1) := by decide +kernel
theorem dX0_reach_58 : decode cX0_reach 58 = .ok (.getfield 37, 3) := by decide +kernel
theorem dX0_reach_61 : decode cX0_reach 61 = .ok (.iconst 1, 1) := by decide +kernel
theorem dX0_reach_62 : decode cX0_reach 62 = .ok (.iadd, 1) := by decide +kernel
theorem dX0_reach_63 : decode cX0_reach 63 = .ok (.putfield 37, 3) := by decide +kernel
theorem dX0_reach_66 : decode cX0_reach 66 = .ok (.return_, 1) := by decide +kernel
theorem dX1_init_0 : decode cX1_init 0 = .ok (.aload_n 0, 1) := by decide +kernel
theorem dX1_init_1 : decode cX1_init 1 = .ok (.invokespecial 3, 3) := by decide +kernel
theorem dX1_init_4 : decode cX1_init 4 = .ok (.aload_n 0, 1) := by decide +kernel
theorem dX1_init_5 : decode cX1_init 5 = .ok (.bipush 15, 2) := by decide +kernel
theorem dX1_init_7 : decode cX1_init 7 = .ok (.newarray .int, 2) := by decide +kernel
theorem dX1_init_9 : decode cX1_init 9 = .ok (.putfield 9, 3) := by decide +kernel
theorem dX1_init_12 : decode cX1_init 12 = .ok (.aload_n 0, 1) := by decide +kernel
theorem dX1_init_13 : decode cX1_init 13 = .ok (.bipush 15, 2) := by decide +kernel
theorem dX1_init_15 : decode cX1_init 15 = .ok (.newarray .boolean, 2) := by decide +kernel
theorem dX1_init_17 : decode cX1_init 17 = .ok (.putfield 15, 3) := by decide +kernel
theorem dX1_init_20 : decode cX1_init 20 = .ok (.return_, 1) := by decide +kernel
theorem dX1_append_0 : decode cX1_append 0 = .ok (.aload_n 0, 1) := by decide +kernel
theorem dX1_append_1 : decode cX1_append 1 = .ok (.getfield 19, 3) := by decide +kernel
theorem dX1_append_4 : decode cX1_append 4 = .ok (.bipush 15, 2) := by decide +kernel
theorem dX1_append_6 : decode cX1_append 6 = .ok (.if_icmp .lt 6, 3) := by decide +kernel
theorem dX1_append_9 : decode cX1_append 9 = .ok (.ldc 23, 2) := by decide +kernel
theorem dX1_append_11 : decode cX1_append 11 = .ok (.ireturn, 1) := by decide +kernel
theorem dX1_append_12 : decode cX1_append 12 = .ok (.aload_n 0, 1) := by decide +kernel
theorem dX1_append_13 : decode cX1_append 13 = .ok (.getfield 9, 3) := by decide +kernel
theorem dX1_append_16 : decode cX1_append 16 = .ok (.aload_n 0, 1) := by decide +kernel
theorem dX1_append_17 : decode cX1_append 17 = .ok (.getfield 19, 3) := by decide +kernel
theorem dX1_append_20 : decode cX1_append 20 = .ok (.iload_n 1, 1) := by decide +kernel
theorem dX1_append_21 : decode cX1_append 21 = .ok (.iastore, 1) := by decide +kernel
theorem dX1_append_22 : decode cX1_append 22 = .ok (.aload_n 0, 1) := by decide +kernel
theorem dX1_append_23 : decode cX1_append 23 = .ok (.getfield 15, 3) := by decide +kernel
theorem dX1_append_26 : decode cX1_append 26 = .ok (.aload_n 0, 1) := by decide +kernel
theorem dX1_append_27 : decode cX1_append 27 = .ok (.getfield 19, 3) := by decide +kernel
theorem dX1_append_30 : decode cX1_append 30 = .ok (.iload_n 2, 1) := by decide +kernel
theorem dX1_append_31 : decode cX1_append 31 = .ok (.bastore, 1) := by decide +kernel
theorem dX1_append_32 : decode cX1_append 32 = .ok (.aload_n 0, 1) := by decide +kernel
theorem dX1_append_33 : decode cX1_append 33 = .ok (.dup, 1) := by decide +kernel
theorem dX1_append_34 : decode cX1_append 34 = .ok (.getfield 19, 3) := by decide +kernel
theorem dX1_append_37 : decode cX1_append 37 = .ok (.iconst 1, 1) := by decide +kernel
theorem dX1_append_38 : decode cX1_append 38 = .ok (.iadd, 1) := by decide +kernel
theorem dX1_append_39 : decode cX1_append 39 = .ok (.putfield 19, 3) := by decide +kernel
theorem dX1_append_42 : decode cX1_append 42 = .ok (.aload_n 0, 1) := by decide +kernel
theorem dX1_append_43 : decode cX1_append 43 = .ok (.getfield 19, 3) := by decide +kernel
theorem dX1_append_46 : decode cX1_append 46 = .ok (.ireturn, 1) := by decide +kernel
theorem dX1_clear_0 : decode cX1_clear 0 = .ok (.aload_n 0, 1) := by decide +kernel
theorem dX1_clear_1 : decode cX1_clear 1 = .ok (.iconst 0, 1) := by decide +kernel
theorem dX1_clear_2 : decode cX1_clear 2 = .ok (.putfield 19, 3) := by decide +kernel
theorem dX1_clear_5 : decode cX1_clear 5 = .ok (.return_, 1) := by decide +kernel
theorem dX1_firstWrong_0 : decode cX1_firstWrong 0 = .ok (.iconst 0, 1) := by decide +kernel
theorem dX1_firstWrong_1 : decode cX1_firstWrong 1 = .ok (.istore_n 2, 1) := by decide +kernel
theorem dX1_firstWrong_2 : decode cX1_firstWrong 2 = .ok (.iload_n 2, 1) := by decide +kernel
theorem dX1_firstWrong_3 : decode cX1_firstWrong 3 = .ok (.aload_n 0, 1) := by decide +kernel
theorem dX1_firstWrong_4 : decode cX1_firstWrong 4 = .ok (.getfield 19, 3) := by decide +kernel
theorem dX1_firstWrong_7 : decode cX1_firstWrong 7 = .ok (.if_icmp .ge 47, 3) := by decide +kernel
theorem dX1_firstWrong_10 : decode cX1_firstWrong 10 = .ok (.iload_n 2, 1) := by decide +kernel
theorem dX1_firstWrong_11 : decode cX1_firstWrong 11 = .ok (.bipush 15, 2) := by decide +kernel
theorem dX1_firstWrong_13 : decode cX1_firstWrong 13 = .ok (.if_icmp .ge 41, 3) := by decide +kernel
theorem dX1_firstWrong_16 : decode cX1_firstWrong 16 = .ok (.iload_n 1, 1) := by decide +kernel
theorem dX1_firstWrong_17 : decode cX1_firstWrong 17 = .ok (.aload_n 0, 1) := by decide +kernel
theorem dX1_firstWrong_18 : decode cX1_firstWrong 18 = .ok (.getfield 9, 3) := by decide +kernel
theorem dX1_firstWrong_21 : decode cX1_firstWrong 21 = .ok (.iload_n 2, 1) := by decide +kernel
theorem dX1_firstWrong_22 : decode cX1_firstWrong 22 = .ok (.iaload, 1) := by decide +kernel
theorem dX1_firstWrong_23 : decode cX1_firstWrong 23 = .ok (.ishr, 1) := by decide +kernel
theorem dX1_firstWrong_24 : decode cX1_firstWrong 24 = .ok (.iconst 1, 1) := by decide +kernel
theorem dX1_firstWrong_25 : decode cX1_firstWrong 25 = .ok (.iand, 1) := by decide +kernel
theorem dX1_firstWrong_26 : decode cX1_firstWrong 26 = .ok (.iconst 1, 1) := by decide +kernel
theorem dX1_firstWrong_27 : decode cX1_firstWrong 27 = .ok (.if_icmp .ne 7, 3) := by decide +kernel
theorem dX1_firstWrong_30 : decode cX1_firstWrong 30 = .ok (.iconst 1, 1) := by decide +kernel
theorem dX1_firstWrong_31 : decode cX1_firstWrong 31 = .ok (.goto 4, 3) := by decide +kernel
theorem dX1_firstWrong_34 : decode cX1_firstWrong 34 = .ok (.iconst 0, 1) := by decide +kernel
theorem dX1_firstWrong_35 : decode cX1_firstWrong 35 = .ok (.istore_n 3, 1) := by decide +kernel
theorem dX1_firstWrong_36 : decode cX1_firstWrong 36 = .ok (.iload_n 3, 1) := by decide +kernel
theorem dX1_firstWrong_37 : decode cX1_firstWrong 37 = .ok (.aload_n 0, 1) := by decide +kernel
theorem dX1_firstWrong_38 : decode cX1_firstWrong 38 = .ok (.getfield 15, 3) := by decide +kernel
theorem dX1_firstWrong_41 : decode cX1_firstWrong 41 = .ok (.iload_n 2, 1) := by decide +kernel
theorem dX1_firstWrong_42 : decode cX1_firstWrong 42 = .ok (.baload, 1) := by decide +kernel
theorem dX1_firstWrong_43 : decode cX1_firstWrong 43 = .ok (.if_icmp .eq 5, 3) := by decide +kernel
theorem dX1_firstWrong_46 : decode cX1_firstWrong 46 = .ok (.iload_n 2, 1) := by decide +kernel
theorem dX1_firstWrong_47 : decode cX1_firstWrong 47 = .ok (.ireturn, 1) := by decide +kernel
theorem dX1_firstWrong_48 : decode cX1_firstWrong 48 = .ok (.iinc 2 1, 3) := by decide +kernel
theorem dX1_firstWrong_51 : decode cX1_firstWrong 51 = .ok (.goto (-49), 3) := by decide +kernel
theorem dX1_firstWrong_54 : decode cX1_firstWrong 54 = .ok (.iconst (-1), 1) := by decide +kernel
theorem dX1_firstWrong_55 : decode cX1_firstWrong 55 = .ok (.ireturn, 1) := by decide +kernel
theorem dX2_init_0 : decode cX2_init 0 = .ok (.aload_n 0, 1) := by decide +kernel
theorem dX2_init_1 : decode cX2_init 1 = .ok (.invokespecial 3, 3) := by decide +kernel
theorem dX2_init_4 : decode cX2_init 4 = .ok (.aload_n 0, 1) := by decide +kernel
theorem dX2_init_5 : decode cX2_init 5 = .ok (.sipush 240, 3) := by decide +kernel
theorem dX2_init_8 : decode cX2_init 8 = .ok (.newarray .int, 2) := by decide +kernel
theorem dX2_init_10 : decode cX2_init 10 = .ok (.putfield 9, 3) := by decide +kernel
theorem dX2_init_13 : decode cX2_init 13 = .ok (.aload_n 0, 1) := by decide +kernel
theorem dX2_init_14 : decode cX2_init 14 = .ok (.bipush 9, 2) := by decide +kernel
theorem dX2_init_16 : decode cX2_init 16 = .ok (.newarray .int, 2) := by decide +kernel
theorem dX2_init_18 : decode cX2_init 18 = .ok (.putfield 15, 3) := by decide +kernel
theorem dX2_init_21 : decode cX2_init 21 = .ok (.aload_n 0, 1) := by decide +kernel
theorem dX2_init_22 : decode cX2_init 22 = .ok (.bipush 9, 2) := by decide +kernel
theorem dX2_init_24 : decode cX2_init 24 = .ok (.newarray .int, 2) := by decide +kernel
theorem dX2_init_26 : decode cX2_init 26 = .ok (.putfield 18, 3) := by decide +kernel
theorem dX2_init_29 : decode cX2_init 29 = .ok (.aload_n 0, 1) := by decide +kernel
theorem dX2_init_30 : decode cX2_init 30 = .ok (.bipush 9, 2) := by decide +kernel
theorem dX2_init_32 : decode cX2_init 32 = .ok (.newarray .int, 2) := by decide +kernel
theorem dX2_init_34 : decode cX2_init 34 = .ok (.putfield 21, 3) := by decide +kernel
theorem dX2_init_37 : decode cX2_init 37 = .ok (.return_, 1) := by decide +kernel
theorem dX2_append_0 : decode cX2_append 0 = .ok (.aload_n 0, 1) := by decide +kernel
theorem dX2_append_1 : decode cX2_append 1 = .ok (.getfield 24, 3) := by decide +kernel
theorem dX2_append_4 : decode cX2_append 4 = .ok (.sipush 240, 3) := by decide +kernel
theorem dX2_append_7 : decode cX2_append 7 = .ok (.if_icmp .lt 6, 3) := by decide +kernel
theorem dX2_append_10 : decode cX2_append 10 = .ok (.ldc 28, 2) := by decide +kernel
theorem dX2_append_12 : decode cX2_append 12 = .ok (.ireturn, 1) := by decide +kernel
theorem dX2_append_13 : decode cX2_append 13 = .ok (.aload_n 0, 1) := by decide +kernel
theorem dX2_append_14 : decode cX2_append 14 = .ok (.getfield 9, 3) := by decide +kernel
theorem dX2_append_17 : decode cX2_append 17 = .ok (.aload_n 0, 1) := by decide +kernel
theorem dX2_append_18 : decode cX2_append 18 = .ok (.getfield 24, 3) := by decide +kernel
theorem dX2_append_21 : decode cX2_append 21 = .ok (.iload_n 1, 1) := by decide +kernel
theorem dX2_append_22 : decode cX2_append 22 = .ok (.iastore, 1) := by decide +kernel
theorem dX2_append_23 : decode cX2_append 23 = .ok (.aload_n 0, 1) := by decide +kernel
theorem dX2_append_24 : decode cX2_append 24 = .ok (.dup, 1) := by decide +kernel
theorem dX2_append_25 : decode cX2_append 25 = .ok (.getfield 24, 3) := by decide +kernel
theorem dX2_append_28 : decode cX2_append 28 = .ok (.iconst 1, 1) := by decide +kernel
theorem dX2_append_29 : decode cX2_append 29 = .ok (.iadd, 1) := by decide +kernel
theorem dX2_append_30 : decode cX2_append 30 = .ok (.putfield 24, 3) := by decide +kernel
theorem dX2_append_33 : decode cX2_append 33 = .ok (.aload_n 0, 1) := by decide +kernel
theorem dX2_append_34 : decode cX2_append 34 = .ok (.getfield 24, 3) := by decide +kernel
theorem dX2_append_37 : decode cX2_append 37 = .ok (.ireturn, 1) := by decide +kernel
theorem dX2_read_0 : decode cX2_read 0 = .ok (.aload_n 0, 1) := by decide +kernel
theorem dX2_read_1 : decode cX2_read 1 = .ok (.iconst 0, 1) := by decide +kernel
theorem dX2_read_2 : decode cX2_read 2 = .ok (.putfield 29, 3) := by decide +kernel
theorem dX2_read_5 : decode cX2_read 5 = .ok (.aload_n 0, 1) := by decide +kernel
theorem dX2_read_6 : decode cX2_read 6 = .ok (.iconst (-1), 1) := by decide +kernel
theorem dX2_read_7 : decode cX2_read 7 = .ok (.putfield 32, 3) := by decide +kernel
theorem dX2_read_10 : decode cX2_read 10 = .ok (.aload_n 0, 1) := by decide +kernel
theorem dX2_read_11 : decode cX2_read 11 = .ok (.iconst 0, 1) := by decide +kernel
theorem dX2_read_12 : decode cX2_read 12 = .ok (.putfield 35, 3) := by decide +kernel
theorem dX2_read_15 : decode cX2_read 15 = .ok (.aload_n 0, 1) := by decide +kernel
theorem dX2_read_16 : decode cX2_read 16 = .ok (.iconst 0, 1) := by decide +kernel
theorem dX2_read_17 : decode cX2_read 17 = .ok (.putfield 38, 3) := by decide +kernel
theorem dX2_read_20 : decode cX2_read 20 = .ok (.aload_n 0, 1) := by decide +kernel
theorem dX2_read_21 : decode cX2_read 21 = .ok (.iconst (-1), 1) := by decide +kernel
theorem dX2_read_22 : decode cX2_read 22 = .ok (.putfield 41, 3) := by decide +kernel
theorem dX2_read_25 : decode cX2_read 25 = .ok (.aload_n 0, 1) := by decide +kernel
theorem dX2_read_26 : decode cX2_read 26 = .ok (.invokevirtual 44, 3) := by decide +kernel
theorem dX2_read_29 : decode cX2_read 29 = .ok (.ifCond .eq 7, 3) := by decide +kernel
theorem dX2_read_32 : decode cX2_read 32 = .ok (.aload_n 0, 1) := by decide +kernel
theorem dX2_read_33 : decode cX2_read 33 = .ok (.invokevirtual 48, 3) := by decide +kernel
theorem dX2_read_36 : decode cX2_read 36 = .ok (.iconst 0, 1) := by decide +kernel
theorem dX2_read_37 : decode cX2_read 37 = .ok (.istore_n 1, 1) := by decide +kernel
theorem dX2_read_38 : decode cX2_read 38 = .ok (.iload_n 1, 1) := by decide +kernel
theorem dX2_read_39 : decode cX2_read 39 = .ok (.sipush 240, 3) := by decide +kernel
theorem dX2_read_42 : decode cX2_read 42 = .ok (.if_icmp .ge 27, 3) := by decide +kernel
theorem dX2_read_45 : decode cX2_read 45 = .ok (.aload_n 0, 1) := by decide +kernel
theorem dX2_read_46 : decode cX2_read 46 = .ok (.getfield 38, 3) := by decide +kernel
theorem dX2_read_49 : decode cX2_read 49 = .ok (.ifCond .ne 20, 3) := by decide +kernel
theorem dX2_read_52 : decode cX2_read 52 = .ok (.aload_n 0, 1) := by decide +kernel
theorem dX2_read_53 : decode cX2_read 53 = .ok (.invokevirtual 44, 3) := by decide +kernel
theorem dX2_read_56 : decode cX2_read 56 = .ok (.ifCond .eq 13, 3) := by decide +kernel
theorem dX2_read_59 : decode cX2_read 59 = .ok (.aload_n 0, 1) := by decide +kernel
theorem dX2_read_60 : decode cX2_read 60 = .ok (.invokevirtual 51, 3) := by decide +kernel
theorem dX2_read_63 : decode cX2_read 63 = .ok (.iinc 1 1, 3) := by decide +kernel
theorem dX2_read_66 : decode cX2_read 66 = .ok (.goto (-28), 3) := by decide +kernel
theorem dX2_read_69 : decode cX2_read 69 = .ok (.aload_n 0, 1) := by decide +kernel
theorem dX2_read_70 : decode cX2_read 70 = .ok (.iconst 0, 1) := by decide +kernel
theorem dX2_read_71 : decode cX2_read 71 = .ok (.putfield 24, 3) := by decide +kernel
theorem dX2_read_74 : decode cX2_read 74 = .ok (.aload_n 0, 1) := by decide +kernel
theorem dX2_read_75 : decode cX2_read 75 = .ok (.getfield 38, 3) := by decide +kernel
theorem dX2_read_78 : decode cX2_read 78 = .ok (.ireturn, 1) := by decide +kernel
theorem dX2_readFloor_0 : decode cX2_readFloor 0 = .ok (.aload_n 0, 1) := by decide +kernel
theorem dX2_readFloor_1 : decode cX2_readFloor 1 = .ok (.bipush 103, 2) := by decide +kernel
theorem dX2_readFloor_3 : decode cX2_readFloor 3 = .ok (.invokevirtual 54, 3) := by decide +kernel
theorem dX2_readFloor_6 : decode cX2_readFloor 6 = .ok (.aload_n 0, 1) := by decide +kernel
theorem dX2_readFloor_7 : decode cX2_readFloor 7 = .ok (.aload_n 0, 1) := by decide +kernel
theorem dX2_readFloor_8 : decode cX2_readFloor 8 = .ok (.iconst 0, 1) := by decide +kernel
theorem dX2_readFloor_9 : decode cX2_readFloor 9 = .ok (.bipush 9, 2) := by decide +kernel
theorem dX2_readFloor_11 : decode cX2_readFloor 11 = .ok (.invokevirtual 58, 3) := by decide +kernel
theorem dX2_readFloor_14 : decode cX2_readFloor 14 = .ok (.putfield 32, 3) := by decide +kernel
theorem dX2_readFloor_17 : decode cX2_readFloor 17 = .ok (.aload_n 0, 1) := by decide +kernel
theorem dX2_readFloor_18 : decode cX2_readFloor 18 = .ok (.bipush 59, 2) := by decide +kernel
theorem dX2_readFloor_20 : decode cX2_readFloor 20 = .ok (.invokevirtual 54, 3) := by decide +kernel
theorem dX2_readFloor_23 : decode cX2_readFloor 23 = .ok (.return_, 1) := by decide +kernel
theorem dX2_readSkittle_0 : decode cX2_readSkittle 0 = .ok (.aload_n 0, 1) := by decide +kernel
theorem dX2_readSkittle_1 : decode cX2_readSkittle 1 = .ok (.bipush 103, 2) := by decide +kernel
theorem dX2_readSkittle_3 : decode cX2_readSkittle 3 = .ok (.invokevirtual 62, 3) := by decide +kernel
theorem dX2_readSkittle_6 : decode cX2_readSkittle 6 = .ok (.ifCond .ne 21, 3) := by decide +kernel
theorem dX2_readSkittle_9 : decode cX2_readSkittle 9 = .ok (.aload_n 0, 1) := by decide +kernel
theorem dX2_readSkittle_10 : decode cX2_readSkittle 10 = .ok (.bipush 115, 2) := by decide +kernel
theorem dX2_readSkittle_12 : decode cX2_readSkittle 12 = .ok (.invokevirtual 62, 3) := by decide +kernel
theorem dX2_readSkittle_15 : decode cX2_readSkittle 15 = .ok (.ifCond .eq 22, 3) := by decide +kernel
theorem dX2_readSkittle_18 : decode cX2_readSkittle 18 = .ok (.aload_n 0, 1) := by decide +kernel
theorem dX2_readSkittle_19 : decode cX2_readSkittle 19 = .ok (.getfield 35, 3) := by decide +kernel
theorem dX2_readSkittle_22 : decode cX2_readSkittle 22 = .ok (.bipush 9, 2) := by decide +kernel
theorem dX2_readSkittle_24 : decode cX2_readSkittle 24 = .ok (.if_icmp .lt 13, 3) := by decide +kernel
theorem dX2_readSkittle_27 : decode cX2_readSkittle 27 = .ok (.aload_n 0, 1) := by decide +kernel
theorem dX2_readSkittle_28 : decode cX2_readSkittle 28 = .ok (.iconst 3, 1) := by decide +kernel
theorem dX2_readSkittle_29 : decode cX2_readSkittle 29 = .ok (.aload_n 0, 1) := by decide +kernel
theorem dX2_readSkittle_30 : decode cX2_readSkittle 30 = .ok (.getfield 29, 3) := by decide +kernel
theorem dX2_readSkittle_33 : decode cX2_readSkittle 33 = .ok (.invokevirtual 66, 3) := by decide +kernel
theorem dX2_readSkittle_36 : decode cX2_readSkittle 36 = .ok (.return_, 1) := by decide +kernel
theorem dX2_readSkittle_37 : decode cX2_readSkittle 37 = .ok (.aload_n 0, 1) := by decide +kernel
theorem dX2_readSkittle_38 : decode cX2_readSkittle 38 = .ok (.bipush 115, 2) := by decide +kernel
theorem dX2_readSkittle_40 : decode cX2_readSkittle 40 = .ok (.invokevirtual 54, 3) := by decide +kernel
theorem dX2_readSkittle_43 : decode cX2_readSkittle 43 = .ok (.aload_n 0, 1) := by decide +kernel
theorem dX2_readSkittle_44 : decode cX2_readSkittle 44 = .ok (.iconst 0, 1) := by decide +kernel
theorem dX2_readSkittle_45 : decode cX2_readSkittle 45 = .ok (.iconst 3, 1) := by decide +kernel
theorem dX2_readSkittle_46 : decode cX2_readSkittle 46 = .ok (.invokevirtual 58, 3) := by decide +kernel
theorem dX2_readSkittle_49 : decode cX2_readSkittle 49 = .ok (.istore_n 1, 1) := by decide +kernel
theorem dX2_readSkittle_50 : decode cX2_readSkittle 50 = .ok (.aload_n 0, 1) := by decide +kernel
theorem dX2_readSkittle_51 : decode cX2_readSkittle 51 = .ok (.iconst 1, 1) := by decide +kernel
theorem dX2_readSkittle_52 : decode cX2_readSkittle 52 = .ok (.bipush 20, 2) := by decide +kernel
theorem dX2_readSkittle_54 : decode cX2_readSkittle 54 = .ok (.invokevirtual 58, 3) := by decide +kernel
theorem dX2_readSkittle_57 : decode cX2_readSkittle 57 = .ok (.istore_n 2, 1) := by decide +kernel
theorem dX2_readSkittle_58 : decode cX2_readSkittle 58 = .ok (.aload_n 0, 1) := by decide +kernel
theorem dX2_readSkittle_59 : decode cX2_readSkittle 59 = .ok (.iconst 0, 1) := by decide +kernel
theorem dX2_readSkittle_60 : decode cX2_readSkittle 60 = .ok (.bipush 9, 2) := by decide +kernel
theorem dX2_readSkittle_62 : decode cX2_readSkittle 62 = .ok (.invokevirtual 58, 3) := by decide +kernel
theorem dX2_readSkittle_65 : decode cX2_readSkittle 65 = .ok (.istore_n 3, 1) := by decide +kernel
theorem dX2_readSkittle_66 : decode cX2_readSkittle 66 = .ok (.aload_n 0, 1) := by decide +kernel
theorem dX2_readSkittle_67 : decode cX2_readSkittle 67 = .ok (.bipush 59, 2) := by decide +kernel
theorem dX2_readSkittle_69 : decode cX2_readSkittle 69 = .ok (.invokevirtual 54, 3) := by decide +kernel
theorem dX2_readSkittle_72 : decode cX2_readSkittle 72 = .ok (.aload_n 0, 1) := by decide +kernel
theorem dX2_readSkittle_73 : decode cX2_readSkittle 73 = .ok (.getfield 38, 3) := by decide +kernel
theorem dX2_readSkittle_76 : decode cX2_readSkittle 76 = .ok (.ifCond .ne 52, 3) := by decide +kernel
theorem dX2_readSkittle_79 : decode cX2_readSkittle 79 = .ok (.aload_n 0, 1) := by decide +kernel
theorem dX2_readSkittle_80 : decode cX2_readSkittle 80 = .ok (.getfield 35, 3) := by decide +kernel
theorem dX2_readSkittle_83 : decode cX2_readSkittle 83 = .ok (.bipush 9, 2) := by decide +kernel
theorem dX2_readSkittle_85 : decode cX2_readSkittle 85 = .ok (.if_icmp .ge 43, 3) := by decide +kernel
theorem dX2_readSkittle_88 : decode cX2_readSkittle 88 = .ok (.aload_n 0, 1) := by decide +kernel
theorem dX2_readSkittle_89 : decode cX2_readSkittle 89 = .ok (.getfield 15, 3) := by decide +kernel
theorem dX2_readSkittle_92 : decode cX2_readSkittle 92 = .ok (.aload_n 0, 1) := by decide +kernel
theorem dX2_readSkittle_93 : decode cX2_readSkittle 93 = .ok (.getfield 35, 3) := by decide +kernel
theorem dX2_readSkittle_96 : decode cX2_readSkittle 96 = .ok (.iload_n 1, 1) := by decide +kernel
theorem dX2_readSkittle_97 : decode cX2_readSkittle 97 = .ok (.iastore, 1) := by decide +kernel
theorem dX2_readSkittle_98 : decode cX2_readSkittle 98 = .ok (.aload_n 0, 1) := by decide +kernel
theorem dX2_readSkittle_99 : decode cX2_readSkittle 99 = .ok (.getfield 18, 3) := by decide +kernel
theorem dX2_readSkittle_102 : decode cX2_readSkittle 102 = .ok (.aload_n 0, 1) := by decide +kernel
theorem dX2_readSkittle_103 : decode cX2_readSkittle 103 = .ok (.getfield 35, 3) := by decide +kernel
theorem dX2_readSkittle_106 : decode cX2_readSkittle 106 = .ok (.iload_n 2, 1) := by decide +kernel
theorem dX2_readSkittle_107 : decode cX2_readSkittle 107 = .ok (.iastore, 1) := by decide +kernel
theorem dX2_readSkittle_108 : decode cX2_readSkittle 108 = .ok (.aload_n 0, 1) := by decide +kernel
theorem dX2_readSkittle_109 : decode cX2_readSkittle 109 = .ok (.getfield 21, 3) := by decide +kernel
theorem dX2_readSkittle_112 : decode cX2_readSkittle 112 = .ok (.aload_n 0, 1) := by decide +kernel
theorem dX2_readSkittle_113 : decode cX2_readSkittle 113 = .ok (.getfield 35, 3) := by decide +kernel
theorem dX2_readSkittle_116 : decode cX2_readSkittle 116 = .ok (.iload_n 3, 1) := by decide +kernel
theorem dX2_readSkittle_117 : decode cX2_readSkittle 117 = .ok (.iastore, 1) := by decide +kernel
theorem dX2_readSkittle_118 : decode cX2_readSkittle 118 = .ok (.aload_n 0, 1) := by decide +kernel
theorem dX2_readSkittle_119 : decode cX2_readSkittle 119 = .ok (.dup, 1) := by decide +kernel
theorem dX2_readSkittle_120 : decode cX2_readSkittle 120 = .ok (.getfield 35, 3) := by decide +kernel
theorem dX2_readSkittle_123 : decode cX2_readSkittle 123 = .ok (.iconst 1, 1) := by decide +kernel
theorem dX2_readSkittle_124 : decode cX2_readSkittle 124 = .ok (.iadd, 1) := by decide +kernel
theorem dX2_readSkittle_125 : decode cX2_readSkittle 125 = .ok (.putfield 35, 3) := by decide +kernel
theorem dX2_readSkittle_128 : decode cX2_readSkittle 128 = .ok (.return_, 1) := by decide +kernel
theorem dX2_isMore_0 : decode cX2_isMore 0 = .ok (.aload_n 0, 1) := by decide +kernel
theorem dX2_isMore_1 : decode cX2_isMore 1 = .ok (.getfield 29, 3) := by decide +kernel
theorem dX2_isMore_4 : decode cX2_isMore 4 = .ok (.aload_n 0, 1) := by decide +kernel
theorem dX2_isMore_5 : decode cX2_isMore 5 = .ok (.getfield 24, 3) := by decide +kernel
theorem dX2_isMore_8 : decode cX2_isMore 8 = .ok (.if_icmp .ge 25, 3) := by decide +kernel
theorem dX2_isMore_11 : decode cX2_isMore 11 = .ok (.aload_n 0, 1) := by decide +kernel
theorem dX2_isMore_12 : decode cX2_isMore 12 = .ok (.bipush 32, 2) := by decide +kernel
theorem dX2_isMore_14 : decode cX2_isMore 14 = .ok (.invokevirtual 62, 3) := by decide +kernel
theorem dX2_isMore_17 : decode cX2_isMore 17 = .ok (.ifCond .eq 16, 3) := by decide +kernel
theorem dX2_isMore_20 : decode cX2_isMore 20 = .ok (.aload_n 0, 1) := by decide +kernel
theorem dX2_isMore_21 : decode cX2_isMore 21 = .ok (.dup, 1) := by decide +kernel
theorem dX2_isMore_22 : decode cX2_isMore 22 = .ok (.getfield 29, 3) := by decide +kernel
theorem dX2_isMore_25 : decode cX2_isMore 25 = .ok (.iconst 1, 1) := by decide +kernel
theorem dX2_isMore_26 : decode cX2_isMore 26 = .ok (.iadd, 1) := by decide +kernel
theorem dX2_isMore_27 : decode cX2_isMore 27 = .ok (.putfield 29, 3) := by decide +kernel
theorem dX2_isMore_30 : decode cX2_isMore 30 = .ok (.goto (-30), 3) := by decide +kernel
theorem dX2_isMore_33 : decode cX2_isMore 33 = .ok (.aload_n 0, 1) := by decide +kernel
theorem dX2_isMore_34 : decode cX2_isMore 34 = .ok (.getfield 29, 3) := by decide +kernel
theorem dX2_isMore_37 : decode cX2_isMore 37 = .ok (.aload_n 0, 1) := by decide +kernel
theorem dX2_isMore_38 : decode cX2_isMore 38 = .ok (.getfield 24, 3) := by decide +kernel
theorem dX2_isMore_41 : decode cX2_isMore 41 = .ok (.if_icmp .ge 7, 3) := by decide +kernel
theorem dX2_isMore_44 : decode cX2_isMore 44 = .ok (.iconst 1, 1) := by decide +kernel
theorem dX2_isMore_45 : decode cX2_isMore 45 = .ok (.goto 4, 3) := by decide +kernel
theorem dX2_isMore_48 : decode cX2_isMore 48 = .ok (.iconst 0, 1) := by decide +kernel
theorem dX2_isMore_49 : decode cX2_isMore 49 = .ok (.ireturn, 1) := by decide +kernel
theorem dX2_sees_0 : decode cX2_sees 0 = .ok (.aload_n 0, 1) := by decide +kernel
theorem dX2_sees_1 : decode cX2_sees 1 = .ok (.getfield 29, 3) := by decide +kernel
theorem dX2_sees_4 : decode cX2_sees 4 = .ok (.aload_n 0, 1) := by decide +kernel
theorem dX2_sees_5 : decode cX2_sees 5 = .ok (.getfield 24, 3) := by decide +kernel
theorem dX2_sees_8 : decode cX2_sees 8 = .ok (.if_icmp .ge 30, 3) := by decide +kernel
theorem dX2_sees_11 : decode cX2_sees 11 = .ok (.aload_n 0, 1) := by decide +kernel
theorem dX2_sees_12 : decode cX2_sees 12 = .ok (.getfield 29, 3) := by decide +kernel
theorem dX2_sees_15 : decode cX2_sees 15 = .ok (.sipush 240, 3) := by decide +kernel
theorem dX2_sees_18 : decode cX2_sees 18 = .ok (.if_icmp .ge 20, 3) := by decide +kernel
theorem dX2_sees_21 : decode cX2_sees 21 = .ok (.aload_n 0, 1) := by decide +kernel
theorem dX2_sees_22 : decode cX2_sees 22 = .ok (.getfield 9, 3) := by decide +kernel
theorem dX2_sees_25 : decode cX2_sees 25 = .ok (.aload_n 0, 1) := by decide +kernel
theorem dX2_sees_26 : decode cX2_sees 26 = .ok (.getfield 29, 3) := by decide +kernel
theorem dX2_sees_29 : decode cX2_sees 29 = .ok (.iaload, 1) := by decide +kernel
theorem dX2_sees_30 : decode cX2_sees 30 = .ok (.iload_n 1, 1) := by decide +kernel
theorem dX2_sees_31 : decode cX2_sees 31 = .ok (.if_icmp .ne 7, 3) := by decide +kernel
theorem dX2_sees_34 : decode cX2_sees 34 = .ok (.iconst 1, 1) := by decide +kernel
theorem dX2_sees_35 : decode cX2_sees 35 = .ok (.goto 4, 3) := by decide +kernel
theorem dX2_sees_38 : decode cX2_sees 38 = .ok (.iconst 0, 1) := by decide +kernel
theorem dX2_sees_39 : decode cX2_sees 39 = .ok (.ireturn, 1) := by decide +kernel
theorem dX2_seesFigure_0 : decode cX2_seesFigure 0 = .ok (.aload_n 0, 1) := by decide +kernel
theorem dX2_seesFigure_1 : decode cX2_seesFigure 1 = .ok (.getfield 29, 3) := by decide +kernel
theorem dX2_seesFigure_4 : decode cX2_seesFigure 4 = .ok (.aload_n 0, 1) := by decide +kernel
theorem dX2_seesFigure_5 : decode cX2_seesFigure 5 = .ok (.getfield 24, 3) := by decide +kernel
theorem dX2_seesFigure_8 : decode cX2_seesFigure 8 = .ok (.if_icmp .ge 45, 3) := by decide +kernel
theorem dX2_seesFigure_11 : decode cX2_seesFigure 11 = .ok (.aload_n 0, 1) := by decide +kernel
theorem dX2_seesFigure_12 : decode cX2_seesFigure 12 = .ok (.getfield 29, 3) := by decide +kernel
theorem dX2_seesFigure_15 : decode cX2_seesFigure 15 = .ok (.sipush 240, 3) := by decide +kernel
theorem dX2_seesFigure_18 : decode cX2_seesFigure 18 = .ok (.if_icmp .ge 35, 3) := by decide +kernel
theorem dX2_seesFigure_21 : decode cX2_seesFigure 21 = .ok (.aload_n 0, 1) := by decide +kernel
theorem dX2_seesFigure_22 : decode cX2_seesFigure 22 = .ok (.getfield 9, 3) := by decide +kernel
theorem dX2_seesFigure_25 : decode cX2_seesFigure 25 = .ok (.aload_n 0, 1) := by decide +kernel
theorem dX2_seesFigure_26 : decode cX2_seesFigure 26 = .ok (.getfield 29, 3) := by decide +kernel
theorem dX2_seesFigure_29 : decode cX2_seesFigure 29 = .ok (.iaload, 1) := by decide +kernel
theorem dX2_seesFigure_30 : decode cX2_seesFigure 30 = .ok (.bipush 48, 2) := by decide +kernel
theorem dX2_seesFigure_32 : decode cX2_seesFigure 32 = .ok (.if_icmp .lt 21, 3) := by decide +kernel
theorem dX2_seesFigure_35 : decode cX2_seesFigure 35 = .ok (.aload_n 0, 1) := by decide +kernel
theorem dX2_seesFigure_36 : decode cX2_seesFigure 36 = .ok (.getfield 9, 3) := by decide +kernel
theorem dX2_seesFigure_39 : decode cX2_seesFigure 39 = .ok (.aload_n 0, 1) := by decide +kernel
theorem dX2_seesFigure_40 : decode cX2_seesFigure 40 = .ok (.getfield 29, 3) := by decide +kernel
theorem dX2_seesFigure_43 : decode cX2_seesFigure 43 = .ok (.iaload, 1) := by decide +kernel
theorem dX2_seesFigure_44 : decode cX2_seesFigure 44 = .ok (.bipush 57, 2) := by decide +kernel
theorem dX2_seesFigure_46 : decode cX2_seesFigure 46 = .ok (.if_icmp .gt 7, 3) := by decide +kernel
theorem dX2_seesFigure_49 : decode cX2_seesFigure 49 = .ok (.iconst 1, 1) := by decide +kernel
theorem dX2_seesFigure_50 : decode cX2_seesFigure 50 = .ok (.goto 4, 3) := by decide +kernel
theorem dX2_seesFigure_53 : decode cX2_seesFigure 53 = .ok (.iconst 0, 1) := by decide +kernel
theorem dX2_seesFigure_54 : decode cX2_seesFigure 54 = .ok (.ireturn, 1) := by decide +kernel
theorem dX2_takeSign_0 : decode cX2_takeSign 0 = .ok (.aload_n 0, 1) := by decide +kernel
theorem dX2_takeSign_1 : decode cX2_takeSign 1 = .ok (.getfield 38, 3) := by decide +kernel
theorem dX2_takeSign_4 : decode cX2_takeSign 4 = .ok (.ifCond .eq 4, 3) := by decide +kernel
theorem dX2_takeSign_7 : decode cX2_takeSign 7 = .ok (.return_, 1) := by decide +kernel
theorem dX2_takeSign_8 : decode cX2_takeSign 8 = .ok (.aload_n 0, 1) := by decide +kernel
theorem dX2_takeSign_9 : decode cX2_takeSign 9 = .ok (.invokevirtual 44, 3) := by decide +kernel
theorem dX2_takeSign_12 : decode cX2_takeSign 12 = .ok (.ifCond .eq 24, 3) := by decide +kernel
theorem dX2_takeSign_15 : decode cX2_takeSign 15 = .ok (.aload_n 0, 1) := by decide +kernel
theorem dX2_takeSign_16 : decode cX2_takeSign 16 = .ok (.iload_n 1, 1) := by decide +kernel
theorem dX2_takeSign_17 : decode cX2_takeSign 17 = .ok (.invokevirtual 62, 3) := by decide +kernel
theorem dX2_takeSign_20 : decode cX2_takeSign 20 = .ok (.ifCond .eq 16, 3) := by decide +kernel
theorem dX2_takeSign_23 : decode cX2_takeSign 23 = .ok (.aload_n 0, 1) := by decide +kernel
theorem dX2_takeSign_24 : decode cX2_takeSign 24 = .ok (.dup, 1) := by decide +kernel
theorem dX2_takeSign_25 : decode cX2_takeSign 25 = .ok (.getfield 29, 3) := by decide +kernel
theorem dX2_takeSign_28 : decode cX2_takeSign 28 = .ok (.iconst 1, 1) := by decide +kernel
theorem dX2_takeSign_29 : decode cX2_takeSign 29 = .ok (.iadd, 1) := by decide +kernel
theorem dX2_takeSign_30 : decode cX2_takeSign 30 = .ok (.putfield 29, 3) := by decide +kernel
theorem dX2_takeSign_33 : decode cX2_takeSign 33 = .ok (.goto 12, 3) := by decide +kernel
theorem dX2_takeSign_36 : decode cX2_takeSign 36 = .ok (.aload_n 0, 1) := by decide +kernel
theorem dX2_takeSign_37 : decode cX2_takeSign 37 = .ok (.iconst 1, 1) := by decide +kernel
theorem dX2_takeSign_38 : decode cX2_takeSign 38 = .ok (.aload_n 0, 1) := by decide +kernel
theorem dX2_takeSign_39 : decode cX2_takeSign 39 = .ok (.getfield 29, 3) := by decide +kernel
theorem dX2_takeSign_42 : decode cX2_takeSign 42 = .ok (.invokevirtual 66, 3) := by decide +kernel
theorem dX2_takeSign_45 : decode cX2_takeSign 45 = .ok (.return_, 1) := by decide +kernel
theorem dX2_takeNumber_0 : decode cX2_takeNumber 0 = .ok (.aload_n 0, 1) := by decide +kernel
theorem dX2_takeNumber_1 : decode cX2_takeNumber 1 = .ok (.getfield 38, 3) := by decide +kernel
theorem dX2_takeNumber_4 : decode cX2_takeNumber 4 = .ok (.ifCond .eq 5, 3) := by decide +kernel
theorem dX2_takeNumber_7 : decode cX2_takeNumber 7 = .ok (.iload_n 1, 1) := by decide +kernel
theorem dX2_takeNumber_8 : decode cX2_takeNumber 8 = .ok (.ireturn, 1) := by decide +kernel
theorem dX2_takeNumber_9 : decode cX2_takeNumber 9 = .ok (.aload_n 0, 1) := by decide +kernel
theorem dX2_takeNumber_10 : decode cX2_takeNumber 10 = .ok (.invokevirtual 44, 3) := by decide +kernel
theorem dX2_takeNumber_13 : decode cX2_takeNumber 13 = .ok (.ifCond .eq 10, 3) := by decide +kernel
theorem dX2_takeNumber_16 : decode cX2_takeNumber 16 = .ok (.aload_n 0, 1) := by decide +kernel
theorem dX2_takeNumber_17 : decode cX2_takeNumber 17 = .ok (.invokevirtual 70, 3) := by decide +kernel
theorem dX2_takeNumber_20 : decode cX2_takeNumber 20 = .ok (.ifCond .ne 14, 3) := by decide +kernel
theorem dX2_takeNumber_23 : decode cX2_takeNumber 23 = .ok (.aload_n 0, 1) := by decide +kernel
theorem dX2_takeNumber_24 : decode cX2_takeNumber 24 = .ok (.iconst 1, 1) := by decide +kernel
theorem dX2_takeNumber_25 : decode cX2_takeNumber 25 = .ok (.aload_n 0, 1) := by decide +kernel
theorem dX2_takeNumber_26 : decode cX2_takeNumber 26 = .ok (.getfield 29, 3) := by decide +kernel
theorem dX2_takeNumber_29 : decode cX2_takeNumber 29 = .ok (.invokevirtual 66, 3) := by decide +kernel
theorem dX2_takeNumber_32 : decode cX2_takeNumber 32 = .ok (.iload_n 1, 1) := by decide +kernel
theorem dX2_takeNumber_33 : decode cX2_takeNumber 33 = .ok (.ireturn, 1) := by decide +kernel
theorem dX2_takeNumber_34 : decode cX2_takeNumber 34 = .ok (.aload_n 0, 1) := by decide +kernel
theorem dX2_takeNumber_35 : decode cX2_takeNumber 35 = .ok (.getfield 29, 3) := by decide +kernel
theorem dX2_takeNumber_38 : decode cX2_takeNumber 38 = .ok (.istore_n 3, 1) := by decide +kernel
theorem dX2_takeNumber_39 : decode cX2_takeNumber 39 = .ok (.iconst 0, 1) := by decide +kernel
theorem dX2_takeNumber_40 : decode cX2_takeNumber 40 = .ok (.istore 4, 2) := by decide +kernel
theorem dX2_takeNumber_42 : decode cX2_takeNumber 42 = .ok (.aload_n 0, 1) := by decide +kernel
theorem dX2_takeNumber_43 : decode cX2_takeNumber 43 = .ok (.getfield 29, 3) := by decide +kernel
theorem dX2_takeNumber_46 : decode cX2_takeNumber 46 = .ok (.aload_n 0, 1) := by decide +kernel
theorem dX2_takeNumber_47 : decode cX2_takeNumber 47 = .ok (.getfield 24, 3) := by decide +kernel
theorem dX2_takeNumber_50 : decode cX2_takeNumber 50 = .ok (.if_icmp .ge 53, 3) := by decide +kernel
theorem dX2_takeNumber_53 : decode cX2_takeNumber 53 = .ok (.aload_n 0, 1) := by decide +kernel
theorem dX2_takeNumber_54 : decode cX2_takeNumber 54 = .ok (.invokevirtual 70, 3) := by decide +kernel
theorem dX2_takeNumber_57 : decode cX2_takeNumber 57 = .ok (.ifCond .eq 46, 3) := by decide +kernel
theorem dX2_takeNumber_60 : decode cX2_takeNumber 60 = .ok (.aload_n 0, 1) := by decide +kernel
theorem dX2_takeNumber_61 : decode cX2_takeNumber 61 = .ok (.getfield 29, 3) := by decide +kernel
theorem dX2_takeNumber_64 : decode cX2_takeNumber 64 = .ok (.iload_n 3, 1) := by decide +kernel
theorem dX2_takeNumber_65 : decode cX2_takeNumber 65 = .ok (.isub, 1) := by decide +kernel
theorem dX2_takeNumber_66 : decode cX2_takeNumber 66 = .ok (.iconst 3, 1) := by decide +kernel
theorem dX2_takeNumber_67 : decode cX2_takeNumber 67 = .ok (.if_icmp .ge 23, 3) := by decide +kernel
theorem dX2_takeNumber_70 : decode cX2_takeNumber 70 = .ok (.bipush 10, 2) := by decide +kernel
theorem dX2_takeNumber_72 : decode cX2_takeNumber 72 = .ok (.iload 4, 2) := by decide +kernel
theorem dX2_takeNumber_74 : decode cX2_takeNumber 74 = .ok (.imul, 1) := by decide +kernel
theorem dX2_takeNumber_75 : decode cX2_takeNumber 75 = .ok (.aload_n 0, 1) := by decide +kernel
theorem dX2_takeNumber_76 : decode cX2_takeNumber 76 = .ok (.getfield 9, 3) := by decide +kernel
theorem dX2_takeNumber_79 : decode cX2_takeNumber 79 = .ok (.aload_n 0, 1) := by decide +kernel
theorem dX2_takeNumber_80 : decode cX2_takeNumber 80 = .ok (.getfield 29, 3) := by decide +kernel
theorem dX2_takeNumber_83 : decode cX2_takeNumber 83 = .ok (.iaload, 1) := by decide +kernel
theorem dX2_takeNumber_84 : decode cX2_takeNumber 84 = .ok (.iadd, 1) := by decide +kernel
theorem dX2_takeNumber_85 : decode cX2_takeNumber 85 = .ok (.bipush 48, 2) := by decide +kernel
theorem dX2_takeNumber_87 : decode cX2_takeNumber 87 = .ok (.isub, 1) := by decide +kernel
theorem dX2_takeNumber_88 : decode cX2_takeNumber 88 = .ok (.istore 4, 2) := by decide +kernel
theorem dX2_takeNumber_90 : decode cX2_takeNumber 90 = .ok (.aload_n 0, 1) := by decide +kernel
theorem dX2_takeNumber_91 : decode cX2_takeNumber 91 = .ok (.dup, 1) := by decide +kernel
theorem dX2_takeNumber_92 : decode cX2_takeNumber 92 = .ok (.getfield 29, 3) := by decide +kernel
theorem dX2_takeNumber_95 : decode cX2_takeNumber 95 = .ok (.iconst 1, 1) := by decide +kernel
theorem dX2_takeNumber_96 : decode cX2_takeNumber 96 = .ok (.iadd, 1) := by decide +kernel
theorem dX2_takeNumber_97 : decode cX2_takeNumber 97 = .ok (.putfield 29, 3) := by decide +kernel
theorem dX2_takeNumber_100 : decode cX2_takeNumber 100 = .ok (.goto (-58), 3) := by decide +kernel
theorem dX2_takeNumber_103 : decode cX2_takeNumber 103 = .ok (.aload_n 0, 1) := by decide +kernel
theorem dX2_takeNumber_104 : decode cX2_takeNumber 104 = .ok (.getfield 29, 3) := by decide +kernel
theorem dX2_takeNumber_107 : decode cX2_takeNumber 107 = .ok (.iload_n 3, 1) := by decide +kernel
theorem dX2_takeNumber_108 : decode cX2_takeNumber 108 = .ok (.isub, 1) := by decide +kernel
theorem dX2_takeNumber_109 : decode cX2_takeNumber 109 = .ok (.iconst 3, 1) := by decide +kernel
theorem dX2_takeNumber_110 : decode cX2_takeNumber 110 = .ok (.if_icmp .gt 15, 3) := by decide +kernel
theorem dX2_takeNumber_113 : decode cX2_takeNumber 113 = .ok (.iload 4, 2) := by decide +kernel
theorem dX2_takeNumber_115 : decode cX2_takeNumber 115 = .ok (.iload_n 1, 1) := by decide +kernel
theorem dX2_takeNumber_116 : decode cX2_takeNumber 116 = .ok (.if_icmp .lt 9, 3) := by decide +kernel
theorem dX2_takeNumber_119 : decode cX2_takeNumber 119 = .ok (.iload 4, 2) := by decide +kernel
theorem dX2_takeNumber_121 : decode cX2_takeNumber 121 = .ok (.iload_n 2, 1) := by decide +kernel
theorem dX2_takeNumber_122 : decode cX2_takeNumber 122 = .ok (.if_icmp .le 9, 3) := by decide +kernel
theorem dX2_takeNumber_125 : decode cX2_takeNumber 125 = .ok (.aload_n 0, 1) := by decide +kernel
theorem dX2_takeNumber_126 : decode cX2_takeNumber 126 = .ok (.iconst 2, 1) := by decide +kernel
theorem dX2_takeNumber_127 : decode cX2_takeNumber 127 = .ok (.iload_n 3, 1) := by decide +kernel
theorem dX2_takeNumber_128 : decode cX2_takeNumber 128 = .ok (.invokevirtual 66, 3) := by decide +kernel
theorem dX2_takeNumber_131 : decode cX2_takeNumber 131 = .ok (.iload 4, 2) := by decide +kernel
theorem dX2_takeNumber_133 : decode cX2_takeNumber 133 = .ok (.ireturn, 1) := by decide +kernel
theorem dX2_fail_0 : decode cX2_fail 0 = .ok (.aload_n 0, 1) := by decide +kernel
theorem dX2_fail_1 : decode cX2_fail 1 = .ok (.iload_n 1, 1) := by decide +kernel
theorem dX2_fail_2 : decode cX2_fail 2 = .ok (.putfield 38, 3) := by decide +kernel
theorem dX2_fail_5 : decode cX2_fail 5 = .ok (.aload_n 0, 1) := by decide +kernel
theorem dX2_fail_6 : decode cX2_fail 6 = .ok (.iload_n 2, 1) := by decide +kernel
theorem dX2_fail_7 : decode cX2_fail 7 = .ok (.putfield 41, 3) := by decide +kernel
theorem dX2_fail_10 : decode cX2_fail 10 = .ok (.return_, 1) := by decide +kernel
theorem dX3_init_0 : decode cX3_init 0 = .ok (.aload_n 0, 1) := by decide +kernel
theorem dX3_init_1 : decode cX3_init 1 = .ok (.invokespecial 3, 3) := by decide +kernel
theorem dX3_init_4 : decode cX3_init 4 = .ok (.aload_n 0, 1) := by decide +kernel
theorem dX3_init_5 : decode cX3_init 5 = .ok (.bipush 9, 2) := by decide +kernel
theorem dX3_init_7 : decode cX3_init 7 = .ok (.newarray .int, 2) := by decide +kernel
theorem dX3_init_9 : decode cX3_init 9 = .ok (.putfield 9, 3) := by decide +kernel
theorem dX3_init_12 : decode cX3_init 12 = .ok (.aload_n 0, 1) := by decide +kernel
theorem dX3_init_13 : decode cX3_init 13 = .ok (.bipush 9, 2) := by decide +kernel
theorem dX3_init_15 : decode cX3_init 15 = .ok (.newarray .int, 2) := by decide +kernel
theorem dX3_init_17 : decode cX3_init 17 = .ok (.putfield 15, 3) := by decide +kernel
theorem dX3_init_20 : decode cX3_init 20 = .ok (.aload_n 0, 1) := by decide +kernel
theorem dX3_init_21 : decode cX3_init 21 = .ok (.bipush 9, 2) := by decide +kernel
theorem dX3_init_23 : decode cX3_init 23 = .ok (.newarray .int, 2) := by decide +kernel
theorem dX3_init_25 : decode cX3_init 25 = .ok (.putfield 18, 3) := by decide +kernel
theorem dX3_init_28 : decode cX3_init 28 = .ok (.aload_n 0, 1) := by decide +kernel
theorem dX3_init_29 : decode cX3_init 29 = .ok (.bipush 9, 2) := by decide +kernel
theorem dX3_init_31 : decode cX3_init 31 = .ok (.newarray .int, 2) := by decide +kernel
theorem dX3_init_33 : decode cX3_init 33 = .ok (.putfield 21, 3) := by decide +kernel
theorem dX3_init_36 : decode cX3_init 36 = .ok (.aload_n 0, 1) := by decide +kernel
theorem dX3_init_37 : decode cX3_init 37 = .ok (.bipush 9, 2) := by decide +kernel
theorem dX3_init_39 : decode cX3_init 39 = .ok (.newarray .int, 2) := by decide +kernel
theorem dX3_init_41 : decode cX3_init 41 = .ok (.putfield 24, 3) := by decide +kernel
theorem dX3_init_44 : decode cX3_init 44 = .ok (.aload_n 0, 1) := by decide +kernel
theorem dX3_init_45 : decode cX3_init 45 = .ok (.bipush 9, 2) := by decide +kernel
theorem dX3_init_47 : decode cX3_init 47 = .ok (.newarray .int, 2) := by decide +kernel
theorem dX3_init_49 : decode cX3_init 49 = .ok (.putfield 27, 3) := by decide +kernel
theorem dX3_init_52 : decode cX3_init 52 = .ok (.aload_n 0, 1) := by decide +kernel
theorem dX3_init_53 : decode cX3_init 53 = .ok (.bipush 9, 2) := by decide +kernel
theorem dX3_init_55 : decode cX3_init 55 = .ok (.newarray .int, 2) := by decide +kernel
theorem dX3_init_57 : decode cX3_init 57 = .ok (.putfield 30, 3) := by decide +kernel
theorem dX3_init_60 : decode cX3_init 60 = .ok (.aload_n 0, 1) := by decide +kernel
theorem dX3_init_61 : decode cX3_init 61 = .ok (.iconst (-1), 1) := by decide +kernel
theorem dX3_init_62 : decode cX3_init 62 = .ok (.putfield 33, 3) := by decide +kernel
theorem dX3_init_65 : decode cX3_init 65 = .ok (.iconst 0, 1) := by decide +kernel
theorem dX3_init_66 : decode cX3_init 66 = .ok (.istore_n 1, 1) := by decide +kernel
theorem dX3_init_67 : decode cX3_init 67 = .ok (.iload_n 1, 1) := by decide +kernel
theorem dX3_init_68 : decode cX3_init 68 = .ok (.bipush 9, 2) := by decide +kernel
theorem dX3_init_70 : decode cX3_init 70 = .ok (.if_icmp .ge 16, 3) := by decide +kernel
theorem dX3_init_73 : decode cX3_init 73 = .ok (.aload_n 0, 1) := by decide +kernel
theorem dX3_init_74 : decode cX3_init 74 = .ok (.getfield 30, 3) := by decide +kernel
theorem dX3_init_77 : decode cX3_init 77 = .ok (.iload_n 1, 1) := by decide +kernel
theorem dX3_init_78 : decode cX3_init 78 = .ok (.iconst (-1), 1) := by decide +kernel
theorem dX3_init_79 : decode cX3_init 79 = .ok (.iastore, 1) := by decide +kernel
theorem dX3_init_80 : decode cX3_init 80 = .ok (.iinc 1 1, 3) := by decide +kernel
theorem dX3_init_83 : decode cX3_init 83 = .ok (.goto (-16), 3) := by decide +kernel
theorem dX3_init_86 : decode cX3_init 86 = .ok (.return_, 1) := by decide +kernel
theorem dX3_copy_0 : decode cX3_copy 0 = .ok (.aload_n 1, 1) := by decide +kernel
theorem dX3_copy_1 : decode cX3_copy 1 = .ok (.getfield 9, 3) := by decide +kernel
theorem dX3_copy_4 : decode cX3_copy 4 = .ok (.iconst 0, 1) := by decide +kernel
theorem dX3_copy_5 : decode cX3_copy 5 = .ok (.aload_n 0, 1) := by decide +kernel
theorem dX3_copy_6 : decode cX3_copy 6 = .ok (.getfield 9, 3) := by decide +kernel
theorem dX3_copy_9 : decode cX3_copy 9 = .ok (.iconst 0, 1) := by decide +kernel
theorem dX3_copy_10 : decode cX3_copy 10 = .ok (.bipush 9, 2) := by decide +kernel
theorem dX3_copy_12 : decode cX3_copy 12 = .ok (.invokestatic 37, 3) := by decide +kernel
theorem dX3_copy_15 : decode cX3_copy 15 = .ok (.aload_n 1, 1) := by decide +kernel
theorem dX3_copy_16 : decode cX3_copy 16 = .ok (.getfield 15, 3) := by decide +kernel
theorem dX3_copy_19 : decode cX3_copy 19 = .ok (.iconst 0, 1) := by decide +kernel
theorem dX3_copy_20 : decode cX3_copy 20 = .ok (.aload_n 0, 1) := by decide +kernel
theorem dX3_copy_21 : decode cX3_copy 21 = .ok (.getfield 15, 3) := by decide +kernel
theorem dX3_copy_24 : decode cX3_copy 24 = .ok (.iconst 0, 1) := by decide +kernel
theorem dX3_copy_25 : decode cX3_copy 25 = .ok (.bipush 9, 2) := by decide +kernel
theorem dX3_copy_27 : decode cX3_copy 27 = .ok (.invokestatic 37, 3) := by decide +kernel
theorem dX3_copy_30 : decode cX3_copy 30 = .ok (.aload_n 1, 1) := by decide +kernel
theorem dX3_copy_31 : decode cX3_copy 31 = .ok (.getfield 18, 3) := by decide +kernel
theorem dX3_copy_34 : decode cX3_copy 34 = .ok (.iconst 0, 1) := by decide +kernel
theorem dX3_copy_35 : decode cX3_copy 35 = .ok (.aload_n 0, 1) := by decide +kernel
theorem dX3_copy_36 : decode cX3_copy 36 = .ok (.getfield 18, 3) := by decide +kernel
theorem dX3_copy_39 : decode cX3_copy 39 = .ok (.iconst 0, 1) := by decide +kernel
theorem dX3_copy_40 : decode cX3_copy 40 = .ok (.bipush 9, 2) := by decide +kernel
theorem dX3_copy_42 : decode cX3_copy 42 = .ok (.invokestatic 37, 3) := by decide +kernel
theorem dX3_copy_45 : decode cX3_copy 45 = .ok (.aload_n 1, 1) := by decide +kernel
theorem dX3_copy_46 : decode cX3_copy 46 = .ok (.getfield 21, 3) := by decide +kernel
theorem dX3_copy_49 : decode cX3_copy 49 = .ok (.iconst 0, 1) := by decide +kernel
theorem dX3_copy_50 : decode cX3_copy 50 = .ok (.aload_n 0, 1) := by decide +kernel
theorem dX3_copy_51 : decode cX3_copy 51 = .ok (.getfield 21, 3) := by decide +kernel
theorem dX3_copy_54 : decode cX3_copy 54 = .ok (.iconst 0, 1) := by decide +kernel
theorem dX3_copy_55 : decode cX3_copy 55 = .ok (.bipush 9, 2) := by decide +kernel
theorem dX3_copy_57 : decode cX3_copy 57 = .ok (.invokestatic 37, 3) := by decide +kernel
theorem dX3_copy_60 : decode cX3_copy 60 = .ok (.aload_n 1, 1) := by decide +kernel
theorem dX3_copy_61 : decode cX3_copy 61 = .ok (.getfield 24, 3) := by decide +kernel
theorem dX3_copy_64 : decode cX3_copy 64 = .ok (.iconst 0, 1) := by decide +kernel
theorem dX3_copy_65 : decode cX3_copy 65 = .ok (.aload_n 0, 1) := by decide +kernel
theorem dX3_copy_66 : decode cX3_copy 66 = .ok (.getfield 24, 3) := by decide +kernel
theorem dX3_copy_69 : decode cX3_copy 69 = .ok (.iconst 0, 1) := by decide +kernel
theorem dX3_copy_70 : decode cX3_copy 70 = .ok (.bipush 9, 2) := by decide +kernel
theorem dX3_copy_72 : decode cX3_copy 72 = .ok (.invokestatic 37, 3) := by decide +kernel
theorem dX3_copy_75 : decode cX3_copy 75 = .ok (.aload_n 1, 1) := by decide +kernel
theorem dX3_copy_76 : decode cX3_copy 76 = .ok (.getfield 27, 3) := by decide +kernel
theorem dX3_copy_79 : decode cX3_copy 79 = .ok (.iconst 0, 1) := by decide +kernel
theorem dX3_copy_80 : decode cX3_copy 80 = .ok (.aload_n 0, 1) := by decide +kernel
theorem dX3_copy_81 : decode cX3_copy 81 = .ok (.getfield 27, 3) := by decide +kernel
theorem dX3_copy_84 : decode cX3_copy 84 = .ok (.iconst 0, 1) := by decide +kernel
theorem dX3_copy_85 : decode cX3_copy 85 = .ok (.bipush 9, 2) := by decide +kernel
theorem dX3_copy_87 : decode cX3_copy 87 = .ok (.invokestatic 37, 3) := by decide +kernel
theorem dX3_copy_90 : decode cX3_copy 90 = .ok (.aload_n 1, 1) := by decide +kernel
theorem dX3_copy_91 : decode cX3_copy 91 = .ok (.getfield 30, 3) := by decide +kernel
theorem dX3_copy_94 : decode cX3_copy 94 = .ok (.iconst 0, 1) := by decide +kernel
theorem dX3_copy_95 : decode cX3_copy 95 = .ok (.aload_n 0, 1) := by decide +kernel
theorem dX3_copy_96 : decode cX3_copy 96 = .ok (.getfield 30, 3) := by decide +kernel
theorem dX3_copy_99 : decode cX3_copy 99 = .ok (.iconst 0, 1) := by decide +kernel
theorem dX3_copy_100 : decode cX3_copy 100 = .ok (.bipush 9, 2) := by decide +kernel
theorem dX3_copy_102 : decode cX3_copy 102 = .ok (.invokestatic 37, 3) := by decide +kernel
theorem dX3_copy_105 : decode cX3_copy 105 = .ok (.aload_n 0, 1) := by decide +kernel
theorem dX3_copy_106 : decode cX3_copy 106 = .ok (.aload_n 1, 1) := by decide +kernel
theorem dX3_copy_107 : decode cX3_copy 107 = .ok (.getfield 33, 3) := by decide +kernel
theorem dX3_copy_110 : decode cX3_copy 110 = .ok (.putfield 33, 3) := by decide +kernel
theorem dX3_copy_113 : decode cX3_copy 113 = .ok (.aload_n 0, 1) := by decide +kernel
theorem dX3_copy_114 : decode cX3_copy 114 = .ok (.aload_n 1, 1) := by decide +kernel
theorem dX3_copy_115 : decode cX3_copy 115 = .ok (.getfield 43, 3) := by decide +kernel
theorem dX3_copy_118 : decode cX3_copy 118 = .ok (.putfield 43, 3) := by decide +kernel
theorem dX3_copy_121 : decode cX3_copy 121 = .ok (.aload_n 0, 1) := by decide +kernel
theorem dX3_copy_122 : decode cX3_copy 122 = .ok (.aload_n 1, 1) := by decide +kernel
theorem dX3_copy_123 : decode cX3_copy 123 = .ok (.getfield 46, 3) := by decide +kernel
theorem dX3_copy_126 : decode cX3_copy 126 = .ok (.putfield 46, 3) := by decide +kernel
theorem dX3_copy_129 : decode cX3_copy 129 = .ok (.aload_n 0, 1) := by decide +kernel
theorem dX3_copy_130 : decode cX3_copy 130 = .ok (.aload_n 1, 1) := by decide +kernel
theorem dX3_copy_131 : decode cX3_copy 131 = .ok (.getfield 49, 3) := by decide +kernel
theorem dX3_copy_134 : decode cX3_copy 134 = .ok (.putfield 49, 3) := by decide +kernel
theorem dX3_copy_137 : decode cX3_copy 137 = .ok (.aload_n 0, 1) := by decide +kernel
theorem dX3_copy_138 : decode cX3_copy 138 = .ok (.aload_n 1, 1) := by decide +kernel
theorem dX3_copy_139 : decode cX3_copy 139 = .ok (.getfield 52, 3) := by decide +kernel
theorem dX3_copy_142 : decode cX3_copy 142 = .ok (.putfield 52, 3) := by decide +kernel
theorem dX3_copy_145 : decode cX3_copy 145 = .ok (.return_, 1) := by decide +kernel
theorem dX3_found_0 : decode cX3_found 0 = .ok (.aload_n 0, 1) := by decide +kernel
theorem dX3_found_1 : decode cX3_found 1 = .ok (.aload_n 1, 1) := by decide +kernel
theorem dX3_found_2 : decode cX3_found 2 = .ok (.getfield 55, 3) := by decide +kernel
theorem dX3_found_5 : decode cX3_found 5 = .ok (.putfield 33, 3) := by decide +kernel
theorem dX3_found_8 : decode cX3_found 8 = .ok (.aload_n 0, 1) := by decide +kernel
theorem dX3_found_9 : decode cX3_found 9 = .ok (.aload_n 1, 1) := by decide +kernel
theorem dX3_found_10 : decode cX3_found 10 = .ok (.getfield 58, 3) := by decide +kernel
theorem dX3_found_13 : decode cX3_found 13 = .ok (.putfield 43, 3) := by decide +kernel
theorem dX3_found_16 : decode cX3_found 16 = .ok (.iconst 0, 1) := by decide +kernel
theorem dX3_found_17 : decode cX3_found 17 = .ok (.istore_n 2, 1) := by decide +kernel
theorem dX3_found_18 : decode cX3_found 18 = .ok (.iload_n 2, 1) := by decide +kernel
theorem dX3_found_19 : decode cX3_found 19 = .ok (.bipush 9, 2) := by decide +kernel
theorem dX3_found_21 : decode cX3_found 21 = .ok (.if_icmp .ge 85, 3) := by decide +kernel
theorem dX3_found_24 : decode cX3_found 24 = .ok (.aload_n 0, 1) := by decide +kernel
theorem dX3_found_25 : decode cX3_found 25 = .ok (.getfield 9, 3) := by decide +kernel
theorem dX3_found_28 : decode cX3_found 28 = .ok (.iload_n 2, 1) := by decide +kernel
theorem dX3_found_29 : decode cX3_found 29 = .ok (.aload_n 1, 1) := by decide +kernel
theorem dX3_found_30 : decode cX3_found 30 = .ok (.getfield 59, 3) := by decide +kernel
theorem dX3_found_33 : decode cX3_found 33 = .ok (.iload_n 2, 1) := by decide +kernel
theorem dX3_found_34 : decode cX3_found 34 = .ok (.iaload, 1) := by decide +kernel
theorem dX3_found_35 : decode cX3_found 35 = .ok (.iastore, 1) := by decide +kernel
theorem dX3_found_36 : decode cX3_found 36 = .ok (.aload_n 0, 1) := by decide +kernel
theorem dX3_found_37 : decode cX3_found 37 = .ok (.getfield 15, 3) := by decide +kernel
theorem dX3_found_40 : decode cX3_found 40 = .ok (.iload_n 2, 1) := by decide +kernel
theorem dX3_found_41 : decode cX3_found 41 = .ok (.aload_n 1, 1) := by decide +kernel
theorem dX3_found_42 : decode cX3_found 42 = .ok (.getfield 60, 3) := by decide +kernel
theorem dX3_found_45 : decode cX3_found 45 = .ok (.iload_n 2, 1) := by decide +kernel
theorem dX3_found_46 : decode cX3_found 46 = .ok (.iaload, 1) := by decide +kernel
theorem dX3_found_47 : decode cX3_found 47 = .ok (.iastore, 1) := by decide +kernel
theorem dX3_found_48 : decode cX3_found 48 = .ok (.aload_n 0, 1) := by decide +kernel
theorem dX3_found_49 : decode cX3_found 49 = .ok (.getfield 18, 3) := by decide +kernel
theorem dX3_found_52 : decode cX3_found 52 = .ok (.iload_n 2, 1) := by decide +kernel
theorem dX3_found_53 : decode cX3_found 53 = .ok (.aload_n 1, 1) := by decide +kernel
theorem dX3_found_54 : decode cX3_found 54 = .ok (.getfield 61, 3) := by decide +kernel
theorem dX3_found_57 : decode cX3_found 57 = .ok (.iload_n 2, 1) := by decide +kernel
theorem dX3_found_58 : decode cX3_found 58 = .ok (.iaload, 1) := by decide +kernel
theorem dX3_found_59 : decode cX3_found 59 = .ok (.iastore, 1) := by decide +kernel
theorem dX3_found_60 : decode cX3_found 60 = .ok (.aload_n 0, 1) := by decide +kernel
theorem dX3_found_61 : decode cX3_found 61 = .ok (.getfield 21, 3) := by decide +kernel
theorem dX3_found_64 : decode cX3_found 64 = .ok (.iload_n 2, 1) := by decide +kernel
theorem dX3_found_65 : decode cX3_found 65 = .ok (.iload_n 2, 1) := by decide +kernel
theorem dX3_found_66 : decode cX3_found 66 = .ok (.iastore, 1) := by decide +kernel
theorem dX3_found_67 : decode cX3_found 67 = .ok (.aload_n 0, 1) := by decide +kernel
theorem dX3_found_68 : decode cX3_found 68 = .ok (.getfield 24, 3) := by decide +kernel
theorem dX3_found_71 : decode cX3_found 71 = .ok (.iload_n 2, 1) := by decide +kernel
theorem dX3_found_72 : decode cX3_found 72 = .ok (.iconst 0, 1) := by decide +kernel
theorem dX3_found_73 : decode cX3_found 73 = .ok (.iastore, 1) := by decide +kernel
theorem dX3_found_74 : decode cX3_found 74 = .ok (.aload_n 0, 1) := by decide +kernel
theorem dX3_found_75 : decode cX3_found 75 = .ok (.getfield 27, 3) := by decide +kernel
theorem dX3_found_78 : decode cX3_found 78 = .ok (.iload_n 2, 1) := by decide +kernel
theorem dX3_found_79 : decode cX3_found 79 = .ok (.iconst (-1), 1) := by decide +kernel
theorem dX3_found_80 : decode cX3_found 80 = .ok (.iastore, 1) := by decide +kernel
theorem dX3_found_81 : decode cX3_found 81 = .ok (.aload_n 0, 1) := by decide +kernel
theorem dX3_found_82 : decode cX3_found 82 = .ok (.getfield 30, 3) := by decide +kernel
theorem dX3_found_85 : decode cX3_found 85 = .ok (.iload_n 2, 1) := by decide +kernel
theorem dX3_found_86 : decode cX3_found 86 = .ok (.iload_n 2, 1) := by decide +kernel
theorem dX3_found_87 : decode cX3_found 87 = .ok (.aload_n 0, 1) := by decide +kernel
theorem dX3_found_88 : decode cX3_found 88 = .ok (.getfield 43, 3) := by decide +kernel
theorem dX3_found_91 : decode cX3_found 91 = .ok (.if_icmp .ge 7, 3) := by decide +kernel
theorem dX3_found_94 : decode cX3_found 94 = .ok (.iload_n 2, 1) := by decide +kernel
theorem dX3_found_95 : decode cX3_found 95 = .ok (.goto 4, 3) := by decide +kernel
theorem dX3_found_98 : decode cX3_found 98 = .ok (.iconst (-1), 1) := by decide +kernel
theorem dX3_found_99 : decode cX3_found 99 = .ok (.iastore, 1) := by decide +kernel
theorem dX3_found_100 : decode cX3_found 100 = .ok (.iinc 2 1, 3) := by decide +kernel
theorem dX3_found_103 : decode cX3_found 103 = .ok (.goto (-85), 3) := by decide +kernel
theorem dX3_found_106 : decode cX3_found 106 = .ok (.aload_n 0, 1) := by decide +kernel
theorem dX3_found_107 : decode cX3_found 107 = .ok (.invokevirtual 62, 3) := by decide +kernel
theorem dX3_found_110 : decode cX3_found 110 = .ok (.aload_n 0, 1) := by decide +kernel
theorem dX3_found_111 : decode cX3_found 111 = .ok (.iconst 0, 1) := by decide +kernel
theorem dX3_found_112 : decode cX3_found 112 = .ok (.putfield 49, 3) := by decide +kernel
theorem dX3_found_115 : decode cX3_found 115 = .ok (.aload_n 0, 1) := by decide +kernel
theorem dX3_found_116 : decode cX3_found 116 = .ok (.iconst 0, 1) := by decide +kernel
theorem dX3_found_117 : decode cX3_found 117 = .ok (.putfield 52, 3) := by decide +kernel
theorem dX3_found_120 : decode cX3_found 120 = .ok (.return_, 1) := by decide +kernel
theorem dX3_isCounty_0 : decode cX3_isCounty 0 = .ok (.aload_n 0, 1) := by decide +kernel
theorem dX3_isCounty_1 : decode cX3_isCounty 1 = .ok (.getfield 33, 3) := by decide +kernel
theorem dX3_isCounty_4 : decode cX3_isCounty 4 = .ok (.iconst (-1), 1) := by decide +kernel
theorem dX3_isCounty_5 : decode cX3_isCounty 5 = .ok (.if_icmp .eq 7, 3) := by decide +kernel
theorem dX3_isCounty_8 : decode cX3_isCounty 8 = .ok (.iconst 1, 1) := by decide +kernel
theorem dX3_isCounty_9 : decode cX3_isCounty 9 = .ok (.goto 4, 3) := by decide +kernel
theorem dX3_isCounty_12 : decode cX3_isCounty 12 = .ok (.iconst 0, 1) := by decide +kernel
theorem dX3_isCounty_13 : decode cX3_isCounty 13 = .ok (.ireturn, 1) := by decide +kernel
theorem dX3_has_0 : decode cX3_has 0 = .ok (.iload_n 1, 1) := by decide +kernel
theorem dX3_has_1 : decode cX3_has 1 = .ok (.ifCond .lt 21, 3) := by decide +kernel
theorem dX3_has_4 : decode cX3_has 4 = .ok (.iload_n 1, 1) := by decide +kernel
theorem dX3_has_5 : decode cX3_has 5 = .ok (.aload_n 0, 1) := by decide +kernel
theorem dX3_has_6 : decode cX3_has 6 = .ok (.getfield 43, 3) := by decide +kernel
theorem dX3_has_9 : decode cX3_has 9 = .ok (.if_icmp .ge 13, 3) := by decide +kernel
theorem dX3_has_12 : decode cX3_has 12 = .ok (.iload_n 1, 1) := by decide +kernel
theorem dX3_has_13 : decode cX3_has 13 = .ok (.bipush 9, 2) := by decide +kernel
theorem dX3_has_15 : decode cX3_has 15 = .ok (.if_icmp .ge 7, 3) := by decide +kernel
theorem dX3_has_18 : decode cX3_has 18 = .ok (.iconst 1, 1) := by decide +kernel
theorem dX3_has_19 : decode cX3_has 19 = .ok (.goto 4, 3) := by decide +kernel
theorem dX3_has_22 : decode cX3_has 22 = .ok (.iconst 0, 1) := by decide +kernel
theorem dX3_has_23 : decode cX3_has 23 = .ok (.ireturn, 1) := by decide +kernel
theorem dX3_hasAll_0 : decode cX3_hasAll 0 = .ok (.iload_n 1, 1) := by decide +kernel
theorem dX3_hasAll_1 : decode cX3_hasAll 1 = .ok (.ifCond .lt 17, 3) := by decide +kernel
theorem dX3_hasAll_4 : decode cX3_hasAll 4 = .ok (.iload_n 1, 1) := by decide +kernel
theorem dX3_hasAll_5 : decode cX3_hasAll 5 = .ok (.iconst 1, 1) := by decide +kernel
theorem dX3_hasAll_6 : decode cX3_hasAll 6 = .ok (.aload_n 0, 1) := by decide +kernel
theorem dX3_hasAll_7 : decode cX3_hasAll 7 = .ok (.getfield 43, 3) := by decide +kernel
theorem dX3_hasAll_10 : decode cX3_hasAll 10 = .ok (.ishl, 1) := by decide +kernel
theorem dX3_hasAll_11 : decode cX3_hasAll 11 = .ok (.if_icmp .ge 7, 3) := by decide +kernel
theorem dX3_hasAll_14 : decode cX3_hasAll 14 = .ok (.iconst 1, 1) := by decide +kernel
theorem dX3_hasAll_15 : decode cX3_hasAll 15 = .ok (.goto 4, 3) := by decide +kernel
theorem dX3_hasAll_18 : decode cX3_hasAll 18 = .ok (.iconst 0, 1) := by decide +kernel
theorem dX3_hasAll_19 : decode cX3_hasAll 19 = .ok (.ireturn, 1) := by decide +kernel
theorem dX3_stands_0 : decode cX3_stands 0 = .ok (.aload_n 0, 1) := by decide +kernel
theorem dX3_stands_1 : decode cX3_stands 1 = .ok (.iload_n 1, 1) := by decide +kernel
theorem dX3_stands_2 : decode cX3_stands 2 = .ok (.invokevirtual 65, 3) := by decide +kernel
theorem dX3_stands_5 : decode cX3_stands 5 = .ok (.ifCond .eq 19, 3) := by decide +kernel
theorem dX3_stands_8 : decode cX3_stands 8 = .ok (.aload_n 0, 1) := by decide +kernel
theorem dX3_stands_9 : decode cX3_stands 9 = .ok (.getfield 46, 3) := by decide +kernel
theorem dX3_stands_12 : decode cX3_stands 12 = .ok (.iload_n 1, 1) := by decide +kernel
theorem dX3_stands_13 : decode cX3_stands 13 = .ok (.ishr, 1) := by decide +kernel
theorem dX3_stands_14 : decode cX3_stands 14 = .ok (.iconst 1, 1) := by decide +kernel
theorem dX3_stands_15 : decode cX3_stands 15 = .ok (.iand, 1) := by decide +kernel
theorem dX3_stands_16 : decode cX3_stands 16 = .ok (.iconst 1, 1) := by decide +kernel
theorem dX3_stands_17 : decode cX3_stands 17 = .ok (.if_icmp .ne 7, 3) := by decide +kernel
theorem dX3_stands_20 : decode cX3_stands 20 = .ok (.iconst 1, 1) := by decide +kernel
theorem dX3_stands_21 : decode cX3_stands 21 = .ok (.goto 4, 3) := by decide +kernel
theorem dX3_stands_24 : decode cX3_stands 24 = .ok (.iconst 0, 1) := by decide +kernel
theorem dX3_stands_25 : decode cX3_stands 25 = .ok (.ireturn, 1) := by decide +kernel
theorem dX3_lies_0 : decode cX3_lies 0 = .ok (.aload_n 0, 1) := by decide +kernel
theorem dX3_lies_1 : decode cX3_lies 1 = .ok (.iload_n 1, 1) := by decide +kernel
theorem dX3_lies_2 : decode cX3_lies 2 = .ok (.invokevirtual 65, 3) := by decide +kernel
theorem dX3_lies_5 : decode cX3_lies 5 = .ok (.ifCond .eq 18, 3) := by decide +kernel
theorem dX3_lies_8 : decode cX3_lies 8 = .ok (.aload_n 0, 1) := by decide +kernel
theorem dX3_lies_9 : decode cX3_lies 9 = .ok (.getfield 46, 3) := by decide +kernel
theorem dX3_lies_12 : decode cX3_lies 12 = .ok (.iload_n 1, 1) := by decide +kernel
theorem dX3_lies_13 : decode cX3_lies 13 = .ok (.ishr, 1) := by decide +kernel
theorem dX3_lies_14 : decode cX3_lies 14 = .ok (.iconst 1, 1) := by decide +kernel
theorem dX3_lies_15 : decode cX3_lies 15 = .ok (.iand, 1) := by decide +kernel
theorem dX3_lies_16 : decode cX3_lies 16 = .ok (.ifCond .ne 7, 3) := by decide +kernel
theorem dX3_lies_19 : decode cX3_lies 19 = .ok (.iconst 1, 1) := by decide +kernel
theorem dX3_lies_20 : decode cX3_lies 20 = .ok (.goto 4, 3) := by decide +kernel
theorem dX3_lies_23 : decode cX3_lies 23 = .ok (.iconst 0, 1) := by decide +kernel
theorem dX3_lies_24 : decode cX3_lies 24 = .ok (.ireturn, 1) := by decide +kernel
theorem dX3_standAll_0 : decode cX3_standAll 0 = .ok (.aload_n 0, 1) := by decide +kernel
theorem dX3_standAll_1 : decode cX3_standAll 1 = .ok (.iconst 1, 1) := by decide +kernel
theorem dX3_standAll_2 : decode cX3_standAll 2 = .ok (.aload_n 0, 1) := by decide +kernel
theorem dX3_standAll_3 : decode cX3_standAll 3 = .ok (.getfield 43, 3) := by decide +kernel
theorem dX3_standAll_6 : decode cX3_standAll 6 = .ok (.ishl, 1) := by decide +kernel
theorem dX3_standAll_7 : decode cX3_standAll 7 = .ok (.iconst 1, 1) := by decide +kernel
theorem dX3_standAll_8 : decode cX3_standAll 8 = .ok (.isub, 1) := by decide +kernel
theorem dX3_standAll_9 : decode cX3_standAll 9 = .ok (.putfield 46, 3) := by decide +kernel
theorem dX3_standAll_12 : decode cX3_standAll 12 = .ok (.return_, 1) := by decide +kernel
theorem dX3_bears_0 : decode cX3_bears 0 = .ok (.aload_n 0, 1) := by decide +kernel
theorem dX3_bears_1 : decode cX3_bears 1 = .ok (.iload_n 1, 1) := by decide +kernel
theorem dX3_bears_2 : decode cX3_bears 2 = .ok (.invokevirtual 65, 3) := by decide +kernel
theorem dX3_bears_5 : decode cX3_bears 5 = .ok (.ifCond .ne 5, 3) := by decide +kernel
theorem dX3_bears_8 : decode cX3_bears 8 = .ok (.iconst 1, 1) := by decide +kernel
theorem dX3_bears_9 : decode cX3_bears 9 = .ok (.ireturn, 1) := by decide +kernel
theorem dX3_bears_10 : decode cX3_bears 10 = .ok (.aload_n 0, 1) := by decide +kernel
theorem dX3_bears_11 : decode cX3_bears 11 = .ok (.getfield 15, 3) := by decide +kernel
theorem dX3_bears_14 : decode cX3_bears 14 = .ok (.iload_n 1, 1) := by decide +kernel
theorem dX3_bears_15 : decode cX3_bears 15 = .ok (.iaload, 1) := by decide +kernel
theorem dX3_bears_16 : decode cX3_bears 16 = .ok (.aload_n 0, 1) := by decide +kernel
theorem dX3_bears_17 : decode cX3_bears 17 = .ok (.getfield 18, 3) := by decide +kernel
theorem dX3_bears_20 : decode cX3_bears 20 = .ok (.iload_n 1, 1) := by decide +kernel
theorem dX3_bears_21 : decode cX3_bears 21 = .ok (.iaload, 1) := by decide +kernel
theorem dX3_bears_22 : decode cX3_bears 22 = .ok (.isub, 1) := by decide +kernel
theorem dX3_bears_23 : decode cX3_bears 23 = .ok (.istore_n 2, 1) := by decide +kernel
theorem dX3_bears_24 : decode cX3_bears 24 = .ok (.aload_n 0, 1) := by decide +kernel
theorem dX3_bears_25 : decode cX3_bears 25 = .ok (.getfield 9, 3) := by decide +kernel
theorem dX3_bears_28 : decode cX3_bears 28 = .ok (.iload_n 1, 1) := by decide +kernel
theorem dX3_bears_29 : decode cX3_bears 29 = .ok (.iaload, 1) := by decide +kernel
theorem dX3_bears_30 : decode cX3_bears 30 = .ok (.iconst 1, 1) := by decide +kernel
theorem dX3_bears_31 : decode cX3_bears 31 = .ok (.if_icmp .ne 22, 3) := by decide +kernel
theorem dX3_bears_34 : decode cX3_bears 34 = .ok (.aload_n 0, 1) := by decide +kernel
theorem dX3_bears_35 : decode cX3_bears 35 = .ok (.getfield 15, 3) := by decide +kernel
theorem dX3_bears_38 : decode cX3_bears 38 = .ok (.iload_n 1, 1) := by decide +kernel
theorem dX3_bears_39 : decode cX3_bears 39 = .ok (.iaload, 1) := by decide +kernel
theorem dX3_bears_40 : decode cX3_bears 40 = .ok (.aload_n 0, 1) := by decide +kernel
theorem dX3_bears_41 : decode cX3_bears 41 = .ok (.getfield 18, 3) := by decide +kernel
theorem dX3_bears_44 : decode cX3_bears 44 = .ok (.iload_n 1, 1) := by decide +kernel
theorem dX3_bears_45 : decode cX3_bears 45 = .ok (.iaload, 1) := by decide +kernel
theorem dX3_bears_46 : decode cX3_bears 46 = .ok (.iconst 2, 1) := by decide +kernel
theorem dX3_bears_47 : decode cX3_bears 47 = .ok (.idiv, 1) := by decide +kernel
theorem dX3_bears_48 : decode cX3_bears 48 = .ok (.isub, 1) := by decide +kernel
theorem dX3_bears_49 : decode cX3_bears 49 = .ok (.istore_n 2, 1) := by decide +kernel
theorem dX3_bears_50 : decode cX3_bears 50 = .ok (.goto 47, 3) := by decide +kernel
theorem dX3_bears_53 : decode cX3_bears 53 = .ok (.aload_n 0, 1) := by decide +kernel
theorem dX3_bears_54 : decode cX3_bears 54 = .ok (.getfield 9, 3) := by decide +kernel
theorem dX3_bears_57 : decode cX3_bears 57 = .ok (.iload_n 1, 1) := by decide +kernel
theorem dX3_bears_58 : decode cX3_bears 58 = .ok (.iaload, 1) := by decide +kernel
theorem dX3_bears_59 : decode cX3_bears 59 = .ok (.iconst 2, 1) := by decide +kernel
theorem dX3_bears_60 : decode cX3_bears 60 = .ok (.if_icmp .ne 18, 3) := by decide +kernel
theorem dX3_bears_63 : decode cX3_bears 63 = .ok (.aload_n 0, 1) := by decide +kernel
theorem dX3_bears_64 : decode cX3_bears 64 = .ok (.getfield 21, 3) := by decide +kernel
theorem dX3_bears_67 : decode cX3_bears 67 = .ok (.iload_n 1, 1) := by decide +kernel
theorem dX3_bears_68 : decode cX3_bears 68 = .ok (.iaload, 1) := by decide +kernel
theorem dX3_bears_69 : decode cX3_bears 69 = .ok (.ifCond .ne 9, 3) := by decide +kernel
theorem dX3_bears_72 : decode cX3_bears 72 = .ok (.iinc 2 2, 3) := by decide +kernel
theorem dX3_bears_75 : decode cX3_bears 75 = .ok (.goto 22, 3) := by decide +kernel
theorem dX3_bears_78 : decode cX3_bears 78 = .ok (.aload_n 0, 1) := by decide +kernel
theorem dX3_bears_79 : decode cX3_bears 79 = .ok (.getfield 9, 3) := by decide +kernel
theorem dX3_bears_82 : decode cX3_bears 82 = .ok (.iload_n 1, 1) := by decide +kernel
theorem dX3_bears_83 : decode cX3_bears 83 = .ok (.iaload, 1) := by decide +kernel
theorem dX3_bears_84 : decode cX3_bears 84 = .ok (.iconst 3, 1) := by decide +kernel
theorem dX3_bears_85 : decode cX3_bears 85 = .ok (.if_icmp .ne 12, 3) := by decide +kernel
theorem dX3_bears_88 : decode cX3_bears 88 = .ok (.aload_n 0, 1) := by decide +kernel
theorem dX3_bears_89 : decode cX3_bears 89 = .ok (.getfield 15, 3) := by decide +kernel
theorem dX3_bears_92 : decode cX3_bears 92 = .ok (.iload_n 1, 1) := by decide +kernel
theorem dX3_bears_93 : decode cX3_bears 93 = .ok (.iaload, 1) := by decide +kernel
theorem dX3_bears_94 : decode cX3_bears 94 = .ok (.iconst 2, 1) := by decide +kernel
theorem dX3_bears_95 : decode cX3_bears 95 = .ok (.idiv, 1) := by decide +kernel
theorem dX3_bears_96 : decode cX3_bears 96 = .ok (.istore_n 2, 1) := by decide +kernel
theorem dX3_bears_97 : decode cX3_bears 97 = .ok (.iconst 1, 1) := by decide +kernel
theorem dX3_bears_98 : decode cX3_bears 98 = .ok (.iload_n 2, 1) := by decide +kernel
theorem dX3_bears_99 : decode cX3_bears 99 = .ok (.invokestatic 69, 3) := by decide +kernel
theorem dX3_bears_102 : decode cX3_bears 102 = .ok (.ireturn, 1) := by decide +kernel
theorem dX3_swap_0 : decode cX3_swap 0 = .ok (.iload_n 1, 1) := by decide +kernel
theorem dX3_swap_1 : decode cX3_swap 1 = .ok (.invokestatic 75, 3) := by decide +kernel
theorem dX3_swap_4 : decode cX3_swap 4 = .ok (.ifCond .eq 10, 3) := by decide +kernel
theorem dX3_swap_7 : decode cX3_swap 7 = .ok (.iload_n 2, 1) := by decide +kernel
theorem dX3_swap_8 : decode cX3_swap 8 = .ok (.invokestatic 75, 3) := by decide +kernel
theorem dX3_swap_11 : decode cX3_swap 11 = .ok (.ifCond .ne 4, 3) := by decide +kernel
theorem dX3_swap_14 : decode cX3_swap 14 = .ok (.return_, 1) := by decide +kernel
theorem dX3_swap_15 : decode cX3_swap 15 = .ok (.aload_n 0, 1) := by decide +kernel
theorem dX3_swap_16 : decode cX3_swap 16 = .ok (.getfield 30, 3) := by decide +kernel
theorem dX3_swap_19 : decode cX3_swap 19 = .ok (.iload_n 1, 1) := by decide +kernel
theorem dX3_swap_20 : decode cX3_swap 20 = .ok (.iaload, 1) := by decide +kernel
theorem dX3_swap_21 : decode cX3_swap 21 = .ok (.istore_n 3, 1) := by decide +kernel
theorem dX3_swap_22 : decode cX3_swap 22 = .ok (.aload_n 0, 1) := by decide +kernel
theorem dX3_swap_23 : decode cX3_swap 23 = .ok (.getfield 30, 3) := by decide +kernel
theorem dX3_swap_26 : decode cX3_swap 26 = .ok (.iload_n 2, 1) := by decide +kernel
theorem dX3_swap_27 : decode cX3_swap 27 = .ok (.iaload, 1) := by decide +kernel
theorem dX3_swap_28 : decode cX3_swap 28 = .ok (.istore 4, 2) := by decide +kernel
theorem dX3_swap_30 : decode cX3_swap 30 = .ok (.aload_n 0, 1) := by decide +kernel
theorem dX3_swap_31 : decode cX3_swap 31 = .ok (.iload_n 3, 1) := by decide +kernel
theorem dX3_swap_32 : decode cX3_swap 32 = .ok (.iload_n 2, 1) := by decide +kernel
theorem dX3_swap_33 : decode cX3_swap 33 = .ok (.invokevirtual 78, 3) := by decide +kernel
theorem dX3_swap_36 : decode cX3_swap 36 = .ok (.aload_n 0, 1) := by decide +kernel
theorem dX3_swap_37 : decode cX3_swap 37 = .ok (.iload 4, 2) := by decide +kernel
theorem dX3_swap_39 : decode cX3_swap 39 = .ok (.iload_n 1, 1) := by decide +kernel
theorem dX3_swap_40 : decode cX3_swap 40 = .ok (.invokevirtual 78, 3) := by decide +kernel
theorem dX3_swap_43 : decode cX3_swap 43 = .ok (.return_, 1) := by decide +kernel
theorem dX3_put_0 : decode cX3_put 0 = .ok (.aload_n 0, 1) := by decide +kernel
theorem dX3_put_1 : decode cX3_put 1 = .ok (.getfield 30, 3) := by decide +kernel
theorem dX3_put_4 : decode cX3_put 4 = .ok (.iload_n 2, 1) := by decide +kernel
theorem dX3_put_5 : decode cX3_put 5 = .ok (.iload_n 1, 1) := by decide +kernel
theorem dX3_put_6 : decode cX3_put 6 = .ok (.iastore, 1) := by decide +kernel
theorem dX3_put_7 : decode cX3_put 7 = .ok (.aload_n 0, 1) := by decide +kernel
theorem dX3_put_8 : decode cX3_put 8 = .ok (.iload_n 1, 1) := by decide +kernel
theorem dX3_put_9 : decode cX3_put 9 = .ok (.invokevirtual 65, 3) := by decide +kernel
theorem dX3_put_12 : decode cX3_put 12 = .ok (.ifCond .eq 10, 3) := by decide +kernel
theorem dX3_put_15 : decode cX3_put 15 = .ok (.aload_n 0, 1) := by decide +kernel
theorem dX3_put_16 : decode cX3_put 16 = .ok (.getfield 21, 3) := by decide +kernel
theorem dX3_put_19 : decode cX3_put 19 = .ok (.iload_n 1, 1) := by decide +kernel
theorem dX3_put_20 : decode cX3_put 20 = .ok (.iload_n 2, 1) := by decide +kernel
theorem dX3_put_21 : decode cX3_put 21 = .ok (.iastore, 1) := by decide +kernel
theorem dX3_put_22 : decode cX3_put 22 = .ok (.return_, 1) := by decide +kernel
theorem dX3_suffer_0 : decode cX3_suffer 0 = .ok (.iconst 0, 1) := by decide +kernel
theorem dX3_suffer_1 : decode cX3_suffer 1 = .ok (.istore_n 3, 1) := by decide +kernel
theorem dX3_suffer_2 : decode cX3_suffer 2 = .ok (.iload_n 3, 1) := by decide +kernel
theorem dX3_suffer_3 : decode cX3_suffer 3 = .ok (.bipush 9, 2) := by decide +kernel
theorem dX3_suffer_5 : decode cX3_suffer 5 = .ok (.if_icmp .ge 55, 3) := by decide +kernel
theorem dX3_suffer_8 : decode cX3_suffer 8 = .ok (.aload_n 0, 1) := by decide +kernel
theorem dX3_suffer_9 : decode cX3_suffer 9 = .ok (.getfield 24, 3) := by decide +kernel
theorem dX3_suffer_12 : decode cX3_suffer 12 = .ok (.iload_n 3, 1) := by decide +kernel
theorem dX3_suffer_13 : decode cX3_suffer 13 = .ok (.sipush 9999, 3) := by decide +kernel
theorem dX3_suffer_16 : decode cX3_suffer 16 = .ok (.aload_n 0, 1) := by decide +kernel
theorem dX3_suffer_17 : decode cX3_suffer 17 = .ok (.getfield 24, 3) := by decide +kernel
theorem dX3_suffer_20 : decode cX3_suffer 20 = .ok (.iload_n 3, 1) := by decide +kernel
theorem dX3_suffer_21 : decode cX3_suffer 21 = .ok (.iaload, 1) := by decide +kernel
theorem dX3_suffer_22 : decode cX3_suffer 22 = .ok (.aload_n 1, 1) := by decide +kernel
theorem dX3_suffer_23 : decode cX3_suffer 23 = .ok (.getfield 82, 3) := by decide +kernel
theorem dX3_suffer_26 : decode cX3_suffer 26 = .ok (.iload_n 3, 1) := by decide +kernel
theorem dX3_suffer_27 : decode cX3_suffer 27 = .ok (.iaload, 1) := by decide +kernel
theorem dX3_suffer_28 : decode cX3_suffer 28 = .ok (.iadd, 1) := by decide +kernel
theorem dX3_suffer_29 : decode cX3_suffer 29 = .ok (.invokestatic 85, 3) := by decide +kernel
theorem dX3_suffer_32 : decode cX3_suffer 32 = .ok (.iastore, 1) := by decide +kernel
theorem dX3_suffer_33 : decode cX3_suffer 33 = .ok (.iload_n 2, 1) := by decide +kernel
theorem dX3_suffer_34 : decode cX3_suffer 34 = .ok (.iload_n 3, 1) := by decide +kernel
theorem dX3_suffer_35 : decode cX3_suffer 35 = .ok (.ishr, 1) := by decide +kernel
theorem dX3_suffer_36 : decode cX3_suffer 36 = .ok (.iconst 1, 1) := by decide +kernel
theorem dX3_suffer_37 : decode cX3_suffer 37 = .ok (.iand, 1) := by decide +kernel
theorem dX3_suffer_38 : decode cX3_suffer 38 = .ok (.iconst 1, 1) := by decide +kernel
theorem dX3_suffer_39 : decode cX3_suffer 39 = .ok (.if_icmp .ne 15, 3) := by decide +kernel
theorem dX3_suffer_42 : decode cX3_suffer 42 = .ok (.aload_n 0, 1) := by decide +kernel
theorem dX3_suffer_43 : decode cX3_suffer 43 = .ok (.getfield 27, 3) := by decide +kernel
theorem dX3_suffer_46 : decode cX3_suffer 46 = .ok (.iload_n 3, 1) := by decide +kernel
theorem dX3_suffer_47 : decode cX3_suffer 47 = .ok (.aload_n 1, 1) := by decide +kernel
theorem dX3_suffer_48 : decode cX3_suffer 48 = .ok (.getfield 88, 3) := by decide +kernel
theorem dX3_suffer_51 : decode cX3_suffer 51 = .ok (.iload_n 3, 1) := by decide +kernel
theorem dX3_suffer_52 : decode cX3_suffer 52 = .ok (.iaload, 1) := by decide +kernel
theorem dX3_suffer_53 : decode cX3_suffer 53 = .ok (.iastore, 1) := by decide +kernel
theorem dX3_suffer_54 : decode cX3_suffer 54 = .ok (.iinc 3 1, 3) := by decide +kernel
theorem dX3_suffer_57 : decode cX3_suffer 57 = .ok (.goto (-55), 3) := by decide +kernel
theorem dX3_suffer_60 : decode cX3_suffer 60 = .ok (.aload_n 0, 1) := by decide +kernel
theorem dX3_suffer_61 : decode cX3_suffer 61 = .ok (.dup, 1) := by decide +kernel
theorem dX3_suffer_62 : decode cX3_suffer 62 = .ok (.getfield 46, 3) := by decide +kernel
theorem dX3_suffer_65 : decode cX3_suffer 65 = .ok (.iload_n 2, 1) := by decide +kernel
theorem dX3_suffer_66 : decode cX3_suffer 66 = .ok (.iconst (-1), 1) := by decide +kernel
theorem dX3_suffer_67 : decode cX3_suffer 67 = .ok (.ixor, 1) := by decide +kernel
theorem dX3_suffer_68 : decode cX3_suffer 68 = .ok (.iand, 1) := by decide +kernel
theorem dX3_suffer_69 : decode cX3_suffer 69 = .ok (.putfield 46, 3) := by decide +kernel
theorem dX3_suffer_72 : decode cX3_suffer 72 = .ok (.aload_n 0, 1) := by decide +kernel
theorem dX3_suffer_73 : decode cX3_suffer 73 = .ok (.dup, 1) := by decide +kernel
theorem dX3_suffer_74 : decode cX3_suffer 74 = .ok (.getfield 49, 3) := by decide +kernel
theorem dX3_suffer_77 : decode cX3_suffer 77 = .ok (.iconst 1, 1) := by decide +kernel
theorem dX3_suffer_78 : decode cX3_suffer 78 = .ok (.iadd, 1) := by decide +kernel
theorem dX3_suffer_79 : decode cX3_suffer 79 = .ok (.putfield 49, 3) := by decide +kernel
theorem dX3_suffer_82 : decode cX3_suffer 82 = .ok (.iload_n 2, 1) := by decide +kernel
theorem dX3_suffer_83 : decode cX3_suffer 83 = .ok (.invokestatic 89, 3) := by decide +kernel
theorem dX3_suffer_86 : decode cX3_suffer 86 = .ok (.bipush 9, 2) := by decide +kernel
theorem dX3_suffer_88 : decode cX3_suffer 88 = .ok (.if_icmp .ne 13, 3) := by decide +kernel
theorem dX3_suffer_91 : decode cX3_suffer 91 = .ok (.aload_n 0, 1) := by decide +kernel
theorem dX3_suffer_92 : decode cX3_suffer 92 = .ok (.dup, 1) := by decide +kernel
theorem dX3_suffer_93 : decode cX3_suffer 93 = .ok (.getfield 52, 3) := by decide +kernel
theorem dX3_suffer_96 : decode cX3_suffer 96 = .ok (.iconst 1, 1) := by decide +kernel
theorem dX3_suffer_97 : decode cX3_suffer 97 = .ok (.iadd, 1) := by decide +kernel
theorem dX3_suffer_98 : decode cX3_suffer 98 = .ok (.putfield 52, 3) := by decide +kernel
theorem dX3_suffer_101 : decode cX3_suffer 101 = .ok (.return_, 1) := by decide +kernel
theorem dX3_firstTaker_0 : decode cX3_firstTaker 0 = .ok (.iload_n 1, 1) := by decide +kernel
theorem dX3_firstTaker_1 : decode cX3_firstTaker 1 = .ok (.istore_n 2, 1) := by decide +kernel
theorem dX3_firstTaker_2 : decode cX3_firstTaker 2 = .ok (.iconst 0, 1) := by decide +kernel
theorem dX3_firstTaker_3 : decode cX3_firstTaker 3 = .ok (.istore_n 3, 1) := by decide +kernel
theorem dX3_firstTaker_4 : decode cX3_firstTaker 4 = .ok (.iload_n 3, 1) := by decide +kernel
theorem dX3_firstTaker_5 : decode cX3_firstTaker 5 = .ok (.bipush 9, 2) := by decide +kernel
theorem dX3_firstTaker_7 : decode cX3_firstTaker 7 = .ok (.if_icmp .ge 40, 3) := by decide +kernel
theorem dX3_firstTaker_10 : decode cX3_firstTaker 10 = .ok (.aload_n 0, 1) := by decide +kernel
theorem dX3_firstTaker_11 : decode cX3_firstTaker 11 = .ok (.iload_n 2, 1) := by decide +kernel
theorem dX3_firstTaker_12 : decode cX3_firstTaker 12 = .ok (.invokevirtual 65, 3) := by decide +kernel
theorem dX3_firstTaker_15 : decode cX3_firstTaker 15 = .ok (.ifCond .eq 12, 3) := by decide +kernel
theorem dX3_firstTaker_18 : decode cX3_firstTaker 18 = .ok (.aload_n 0, 1) := by decide +kernel
theorem dX3_firstTaker_19 : decode cX3_firstTaker 19 = .ok (.getfield 27, 3) := by decide +kernel
theorem dX3_firstTaker_22 : decode cX3_firstTaker 22 = .ok (.iload_n 2, 1) := by decide +kernel
theorem dX3_firstTaker_23 : decode cX3_firstTaker 23 = .ok (.iaload, 1) := by decide +kernel
theorem dX3_firstTaker_24 : decode cX3_firstTaker 24 = .ok (.goto 4, 3) := by decide +kernel
theorem dX3_firstTaker_27 : decode cX3_firstTaker 27 = .ok (.iconst (-1), 1) := by decide +kernel
theorem dX3_firstTaker_28 : decode cX3_firstTaker 28 = .ok (.istore 4, 2) := by decide +kernel
theorem dX3_firstTaker_30 : decode cX3_firstTaker 30 = .ok (.iload 4, 2) := by decide +kernel
theorem dX3_firstTaker_32 : decode cX3_firstTaker 32 = .ok (.iconst (-1), 1) := by decide +kernel
theorem dX3_firstTaker_33 : decode cX3_firstTaker 33 = .ok (.if_icmp .ne 5, 3) := by decide +kernel
theorem dX3_firstTaker_36 : decode cX3_firstTaker 36 = .ok (.iload_n 2, 1) := by decide +kernel
theorem dX3_firstTaker_37 : decode cX3_firstTaker 37 = .ok (.ireturn, 1) := by decide +kernel
theorem dX3_firstTaker_38 : decode cX3_firstTaker 38 = .ok (.iload 4, 2) := by decide +kernel
theorem dX3_firstTaker_40 : decode cX3_firstTaker 40 = .ok (.istore_n 2, 1) := by decide +kernel
theorem dX3_firstTaker_41 : decode cX3_firstTaker 41 = .ok (.iinc 3 1, 3) := by decide +kernel
theorem dX3_firstTaker_44 : decode cX3_firstTaker 44 = .ok (.goto (-40), 3) := by decide +kernel
theorem dX3_firstTaker_47 : decode cX3_firstTaker 47 = .ok (.iload_n 2, 1) := by decide +kernel
theorem dX3_firstTaker_48 : decode cX3_firstTaker 48 = .ok (.ireturn, 1) := by decide +kernel
theorem dX3_pairsThatTalk_0 : decode cX3_pairsThatTalk 0 = .ok (.iconst 0, 1) := by decide +kernel
theorem dX3_pairsThatTalk_1 : decode cX3_pairsThatTalk 1 = .ok (.istore_n 1, 1) := by decide +kernel
theorem dX3_pairsThatTalk_2 : decode cX3_pairsThatTalk 2 = .ok (.iconst 0, 1) := by decide +kernel
theorem dX3_pairsThatTalk_3 : decode cX3_pairsThatTalk 3 = .ok (.istore_n 2, 1) := by decide +kernel
theorem dX3_pairsThatTalk_4 : decode cX3_pairsThatTalk 4 = .ok (.iload_n 2, 1) := by decide +kernel
theorem dX3_pairsThatTalk_5 : decode cX3_pairsThatTalk 5 = .ok (.bipush 9, 2) := by decide +kernel
theorem dX3_pairsThatTalk_7 : decode cX3_pairsThatTalk 7 = .ok (.if_icmp .ge 62, 3) := by decide +kernel
theorem dX3_pairsThatTalk_10 : decode cX3_pairsThatTalk 10 = .ok (.iload_n 2, 1) := by decide +kernel
theorem dX3_pairsThatTalk_11 : decode cX3_pairsThatTalk 11 = .ok (.iconst 1, 1) := by decide +kernel
theorem dX3_pairsThatTalk_12 : decode cX3_pairsThatTalk 12 = .ok (.iadd, 1) := by decide +kernel
theorem dX3_pairsThatTalk_13 : decode cX3_pairsThatTalk 13 = .ok (.istore_n 3, 1) := by decide +kernel
theorem dX3_pairsThatTalk_14 : decode cX3_pairsThatTalk 14 = .ok (.iload_n 3, 1) := by decide +kernel
theorem dX3_pairsThatTalk_15 : decode cX3_pairsThatTalk 15 = .ok (.bipush 9, 2) := by decide +kernel
theorem dX3_pairsThatTalk_17 : decode cX3_pairsThatTalk 17 = .ok (.if_icmp .ge 46, 3) := by decide +kernel
theorem dX3_pairsThatTalk_20 : decode cX3_pairsThatTalk 20 = .ok (.aload_n 0, 1) := by decide +kernel
theorem dX3_pairsThatTalk_21 : decode cX3_pairsThatTalk 21 = .ok (.aload_n 0, 1) := by decide +kernel
end
section
theorem dX3_pairsThatTalk_22 : decode cX3_pairsThatTalk 22 = .ok (.getfield 30, 3) := by decide +kernel
theorem dX3_pairsThatTalk_25 : decode cX3_pairsThatTalk 25 = .ok (.iload_n 2, 1) := by decide +kernel
theorem dX3_pairsThatTalk_26 : decode cX3_pairsThatTalk 26 = .ok (.iaload, 1) := by decide +kernel
theorem dX3_pairsThatTalk_27 : decode cX3_pairsThatTalk 27 = .ok (.invokevirtual 95, 3) := by decide +kernel
theorem dX3_pairsThatTalk_30 : decode cX3_pairsThatTalk 30 = .ok (.ifCond .eq 27, 3) := by decide +kernel
theorem dX3_pairsThatTalk_33 : decode cX3_pairsThatTalk 33 = .ok (.aload_n 0, 1) := by decide +kernel
theorem dX3_pairsThatTalk_34 : decode cX3_pairsThatTalk 34 = .ok (.aload_n 0, 1) := by decide +kernel
theorem dX3_pairsThatTalk_35 : decode cX3_pairsThatTalk 35 = .ok (.getfield 30, 3) := by decide +kernel
theorem dX3_pairsThatTalk_38 : decode cX3_pairsThatTalk 38 = .ok (.iload_n 3, 1) := by decide +kernel
theorem dX3_pairsThatTalk_39 : decode cX3_pairsThatTalk 39 = .ok (.iaload, 1) := by decide +kernel
theorem dX3_pairsThatTalk_40 : decode cX3_pairsThatTalk 40 = .ok (.invokevirtual 95, 3) := by decide +kernel
theorem dX3_pairsThatTalk_43 : decode cX3_pairsThatTalk 43 = .ok (.ifCond .eq 14, 3) := by decide +kernel
theorem dX3_pairsThatTalk_46 : decode cX3_pairsThatTalk 46 = .ok (.iload_n 2, 1) := by decide +kernel
theorem dX3_pairsThatTalk_47 : decode cX3_pairsThatTalk 47 = .ok (.iload_n 3, 1) := by decide +kernel
theorem dX3_pairsThatTalk_48 : decode cX3_pairsThatTalk 48 = .ok (.invokestatic 98, 3) := by decide +kernel
theorem dX3_pairsThatTalk_51 : decode cX3_pairsThatTalk 51 = .ok (.ifCond .eq 6, 3) := by decide +kernel
theorem dX3_pairsThatTalk_54 : decode cX3_pairsThatTalk 54 = .ok (.iinc 1 1, 3) := by decide +kernel
theorem dX3_pairsThatTalk_57 : decode cX3_pairsThatTalk 57 = .ok (.iinc 3 1, 3) := by decide +kernel
theorem dX3_pairsThatTalk_60 : decode cX3_pairsThatTalk 60 = .ok (.goto (-46), 3) := by decide +kernel
theorem dX3_pairsThatTalk_63 : decode cX3_pairsThatTalk 63 = .ok (.iinc 2 1, 3) := by decide +kernel
theorem dX3_pairsThatTalk_66 : decode cX3_pairsThatTalk 66 = .ok (.goto (-62), 3) := by decide +kernel
theorem dX3_pairsThatTalk_69 : decode cX3_pairsThatTalk 69 = .ok (.iload_n 1, 1) := by decide +kernel
theorem dX3_pairsThatTalk_70 : decode cX3_pairsThatTalk 70 = .ok (.ireturn, 1) := by decide +kernel
theorem dX3_areSideBySide_0 : decode cX3_areSideBySide 0 = .ok (.getstatic 102, 3) := by decide +kernel
theorem dX3_areSideBySide_3 : decode cX3_areSideBySide 3 = .ok (.iload_n 0, 1) := by decide +kernel
theorem dX3_areSideBySide_4 : decode cX3_areSideBySide 4 = .ok (.iaload, 1) := by decide +kernel
theorem dX3_areSideBySide_5 : decode cX3_areSideBySide 5 = .ok (.getstatic 102, 3) := by decide +kernel
theorem dX3_areSideBySide_8 : decode cX3_areSideBySide 8 = .ok (.iload_n 1, 1) := by decide +kernel
theorem dX3_areSideBySide_9 : decode cX3_areSideBySide 9 = .ok (.iaload, 1) := by decide +kernel
theorem dX3_areSideBySide_10 : decode cX3_areSideBySide 10 = .ok (.isub, 1) := by decide +kernel
theorem dX3_areSideBySide_11 : decode cX3_areSideBySide 11 = .ok (.invokestatic 105, 3) := by decide +kernel
theorem dX3_areSideBySide_14 : decode cX3_areSideBySide 14 = .ok (.iconst 1, 1) := by decide +kernel
theorem dX3_areSideBySide_15 : decode cX3_areSideBySide 15 = .ok (.if_icmp .ne 25, 3) := by decide +kernel
theorem dX3_areSideBySide_18 : decode cX3_areSideBySide 18 = .ok (.getstatic 108, 3) := by decide +kernel
theorem dX3_areSideBySide_21 : decode cX3_areSideBySide 21 = .ok (.iload_n 0, 1) := by decide +kernel
theorem dX3_areSideBySide_22 : decode cX3_areSideBySide 22 = .ok (.iaload, 1) := by decide +kernel
theorem dX3_areSideBySide_23 : decode cX3_areSideBySide 23 = .ok (.getstatic 108, 3) := by decide +kernel
theorem dX3_areSideBySide_26 : decode cX3_areSideBySide 26 = .ok (.iload_n 1, 1) := by decide +kernel
theorem dX3_areSideBySide_27 : decode cX3_areSideBySide 27 = .ok (.iaload, 1) := by decide +kernel
theorem dX3_areSideBySide_28 : decode cX3_areSideBySide 28 = .ok (.isub, 1) := by decide +kernel
theorem dX3_areSideBySide_29 : decode cX3_areSideBySide 29 = .ok (.invokestatic 105, 3) := by decide +kernel
theorem dX3_areSideBySide_32 : decode cX3_areSideBySide 32 = .ok (.iconst 1, 1) := by decide +kernel
theorem dX3_areSideBySide_33 : decode cX3_areSideBySide 33 = .ok (.if_icmp .ne 7, 3) := by decide +kernel
theorem dX3_areSideBySide_36 : decode cX3_areSideBySide 36 = .ok (.iconst 1, 1) := by decide +kernel
theorem dX3_areSideBySide_37 : decode cX3_areSideBySide 37 = .ok (.goto 4, 3) := by decide +kernel
theorem dX3_areSideBySide_40 : decode cX3_areSideBySide 40 = .ok (.iconst 0, 1) := by decide +kernel
theorem dX3_areSideBySide_41 : decode cX3_areSideBySide 41 = .ok (.ireturn, 1) := by decide +kernel
theorem dX4_init_0 : decode cX4_init 0 = .ok (.aload_n 0, 1) := by decide +kernel
theorem dX4_init_1 : decode cX4_init 1 = .ok (.invokespecial 3, 3) := by decide +kernel
theorem dX4_init_4 : decode cX4_init 4 = .ok (.aload_n 0, 1) := by decide +kernel
theorem dX4_init_5 : decode cX4_init 5 = .ok (.bipush 16, 2) := by decide +kernel
theorem dX4_init_7 : decode cX4_init 7 = .ok (.anewarray 9, 3) := by decide +kernel
theorem dX4_init_10 : decode cX4_init 10 = .ok (.putfield 11, 3) := by decide +kernel
theorem dX4_init_13 : decode cX4_init 13 = .ok (.iconst 0, 1) := by decide +kernel
theorem dX4_init_14 : decode cX4_init 14 = .ok (.istore_n 1, 1) := by decide +kernel
theorem dX4_init_15 : decode cX4_init 15 = .ok (.iload_n 1, 1) := by decide +kernel
theorem dX4_init_16 : decode cX4_init 16 = .ok (.bipush 16, 2) := by decide +kernel
theorem dX4_init_18 : decode cX4_init 18 = .ok (.if_icmp .ge 22, 3) := by decide +kernel
theorem dX4_init_21 : decode cX4_init 21 = .ok (.aload_n 0, 1) := by decide +kernel
theorem dX4_init_22 : decode cX4_init 22 = .ok (.getfield 11, 3) := by decide +kernel
theorem dX4_init_25 : decode cX4_init 25 = .ok (.iload_n 1, 1) := by decide +kernel
theorem dX4_init_26 : decode cX4_init 26 = .ok (.new 9, 3) := by decide +kernel
theorem dX4_init_29 : decode cX4_init 29 = .ok (.dup, 1) := by decide +kernel
theorem dX4_init_30 : decode cX4_init 30 = .ok (.invokespecial 17, 3) := by decide +kernel
theorem dX4_init_33 : decode cX4_init 33 = .ok (.aastore, 1) := by decide +kernel
theorem dX4_init_34 : decode cX4_init 34 = .ok (.iinc 1 1, 3) := by decide +kernel
theorem dX4_init_37 : decode cX4_init 37 = .ok (.goto (-22), 3) := by decide +kernel
theorem dX4_init_40 : decode cX4_init 40 = .ok (.return_, 1) := by decide +kernel
theorem dX4_push_0 : decode cX4_push 0 = .ok (.aload_n 0, 1) := by decide +kernel
theorem dX4_push_1 : decode cX4_push 1 = .ok (.getfield 11, 3) := by decide +kernel
theorem dX4_push_4 : decode cX4_push 4 = .ok (.aload_n 0, 1) := by decide +kernel
theorem dX4_push_5 : decode cX4_push 5 = .ok (.getfield 18, 3) := by decide +kernel
theorem dX4_push_8 : decode cX4_push 8 = .ok (.aaload, 1) := by decide +kernel
theorem dX4_push_9 : decode cX4_push 9 = .ok (.aload_n 1, 1) := by decide +kernel
theorem dX4_push_10 : decode cX4_push 10 = .ok (.invokevirtual 22, 3) := by decide +kernel
theorem dX4_push_13 : decode cX4_push 13 = .ok (.aload_n 0, 1) := by decide +kernel
theorem dX4_push_14 : decode cX4_push 14 = .ok (.aload_n 0, 1) := by decide +kernel
theorem dX4_push_15 : decode cX4_push 15 = .ok (.getfield 18, 3) := by decide +kernel
theorem dX4_push_18 : decode cX4_push 18 = .ok (.iconst 1, 1) := by decide +kernel
theorem dX4_push_19 : decode cX4_push 19 = .ok (.iadd, 1) := by decide +kernel
theorem dX4_push_20 : decode cX4_push 20 = .ok (.bipush 16, 2) := by decide +kernel
theorem dX4_push_22 : decode cX4_push 22 = .ok (.irem, 1) := by decide +kernel
theorem dX4_push_23 : decode cX4_push 23 = .ok (.putfield 18, 3) := by decide +kernel
theorem dX4_push_26 : decode cX4_push 26 = .ok (.aload_n 0, 1) := by decide +kernel
theorem dX4_push_27 : decode cX4_push 27 = .ok (.bipush 16, 2) := by decide +kernel
theorem dX4_push_29 : decode cX4_push 29 = .ok (.aload_n 0, 1) := by decide +kernel
theorem dX4_push_30 : decode cX4_push 30 = .ok (.getfield 26, 3) := by decide +kernel
theorem dX4_push_33 : decode cX4_push 33 = .ok (.iconst 1, 1) := by decide +kernel
theorem dX4_push_34 : decode cX4_push 34 = .ok (.iadd, 1) := by decide +kernel
theorem dX4_push_35 : decode cX4_push 35 = .ok (.invokestatic 29, 3) := by decide +kernel
theorem dX4_push_38 : decode cX4_push 38 = .ok (.putfield 26, 3) := by decide +kernel
theorem dX4_push_41 : decode cX4_push 41 = .ok (.return_, 1) := by decide +kernel
theorem dX4_restore_0 : decode cX4_restore 0 = .ok (.aload_n 0, 1) := by decide +kernel
theorem dX4_restore_1 : decode cX4_restore 1 = .ok (.getfield 26, 3) := by decide +kernel
theorem dX4_restore_4 : decode cX4_restore 4 = .ok (.ifCond .ne 4, 3) := by decide +kernel
theorem dX4_restore_7 : decode cX4_restore 7 = .ok (.return_, 1) := by decide +kernel
theorem dX4_restore_8 : decode cX4_restore 8 = .ok (.aload_n 0, 1) := by decide +kernel
theorem dX4_restore_9 : decode cX4_restore 9 = .ok (.aload_n 0, 1) := by decide +kernel
theorem dX4_restore_10 : decode cX4_restore 10 = .ok (.getfield 18, 3) := by decide +kernel
theorem dX4_restore_13 : decode cX4_restore 13 = .ok (.bipush 16, 2) := by decide +kernel
theorem dX4_restore_15 : decode cX4_restore 15 = .ok (.iadd, 1) := by decide +kernel
theorem dX4_restore_16 : decode cX4_restore 16 = .ok (.iconst 1, 1) := by decide +kernel
theorem dX4_restore_17 : decode cX4_restore 17 = .ok (.isub, 1) := by decide +kernel
theorem dX4_restore_18 : decode cX4_restore 18 = .ok (.bipush 16, 2) := by decide +kernel
theorem dX4_restore_20 : decode cX4_restore 20 = .ok (.irem, 1) := by decide +kernel
theorem dX4_restore_21 : decode cX4_restore 21 = .ok (.putfield 18, 3) := by decide +kernel
theorem dX4_restore_24 : decode cX4_restore 24 = .ok (.aload_n 0, 1) := by decide +kernel
theorem dX4_restore_25 : decode cX4_restore 25 = .ok (.dup, 1) := by decide +kernel
theorem dX4_restore_26 : decode cX4_restore 26 = .ok (.getfield 26, 3) := by decide +kernel
theorem dX4_restore_29 : decode cX4_restore 29 = .ok (.iconst 1, 1) := by decide +kernel
theorem dX4_restore_30 : decode cX4_restore 30 = .ok (.isub, 1) := by decide +kernel
theorem dX4_restore_31 : decode cX4_restore 31 = .ok (.putfield 26, 3) := by decide +kernel
theorem dX4_restore_34 : decode cX4_restore 34 = .ok (.aload_n 1, 1) := by decide +kernel
theorem dX4_restore_35 : decode cX4_restore 35 = .ok (.aload_n 0, 1) := by decide +kernel
theorem dX4_restore_36 : decode cX4_restore 36 = .ok (.getfield 11, 3) := by decide +kernel
theorem dX4_restore_39 : decode cX4_restore 39 = .ok (.aload_n 0, 1) := by decide +kernel
theorem dX4_restore_40 : decode cX4_restore 40 = .ok (.getfield 18, 3) := by decide +kernel
theorem dX4_restore_43 : decode cX4_restore 43 = .ok (.aaload, 1) := by decide +kernel
theorem dX4_restore_44 : decode cX4_restore 44 = .ok (.invokevirtual 22, 3) := by decide +kernel
theorem dX4_restore_47 : decode cX4_restore 47 = .ok (.return_, 1) := by decide +kernel
theorem dX4_forget_0 : decode cX4_forget 0 = .ok (.aload_n 0, 1) := by decide +kernel
theorem dX4_forget_1 : decode cX4_forget 1 = .ok (.iconst 0, 1) := by decide +kernel
theorem dX4_forget_2 : decode cX4_forget 2 = .ok (.putfield 26, 3) := by decide +kernel
theorem dX4_forget_5 : decode cX4_forget 5 = .ok (.return_, 1) := by decide +kernel
theorem dX5_init_0 : decode cX5_init 0 = .ok (.aload_n 0, 1) := by decide +kernel
theorem dX5_init_1 : decode cX5_init 1 = .ok (.invokespecial 3, 3) := by decide +kernel
theorem dX5_init_4 : decode cX5_init 4 = .ok (.aload_n 0, 1) := by decide +kernel
theorem dX5_init_5 : decode cX5_init 5 = .ok (.bipush 9, 2) := by decide +kernel
theorem dX5_init_7 : decode cX5_init 7 = .ok (.newarray .int, 2) := by decide +kernel
theorem dX5_init_9 : decode cX5_init 9 = .ok (.putfield 9, 3) := by decide +kernel
theorem dX5_init_12 : decode cX5_init 12 = .ok (.aload_n 0, 1) := by decide +kernel
theorem dX5_init_13 : decode cX5_init 13 = .ok (.bipush 9, 2) := by decide +kernel
theorem dX5_init_15 : decode cX5_init 15 = .ok (.newarray .int, 2) := by decide +kernel
theorem dX5_init_17 : decode cX5_init 17 = .ok (.putfield 15, 3) := by decide +kernel
theorem dX5_init_20 : decode cX5_init 20 = .ok (.aload_n 0, 1) := by decide +kernel
theorem dX5_init_21 : decode cX5_init 21 = .ok (.bipush 9, 2) := by decide +kernel
theorem dX5_init_23 : decode cX5_init 23 = .ok (.newarray .int, 2) := by decide +kernel
theorem dX5_init_25 : decode cX5_init 25 = .ok (.putfield 18, 3) := by decide +kernel
theorem dX5_init_28 : decode cX5_init 28 = .ok (.aload_n 0, 1) := by decide +kernel
theorem dX5_init_29 : decode cX5_init 29 = .ok (.bipush 9, 2) := by decide +kernel
theorem dX5_init_31 : decode cX5_init 31 = .ok (.newarray .int, 2) := by decide +kernel
theorem dX5_init_33 : decode cX5_init 33 = .ok (.putfield 21, 3) := by decide +kernel
theorem dX5_init_36 : decode cX5_init 36 = .ok (.return_, 1) := by decide +kernel
theorem dX5_prepare_0 : decode cX5_prepare 0 = .ok (.aload_n 0, 1) := by decide +kernel
theorem dX5_prepare_1 : decode cX5_prepare 1 = .ok (.aload_n 1, 1) := by decide +kernel
theorem dX5_prepare_2 : decode cX5_prepare 2 = .ok (.getfield 24, 3) := by decide +kernel
theorem dX5_prepare_5 : decode cX5_prepare 5 = .ok (.iconst 3, 1) := by decide +kernel
theorem dX5_prepare_6 : decode cX5_prepare 6 = .ok (.idiv, 1) := by decide +kernel
theorem dX5_prepare_7 : decode cX5_prepare 7 = .ok (.putfield 30, 3) := by decide +kernel
theorem dX5_prepare_10 : decode cX5_prepare 10 = .ok (.iconst 0, 1) := by decide +kernel
theorem dX5_prepare_11 : decode cX5_prepare 11 = .ok (.istore_n 2, 1) := by decide +kernel
theorem dX5_prepare_12 : decode cX5_prepare 12 = .ok (.iload_n 2, 1) := by decide +kernel
theorem dX5_prepare_13 : decode cX5_prepare 13 = .ok (.bipush 9, 2) := by decide +kernel
theorem dX5_prepare_15 : decode cX5_prepare 15 = .ok (.if_icmp .ge 32, 3) := by decide +kernel
theorem dX5_prepare_18 : decode cX5_prepare 18 = .ok (.aload_n 0, 1) := by decide +kernel
theorem dX5_prepare_19 : decode cX5_prepare 19 = .ok (.getfield 9, 3) := by decide +kernel
theorem dX5_prepare_22 : decode cX5_prepare 22 = .ok (.iload_n 2, 1) := by decide +kernel
theorem dX5_prepare_23 : decode cX5_prepare 23 = .ok (.aload_n 1, 1) := by decide +kernel
theorem dX5_prepare_24 : decode cX5_prepare 24 = .ok (.getfield 33, 3) := by decide +kernel
theorem dX5_prepare_27 : decode cX5_prepare 27 = .ok (.iload_n 2, 1) := by decide +kernel
theorem dX5_prepare_28 : decode cX5_prepare 28 = .ok (.iaload, 1) := by decide +kernel
theorem dX5_prepare_29 : decode cX5_prepare 29 = .ok (.iastore, 1) := by decide +kernel
theorem dX5_prepare_30 : decode cX5_prepare 30 = .ok (.aload_n 0, 1) := by decide +kernel
theorem dX5_prepare_31 : decode cX5_prepare 31 = .ok (.getfield 15, 3) := by decide +kernel
theorem dX5_prepare_34 : decode cX5_prepare 34 = .ok (.iload_n 2, 1) := by decide +kernel
theorem dX5_prepare_35 : decode cX5_prepare 35 = .ok (.aload_n 1, 1) := by decide +kernel
theorem dX5_prepare_36 : decode cX5_prepare 36 = .ok (.iload_n 2, 1) := by decide +kernel
theorem dX5_prepare_37 : decode cX5_prepare 37 = .ok (.invokevirtual 34, 3) := by decide +kernel
theorem dX5_prepare_40 : decode cX5_prepare 40 = .ok (.iastore, 1) := by decide +kernel
theorem dX5_prepare_41 : decode cX5_prepare 41 = .ok (.iinc 2 1, 3) := by decide +kernel
theorem dX5_prepare_44 : decode cX5_prepare 44 = .ok (.goto (-32), 3) := by decide +kernel
theorem dX5_prepare_47 : decode cX5_prepare 47 = .ok (.return_, 1) := by decide +kernel
theorem dX5_clearRocked_0 : decode cX5_clearRocked 0 = .ok (.aload_n 0, 1) := by decide +kernel
theorem dX5_clearRocked_1 : decode cX5_clearRocked 1 = .ok (.getfield 21, 3) := by decide +kernel
theorem dX5_clearRocked_4 : decode cX5_clearRocked 4 = .ok (.iconst 0, 1) := by decide +kernel
theorem dX5_clearRocked_5 : decode cX5_clearRocked 5 = .ok (.invokestatic 37, 3) := by decide +kernel
theorem dX5_clearRocked_8 : decode cX5_clearRocked 8 = .ok (.return_, 1) := by decide +kernel
theorem dX5_send_0 : decode cX5_send 0 = .ok (.aload_n 0, 1) := by decide +kernel
theorem dX5_send_1 : decode cX5_send 1 = .ok (.iload 4, 2) := by decide +kernel
theorem dX5_send_3 : decode cX5_send 3 = .ok (.putfield 43, 3) := by decide +kernel
theorem dX5_send_6 : decode cX5_send 6 = .ok (.aload_n 0, 1) := by decide +kernel
theorem dX5_send_7 : decode cX5_send 7 = .ok (.iconst 0, 1) := by decide +kernel
theorem dX5_send_8 : decode cX5_send 8 = .ok (.putfield 46, 3) := by decide +kernel
theorem dX5_send_11 : decode cX5_send 11 = .ok (.aload_n 0, 1) := by decide +kernel
theorem dX5_send_12 : decode cX5_send 12 = .ok (.iconst (-1), 1) := by decide +kernel
theorem dX5_send_13 : decode cX5_send 13 = .ok (.putfield 49, 3) := by decide +kernel
theorem dX5_send_16 : decode cX5_send 16 = .ok (.iload_n 3, 1) := by decide +kernel
theorem dX5_send_17 : decode cX5_send 17 = .ok (.istore 5, 2) := by decide +kernel
theorem dX5_send_19 : decode cX5_send 19 = .ok (.iconst 0, 1) := by decide +kernel
theorem dX5_send_20 : decode cX5_send 20 = .ok (.istore 6, 2) := by decide +kernel
theorem dX5_send_22 : decode cX5_send 22 = .ok (.iload 6, 2) := by decide +kernel
theorem dX5_send_24 : decode cX5_send 24 = .ok (.iconst 5, 1) := by decide +kernel
theorem dX5_send_25 : decode cX5_send 25 = .ok (.if_icmp .ge 51, 3) := by decide +kernel
theorem dX5_send_28 : decode cX5_send 28 = .ok (.aload_n 0, 1) := by decide +kernel
theorem dX5_send_29 : decode cX5_send 29 = .ok (.getfield 49, 3) := by decide +kernel
theorem dX5_send_32 : decode cX5_send 32 = .ok (.iconst (-1), 1) := by decide +kernel
theorem dX5_send_33 : decode cX5_send 33 = .ok (.if_icmp .ne 43, 3) := by decide +kernel
theorem dX5_send_36 : decode cX5_send 36 = .ok (.aload_n 0, 1) := by decide +kernel
theorem dX5_send_37 : decode cX5_send 37 = .ok (.iload 6, 2) := by decide +kernel
theorem dX5_send_39 : decode cX5_send 39 = .ok (.iload_n 1, 1) := by decide +kernel
theorem dX5_send_40 : decode cX5_send 40 = .ok (.iload 6, 2) := by decide +kernel
theorem dX5_send_42 : decode cX5_send 42 = .ok (.iload_n 2, 1) := by decide +kernel
theorem dX5_send_43 : decode cX5_send 43 = .ok (.iconst 1, 1) := by decide +kernel
theorem dX5_send_44 : decode cX5_send 44 = .ok (.isub, 1) := by decide +kernel
theorem dX5_send_45 : decode cX5_send 45 = .ok (.imul, 1) := by decide +kernel
theorem dX5_send_46 : decode cX5_send 46 = .ok (.iadd, 1) := by decide +kernel
theorem dX5_send_47 : decode cX5_send 47 = .ok (.iload 5, 2) := by decide +kernel
theorem dX5_send_49 : decode cX5_send 49 = .ok (.invokevirtual 52, 3) := by decide +kernel
theorem dX5_send_52 : decode cX5_send 52 = .ok (.aload_n 0, 1) := by decide +kernel
theorem dX5_send_53 : decode cX5_send 53 = .ok (.getfield 30, 3) := by decide +kernel
theorem dX5_send_56 : decode cX5_send 56 = .ok (.isub, 1) := by decide +kernel
theorem dX5_send_57 : decode cX5_send 57 = .ok (.istore 5, 2) := by decide +kernel
theorem dX5_send_59 : decode cX5_send 59 = .ok (.iload 5, 2) := by decide +kernel
theorem dX5_send_61 : decode cX5_send 61 = .ok (.ifCond .gt 9, 3) := by decide +kernel
theorem dX5_send_64 : decode cX5_send 64 = .ok (.aload_n 0, 1) := by decide +kernel
theorem dX5_send_65 : decode cX5_send 65 = .ok (.iload 6, 2) := by decide +kernel
theorem dX5_send_67 : decode cX5_send 67 = .ok (.putfield 49, 3) := by decide +kernel
theorem dX5_send_70 : decode cX5_send 70 = .ok (.iinc 6 1, 3) := by decide +kernel
theorem dX5_send_73 : decode cX5_send 73 = .ok (.goto (-51), 3) := by decide +kernel
theorem dX5_send_76 : decode cX5_send 76 = .ok (.iload 4, 2) := by decide +kernel
theorem dX5_send_78 : decode cX5_send 78 = .ok (.aload_n 0, 1) := by decide +kernel
theorem dX5_send_79 : decode cX5_send 79 = .ok (.getfield 43, 3) := by decide +kernel
theorem dX5_send_82 : decode cX5_send 82 = .ok (.iconst (-1), 1) := by decide +kernel
theorem dX5_send_83 : decode cX5_send 83 = .ok (.ixor, 1) := by decide +kernel
theorem dX5_send_84 : decode cX5_send 84 = .ok (.iand, 1) := by decide +kernel
theorem dX5_send_85 : decode cX5_send 85 = .ok (.ireturn, 1) := by decide +kernel
theorem dX5_leastPace_0 : decode cX5_leastPace 0 = .ok (.aload_n 0, 1) := by decide +kernel
theorem dX5_leastPace_1 : decode cX5_leastPace 1 = .ok (.iload_n 3, 1) := by decide +kernel
theorem dX5_leastPace_2 : decode cX5_leastPace 2 = .ok (.putfield 43, 3) := by decide +kernel
theorem dX5_leastPace_5 : decode cX5_leastPace 5 = .ok (.iconst 0, 1) := by decide +kernel
theorem dX5_leastPace_6 : decode cX5_leastPace 6 = .ok (.istore 4, 2) := by decide +kernel
theorem dX5_leastPace_8 : decode cX5_leastPace 8 = .ok (.iload 4, 2) := by decide +kernel
theorem dX5_leastPace_10 : decode cX5_leastPace 10 = .ok (.iconst 5, 1) := by decide +kernel
theorem dX5_leastPace_11 : decode cX5_leastPace 11 = .ok (.if_icmp .ge 47, 3) := by decide +kernel
theorem dX5_leastPace_14 : decode cX5_leastPace 14 = .ok (.aload_n 0, 1) := by decide +kernel
theorem dX5_leastPace_15 : decode cX5_leastPace 15 = .ok (.iload 4, 2) := by decide +kernel
theorem dX5_leastPace_17 : decode cX5_leastPace 17 = .ok (.iload_n 1, 1) := by decide +kernel
theorem dX5_leastPace_18 : decode cX5_leastPace 18 = .ok (.iload 4, 2) := by decide +kernel
theorem dX5_leastPace_20 : decode cX5_leastPace 20 = .ok (.iload_n 2, 1) := by decide +kernel
theorem dX5_leastPace_21 : decode cX5_leastPace 21 = .ok (.iconst 1, 1) := by decide +kernel
theorem dX5_leastPace_22 : decode cX5_leastPace 22 = .ok (.isub, 1) := by decide +kernel
theorem dX5_leastPace_23 : decode cX5_leastPace 23 = .ok (.imul, 1) := by decide +kernel
theorem dX5_leastPace_24 : decode cX5_leastPace 24 = .ok (.iadd, 1) := by decide +kernel
theorem dX5_leastPace_25 : decode cX5_leastPace 25 = .ok (.invokevirtual 56, 3) := by decide +kernel
theorem dX5_leastPace_28 : decode cX5_leastPace 28 = .ok (.istore 5, 2) := by decide +kernel
theorem dX5_leastPace_30 : decode cX5_leastPace 30 = .ok (.iload 5, 2) := by decide +kernel
theorem dX5_leastPace_32 : decode cX5_leastPace 32 = .ok (.iconst (-1), 1) := by decide +kernel
theorem dX5_leastPace_33 : decode cX5_leastPace 33 = .ok (.if_icmp .eq 19, 3) := by decide +kernel
theorem dX5_leastPace_36 : decode cX5_leastPace 36 = .ok (.aload_n 0, 1) := by decide +kernel
theorem dX5_leastPace_37 : decode cX5_leastPace 37 = .ok (.getfield 15, 3) := by decide +kernel
theorem dX5_leastPace_40 : decode cX5_leastPace 40 = .ok (.iload 5, 2) := by decide +kernel
theorem dX5_leastPace_42 : decode cX5_leastPace 42 = .ok (.iaload, 1) := by decide +kernel
theorem dX5_leastPace_43 : decode cX5_leastPace 43 = .ok (.iload 4, 2) := by decide +kernel
theorem dX5_leastPace_45 : decode cX5_leastPace 45 = .ok (.aload_n 0, 1) := by decide +kernel
theorem dX5_leastPace_46 : decode cX5_leastPace 46 = .ok (.getfield 30, 3) := by decide +kernel
theorem dX5_leastPace_49 : decode cX5_leastPace 49 = .ok (.imul, 1) := by decide +kernel
theorem dX5_leastPace_50 : decode cX5_leastPace 50 = .ok (.iadd, 1) := by decide +kernel
theorem dX5_leastPace_51 : decode cX5_leastPace 51 = .ok (.ireturn, 1) := by decide +kernel
theorem dX5_leastPace_52 : decode cX5_leastPace 52 = .ok (.iinc 4 1, 3) := by decide +kernel
theorem dX5_leastPace_55 : decode cX5_leastPace 55 = .ok (.goto (-47), 3) := by decide +kernel
theorem dX5_leastPace_58 : decode cX5_leastPace 58 = .ok (.bipush 41, 2) := by decide +kernel
theorem dX5_leastPace_60 : decode cX5_leastPace 60 = .ok (.ireturn, 1) := by decide +kernel
theorem dX5_meet_0 : decode cX5_meet 0 = .ok (.aload_n 0, 1) := by decide +kernel
theorem dX5_meet_1 : decode cX5_meet 1 = .ok (.iload_n 1, 1) := by decide +kernel
theorem dX5_meet_2 : decode cX5_meet 2 = .ok (.iload_n 2, 1) := by decide +kernel
theorem dX5_meet_3 : decode cX5_meet 3 = .ok (.invokevirtual 56, 3) := by decide +kernel
theorem dX5_meet_6 : decode cX5_meet 6 = .ok (.istore 4, 2) := by decide +kernel
theorem dX5_meet_8 : decode cX5_meet 8 = .ok (.iload 4, 2) := by decide +kernel
theorem dX5_meet_10 : decode cX5_meet 10 = .ok (.iconst (-1), 1) := by decide +kernel
theorem dX5_meet_11 : decode cX5_meet 11 = .ok (.if_icmp .ne 5, 3) := by decide +kernel
theorem dX5_meet_14 : decode cX5_meet 14 = .ok (.iload_n 3, 1) := by decide +kernel
theorem dX5_meet_15 : decode cX5_meet 15 = .ok (.ireturn, 1) := by decide +kernel
theorem dX5_meet_16 : decode cX5_meet 16 = .ok (.iload_n 3, 1) := by decide +kernel
theorem dX5_meet_17 : decode cX5_meet 17 = .ok (.aload_n 0, 1) := by decide +kernel
theorem dX5_meet_18 : decode cX5_meet 18 = .ok (.getfield 15, 3) := by decide +kernel
theorem dX5_meet_21 : decode cX5_meet 21 = .ok (.iload 4, 2) := by decide +kernel
theorem dX5_meet_23 : decode cX5_meet 23 = .ok (.iaload, 1) := by decide +kernel
theorem dX5_meet_24 : decode cX5_meet 24 = .ok (.if_icmp .ge 11, 3) := by decide +kernel
theorem dX5_meet_27 : decode cX5_meet 27 = .ok (.aload_n 0, 1) := by decide +kernel
theorem dX5_meet_28 : decode cX5_meet 28 = .ok (.iload 4, 2) := by decide +kernel
theorem dX5_meet_30 : decode cX5_meet 30 = .ok (.invokevirtual 60, 3) := by decide +kernel
theorem dX5_meet_33 : decode cX5_meet 33 = .ok (.iconst 0, 1) := by decide +kernel
theorem dX5_meet_34 : decode cX5_meet 34 = .ok (.ireturn, 1) := by decide +kernel
theorem dX5_meet_35 : decode cX5_meet 35 = .ok (.aload_n 0, 1) := by decide +kernel
theorem dX5_meet_36 : decode cX5_meet 36 = .ok (.iload 4, 2) := by decide +kernel
theorem dX5_meet_38 : decode cX5_meet 38 = .ok (.iconst (-1), 1) := by decide +kernel
theorem dX5_meet_39 : decode cX5_meet 39 = .ok (.iload_n 1, 1) := by decide +kernel
theorem dX5_meet_40 : decode cX5_meet 40 = .ok (.iload_n 2, 1) := by decide +kernel
theorem dX5_meet_41 : decode cX5_meet 41 = .ok (.iload_n 3, 1) := by decide +kernel
theorem dX5_meet_42 : decode cX5_meet 42 = .ok (.invokevirtual 64, 3) := by decide +kernel
theorem dX5_meet_45 : decode cX5_meet 45 = .ok (.iload_n 3, 1) := by decide +kernel
theorem dX5_meet_46 : decode cX5_meet 46 = .ok (.aload_n 0, 1) := by decide +kernel
theorem dX5_meet_47 : decode cX5_meet 47 = .ok (.getfield 15, 3) := by decide +kernel
theorem dX5_meet_50 : decode cX5_meet 50 = .ok (.iload 4, 2) := by decide +kernel
theorem dX5_meet_52 : decode cX5_meet 52 = .ok (.iaload, 1) := by decide +kernel
theorem dX5_meet_53 : decode cX5_meet 53 = .ok (.iconst 2, 1) := by decide +kernel
theorem dX5_meet_54 : decode cX5_meet 54 = .ok (.idiv, 1) := by decide +kernel
theorem dX5_meet_55 : decode cX5_meet 55 = .ok (.isub, 1) := by decide +kernel
theorem dX5_meet_56 : decode cX5_meet 56 = .ok (.iconst 1, 1) := by decide +kernel
theorem dX5_meet_57 : decode cX5_meet 57 = .ok (.isub, 1) := by decide +kernel
theorem dX5_meet_58 : decode cX5_meet 58 = .ok (.ireturn, 1) := by decide +kernel
theorem dX5_topple_0 : decode cX5_topple 0 = .ok (.aload_n 0, 1) := by decide +kernel
theorem dX5_topple_1 : decode cX5_topple 1 = .ok (.dup, 1) := by decide +kernel
theorem dX5_topple_2 : decode cX5_topple 2 = .ok (.getfield 43, 3) := by decide +kernel
theorem dX5_topple_5 : decode cX5_topple 5 = .ok (.iconst 1, 1) := by decide +kernel
theorem dX5_topple_6 : decode cX5_topple 6 = .ok (.iload_n 1, 1) := by decide +kernel
theorem dX5_topple_7 : decode cX5_topple 7 = .ok (.ishl, 1) := by decide +kernel
theorem dX5_topple_8 : decode cX5_topple 8 = .ok (.iconst (-1), 1) := by decide +kernel
theorem dX5_topple_9 : decode cX5_topple 9 = .ok (.ixor, 1) := by decide +kernel
theorem dX5_topple_10 : decode cX5_topple 10 = .ok (.iand, 1) := by decide +kernel
theorem dX5_topple_11 : decode cX5_topple 11 = .ok (.putfield 43, 3) := by decide +kernel
theorem dX5_topple_14 : decode cX5_topple 14 = .ok (.aload_n 0, 1) := by decide +kernel
theorem dX5_topple_15 : decode cX5_topple 15 = .ok (.getfield 18, 3) := by decide +kernel
theorem dX5_topple_18 : decode cX5_topple 18 = .ok (.iload_n 1, 1) := by decide +kernel
theorem dX5_topple_19 : decode cX5_topple 19 = .ok (.iload_n 2, 1) := by decide +kernel
theorem dX5_topple_20 : decode cX5_topple 20 = .ok (.iastore, 1) := by decide +kernel
theorem dX5_topple_21 : decode cX5_topple 21 = .ok (.iload 5, 2) := by decide +kernel
theorem dX5_topple_23 : decode cX5_topple 23 = .ok (.iconst 2, 1) := by decide +kernel
theorem dX5_topple_24 : decode cX5_topple 24 = .ok (.idiv, 1) := by decide +kernel
theorem dX5_topple_25 : decode cX5_topple 25 = .ok (.iconst 1, 1) := by decide +kernel
theorem dX5_topple_26 : decode cX5_topple 26 = .ok (.if_icmp .lt 42, 3) := by decide +kernel
theorem dX5_topple_29 : decode cX5_topple 29 = .ok (.iload_n 3, 1) := by decide +kernel
theorem dX5_topple_30 : decode cX5_topple 30 = .ok (.iconst 1, 1) := by decide +kernel
theorem dX5_topple_31 : decode cX5_topple 31 = .ok (.iadd, 1) := by decide +kernel
theorem dX5_topple_32 : decode cX5_topple 32 = .ok (.iconst 5, 1) := by decide +kernel
theorem dX5_topple_33 : decode cX5_topple 33 = .ok (.if_icmp .ge 35, 3) := by decide +kernel
theorem dX5_topple_36 : decode cX5_topple 36 = .ok (.aload_n 0, 1) := by decide +kernel
theorem dX5_topple_37 : decode cX5_topple 37 = .ok (.iload_n 1, 1) := by decide +kernel
theorem dX5_topple_38 : decode cX5_topple 38 = .ok (.iload_n 3, 1) := by decide +kernel
theorem dX5_topple_39 : decode cX5_topple 39 = .ok (.iconst 1, 1) := by decide +kernel
theorem dX5_topple_40 : decode cX5_topple 40 = .ok (.iadd, 1) := by decide +kernel
theorem dX5_topple_41 : decode cX5_topple 41 = .ok (.iload 4, 2) := by decide +kernel
theorem dX5_topple_43 : decode cX5_topple 43 = .ok (.iconst 1, 1) := by decide +kernel
theorem dX5_topple_44 : decode cX5_topple 44 = .ok (.isub, 1) := by decide +kernel
theorem dX5_topple_45 : decode cX5_topple 45 = .ok (.iload 5, 2) := by decide +kernel
theorem dX5_topple_47 : decode cX5_topple 47 = .ok (.iconst 2, 1) := by decide +kernel
theorem dX5_topple_48 : decode cX5_topple 48 = .ok (.idiv, 1) := by decide +kernel
theorem dX5_topple_49 : decode cX5_topple 49 = .ok (.invokevirtual 68, 3) := by decide +kernel
theorem dX5_topple_52 : decode cX5_topple 52 = .ok (.aload_n 0, 1) := by decide +kernel
theorem dX5_topple_53 : decode cX5_topple 53 = .ok (.iload_n 1, 1) := by decide +kernel
theorem dX5_topple_54 : decode cX5_topple 54 = .ok (.iload_n 3, 1) := by decide +kernel
theorem dX5_topple_55 : decode cX5_topple 55 = .ok (.iconst 1, 1) := by decide +kernel
theorem dX5_topple_56 : decode cX5_topple 56 = .ok (.iadd, 1) := by decide +kernel
theorem dX5_topple_57 : decode cX5_topple 57 = .ok (.iload 4, 2) := by decide +kernel
theorem dX5_topple_59 : decode cX5_topple 59 = .ok (.iconst 1, 1) := by decide +kernel
theorem dX5_topple_60 : decode cX5_topple 60 = .ok (.iadd, 1) := by decide +kernel
theorem dX5_topple_61 : decode cX5_topple 61 = .ok (.iload 5, 2) := by decide +kernel
theorem dX5_topple_63 : decode cX5_topple 63 = .ok (.iconst 2, 1) := by decide +kernel
theorem dX5_topple_64 : decode cX5_topple 64 = .ok (.idiv, 1) := by decide +kernel
theorem dX5_topple_65 : decode cX5_topple 65 = .ok (.invokevirtual 68, 3) := by decide +kernel
theorem dX5_topple_68 : decode cX5_topple 68 = .ok (.return_, 1) := by decide +kernel
theorem dX5_strike_0 : decode cX5_strike 0 = .ok (.aload_n 0, 1) := by decide +kernel
theorem dX5_strike_1 : decode cX5_strike 1 = .ok (.iload_n 2, 1) := by decide +kernel
theorem dX5_strike_2 : decode cX5_strike 2 = .ok (.iload_n 3, 1) := by decide +kernel
theorem dX5_strike_3 : decode cX5_strike 3 = .ok (.invokevirtual 56, 3) := by decide +kernel
theorem dX5_strike_6 : decode cX5_strike 6 = .ok (.istore 5, 2) := by decide +kernel
theorem dX5_strike_8 : decode cX5_strike 8 = .ok (.iload 5, 2) := by decide +kernel
theorem dX5_strike_10 : decode cX5_strike 10 = .ok (.iconst (-1), 1) := by decide +kernel
theorem dX5_strike_11 : decode cX5_strike 11 = .ok (.if_icmp .ne 4, 3) := by decide +kernel
theorem dX5_strike_14 : decode cX5_strike 14 = .ok (.return_, 1) := by decide +kernel
theorem dX5_strike_15 : decode cX5_strike 15 = .ok (.iload 4, 2) := by decide +kernel
theorem dX5_strike_17 : decode cX5_strike 17 = .ok (.aload_n 0, 1) := by decide +kernel
theorem dX5_strike_18 : decode cX5_strike 18 = .ok (.getfield 15, 3) := by decide +kernel
theorem dX5_strike_21 : decode cX5_strike 21 = .ok (.iload 5, 2) := by decide +kernel
theorem dX5_strike_23 : decode cX5_strike 23 = .ok (.iaload, 1) := by decide +kernel
theorem dX5_strike_24 : decode cX5_strike 24 = .ok (.if_icmp .ge 12, 3) := by decide +kernel
theorem dX5_strike_27 : decode cX5_strike 27 = .ok (.aload_n 0, 1) := by decide +kernel
theorem dX5_strike_28 : decode cX5_strike 28 = .ok (.iload 5, 2) := by decide +kernel
theorem dX5_strike_30 : decode cX5_strike 30 = .ok (.invokevirtual 60, 3) := by decide +kernel
theorem dX5_strike_33 : decode cX5_strike 33 = .ok (.goto 14, 3) := by decide +kernel
theorem dX5_strike_36 : decode cX5_strike 36 = .ok (.aload_n 0, 1) := by decide +kernel
theorem dX5_strike_37 : decode cX5_strike 37 = .ok (.iload 5, 2) := by decide +kernel
theorem dX5_strike_39 : decode cX5_strike 39 = .ok (.iload_n 1, 1) := by decide +kernel
theorem dX5_strike_40 : decode cX5_strike 40 = .ok (.iload_n 2, 1) := by decide +kernel
theorem dX5_strike_41 : decode cX5_strike 41 = .ok (.iload_n 3, 1) := by decide +kernel
theorem dX5_strike_42 : decode cX5_strike 42 = .ok (.iload 4, 2) := by decide +kernel
theorem dX5_strike_44 : decode cX5_strike 44 = .ok (.invokevirtual 64, 3) := by decide +kernel
theorem dX5_strike_47 : decode cX5_strike 47 = .ok (.return_, 1) := by decide +kernel
theorem dX5_rock_0 : decode cX5_rock 0 = .ok (.aload_n 0, 1) := by decide +kernel
theorem dX5_rock_1 : decode cX5_rock 1 = .ok (.dup, 1) := by decide +kernel
theorem dX5_rock_2 : decode cX5_rock 2 = .ok (.getfield 46, 3) := by decide +kernel
theorem dX5_rock_5 : decode cX5_rock 5 = .ok (.iconst 1, 1) := by decide +kernel
theorem dX5_rock_6 : decode cX5_rock 6 = .ok (.iadd, 1) := by decide +kernel
theorem dX5_rock_7 : decode cX5_rock 7 = .ok (.putfield 46, 3) := by decide +kernel
theorem dX5_rock_10 : decode cX5_rock 10 = .ok (.aload_n 0, 1) := by decide +kernel
theorem dX5_rock_11 : decode cX5_rock 11 = .ok (.getfield 21, 3) := by decide +kernel
theorem dX5_rock_14 : decode cX5_rock 14 = .ok (.iload_n 1, 1) := by decide +kernel
theorem dX5_rock_15 : decode cX5_rock 15 = .ok (.dup2, 1) := by decide +kernel
theorem dX5_rock_16 : decode cX5_rock 16 = .ok (.iaload, 1) := by decide +kernel
theorem dX5_rock_17 : decode cX5_rock 17 = .ok (.iconst 1, 1) := by decide +kernel
theorem dX5_rock_18 : decode cX5_rock 18 = .ok (.iadd, 1) := by decide +kernel
theorem dX5_rock_19 : decode cX5_rock 19 = .ok (.iastore, 1) := by decide +kernel
theorem dX5_rock_20 : decode cX5_rock 20 = .ok (.return_, 1) := by decide +kernel
theorem dX5_whoStandsAt_0 : decode cX5_whoStandsAt 0 = .ok (.iload_n 1, 1) := by decide +kernel
theorem dX5_whoStandsAt_1 : decode cX5_whoStandsAt 1 = .ok (.ifCond .lt 17, 3) := by decide +kernel
theorem dX5_whoStandsAt_4 : decode cX5_whoStandsAt 4 = .ok (.iload_n 1, 1) := by decide +kernel
theorem dX5_whoStandsAt_5 : decode cX5_whoStandsAt 5 = .ok (.iconst 5, 1) := by decide +kernel
theorem dX5_whoStandsAt_6 : decode cX5_whoStandsAt 6 = .ok (.if_icmp .ge 12, 3) := by decide +kernel
theorem dX5_whoStandsAt_9 : decode cX5_whoStandsAt 9 = .ok (.iload_n 2, 1) := by decide +kernel
theorem dX5_whoStandsAt_10 : decode cX5_whoStandsAt 10 = .ok (.ifCond .lt 8, 3) := by decide +kernel
theorem dX5_whoStandsAt_13 : decode cX5_whoStandsAt 13 = .ok (.iload_n 2, 1) := by decide +kernel
theorem dX5_whoStandsAt_14 : decode cX5_whoStandsAt 14 = .ok (.iconst 5, 1) := by decide +kernel
theorem dX5_whoStandsAt_15 : decode cX5_whoStandsAt 15 = .ok (.if_icmp .lt 5, 3) := by decide +kernel
theorem dX5_whoStandsAt_18 : decode cX5_whoStandsAt 18 = .ok (.iconst (-1), 1) := by decide +kernel
theorem dX5_whoStandsAt_19 : decode cX5_whoStandsAt 19 = .ok (.ireturn, 1) := by decide +kernel
theorem dX5_whoStandsAt_20 : decode cX5_whoStandsAt 20 = .ok (.getstatic 72, 3) := by decide +kernel
theorem dX5_whoStandsAt_23 : decode cX5_whoStandsAt 23 = .ok (.iload_n 1, 1) := by decide +kernel
theorem dX5_whoStandsAt_24 : decode cX5_whoStandsAt 24 = .ok (.iconst 5, 1) := by decide +kernel
theorem dX5_whoStandsAt_25 : decode cX5_whoStandsAt 25 = .ok (.imul, 1) := by decide +kernel
theorem dX5_whoStandsAt_26 : decode cX5_whoStandsAt 26 = .ok (.iload_n 2, 1) := by decide +kernel
theorem dX5_whoStandsAt_27 : decode cX5_whoStandsAt 27 = .ok (.iadd, 1) := by decide +kernel
theorem dX5_whoStandsAt_28 : decode cX5_whoStandsAt 28 = .ok (.iaload, 1) := by decide +kernel
theorem dX5_whoStandsAt_29 : decode cX5_whoStandsAt 29 = .ok (.istore_n 3, 1) := by decide +kernel
theorem dX5_whoStandsAt_30 : decode cX5_whoStandsAt 30 = .ok (.iload_n 3, 1) := by decide +kernel
theorem dX5_whoStandsAt_31 : decode cX5_whoStandsAt 31 = .ok (.ifCond .lt 9, 3) := by decide +kernel
theorem dX5_whoStandsAt_34 : decode cX5_whoStandsAt 34 = .ok (.iload_n 3, 1) := by decide +kernel
theorem dX5_whoStandsAt_35 : decode cX5_whoStandsAt 35 = .ok (.bipush 9, 2) := by decide +kernel
theorem dX5_whoStandsAt_37 : decode cX5_whoStandsAt 37 = .ok (.if_icmp .lt 5, 3) := by decide +kernel
theorem dX5_whoStandsAt_40 : decode cX5_whoStandsAt 40 = .ok (.iconst (-1), 1) := by decide +kernel
theorem dX5_whoStandsAt_41 : decode cX5_whoStandsAt 41 = .ok (.ireturn, 1) := by decide +kernel
theorem dX5_whoStandsAt_42 : decode cX5_whoStandsAt 42 = .ok (.aload_n 0, 1) := by decide +kernel
theorem dX5_whoStandsAt_43 : decode cX5_whoStandsAt 43 = .ok (.getfield 9, 3) := by decide +kernel
theorem dX5_whoStandsAt_46 : decode cX5_whoStandsAt 46 = .ok (.iload_n 3, 1) := by decide +kernel
theorem dX5_whoStandsAt_47 : decode cX5_whoStandsAt 47 = .ok (.iaload, 1) := by decide +kernel
theorem dX5_whoStandsAt_48 : decode cX5_whoStandsAt 48 = .ok (.istore 4, 2) := by decide +kernel
theorem dX5_whoStandsAt_50 : decode cX5_whoStandsAt 50 = .ok (.iload 4, 2) := by decide +kernel
theorem dX5_whoStandsAt_52 : decode cX5_whoStandsAt 52 = .ok (.ifCond .lt 28, 3) := by decide +kernel
theorem dX5_whoStandsAt_55 : decode cX5_whoStandsAt 55 = .ok (.iload 4, 2) := by decide +kernel
theorem dX5_whoStandsAt_57 : decode cX5_whoStandsAt 57 = .ok (.bipush 9, 2) := by decide +kernel
theorem dX5_whoStandsAt_59 : decode cX5_whoStandsAt 59 = .ok (.if_icmp .ge 21, 3) := by decide +kernel
theorem dX5_whoStandsAt_62 : decode cX5_whoStandsAt 62 = .ok (.aload_n 0, 1) := by decide +kernel
theorem dX5_whoStandsAt_63 : decode cX5_whoStandsAt 63 = .ok (.getfield 43, 3) := by decide +kernel
theorem dX5_whoStandsAt_66 : decode cX5_whoStandsAt 66 = .ok (.iload 4, 2) := by decide +kernel
theorem dX5_whoStandsAt_68 : decode cX5_whoStandsAt 68 = .ok (.ishr, 1) := by decide +kernel
theorem dX5_whoStandsAt_69 : decode cX5_whoStandsAt 69 = .ok (.iconst 1, 1) := by decide +kernel
theorem dX5_whoStandsAt_70 : decode cX5_whoStandsAt 70 = .ok (.iand, 1) := by decide +kernel
theorem dX5_whoStandsAt_71 : decode cX5_whoStandsAt 71 = .ok (.iconst 1, 1) := by decide +kernel
theorem dX5_whoStandsAt_72 : decode cX5_whoStandsAt 72 = .ok (.if_icmp .ne 8, 3) := by decide +kernel
theorem dX5_whoStandsAt_75 : decode cX5_whoStandsAt 75 = .ok (.iload 4, 2) := by decide +kernel
theorem dX5_whoStandsAt_77 : decode cX5_whoStandsAt 77 = .ok (.goto 4, 3) := by decide +kernel
theorem dX5_whoStandsAt_80 : decode cX5_whoStandsAt 80 = .ok (.iconst (-1), 1) := by decide +kernel
theorem dX5_whoStandsAt_81 : decode cX5_whoStandsAt 81 = .ok (.ireturn, 1) := by decide +kernel
theorem dX6_init_0 : decode cX6_init 0 = .ok (.aload_n 0, 1) := by decide +kernel
theorem dX6_init_1 : decode cX6_init 1 = .ok (.invokespecial 3, 3) := by decide +kernel
theorem dX6_init_4 : decode cX6_init 4 = .ok (.aload_n 0, 1) := by decide +kernel
theorem dX6_init_5 : decode cX6_init 5 = .ok (.sipush 600, 3) := by decide +kernel
theorem dX6_init_8 : decode cX6_init 8 = .ok (.newarray .int, 2) := by decide +kernel
theorem dX6_init_10 : decode cX6_init 10 = .ok (.putfield 9, 3) := by decide +kernel
theorem dX6_init_13 : decode cX6_init 13 = .ok (.return_, 1) := by decide +kernel
theorem dX6_fill_0 : decode cX6_fill 0 = .ok (.aload_n 0, 1) := by decide +kernel
theorem dX6_fill_1 : decode cX6_fill 1 = .ok (.getfield 15, 3) := by decide +kernel
theorem dX6_fill_4 : decode cX6_fill 4 = .ok (.ifCond .eq 4, 3) := by decide +kernel
theorem dX6_fill_7 : decode cX6_fill 7 = .ok (.return_, 1) := by decide +kernel
theorem dX6_fill_8 : decode cX6_fill 8 = .ok (.aload_n 1, 1) := by decide +kernel
theorem dX6_fill_9 : decode cX6_fill 9 = .ok (.aload_n 2, 1) := by decide +kernel
theorem dX6_fill_10 : decode cX6_fill 10 = .ok (.invokevirtual 19, 3) := by decide +kernel
theorem dX6_fill_13 : decode cX6_fill 13 = .ok (.iconst 0, 1) := by decide +kernel
theorem dX6_fill_14 : decode cX6_fill 14 = .ok (.istore_n 3, 1) := by decide +kernel
theorem dX6_fill_15 : decode cX6_fill 15 = .ok (.iload_n 3, 1) := by decide +kernel
theorem dX6_fill_16 : decode cX6_fill 16 = .ok (.bipush 15, 2) := by decide +kernel
theorem dX6_fill_18 : decode cX6_fill 18 = .ok (.if_icmp .ge 88, 3) := by decide +kernel
theorem dX6_fill_21 : decode cX6_fill 21 = .ok (.iload_n 3, 1) := by decide +kernel
theorem dX6_fill_22 : decode cX6_fill 22 = .ok (.iconst 3, 1) := by decide +kernel
theorem dX6_fill_23 : decode cX6_fill 23 = .ok (.idiv, 1) := by decide +kernel
theorem dX6_fill_24 : decode cX6_fill 24 = .ok (.istore 4, 2) := by decide +kernel
theorem dX6_fill_26 : decode cX6_fill 26 = .ok (.iload_n 3, 1) := by decide +kernel
theorem dX6_fill_27 : decode cX6_fill 27 = .ok (.iconst 3, 1) := by decide +kernel
theorem dX6_fill_28 : decode cX6_fill 28 = .ok (.irem, 1) := by decide +kernel
theorem dX6_fill_29 : decode cX6_fill 29 = .ok (.istore 5, 2) := by decide +kernel
theorem dX6_fill_31 : decode cX6_fill 31 = .ok (.aload_n 1, 1) := by decide +kernel
theorem dX6_fill_32 : decode cX6_fill 32 = .ok (.iload 4, 2) := by decide +kernel
theorem dX6_fill_34 : decode cX6_fill 34 = .ok (.iload 5, 2) := by decide +kernel
theorem dX6_fill_36 : decode cX6_fill 36 = .ok (.aload_n 2, 1) := by decide +kernel
theorem dX6_fill_37 : decode cX6_fill 37 = .ok (.getfield 25, 3) := by decide +kernel
theorem dX6_fill_40 : decode cX6_fill 40 = .ok (.invokevirtual 31, 3) := by decide +kernel
theorem dX6_fill_43 : decode cX6_fill 43 = .ok (.istore 6, 2) := by decide +kernel
theorem dX6_fill_45 : decode cX6_fill 45 = .ok (.iconst 1, 1) := by decide +kernel
theorem dX6_fill_46 : decode cX6_fill 46 = .ok (.istore 7, 2) := by decide +kernel
theorem dX6_fill_48 : decode cX6_fill 48 = .ok (.iload 7, 2) := by decide +kernel
theorem dX6_fill_50 : decode cX6_fill 50 = .ok (.bipush 40, 2) := by decide +kernel
theorem dX6_fill_52 : decode cX6_fill 52 = .ok (.if_icmp .gt 48, 3) := by decide +kernel
theorem dX6_fill_55 : decode cX6_fill 55 = .ok (.aload_n 0, 1) := by decide +kernel
theorem dX6_fill_56 : decode cX6_fill 56 = .ok (.getfield 9, 3) := by decide +kernel
theorem dX6_fill_59 : decode cX6_fill 59 = .ok (.iload_n 3, 1) := by decide +kernel
theorem dX6_fill_60 : decode cX6_fill 60 = .ok (.bipush 40, 2) := by decide +kernel
theorem dX6_fill_62 : decode cX6_fill 62 = .ok (.imul, 1) := by decide +kernel
theorem dX6_fill_63 : decode cX6_fill 63 = .ok (.iload 7, 2) := by decide +kernel
theorem dX6_fill_65 : decode cX6_fill 65 = .ok (.iadd, 1) := by decide +kernel
theorem dX6_fill_66 : decode cX6_fill 66 = .ok (.iconst 1, 1) := by decide +kernel
theorem dX6_fill_67 : decode cX6_fill 67 = .ok (.isub, 1) := by decide +kernel
theorem dX6_fill_68 : decode cX6_fill 68 = .ok (.iload 7, 2) := by decide +kernel
theorem dX6_fill_70 : decode cX6_fill 70 = .ok (.iload 6, 2) := by decide +kernel
theorem dX6_fill_72 : decode cX6_fill 72 = .ok (.if_icmp .ge 7, 3) := by decide +kernel
theorem dX6_fill_75 : decode cX6_fill 75 = .ok (.iconst 0, 1) := by decide +kernel
theorem dX6_fill_76 : decode cX6_fill 76 = .ok (.goto 17, 3) := by decide +kernel
theorem dX6_fill_79 : decode cX6_fill 79 = .ok (.aload_n 1, 1) := by decide +kernel
theorem dX6_fill_80 : decode cX6_fill 80 = .ok (.iload 4, 2) := by decide +kernel
theorem dX6_fill_82 : decode cX6_fill 82 = .ok (.iload 5, 2) := by decide +kernel
theorem dX6_fill_84 : decode cX6_fill 84 = .ok (.iload 7, 2) := by decide +kernel
theorem dX6_fill_86 : decode cX6_fill 86 = .ok (.aload_n 2, 1) := by decide +kernel
theorem dX6_fill_87 : decode cX6_fill 87 = .ok (.getfield 25, 3) := by decide +kernel
theorem dX6_fill_90 : decode cX6_fill 90 = .ok (.invokevirtual 35, 3) := by decide +kernel
theorem dX6_fill_93 : decode cX6_fill 93 = .ok (.iastore, 1) := by decide +kernel
theorem dX6_fill_94 : decode cX6_fill 94 = .ok (.iinc 7 1, 3) := by decide +kernel
theorem dX6_fill_97 : decode cX6_fill 97 = .ok (.goto (-49), 3) := by decide +kernel
theorem dX6_fill_100 : decode cX6_fill 100 = .ok (.iinc 3 1, 3) := by decide +kernel
theorem dX6_fill_103 : decode cX6_fill 103 = .ok (.goto (-88), 3) := by decide +kernel
theorem dX6_fill_106 : decode cX6_fill 106 = .ok (.aload_n 0, 1) := by decide +kernel
theorem dX6_fill_107 : decode cX6_fill 107 = .ok (.iconst 1, 1) := by decide +kernel
theorem dX6_fill_108 : decode cX6_fill 108 = .ok (.putfield 15, 3) := by decide +kernel
theorem dX6_fill_111 : decode cX6_fill 111 = .ok (.return_, 1) := by decide +kernel
theorem dX6_howMany_0 : decode cX6_howMany 0 = .ok (.iconst 0, 1) := by decide +kernel
theorem dX6_howMany_1 : decode cX6_howMany 1 = .ok (.istore_n 2, 1) := by decide +kernel
theorem dX6_howMany_2 : decode cX6_howMany 2 = .ok (.iconst 0, 1) := by decide +kernel
theorem dX6_howMany_3 : decode cX6_howMany 3 = .ok (.istore_n 3, 1) := by decide +kernel
theorem dX6_howMany_4 : decode cX6_howMany 4 = .ok (.iload_n 3, 1) := by decide +kernel
theorem dX6_howMany_5 : decode cX6_howMany 5 = .ok (.sipush 600, 3) := by decide +kernel
theorem dX6_howMany_8 : decode cX6_howMany 8 = .ok (.if_icmp .ge 22, 3) := by decide +kernel
theorem dX6_howMany_11 : decode cX6_howMany 11 = .ok (.aload_n 0, 1) := by decide +kernel
theorem dX6_howMany_12 : decode cX6_howMany 12 = .ok (.getfield 9, 3) := by decide +kernel
theorem dX6_howMany_15 : decode cX6_howMany 15 = .ok (.iload_n 3, 1) := by decide +kernel
theorem dX6_howMany_16 : decode cX6_howMany 16 = .ok (.iaload, 1) := by decide +kernel
theorem dX6_howMany_17 : decode cX6_howMany 17 = .ok (.iload_n 1, 1) := by decide +kernel
theorem dX6_howMany_18 : decode cX6_howMany 18 = .ok (.if_icmp .ne 6, 3) := by decide +kernel
theorem dX6_howMany_21 : decode cX6_howMany 21 = .ok (.iinc 2 1, 3) := by decide +kernel
theorem dX6_howMany_24 : decode cX6_howMany 24 = .ok (.iinc 3 1, 3) := by decide +kernel
theorem dX6_howMany_27 : decode cX6_howMany 27 = .ok (.goto (-23), 3) := by decide +kernel
theorem dX6_howMany_30 : decode cX6_howMany 30 = .ok (.iload_n 2, 1) := by decide +kernel
theorem dX6_howMany_31 : decode cX6_howMany 31 = .ok (.ireturn, 1) := by decide +kernel
theorem dX6_firstOf_0 : decode cX6_firstOf 0 = .ok (.iconst 0, 1) := by decide +kernel
theorem dX6_firstOf_1 : decode cX6_firstOf 1 = .ok (.istore_n 2, 1) := by decide +kernel
theorem dX6_firstOf_2 : decode cX6_firstOf 2 = .ok (.iload_n 2, 1) := by decide +kernel
theorem dX6_firstOf_3 : decode cX6_firstOf 3 = .ok (.sipush 600, 3) := by decide +kernel
theorem dX6_firstOf_6 : decode cX6_firstOf 6 = .ok (.if_icmp .ge 21, 3) := by decide +kernel
theorem dX6_firstOf_9 : decode cX6_firstOf 9 = .ok (.aload_n 0, 1) := by decide +kernel
theorem dX6_firstOf_10 : decode cX6_firstOf 10 = .ok (.getfield 9, 3) := by decide +kernel
theorem dX6_firstOf_13 : decode cX6_firstOf 13 = .ok (.iload_n 2, 1) := by decide +kernel
theorem dX6_firstOf_14 : decode cX6_firstOf 14 = .ok (.iaload, 1) := by decide +kernel
theorem dX6_firstOf_15 : decode cX6_firstOf 15 = .ok (.iload_n 1, 1) := by decide +kernel
theorem dX6_firstOf_16 : decode cX6_firstOf 16 = .ok (.if_icmp .ne 5, 3) := by decide +kernel
theorem dX6_firstOf_19 : decode cX6_firstOf 19 = .ok (.iload_n 2, 1) := by decide +kernel
theorem dX6_firstOf_20 : decode cX6_firstOf 20 = .ok (.ireturn, 1) := by decide +kernel
theorem dX6_firstOf_21 : decode cX6_firstOf 21 = .ok (.iinc 2 1, 3) := by decide +kernel
theorem dX6_firstOf_24 : decode cX6_firstOf 24 = .ok (.goto (-22), 3) := by decide +kernel
theorem dX6_firstOf_27 : decode cX6_firstOf 27 = .ok (.iconst (-1), 1) := by decide +kernel
theorem dX6_firstOf_28 : decode cX6_firstOf 28 = .ok (.ireturn, 1) := by decide +kernel
theorem dX6_linesOf_0 : decode cX6_linesOf 0 = .ok (.iconst 0, 1) := by decide +kernel
theorem dX6_linesOf_1 : decode cX6_linesOf 1 = .ok (.istore_n 2, 1) := by decide +kernel
theorem dX6_linesOf_2 : decode cX6_linesOf 2 = .ok (.iconst 0, 1) := by decide +kernel
theorem dX6_linesOf_3 : decode cX6_linesOf 3 = .ok (.istore_n 3, 1) := by decide +kernel
theorem dX6_linesOf_4 : decode cX6_linesOf 4 = .ok (.iload_n 3, 1) := by decide +kernel
theorem dX6_linesOf_5 : decode cX6_linesOf 5 = .ok (.sipush 600, 3) := by decide +kernel
theorem dX6_linesOf_8 : decode cX6_linesOf 8 = .ok (.if_icmp .ge 28, 3) := by decide +kernel
theorem dX6_linesOf_11 : decode cX6_linesOf 11 = .ok (.aload_n 0, 1) := by decide +kernel
theorem dX6_linesOf_12 : decode cX6_linesOf 12 = .ok (.getfield 9, 3) := by decide +kernel
theorem dX6_linesOf_15 : decode cX6_linesOf 15 = .ok (.iload_n 3, 1) := by decide +kernel
theorem dX6_linesOf_16 : decode cX6_linesOf 16 = .ok (.iaload, 1) := by decide +kernel
theorem dX6_linesOf_17 : decode cX6_linesOf 17 = .ok (.iload_n 1, 1) := by decide +kernel
theorem dX6_linesOf_18 : decode cX6_linesOf 18 = .ok (.if_icmp .ne 12, 3) := by decide +kernel
theorem dX6_linesOf_21 : decode cX6_linesOf 21 = .ok (.iload_n 2, 1) := by decide +kernel
theorem dX6_linesOf_22 : decode cX6_linesOf 22 = .ok (.iconst 1, 1) := by decide +kernel
theorem dX6_linesOf_23 : decode cX6_linesOf 23 = .ok (.iload_n 3, 1) := by decide +kernel
theorem dX6_linesOf_24 : decode cX6_linesOf 24 = .ok (.bipush 120, 2) := by decide +kernel
theorem dX6_linesOf_26 : decode cX6_linesOf 26 = .ok (.idiv, 1) := by decide +kernel
theorem dX6_linesOf_27 : decode cX6_linesOf 27 = .ok (.ishl, 1) := by decide +kernel
theorem dX6_linesOf_28 : decode cX6_linesOf 28 = .ok (.ior, 1) := by decide +kernel
theorem dX6_linesOf_29 : decode cX6_linesOf 29 = .ok (.istore_n 2, 1) := by decide +kernel
theorem dX6_linesOf_30 : decode cX6_linesOf 30 = .ok (.iinc 3 1, 3) := by decide +kernel
theorem dX6_linesOf_33 : decode cX6_linesOf 33 = .ok (.goto (-29), 3) := by decide +kernel
theorem dX6_linesOf_36 : decode cX6_linesOf 36 = .ok (.iload_n 2, 1) := by decide +kernel
theorem dX6_linesOf_37 : decode cX6_linesOf 37 = .ok (.ireturn, 1) := by decide +kernel
theorem dX6_gentlest_0 : decode cX6_gentlest 0 = .ok (.iconst 1, 1) := by decide +kernel
theorem dX6_gentlest_1 : decode cX6_gentlest 1 = .ok (.istore_n 3, 1) := by decide +kernel
theorem dX6_gentlest_2 : decode cX6_gentlest 2 = .ok (.iload_n 3, 1) := by decide +kernel
theorem dX6_gentlest_3 : decode cX6_gentlest 3 = .ok (.bipush 40, 2) := by decide +kernel
theorem dX6_gentlest_5 : decode cX6_gentlest 5 = .ok (.if_icmp .gt 64, 3) := by decide +kernel
theorem dX6_gentlest_8 : decode cX6_gentlest 8 = .ok (.iconst 0, 1) := by decide +kernel
theorem dX6_gentlest_9 : decode cX6_gentlest 9 = .ok (.istore 4, 2) := by decide +kernel
theorem dX6_gentlest_11 : decode cX6_gentlest 11 = .ok (.iload 4, 2) := by decide +kernel
theorem dX6_gentlest_13 : decode cX6_gentlest 13 = .ok (.bipush 15, 2) := by decide +kernel
theorem dX6_gentlest_15 : decode cX6_gentlest 15 = .ok (.if_icmp .ge 48, 3) := by decide +kernel
theorem dX6_gentlest_18 : decode cX6_gentlest 18 = .ok (.iload 4, 2) := by decide +kernel
theorem dX6_gentlest_20 : decode cX6_gentlest 20 = .ok (.bipush 40, 2) := by decide +kernel
theorem dX6_gentlest_22 : decode cX6_gentlest 22 = .ok (.imul, 1) := by decide +kernel
theorem dX6_gentlest_23 : decode cX6_gentlest 23 = .ok (.iload_n 3, 1) := by decide +kernel
theorem dX6_gentlest_24 : decode cX6_gentlest 24 = .ok (.iadd, 1) := by decide +kernel
theorem dX6_gentlest_25 : decode cX6_gentlest 25 = .ok (.iconst 1, 1) := by decide +kernel
theorem dX6_gentlest_26 : decode cX6_gentlest 26 = .ok (.isub, 1) := by decide +kernel
theorem dX6_gentlest_27 : decode cX6_gentlest 27 = .ok (.istore 5, 2) := by decide +kernel
theorem dX6_gentlest_29 : decode cX6_gentlest 29 = .ok (.aload_n 0, 1) := by decide +kernel
theorem dX6_gentlest_30 : decode cX6_gentlest 30 = .ok (.getfield 9, 3) := by decide +kernel
theorem dX6_gentlest_33 : decode cX6_gentlest 33 = .ok (.iload 5, 2) := by decide +kernel
theorem dX6_gentlest_35 : decode cX6_gentlest 35 = .ok (.iaload, 1) := by decide +kernel
theorem dX6_gentlest_36 : decode cX6_gentlest 36 = .ok (.iload_n 1, 1) := by decide +kernel
theorem dX6_gentlest_37 : decode cX6_gentlest 37 = .ok (.iand, 1) := by decide +kernel
theorem dX6_gentlest_38 : decode cX6_gentlest 38 = .ok (.iload_n 1, 1) := by decide +kernel
theorem dX6_gentlest_39 : decode cX6_gentlest 39 = .ok (.if_icmp .ne 18, 3) := by decide +kernel
theorem dX6_gentlest_42 : decode cX6_gentlest 42 = .ok (.aload_n 0, 1) := by decide +kernel
theorem dX6_gentlest_43 : decode cX6_gentlest 43 = .ok (.getfield 9, 3) := by decide +kernel
theorem dX6_gentlest_46 : decode cX6_gentlest 46 = .ok (.iload 5, 2) := by decide +kernel
theorem dX6_gentlest_48 : decode cX6_gentlest 48 = .ok (.iaload, 1) := by decide +kernel
theorem dX6_gentlest_49 : decode cX6_gentlest 49 = .ok (.iload_n 2, 1) := by decide +kernel
theorem dX6_gentlest_50 : decode cX6_gentlest 50 = .ok (.iand, 1) := by decide +kernel
theorem dX6_gentlest_51 : decode cX6_gentlest 51 = .ok (.ifCond .ne 6, 3) := by decide +kernel
theorem dX6_gentlest_54 : decode cX6_gentlest 54 = .ok (.iload 5, 2) := by decide +kernel
theorem dX6_gentlest_56 : decode cX6_gentlest 56 = .ok (.ireturn, 1) := by decide +kernel
theorem dX6_gentlest_57 : decode cX6_gentlest 57 = .ok (.iinc 4 1, 3) := by decide +kernel
theorem dX6_gentlest_60 : decode cX6_gentlest 60 = .ok (.goto (-49), 3) := by decide +kernel
theorem dX6_gentlest_63 : decode cX6_gentlest 63 = .ok (.iinc 3 1, 3) := by decide +kernel
theorem dX6_gentlest_66 : decode cX6_gentlest 66 = .ok (.goto (-64), 3) := by decide +kernel
theorem dX6_gentlest_69 : decode cX6_gentlest 69 = .ok (.iconst (-1), 1) := by decide +kernel
theorem dX6_gentlest_70 : decode cX6_gentlest 70 = .ok (.ireturn, 1) := by decide +kernel
theorem dX6_worst_0 : decode cX6_worst 0 = .ok (.iconst 0, 1) := by decide +kernel
theorem dX6_worst_1 : decode cX6_worst 1 = .ok (.istore_n 1, 1) := by decide +kernel
theorem dX6_worst_2 : decode cX6_worst 2 = .ok (.iconst 1, 1) := by decide +kernel
theorem dX6_worst_3 : decode cX6_worst 3 = .ok (.istore_n 2, 1) := by decide +kernel
theorem dX6_worst_4 : decode cX6_worst 4 = .ok (.iload_n 2, 1) := by decide +kernel
theorem dX6_worst_5 : decode cX6_worst 5 = .ok (.sipush 600, 3) := by decide +kernel
theorem dX6_worst_8 : decode cX6_worst 8 = .ok (.if_icmp .ge 32, 3) := by decide +kernel
theorem dX6_worst_11 : decode cX6_worst 11 = .ok (.aload_n 0, 1) := by decide +kernel
theorem dX6_worst_12 : decode cX6_worst 12 = .ok (.getfield 9, 3) := by decide +kernel
theorem dX6_worst_15 : decode cX6_worst 15 = .ok (.iload_n 2, 1) := by decide +kernel
theorem dX6_worst_16 : decode cX6_worst 16 = .ok (.iaload, 1) := by decide +kernel
theorem dX6_worst_17 : decode cX6_worst 17 = .ok (.invokestatic 39, 3) := by decide +kernel
theorem dX6_worst_20 : decode cX6_worst 20 = .ok (.aload_n 0, 1) := by decide +kernel
theorem dX6_worst_21 : decode cX6_worst 21 = .ok (.getfield 9, 3) := by decide +kernel
theorem dX6_worst_24 : decode cX6_worst 24 = .ok (.iload_n 1, 1) := by decide +kernel
theorem dX6_worst_25 : decode cX6_worst 25 = .ok (.iaload, 1) := by decide +kernel
theorem dX6_worst_26 : decode cX6_worst 26 = .ok (.invokestatic 39, 3) := by decide +kernel
theorem dX6_worst_29 : decode cX6_worst 29 = .ok (.if_icmp .le 5, 3) := by decide +kernel
theorem dX6_worst_32 : decode cX6_worst 32 = .ok (.iload_n 2, 1) := by decide +kernel
theorem dX6_worst_33 : decode cX6_worst 33 = .ok (.istore_n 1, 1) := by decide +kernel
theorem dX6_worst_34 : decode cX6_worst 34 = .ok (.iinc 2 1, 3) := by decide +kernel
theorem dX6_worst_37 : decode cX6_worst 37 = .ok (.goto (-33), 3) := by decide +kernel
theorem dX6_worst_40 : decode cX6_worst 40 = .ok (.iload_n 1, 1) := by decide +kernel
theorem dX6_worst_41 : decode cX6_worst 41 = .ok (.ireturn, 1) := by decide +kernel
theorem dX6_fallenBy_0 : decode cX6_fallenBy 0 = .ok (.iload_n 1, 1) := by decide +kernel
theorem dX6_fallenBy_1 : decode cX6_fallenBy 1 = .ok (.ifCond .lt 10, 3) := by decide +kernel
theorem dX6_fallenBy_4 : decode cX6_fallenBy 4 = .ok (.iload_n 1, 1) := by decide +kernel
theorem dX6_fallenBy_5 : decode cX6_fallenBy 5 = .ok (.sipush 600, 3) := by decide +kernel
theorem dX6_fallenBy_8 : decode cX6_fallenBy 8 = .ok (.if_icmp .lt 7, 3) := by decide +kernel
theorem dX6_fallenBy_11 : decode cX6_fallenBy 11 = .ok (.iconst (-1), 1) := by decide +kernel
theorem dX6_fallenBy_12 : decode cX6_fallenBy 12 = .ok (.goto 12, 3) := by decide +kernel
theorem dX6_fallenBy_15 : decode cX6_fallenBy 15 = .ok (.aload_n 0, 1) := by decide +kernel
theorem dX6_fallenBy_16 : decode cX6_fallenBy 16 = .ok (.getfield 9, 3) := by decide +kernel
theorem dX6_fallenBy_19 : decode cX6_fallenBy 19 = .ok (.iload_n 1, 1) := by decide +kernel
theorem dX6_fallenBy_20 : decode cX6_fallenBy 20 = .ok (.iaload, 1) := by decide +kernel
theorem dX6_fallenBy_21 : decode cX6_fallenBy 21 = .ok (.invokestatic 39, 3) := by decide +kernel
theorem dX6_fallenBy_24 : decode cX6_fallenBy 24 = .ok (.ireturn, 1) := by decide +kernel
theorem dX6_safest_0 : decode cX6_safest 0 = .ok (.iconst (-1), 1) := by decide +kernel
theorem dX6_safest_1 : decode cX6_safest 1 = .ok (.istore_n 2, 1) := by decide +kernel
theorem dX6_safest_2 : decode cX6_safest 2 = .ok (.sipush 601, 3) := by decide +kernel
theorem dX6_safest_5 : decode cX6_safest 5 = .ok (.istore_n 3, 1) := by decide +kernel
theorem dX6_safest_6 : decode cX6_safest 6 = .ok (.iconst 0, 1) := by decide +kernel
theorem dX6_safest_7 : decode cX6_safest 7 = .ok (.istore 4, 2) := by decide +kernel
theorem dX6_safest_9 : decode cX6_safest 9 = .ok (.iload 4, 2) := by decide +kernel
theorem dX6_safest_11 : decode cX6_safest 11 = .ok (.bipush 9, 2) := by decide +kernel
theorem dX6_safest_13 : decode cX6_safest 13 = .ok (.if_icmp .ge 38, 3) := by decide +kernel
theorem dX6_safest_16 : decode cX6_safest 16 = .ok (.aload_n 1, 1) := by decide +kernel
theorem dX6_safest_17 : decode cX6_safest 17 = .ok (.iload 4, 2) := by decide +kernel
theorem dX6_safest_19 : decode cX6_safest 19 = .ok (.invokevirtual 45, 3) := by decide +kernel
theorem dX6_safest_22 : decode cX6_safest 22 = .ok (.ifCond .eq 23, 3) := by decide +kernel
theorem dX6_safest_25 : decode cX6_safest 25 = .ok (.aload_n 0, 1) := by decide +kernel
theorem dX6_safest_26 : decode cX6_safest 26 = .ok (.iload 4, 2) := by decide +kernel
theorem dX6_safest_28 : decode cX6_safest 28 = .ok (.invokevirtual 49, 3) := by decide +kernel
theorem dX6_safest_31 : decode cX6_safest 31 = .ok (.istore 5, 2) := by decide +kernel
theorem dX6_safest_33 : decode cX6_safest 33 = .ok (.iload 5, 2) := by decide +kernel
theorem dX6_safest_35 : decode cX6_safest 35 = .ok (.iload_n 3, 1) := by decide +kernel
theorem dX6_safest_36 : decode cX6_safest 36 = .ok (.if_icmp .ge 9, 3) := by decide +kernel
theorem dX6_safest_39 : decode cX6_safest 39 = .ok (.iload 5, 2) := by decide +kernel
theorem dX6_safest_41 : decode cX6_safest 41 = .ok (.istore_n 3, 1) := by decide +kernel
theorem dX6_safest_42 : decode cX6_safest 42 = .ok (.iload 4, 2) := by decide +kernel
theorem dX6_safest_44 : decode cX6_safest 44 = .ok (.istore_n 2, 1) := by decide +kernel
theorem dX6_safest_45 : decode cX6_safest 45 = .ok (.iinc 4 1, 3) := by decide +kernel
theorem dX6_safest_48 : decode cX6_safest 48 = .ok (.goto (-39), 3) := by decide +kernel
theorem dX6_safest_51 : decode cX6_safest 51 = .ok (.iload_n 2, 1) := by decide +kernel
theorem dX6_safest_52 : decode cX6_safest 52 = .ok (.ireturn, 1) := by decide +kernel
theorem dX6_fallsOf_0 : decode cX6_fallsOf 0 = .ok (.iload_n 1, 1) := by decide +kernel
theorem dX6_fallsOf_1 : decode cX6_fallsOf 1 = .ok (.iconst (-1), 1) := by decide +kernel
theorem dX6_fallsOf_2 : decode cX6_fallsOf 2 = .ok (.if_icmp .ne 7, 3) := by decide +kernel
theorem dX6_fallsOf_5 : decode cX6_fallsOf 5 = .ok (.iconst (-1), 1) := by decide +kernel
theorem dX6_fallsOf_6 : decode cX6_fallsOf 6 = .ok (.goto 12, 3) := by decide +kernel
theorem dX6_fallsOf_9 : decode cX6_fallsOf 9 = .ok (.aload_n 0, 1) := by decide +kernel
theorem dX6_fallsOf_10 : decode cX6_fallsOf 10 = .ok (.iload_n 1, 1) := by decide +kernel
theorem dX6_fallsOf_11 : decode cX6_fallsOf 11 = .ok (.iconst 0, 1) := by decide +kernel
theorem dX6_fallsOf_12 : decode cX6_fallsOf 12 = .ok (.sipush 600, 3) := by decide +kernel
theorem dX6_fallsOf_15 : decode cX6_fallsOf 15 = .ok (.invokevirtual 52, 3) := by decide +kernel
theorem dX6_fallsOf_18 : decode cX6_fallsOf 18 = .ok (.ireturn, 1) := by decide +kernel
theorem dX6_fallsAmong_0 : decode cX6_fallsAmong 0 = .ok (.iconst 0, 1) := by decide +kernel
theorem dX6_fallsAmong_1 : decode cX6_fallsAmong 1 = .ok (.istore 4, 2) := by decide +kernel
theorem dX6_fallsAmong_3 : decode cX6_fallsAmong 3 = .ok (.iload_n 2, 1) := by decide +kernel
theorem dX6_fallsAmong_4 : decode cX6_fallsAmong 4 = .ok (.iconst 0, 1) := by decide +kernel
theorem dX6_fallsAmong_5 : decode cX6_fallsAmong 5 = .ok (.invokestatic 55, 3) := by decide +kernel
theorem dX6_fallsAmong_8 : decode cX6_fallsAmong 8 = .ok (.istore 5, 2) := by decide +kernel
theorem dX6_fallsAmong_10 : decode cX6_fallsAmong 10 = .ok (.iload 5, 2) := by decide +kernel
theorem dX6_fallsAmong_12 : decode cX6_fallsAmong 12 = .ok (.iload_n 3, 1) := by decide +kernel
theorem dX6_fallsAmong_13 : decode cX6_fallsAmong 13 = .ok (.if_icmp .ge 33, 3) := by decide +kernel
theorem dX6_fallsAmong_16 : decode cX6_fallsAmong 16 = .ok (.iload 5, 2) := by decide +kernel
theorem dX6_fallsAmong_18 : decode cX6_fallsAmong 18 = .ok (.sipush 600, 3) := by decide +kernel
theorem dX6_fallsAmong_21 : decode cX6_fallsAmong 21 = .ok (.if_icmp .ge 25, 3) := by decide +kernel
theorem dX6_fallsAmong_24 : decode cX6_fallsAmong 24 = .ok (.iload 4, 2) := by decide +kernel
theorem dX6_fallsAmong_26 : decode cX6_fallsAmong 26 = .ok (.aload_n 0, 1) := by decide +kernel
theorem dX6_fallsAmong_27 : decode cX6_fallsAmong 27 = .ok (.getfield 9, 3) := by decide +kernel
theorem dX6_fallsAmong_30 : decode cX6_fallsAmong 30 = .ok (.iload 5, 2) := by decide +kernel
theorem dX6_fallsAmong_32 : decode cX6_fallsAmong 32 = .ok (.iaload, 1) := by decide +kernel
theorem dX6_fallsAmong_33 : decode cX6_fallsAmong 33 = .ok (.iload_n 1, 1) := by decide +kernel
theorem dX6_fallsAmong_34 : decode cX6_fallsAmong 34 = .ok (.ishr, 1) := by decide +kernel
theorem dX6_fallsAmong_35 : decode cX6_fallsAmong 35 = .ok (.iconst 1, 1) := by decide +kernel
theorem dX6_fallsAmong_36 : decode cX6_fallsAmong 36 = .ok (.iand, 1) := by decide +kernel
theorem dX6_fallsAmong_37 : decode cX6_fallsAmong 37 = .ok (.iadd, 1) := by decide +kernel
theorem dX6_fallsAmong_38 : decode cX6_fallsAmong 38 = .ok (.istore 4, 2) := by decide +kernel
theorem dX6_fallsAmong_40 : decode cX6_fallsAmong 40 = .ok (.iinc 5 1, 3) := by decide +kernel
theorem dX6_fallsAmong_43 : decode cX6_fallsAmong 43 = .ok (.goto (-33), 3) := by decide +kernel
theorem dX6_fallsAmong_46 : decode cX6_fallsAmong 46 = .ok (.iload 4, 2) := by decide +kernel
theorem dX6_fallsAmong_48 : decode cX6_fallsAmong 48 = .ok (.ireturn, 1) := by decide +kernel
theorem dX6_bestToAsk_0 : decode cX6_bestToAsk 0 = .ok (.iconst (-1), 1) := by decide +kernel
theorem dX6_bestToAsk_1 : decode cX6_bestToAsk 1 = .ok (.istore_n 3, 1) := by decide +kernel
theorem dX6_bestToAsk_2 : decode cX6_bestToAsk 2 = .ok (.bipush 120, 2) := by decide +kernel
theorem dX6_bestToAsk_4 : decode cX6_bestToAsk 4 = .ok (.istore 4, 2) := by decide +kernel
theorem dX6_bestToAsk_6 : decode cX6_bestToAsk 6 = .ok (.iconst 0, 1) := by decide +kernel
theorem dX6_bestToAsk_7 : decode cX6_bestToAsk 7 = .ok (.istore 5, 2) := by decide +kernel
theorem dX6_bestToAsk_9 : decode cX6_bestToAsk 9 = .ok (.iload 5, 2) := by decide +kernel
theorem dX6_bestToAsk_11 : decode cX6_bestToAsk 11 = .ok (.iload_n 2, 1) := by decide +kernel
theorem dX6_bestToAsk_12 : decode cX6_bestToAsk 12 = .ok (.if_icmp .ge 53, 3) := by decide +kernel
theorem dX6_bestToAsk_15 : decode cX6_bestToAsk 15 = .ok (.aload_n 0, 1) := by decide +kernel
theorem dX6_bestToAsk_16 : decode cX6_bestToAsk 16 = .ok (.iload 5, 2) := by decide +kernel
theorem dX6_bestToAsk_18 : decode cX6_bestToAsk 18 = .ok (.iload_n 1, 1) := by decide +kernel
theorem dX6_bestToAsk_19 : decode cX6_bestToAsk 19 = .ok (.bipush 120, 2) := by decide +kernel
theorem dX6_bestToAsk_21 : decode cX6_bestToAsk 21 = .ok (.imul, 1) := by decide +kernel
theorem dX6_bestToAsk_22 : decode cX6_bestToAsk 22 = .ok (.iload_n 1, 1) := by decide +kernel
theorem dX6_bestToAsk_23 : decode cX6_bestToAsk 23 = .ok (.iconst 1, 1) := by decide +kernel
theorem dX6_bestToAsk_24 : decode cX6_bestToAsk 24 = .ok (.iadd, 1) := by decide +kernel
theorem dX6_bestToAsk_25 : decode cX6_bestToAsk 25 = .ok (.bipush 120, 2) := by decide +kernel
theorem dX6_bestToAsk_27 : decode cX6_bestToAsk 27 = .ok (.imul, 1) := by decide +kernel
theorem dX6_bestToAsk_28 : decode cX6_bestToAsk 28 = .ok (.invokevirtual 52, 3) := by decide +kernel
theorem dX6_bestToAsk_31 : decode cX6_bestToAsk 31 = .ok (.istore 6, 2) := by decide +kernel
theorem dX6_bestToAsk_33 : decode cX6_bestToAsk 33 = .ok (.iload 6, 2) := by decide +kernel
theorem dX6_bestToAsk_35 : decode cX6_bestToAsk 35 = .ok (.bipush 120, 2) := by decide +kernel
theorem dX6_bestToAsk_37 : decode cX6_bestToAsk 37 = .ok (.iload 6, 2) := by decide +kernel
theorem dX6_bestToAsk_39 : decode cX6_bestToAsk 39 = .ok (.isub, 1) := by decide +kernel
theorem dX6_bestToAsk_40 : decode cX6_bestToAsk 40 = .ok (.invokestatic 55, 3) := by decide +kernel
theorem dX6_bestToAsk_43 : decode cX6_bestToAsk 43 = .ok (.istore 7, 2) := by decide +kernel
theorem dX6_bestToAsk_45 : decode cX6_bestToAsk 45 = .ok (.iload 7, 2) := by decide +kernel
theorem dX6_bestToAsk_47 : decode cX6_bestToAsk 47 = .ok (.iload 4, 2) := by decide +kernel
theorem dX6_bestToAsk_49 : decode cX6_bestToAsk 49 = .ok (.if_icmp .ge 10, 3) := by decide +kernel
theorem dX6_bestToAsk_52 : decode cX6_bestToAsk 52 = .ok (.iload 7, 2) := by decide +kernel
theorem dX6_bestToAsk_54 : decode cX6_bestToAsk 54 = .ok (.istore 4, 2) := by decide +kernel
theorem dX6_bestToAsk_56 : decode cX6_bestToAsk 56 = .ok (.iload 5, 2) := by decide +kernel
theorem dX6_bestToAsk_58 : decode cX6_bestToAsk 58 = .ok (.istore_n 3, 1) := by decide +kernel
theorem dX6_bestToAsk_59 : decode cX6_bestToAsk 59 = .ok (.iinc 5 1, 3) := by decide +kernel
theorem dX6_bestToAsk_62 : decode cX6_bestToAsk 62 = .ok (.goto (-53), 3) := by decide +kernel
theorem dX6_bestToAsk_65 : decode cX6_bestToAsk 65 = .ok (.iload_n 3, 1) := by decide +kernel
theorem dX6_bestToAsk_66 : decode cX6_bestToAsk 66 = .ok (.ireturn, 1) := by decide +kernel
theorem dX7_init_0 : decode cX7_init 0 = .ok (.aload_n 0, 1) := by decide +kernel
theorem dX7_init_1 : decode cX7_init 1 = .ok (.invokespecial 3, 3) := by decide +kernel
theorem dX7_init_4 : decode cX7_init 4 = .ok (.aload_n 0, 1) := by decide +kernel
theorem dX7_init_5 : decode cX7_init 5 = .ok (.new 9, 3) := by decide +kernel
theorem dX7_init_8 : decode cX7_init 8 = .ok (.dup, 1) := by decide +kernel
theorem dX7_init_9 : decode cX7_init 9 = .ok (.invokespecial 11, 3) := by decide +kernel
theorem dX7_init_12 : decode cX7_init 12 = .ok (.putfield 12, 3) := by decide +kernel
theorem dX7_init_15 : decode cX7_init 15 = .ok (.aload_n 0, 1) := by decide +kernel
theorem dX7_init_16 : decode cX7_init 16 = .ok (.new 16, 3) := by decide +kernel
theorem dX7_init_19 : decode cX7_init 19 = .ok (.dup, 1) := by decide +kernel
theorem dX7_init_20 : decode cX7_init 20 = .ok (.invokespecial 18, 3) := by decide +kernel
theorem dX7_init_23 : decode cX7_init 23 = .ok (.putfield 19, 3) := by decide +kernel
theorem dX7_init_26 : decode cX7_init 26 = .ok (.aload_n 0, 1) := by decide +kernel
theorem dX7_init_27 : decode cX7_init 27 = .ok (.new 16, 3) := by decide +kernel
theorem dX7_init_30 : decode cX7_init 30 = .ok (.dup, 1) := by decide +kernel
theorem dX7_init_31 : decode cX7_init 31 = .ok (.invokespecial 18, 3) := by decide +kernel
theorem dX7_init_34 : decode cX7_init 34 = .ok (.putfield 23, 3) := by decide +kernel
theorem dX7_init_37 : decode cX7_init 37 = .ok (.aload_n 0, 1) := by decide +kernel
theorem dX7_init_38 : decode cX7_init 38 = .ok (.new 26, 3) := by decide +kernel
theorem dX7_init_41 : decode cX7_init 41 = .ok (.dup, 1) := by decide +kernel
theorem dX7_init_42 : decode cX7_init 42 = .ok (.invokespecial 28, 3) := by decide +kernel
theorem dX7_init_45 : decode cX7_init 45 = .ok (.putfield 29, 3) := by decide +kernel
theorem dX7_init_48 : decode cX7_init 48 = .ok (.aload_n 0, 1) := by decide +kernel
theorem dX7_init_49 : decode cX7_init 49 = .ok (.iconst 2, 1) := by decide +kernel
theorem dX7_init_50 : decode cX7_init 50 = .ok (.anewarray 16, 3) := by decide +kernel
theorem dX7_init_53 : decode cX7_init 53 = .ok (.putfield 33, 3) := by decide +kernel
theorem dX7_init_56 : decode cX7_init 56 = .ok (.aload_n 0, 1) := by decide +kernel
theorem dX7_init_57 : decode cX7_init 57 = .ok (.iconst 2, 1) := by decide +kernel
theorem dX7_init_58 : decode cX7_init 58 = .ok (.newarray .boolean, 2) := by decide +kernel
theorem dX7_init_60 : decode cX7_init 60 = .ok (.putfield 37, 3) := by decide +kernel
theorem dX7_init_63 : decode cX7_init 63 = .ok (.aload_n 0, 1) := by decide +kernel
theorem dX7_init_64 : decode cX7_init 64 = .ok (.iconst 2, 1) := by decide +kernel
theorem dX7_init_65 : decode cX7_init 65 = .ok (.newarray .int, 2) := by decide +kernel
theorem dX7_init_67 : decode cX7_init 67 = .ok (.putfield 41, 3) := by decide +kernel
theorem dX7_init_70 : decode cX7_init 70 = .ok (.aload_n 0, 1) := by decide +kernel
theorem dX7_init_71 : decode cX7_init 71 = .ok (.new 45, 3) := by decide +kernel
theorem dX7_init_74 : decode cX7_init 74 = .ok (.dup, 1) := by decide +kernel
theorem dX7_init_75 : decode cX7_init 75 = .ok (.invokespecial 47, 3) := by decide +kernel
theorem dX7_init_78 : decode cX7_init 78 = .ok (.putfield 48, 3) := by decide +kernel
theorem dX7_init_81 : decode cX7_init 81 = .ok (.aload_n 0, 1) := by decide +kernel
theorem dX7_init_82 : decode cX7_init 82 = .ok (.new 52, 3) := by decide +kernel
theorem dX7_init_85 : decode cX7_init 85 = .ok (.dup, 1) := by decide +kernel
theorem dX7_init_86 : decode cX7_init 86 = .ok (.invokespecial 54, 3) := by decide +kernel
theorem dX7_init_89 : decode cX7_init 89 = .ok (.putfield 55, 3) := by decide +kernel
theorem dX7_init_92 : decode cX7_init 92 = .ok (.aload_n 0, 1) := by decide +kernel
theorem dX7_init_93 : decode cX7_init 93 = .ok (.new 59, 3) := by decide +kernel
theorem dX7_init_96 : decode cX7_init 96 = .ok (.dup, 1) := by decide +kernel
theorem dX7_init_97 : decode cX7_init 97 = .ok (.invokespecial 61, 3) := by decide +kernel
theorem dX7_init_100 : decode cX7_init 100 = .ok (.putfield 62, 3) := by decide +kernel
theorem dX7_init_103 : decode cX7_init 103 = .ok (.aload_n 0, 1) := by decide +kernel
theorem dX7_init_104 : decode cX7_init 104 = .ok (.new 66, 3) := by decide +kernel
theorem dX7_init_107 : decode cX7_init 107 = .ok (.dup, 1) := by decide +kernel
theorem dX7_init_108 : decode cX7_init 108 = .ok (.invokespecial 68, 3) := by decide +kernel
theorem dX7_init_111 : decode cX7_init 111 = .ok (.putfield 69, 3) := by decide +kernel
theorem dX7_init_114 : decode cX7_init 114 = .ok (.aload_n 0, 1) := by decide +kernel
theorem dX7_init_115 : decode cX7_init 115 = .ok (.iconst (-1), 1) := by decide +kernel
theorem dX7_init_116 : decode cX7_init 116 = .ok (.putfield 73, 3) := by decide +kernel
theorem dX7_init_119 : decode cX7_init 119 = .ok (.iconst 0, 1) := by decide +kernel
theorem dX7_init_120 : decode cX7_init 120 = .ok (.istore_n 1, 1) := by decide +kernel
theorem dX7_init_121 : decode cX7_init 121 = .ok (.iload_n 1, 1) := by decide +kernel
theorem dX7_init_122 : decode cX7_init 122 = .ok (.iconst 2, 1) := by decide +kernel
theorem dX7_init_123 : decode cX7_init 123 = .ok (.if_icmp .ge 22, 3) := by decide +kernel
theorem dX7_init_126 : decode cX7_init 126 = .ok (.aload_n 0, 1) := by decide +kernel
theorem dX7_init_127 : decode cX7_init 127 = .ok (.getfield 33, 3) := by decide +kernel
theorem dX7_init_130 : decode cX7_init 130 = .ok (.iload_n 1, 1) := by decide +kernel
theorem dX7_init_131 : decode cX7_init 131 = .ok (.new 16, 3) := by decide +kernel
theorem dX7_init_134 : decode cX7_init 134 = .ok (.dup, 1) := by decide +kernel
theorem dX7_init_135 : decode cX7_init 135 = .ok (.invokespecial 18, 3) := by decide +kernel
theorem dX7_init_138 : decode cX7_init 138 = .ok (.aastore, 1) := by decide +kernel
theorem dX7_init_139 : decode cX7_init 139 = .ok (.iinc 1 1, 3) := by decide +kernel
theorem dX7_init_142 : decode cX7_init 142 = .ok (.goto (-21), 3) := by decide +kernel
theorem dX7_init_145 : decode cX7_init 145 = .ok (.return_, 1) := by decide +kernel
theorem dX7_feed_0 : decode cX7_feed 0 = .ok (.iload_n 1, 1) := by decide +kernel
theorem dX7_feed_1 : decode cX7_feed 1 = .ok (.ifCond .lt 10, 3) := by decide +kernel
theorem dX7_feed_4 : decode cX7_feed 4 = .ok (.iload_n 1, 1) := by decide +kernel
theorem dX7_feed_5 : decode cX7_feed 5 = .ok (.sipush 255, 3) := by decide +kernel
theorem dX7_feed_8 : decode cX7_feed 8 = .ok (.if_icmp .le 6, 3) := by decide +kernel
theorem dX7_feed_11 : decode cX7_feed 11 = .ok (.ldc 77, 2) := by decide +kernel
theorem dX7_feed_13 : decode cX7_feed 13 = .ok (.ireturn, 1) := by decide +kernel
theorem dX7_feed_14 : decode cX7_feed 14 = .ok (.aload_n 0, 1) := by decide +kernel
theorem dX7_feed_15 : decode cX7_feed 15 = .ok (.getfield 12, 3) := by decide +kernel
theorem dX7_feed_18 : decode cX7_feed 18 = .ok (.iload_n 1, 1) := by decide +kernel
theorem dX7_feed_19 : decode cX7_feed 19 = .ok (.invokevirtual 78, 3) := by decide +kernel
theorem dX7_feed_22 : decode cX7_feed 22 = .ok (.ireturn, 1) := by decide +kernel
theorem dX7_county_0 : decode cX7_county 0 = .ok (.aload_n 0, 1) := by decide +kernel
theorem dX7_county_1 : decode cX7_county 1 = .ok (.getfield 12, 3) := by decide +kernel
theorem dX7_county_4 : decode cX7_county 4 = .ok (.invokevirtual 82, 3) := by decide +kernel
theorem dX7_county_7 : decode cX7_county 7 = .ok (.istore_n 1, 1) := by decide +kernel
theorem dX7_county_8 : decode cX7_county 8 = .ok (.aload_n 0, 1) := by decide +kernel
theorem dX7_county_9 : decode cX7_county 9 = .ok (.aload_n 0, 1) := by decide +kernel
theorem dX7_county_10 : decode cX7_county 10 = .ok (.getfield 12, 3) := by decide +kernel
theorem dX7_county_13 : decode cX7_county 13 = .ok (.getfield 86, 3) := by decide +kernel
theorem dX7_county_16 : decode cX7_county 16 = .ok (.putfield 73, 3) := by decide +kernel
theorem dX7_county_19 : decode cX7_county 19 = .ok (.iload_n 1, 1) := by decide +kernel
theorem dX7_county_20 : decode cX7_county 20 = .ok (.ifCond .eq 8, 3) := by decide +kernel
theorem dX7_county_23 : decode cX7_county 23 = .ok (.bipush (-10), 2) := by decide +kernel
theorem dX7_county_25 : decode cX7_county 25 = .ok (.iload_n 1, 1) := by decide +kernel
theorem dX7_county_26 : decode cX7_county 26 = .ok (.isub, 1) := by decide +kernel
theorem dX7_county_27 : decode cX7_county 27 = .ok (.ireturn, 1) := by decide +kernel
theorem dX7_county_28 : decode cX7_county 28 = .ok (.aload_n 0, 1) := by decide +kernel
theorem dX7_county_29 : decode cX7_county 29 = .ok (.getfield 19, 3) := by decide +kernel
theorem dX7_county_32 : decode cX7_county 32 = .ok (.aload_n 0, 1) := by decide +kernel
theorem dX7_county_33 : decode cX7_county 33 = .ok (.getfield 12, 3) := by decide +kernel
theorem dX7_county_36 : decode cX7_county 36 = .ok (.invokevirtual 89, 3) := by decide +kernel
theorem dX7_county_39 : decode cX7_county 39 = .ok (.iconst 0, 1) := by decide +kernel
theorem dX7_county_40 : decode cX7_county 40 = .ok (.istore_n 2, 1) := by decide +kernel
theorem dX7_county_41 : decode cX7_county 41 = .ok (.iload_n 2, 1) := by decide +kernel
theorem dX7_county_42 : decode cX7_county 42 = .ok (.iconst 2, 1) := by decide +kernel
theorem dX7_county_43 : decode cX7_county 43 = .ok (.if_icmp .ge 16, 3) := by decide +kernel
theorem dX7_county_46 : decode cX7_county 46 = .ok (.aload_n 0, 1) := by decide +kernel
theorem dX7_county_47 : decode cX7_county 47 = .ok (.getfield 37, 3) := by decide +kernel
theorem dX7_county_50 : decode cX7_county 50 = .ok (.iload_n 2, 1) := by decide +kernel
theorem dX7_county_51 : decode cX7_county 51 = .ok (.iconst 0, 1) := by decide +kernel
theorem dX7_county_52 : decode cX7_county 52 = .ok (.bastore, 1) := by decide +kernel
theorem dX7_county_53 : decode cX7_county 53 = .ok (.iinc 2 1, 3) := by decide +kernel
theorem dX7_county_56 : decode cX7_county 56 = .ok (.goto (-15), 3) := by decide +kernel
theorem dX7_county_59 : decode cX7_county 59 = .ok (.aload_n 0, 1) := by decide +kernel
theorem dX7_county_60 : decode cX7_county 60 = .ok (.getfield 29, 3) := by decide +kernel
theorem dX7_county_63 : decode cX7_county 63 = .ok (.invokevirtual 93, 3) := by decide +kernel
theorem dX7_county_66 : decode cX7_county 66 = .ok (.aload_n 0, 1) := by decide +kernel
theorem dX7_county_67 : decode cX7_county 67 = .ok (.getfield 69, 3) := by decide +kernel
theorem dX7_county_70 : decode cX7_county 70 = .ok (.invokevirtual 96, 3) := by decide +kernel
theorem dX7_county_73 : decode cX7_county 73 = .ok (.aload_n 0, 1) := by decide +kernel
theorem dX7_county_74 : decode cX7_county 74 = .ok (.invokevirtual 99, 3) := by decide +kernel
theorem dX7_county_77 : decode cX7_county 77 = .ok (.aload_n 0, 1) := by decide +kernel
theorem dX7_county_78 : decode cX7_county 78 = .ok (.getfield 19, 3) := by decide +kernel
theorem dX7_county_81 : decode cX7_county 81 = .ok (.getfield 102, 3) := by decide +kernel
theorem dX7_county_84 : decode cX7_county 84 = .ok (.ireturn, 1) := by decide +kernel
theorem dX7_fault_0 : decode cX7_fault 0 = .ok (.aload_n 0, 1) := by decide +kernel
theorem dX7_fault_1 : decode cX7_fault 1 = .ok (.getfield 73, 3) := by decide +kernel
theorem dX7_fault_4 : decode cX7_fault 4 = .ok (.ireturn, 1) := by decide +kernel
theorem dX7_told_0 : decode cX7_told 0 = .ok (.iload_n 1, 1) := by decide +kernel
theorem dX7_told_1 : decode cX7_told 1 = .ok (.tableswitch 149 0 13 #[71, 79, 87, 95, 103, 111, 119, 119, 119, 119, 119, 125, 133, 141], 71) := by decide +kernel
theorem dX7_told_72 : decode cX7_told 72 = .ok (.aload_n 0, 1) := by decide +kernel
theorem dX7_told_73 : decode cX7_told 73 = .ok (.getfield 19, 3) := by decide +kernel
theorem dX7_told_76 : decode cX7_told 76 = .ok (.getfield 105, 3) := by decide +kernel
theorem dX7_told_79 : decode cX7_told 79 = .ok (.ireturn, 1) := by decide +kernel
theorem dX7_told_80 : decode cX7_told 80 = .ok (.aload_n 0, 1) := by decide +kernel
theorem dX7_told_81 : decode cX7_told 81 = .ok (.getfield 19, 3) := by decide +kernel
theorem dX7_told_84 : decode cX7_told 84 = .ok (.getfield 102, 3) := by decide +kernel
theorem dX7_told_87 : decode cX7_told 87 = .ok (.ireturn, 1) := by decide +kernel
theorem dX7_told_88 : decode cX7_told 88 = .ok (.aload_n 0, 1) := by decide +kernel
theorem dX7_told_89 : decode cX7_told 89 = .ok (.getfield 12, 3) := by decide +kernel
theorem dX7_told_92 : decode cX7_told 92 = .ok (.getfield 108, 3) := by decide +kernel
theorem dX7_told_95 : decode cX7_told 95 = .ok (.ireturn, 1) := by decide +kernel
theorem dX7_told_96 : decode cX7_told 96 = .ok (.aload_n 0, 1) := by decide +kernel
theorem dX7_told_97 : decode cX7_told 97 = .ok (.getfield 19, 3) := by decide +kernel
theorem dX7_told_100 : decode cX7_told 100 = .ok (.getfield 111, 3) := by decide +kernel
theorem dX7_told_103 : decode cX7_told 103 = .ok (.ireturn, 1) := by decide +kernel
theorem dX7_told_104 : decode cX7_told 104 = .ok (.aload_n 0, 1) := by decide +kernel
theorem dX7_told_105 : decode cX7_told 105 = .ok (.getfield 19, 3) := by decide +kernel
theorem dX7_told_108 : decode cX7_told 108 = .ok (.getfield 114, 3) := by decide +kernel
theorem dX7_told_111 : decode cX7_told 111 = .ok (.ireturn, 1) := by decide +kernel
theorem dX7_told_112 : decode cX7_told 112 = .ok (.aload_n 0, 1) := by decide +kernel
theorem dX7_told_113 : decode cX7_told 113 = .ok (.getfield 19, 3) := by decide +kernel
theorem dX7_told_116 : decode cX7_told 116 = .ok (.getfield 117, 3) := by decide +kernel
theorem dX7_told_119 : decode cX7_told 119 = .ok (.ireturn, 1) := by decide +kernel
theorem dX7_told_120 : decode cX7_told 120 = .ok (.aload_n 0, 1) := by decide +kernel
theorem dX7_told_121 : decode cX7_told 121 = .ok (.iload_n 1, 1) := by decide +kernel
theorem dX7_told_122 : decode cX7_told 122 = .ok (.invokevirtual 120, 3) := by decide +kernel
theorem dX7_told_125 : decode cX7_told 125 = .ok (.ireturn, 1) := by decide +kernel
theorem dX7_told_126 : decode cX7_told 126 = .ok (.aload_n 0, 1) := by decide +kernel
theorem dX7_told_127 : decode cX7_told 127 = .ok (.getfield 19, 3) := by decide +kernel
theorem dX7_told_130 : decode cX7_told 130 = .ok (.invokevirtual 123, 3) := by decide +kernel
theorem dX7_told_133 : decode cX7_told 133 = .ok (.ireturn, 1) := by decide +kernel
theorem dX7_told_134 : decode cX7_told 134 = .ok (.aload_n 0, 1) := by decide +kernel
theorem dX7_told_135 : decode cX7_told 135 = .ok (.getfield 69, 3) := by decide +kernel
theorem dX7_told_138 : decode cX7_told 138 = .ok (.getfield 126, 3) := by decide +kernel
theorem dX7_told_141 : decode cX7_told 141 = .ok (.ireturn, 1) := by decide +kernel
theorem dX7_told_142 : decode cX7_told 142 = .ok (.aload_n 0, 1) := by decide +kernel
theorem dX7_told_143 : decode cX7_told 143 = .ok (.getfield 29, 3) := by decide +kernel
theorem dX7_told_146 : decode cX7_told 146 = .ok (.getfield 129, 3) := by decide +kernel
theorem dX7_told_149 : decode cX7_told 149 = .ok (.ireturn, 1) := by decide +kernel
theorem dX7_told_150 : decode cX7_told 150 = .ok (.ldc 77, 2) := by decide +kernel
theorem dX7_told_152 : decode cX7_told 152 = .ok (.ireturn, 1) := by decide +kernel
theorem dX7_skittle_0 : decode cX7_skittle 0 = .ok (.aload_n 0, 1) := by decide +kernel
theorem dX7_skittle_1 : decode cX7_skittle 1 = .ok (.getfield 19, 3) := by decide +kernel
theorem dX7_skittle_4 : decode cX7_skittle 4 = .ok (.iload_n 1, 1) := by decide +kernel
theorem dX7_skittle_5 : decode cX7_skittle 5 = .ok (.invokevirtual 130, 3) := by decide +kernel
theorem dX7_skittle_8 : decode cX7_skittle 8 = .ok (.ifCond .ne 6, 3) := by decide +kernel
theorem dX7_skittle_11 : decode cX7_skittle 11 = .ok (.ldc 134, 2) := by decide +kernel
theorem dX7_skittle_13 : decode cX7_skittle 13 = .ok (.ireturn, 1) := by decide +kernel
theorem dX7_skittle_14 : decode cX7_skittle 14 = .ok (.iload_n 2, 1) := by decide +kernel
theorem dX7_skittle_15 : decode cX7_skittle 15 = .ok (.tableswitch 144 0 8 #[49, 59, 69, 79, 89, 106, 116, 126, 135], 49) := by decide +kernel
theorem dX7_skittle_64 : decode cX7_skittle 64 = .ok (.aload_n 0, 1) := by decide +kernel
theorem dX7_skittle_65 : decode cX7_skittle 65 = .ok (.getfield 19, 3) := by decide +kernel
theorem dX7_skittle_68 : decode cX7_skittle 68 = .ok (.getfield 135, 3) := by decide +kernel
theorem dX7_skittle_71 : decode cX7_skittle 71 = .ok (.iload_n 1, 1) := by decide +kernel
theorem dX7_skittle_72 : decode cX7_skittle 72 = .ok (.iaload, 1) := by decide +kernel
theorem dX7_skittle_73 : decode cX7_skittle 73 = .ok (.ireturn, 1) := by decide +kernel
theorem dX7_skittle_74 : decode cX7_skittle 74 = .ok (.aload_n 0, 1) := by decide +kernel
theorem dX7_skittle_75 : decode cX7_skittle 75 = .ok (.getfield 19, 3) := by decide +kernel
theorem dX7_skittle_78 : decode cX7_skittle 78 = .ok (.getfield 138, 3) := by decide +kernel
theorem dX7_skittle_81 : decode cX7_skittle 81 = .ok (.iload_n 1, 1) := by decide +kernel
theorem dX7_skittle_82 : decode cX7_skittle 82 = .ok (.iaload, 1) := by decide +kernel
theorem dX7_skittle_83 : decode cX7_skittle 83 = .ok (.ireturn, 1) := by decide +kernel
theorem dX7_skittle_84 : decode cX7_skittle 84 = .ok (.aload_n 0, 1) := by decide +kernel
theorem dX7_skittle_85 : decode cX7_skittle 85 = .ok (.getfield 19, 3) := by decide +kernel
theorem dX7_skittle_88 : decode cX7_skittle 88 = .ok (.getfield 141, 3) := by decide +kernel
theorem dX7_skittle_91 : decode cX7_skittle 91 = .ok (.iload_n 1, 1) := by decide +kernel
theorem dX7_skittle_92 : decode cX7_skittle 92 = .ok (.iaload, 1) := by decide +kernel
theorem dX7_skittle_93 : decode cX7_skittle 93 = .ok (.ireturn, 1) := by decide +kernel
theorem dX7_skittle_94 : decode cX7_skittle 94 = .ok (.aload_n 0, 1) := by decide +kernel
theorem dX7_skittle_95 : decode cX7_skittle 95 = .ok (.getfield 19, 3) := by decide +kernel
theorem dX7_skittle_98 : decode cX7_skittle 98 = .ok (.getfield 144, 3) := by decide +kernel
theorem dX7_skittle_101 : decode cX7_skittle 101 = .ok (.iload_n 1, 1) := by decide +kernel
theorem dX7_skittle_102 : decode cX7_skittle 102 = .ok (.iaload, 1) := by decide +kernel
theorem dX7_skittle_103 : decode cX7_skittle 103 = .ok (.ireturn, 1) := by decide +kernel
theorem dX7_skittle_104 : decode cX7_skittle 104 = .ok (.aload_n 0, 1) := by decide +kernel
theorem dX7_skittle_105 : decode cX7_skittle 105 = .ok (.getfield 19, 3) := by decide +kernel
theorem dX7_skittle_108 : decode cX7_skittle 108 = .ok (.iload_n 1, 1) := by decide +kernel
theorem dX7_skittle_109 : decode cX7_skittle 109 = .ok (.invokevirtual 147, 3) := by decide +kernel
theorem dX7_skittle_112 : decode cX7_skittle 112 = .ok (.ifCond .eq 7, 3) := by decide +kernel
theorem dX7_skittle_115 : decode cX7_skittle 115 = .ok (.iconst 1, 1) := by decide +kernel
theorem dX7_skittle_116 : decode cX7_skittle 116 = .ok (.goto 4, 3) := by decide +kernel
theorem dX7_skittle_119 : decode cX7_skittle 119 = .ok (.iconst 0, 1) := by decide +kernel
theorem dX7_skittle_120 : decode cX7_skittle 120 = .ok (.ireturn, 1) := by decide +kernel
theorem dX7_skittle_121 : decode cX7_skittle 121 = .ok (.aload_n 0, 1) := by decide +kernel
theorem dX7_skittle_122 : decode cX7_skittle 122 = .ok (.getfield 19, 3) := by decide +kernel
theorem dX7_skittle_125 : decode cX7_skittle 125 = .ok (.getfield 150, 3) := by decide +kernel
theorem dX7_skittle_128 : decode cX7_skittle 128 = .ok (.iload_n 1, 1) := by decide +kernel
theorem dX7_skittle_129 : decode cX7_skittle 129 = .ok (.iaload, 1) := by decide +kernel
theorem dX7_skittle_130 : decode cX7_skittle 130 = .ok (.ireturn, 1) := by decide +kernel
theorem dX7_skittle_131 : decode cX7_skittle 131 = .ok (.aload_n 0, 1) := by decide +kernel
theorem dX7_skittle_132 : decode cX7_skittle 132 = .ok (.getfield 19, 3) := by decide +kernel
theorem dX7_skittle_135 : decode cX7_skittle 135 = .ok (.getfield 153, 3) := by decide +kernel
theorem dX7_skittle_138 : decode cX7_skittle 138 = .ok (.iload_n 1, 1) := by decide +kernel
theorem dX7_skittle_139 : decode cX7_skittle 139 = .ok (.iaload, 1) := by decide +kernel
theorem dX7_skittle_140 : decode cX7_skittle 140 = .ok (.ireturn, 1) := by decide +kernel
theorem dX7_skittle_141 : decode cX7_skittle 141 = .ok (.aload_n 0, 1) := by decide +kernel
theorem dX7_skittle_142 : decode cX7_skittle 142 = .ok (.getfield 19, 3) := by decide +kernel
theorem dX7_skittle_145 : decode cX7_skittle 145 = .ok (.iload_n 1, 1) := by decide +kernel
theorem dX7_skittle_146 : decode cX7_skittle 146 = .ok (.invokevirtual 156, 3) := by decide +kernel
theorem dX7_skittle_149 : decode cX7_skittle 149 = .ok (.ireturn, 1) := by decide +kernel
theorem dX7_skittle_150 : decode cX7_skittle 150 = .ok (.aload_n 0, 1) := by decide +kernel
theorem dX7_skittle_151 : decode cX7_skittle 151 = .ok (.getfield 19, 3) := by decide +kernel
theorem dX7_skittle_154 : decode cX7_skittle 154 = .ok (.iload_n 1, 1) := by decide +kernel
theorem dX7_skittle_155 : decode cX7_skittle 155 = .ok (.invokevirtual 159, 3) := by decide +kernel
theorem dX7_skittle_158 : decode cX7_skittle 158 = .ok (.ireturn, 1) := by decide +kernel
theorem dX7_skittle_159 : decode cX7_skittle 159 = .ok (.ldc 77, 2) := by decide +kernel
theorem dX7_skittle_161 : decode cX7_skittle 161 = .ok (.ireturn, 1) := by decide +kernel
theorem dX7_plate_0 : decode cX7_plate 0 = .ok (.iload_n 1, 1) := by decide +kernel
theorem dX7_plate_1 : decode cX7_plate 1 = .ok (.invokestatic 162, 3) := by decide +kernel
theorem dX7_plate_4 : decode cX7_plate 4 = .ok (.ifCond .eq 15, 3) := by decide +kernel
theorem dX7_plate_7 : decode cX7_plate 7 = .ok (.aload_n 0, 1) := by decide +kernel
theorem dX7_plate_8 : decode cX7_plate 8 = .ok (.getfield 19, 3) := by decide +kernel
theorem dX7_plate_11 : decode cX7_plate 11 = .ok (.getfield 165, 3) := by decide +kernel
theorem dX7_plate_14 : decode cX7_plate 14 = .ok (.iload_n 1, 1) := by decide +kernel
theorem dX7_plate_15 : decode cX7_plate 15 = .ok (.iaload, 1) := by decide +kernel
theorem dX7_plate_16 : decode cX7_plate 16 = .ok (.goto 5, 3) := by decide +kernel
theorem dX7_plate_19 : decode cX7_plate 19 = .ok (.ldc 134, 2) := by decide +kernel
theorem dX7_plate_21 : decode cX7_plate 21 = .ok (.ireturn, 1) := by decide +kernel
theorem dX7_ball_0 : decode cX7_ball 0 = .ok (.iload_n 1, 1) := by decide +kernel
theorem dX7_ball_1 : decode cX7_ball 1 = .ok (.iload_n 2, 1) := by decide +kernel
theorem dX7_ball_2 : decode cX7_ball 2 = .ok (.iload_n 3, 1) := by decide +kernel
theorem dX7_ball_3 : decode cX7_ball 3 = .ok (.invokestatic 168, 3) := by decide +kernel
theorem dX7_ball_6 : decode cX7_ball 6 = .ok (.ifCond .ne 6, 3) := by decide +kernel
theorem dX7_ball_9 : decode cX7_ball 9 = .ok (.ldc 77, 2) := by decide +kernel
theorem dX7_ball_11 : decode cX7_ball 11 = .ok (.ireturn, 1) := by decide +kernel
theorem dX7_ball_12 : decode cX7_ball 12 = .ok (.aload_n 0, 1) := by decide +kernel
theorem dX7_ball_13 : decode cX7_ball 13 = .ok (.getfield 19, 3) := by decide +kernel
theorem dX7_ball_16 : decode cX7_ball 16 = .ok (.invokevirtual 172, 3) := by decide +kernel
theorem dX7_ball_19 : decode cX7_ball 19 = .ok (.ifCond .ne 6, 3) := by decide +kernel
theorem dX7_ball_22 : decode cX7_ball 22 = .ok (.ldc 176, 2) := by decide +kernel
theorem dX7_ball_24 : decode cX7_ball 24 = .ok (.ireturn, 1) := by decide +kernel
theorem dX7_ball_25 : decode cX7_ball 25 = .ok (.aload_n 0, 1) := by decide +kernel
theorem dX7_ball_26 : decode cX7_ball 26 = .ok (.invokevirtual 177, 3) := by decide +kernel
theorem dX7_ball_29 : decode cX7_ball 29 = .ok (.aload_n 0, 1) := by decide +kernel
theorem dX7_ball_30 : decode cX7_ball 30 = .ok (.iload_n 1, 1) := by decide +kernel
theorem dX7_ball_31 : decode cX7_ball 31 = .ok (.iload_n 2, 1) := by decide +kernel
theorem dX7_ball_32 : decode cX7_ball 32 = .ok (.iload_n 3, 1) := by decide +kernel
theorem dX7_ball_33 : decode cX7_ball 33 = .ok (.invokevirtual 180, 3) := by decide +kernel
theorem dX7_ball_36 : decode cX7_ball 36 = .ok (.ireturn, 1) := by decide +kernel
theorem dX7_setUp_0 : decode cX7_setUp 0 = .ok (.aload_n 0, 1) := by decide +kernel
theorem dX7_setUp_1 : decode cX7_setUp 1 = .ok (.getfield 19, 3) := by decide +kernel
theorem dX7_setUp_4 : decode cX7_setUp 4 = .ok (.invokevirtual 172, 3) := by decide +kernel
theorem dX7_setUp_7 : decode cX7_setUp 7 = .ok (.ifCond .ne 6, 3) := by decide +kernel
theorem dX7_setUp_10 : decode cX7_setUp 10 = .ok (.ldc 176, 2) := by decide +kernel
theorem dX7_setUp_12 : decode cX7_setUp 12 = .ok (.ireturn, 1) := by decide +kernel
theorem dX7_setUp_13 : decode cX7_setUp 13 = .ok (.aload_n 0, 1) := by decide +kernel
theorem dX7_setUp_14 : decode cX7_setUp 14 = .ok (.invokevirtual 177, 3) := by decide +kernel
theorem dX7_setUp_17 : decode cX7_setUp 17 = .ok (.aload_n 0, 1) := by decide +kernel
theorem dX7_setUp_18 : decode cX7_setUp 18 = .ok (.getfield 19, 3) := by decide +kernel
theorem dX7_setUp_21 : decode cX7_setUp 21 = .ok (.getfield 102, 3) := by decide +kernel
theorem dX7_setUp_24 : decode cX7_setUp 24 = .ok (.aload_n 0, 1) := by decide +kernel
theorem dX7_setUp_25 : decode cX7_setUp 25 = .ok (.getfield 19, 3) := by decide +kernel
theorem dX7_setUp_28 : decode cX7_setUp 28 = .ok (.getfield 111, 3) := by decide +kernel
theorem dX7_setUp_31 : decode cX7_setUp 31 = .ok (.invokestatic 184, 3) := by decide +kernel
theorem dX7_setUp_34 : decode cX7_setUp 34 = .ok (.isub, 1) := by decide +kernel
theorem dX7_setUp_35 : decode cX7_setUp 35 = .ok (.istore_n 1, 1) := by decide +kernel
theorem dX7_setUp_36 : decode cX7_setUp 36 = .ok (.aload_n 0, 1) := by decide +kernel
theorem dX7_setUp_37 : decode cX7_setUp 37 = .ok (.getfield 19, 3) := by decide +kernel
theorem dX7_setUp_40 : decode cX7_setUp 40 = .ok (.invokevirtual 189, 3) := by decide +kernel
theorem dX7_setUp_43 : decode cX7_setUp 43 = .ok (.iload_n 1, 1) := by decide +kernel
theorem dX7_setUp_44 : decode cX7_setUp 44 = .ok (.ireturn, 1) := by decide +kernel
theorem dX7_lift_0 : decode cX7_lift 0 = .ok (.aload_n 0, 1) := by decide +kernel
theorem dX7_lift_1 : decode cX7_lift 1 = .ok (.getfield 19, 3) := by decide +kernel
theorem dX7_lift_4 : decode cX7_lift 4 = .ok (.iload_n 1, 1) := by decide +kernel
theorem dX7_lift_5 : decode cX7_lift 5 = .ok (.invokevirtual 130, 3) := by decide +kernel
theorem dX7_lift_8 : decode cX7_lift 8 = .ok (.ifCond .ne 6, 3) := by decide +kernel
theorem dX7_lift_11 : decode cX7_lift 11 = .ok (.ldc 134, 2) := by decide +kernel
theorem dX7_lift_13 : decode cX7_lift 13 = .ok (.ireturn, 1) := by decide +kernel
theorem dX7_lift_14 : decode cX7_lift 14 = .ok (.aload_n 0, 1) := by decide +kernel
theorem dX7_lift_15 : decode cX7_lift 15 = .ok (.getfield 19, 3) := by decide +kernel
theorem dX7_lift_18 : decode cX7_lift 18 = .ok (.iload_n 1, 1) := by decide +kernel
theorem dX7_lift_19 : decode cX7_lift 19 = .ok (.invokevirtual 147, 3) := by decide +kernel
theorem dX7_lift_22 : decode cX7_lift 22 = .ok (.ifCond .eq 6, 3) := by decide +kernel
theorem dX7_lift_25 : decode cX7_lift 25 = .ok (.ldc 176, 2) := by decide +kernel
theorem dX7_lift_27 : decode cX7_lift 27 = .ok (.ireturn, 1) := by decide +kernel
theorem dX7_lift_28 : decode cX7_lift 28 = .ok (.aload_n 0, 1) := by decide +kernel
theorem dX7_lift_29 : decode cX7_lift 29 = .ok (.invokevirtual 177, 3) := by decide +kernel
theorem dX7_lift_32 : decode cX7_lift 32 = .ok (.aload_n 0, 1) := by decide +kernel
theorem dX7_lift_33 : decode cX7_lift 33 = .ok (.getfield 19, 3) := by decide +kernel
theorem dX7_lift_36 : decode cX7_lift 36 = .ok (.dup, 1) := by decide +kernel
theorem dX7_lift_37 : decode cX7_lift 37 = .ok (.getfield 111, 3) := by decide +kernel
theorem dX7_lift_40 : decode cX7_lift 40 = .ok (.iconst 1, 1) := by decide +kernel
theorem dX7_lift_41 : decode cX7_lift 41 = .ok (.iload_n 1, 1) := by decide +kernel
theorem dX7_lift_42 : decode cX7_lift 42 = .ok (.ishl, 1) := by decide +kernel
theorem dX7_lift_43 : decode cX7_lift 43 = .ok (.ior, 1) := by decide +kernel
theorem dX7_lift_44 : decode cX7_lift 44 = .ok (.putfield 111, 3) := by decide +kernel
theorem dX7_lift_47 : decode cX7_lift 47 = .ok (.aload_n 0, 1) := by decide +kernel
theorem dX7_lift_48 : decode cX7_lift 48 = .ok (.getfield 19, 3) := by decide +kernel
theorem dX7_lift_51 : decode cX7_lift 51 = .ok (.getfield 111, 3) := by decide +kernel
theorem dX7_lift_54 : decode cX7_lift 54 = .ok (.invokestatic 184, 3) := by decide +kernel
theorem dX7_lift_57 : decode cX7_lift 57 = .ok (.ireturn, 1) := by decide +kernel
theorem dX7_change_0 : decode cX7_change 0 = .ok (.iload_n 1, 1) := by decide +kernel
theorem dX7_change_1 : decode cX7_change 1 = .ok (.invokestatic 162, 3) := by decide +kernel
theorem dX7_change_4 : decode cX7_change 4 = .ok (.ifCond .eq 15, 3) := by decide +kernel
theorem dX7_change_7 : decode cX7_change 7 = .ok (.iload_n 2, 1) := by decide +kernel
theorem dX7_change_8 : decode cX7_change 8 = .ok (.invokestatic 162, 3) := by decide +kernel
theorem dX7_change_11 : decode cX7_change 11 = .ok (.ifCond .eq 8, 3) := by decide +kernel
theorem dX7_change_14 : decode cX7_change 14 = .ok (.iload_n 1, 1) := by decide +kernel
theorem dX7_change_15 : decode cX7_change 15 = .ok (.iload_n 2, 1) := by decide +kernel
theorem dX7_change_16 : decode cX7_change 16 = .ok (.if_icmp .ne 6, 3) := by decide +kernel
theorem dX7_change_19 : decode cX7_change 19 = .ok (.ldc 134, 2) := by decide +kernel
theorem dX7_change_21 : decode cX7_change 21 = .ok (.ireturn, 1) := by decide +kernel
theorem dX7_change_22 : decode cX7_change 22 = .ok (.aload_n 0, 1) := by decide +kernel
theorem dX7_change_23 : decode cX7_change 23 = .ok (.invokevirtual 177, 3) := by decide +kernel
theorem dX7_change_26 : decode cX7_change 26 = .ok (.aload_n 0, 1) := by decide +kernel
theorem dX7_change_27 : decode cX7_change 27 = .ok (.getfield 19, 3) := by decide +kernel
theorem dX7_change_30 : decode cX7_change 30 = .ok (.iload_n 1, 1) := by decide +kernel
theorem dX7_change_31 : decode cX7_change 31 = .ok (.iload_n 2, 1) := by decide +kernel
theorem dX7_change_32 : decode cX7_change 32 = .ok (.invokevirtual 192, 3) := by decide +kernel
theorem dX7_change_35 : decode cX7_change 35 = .ok (.aload_n 0, 1) := by decide +kernel
theorem dX7_change_36 : decode cX7_change 36 = .ok (.getfield 19, 3) := by decide +kernel
theorem dX7_change_39 : decode cX7_change 39 = .ok (.getfield 165, 3) := by decide +kernel
theorem dX7_change_42 : decode cX7_change 42 = .ok (.iload_n 1, 1) := by decide +kernel
end
section
theorem dX7_change_43 : decode cX7_change 43 = .ok (.iaload, 1) := by decide +kernel
theorem dX7_change_44 : decode cX7_change 44 = .ok (.ireturn, 1) := by decide +kernel
theorem dX7_chip_0 : decode cX7_chip 0 = .ok (.aload_n 0, 1) := by decide +kernel
theorem dX7_chip_1 : decode cX7_chip 1 = .ok (.getfield 19, 3) := by decide +kernel
theorem dX7_chip_4 : decode cX7_chip 4 = .ok (.iload_n 1, 1) := by decide +kernel
theorem dX7_chip_5 : decode cX7_chip 5 = .ok (.invokevirtual 130, 3) := by decide +kernel
theorem dX7_chip_8 : decode cX7_chip 8 = .ok (.ifCond .ne 6, 3) := by decide +kernel
theorem dX7_chip_11 : decode cX7_chip 11 = .ok (.ldc 134, 2) := by decide +kernel
theorem dX7_chip_13 : decode cX7_chip 13 = .ok (.ireturn, 1) := by decide +kernel
theorem dX7_chip_14 : decode cX7_chip 14 = .ok (.iload_n 2, 1) := by decide +kernel
theorem dX7_chip_15 : decode cX7_chip 15 = .ok (.ifCond .lt 9, 3) := by decide +kernel
theorem dX7_chip_18 : decode cX7_chip 18 = .ok (.iload_n 2, 1) := by decide +kernel
theorem dX7_chip_19 : decode cX7_chip 19 = .ok (.bipush 9, 2) := by decide +kernel
theorem dX7_chip_21 : decode cX7_chip 21 = .ok (.if_icmp .le 6, 3) := by decide +kernel
theorem dX7_chip_24 : decode cX7_chip 24 = .ok (.ldc 77, 2) := by decide +kernel
theorem dX7_chip_26 : decode cX7_chip 26 = .ok (.ireturn, 1) := by decide +kernel
theorem dX7_chip_27 : decode cX7_chip 27 = .ok (.aload_n 0, 1) := by decide +kernel
theorem dX7_chip_28 : decode cX7_chip 28 = .ok (.invokevirtual 177, 3) := by decide +kernel
theorem dX7_chip_31 : decode cX7_chip 31 = .ok (.aload_n 0, 1) := by decide +kernel
theorem dX7_chip_32 : decode cX7_chip 32 = .ok (.getfield 19, 3) := by decide +kernel
theorem dX7_chip_35 : decode cX7_chip 35 = .ok (.getfield 141, 3) := by decide +kernel
theorem dX7_chip_38 : decode cX7_chip 38 = .ok (.iload_n 1, 1) := by decide +kernel
theorem dX7_chip_39 : decode cX7_chip 39 = .ok (.iaload, 1) := by decide +kernel
theorem dX7_chip_40 : decode cX7_chip 40 = .ok (.istore_n 3, 1) := by decide +kernel
theorem dX7_chip_41 : decode cX7_chip 41 = .ok (.aload_n 0, 1) := by decide +kernel
theorem dX7_chip_42 : decode cX7_chip 42 = .ok (.getfield 19, 3) := by decide +kernel
theorem dX7_chip_45 : decode cX7_chip 45 = .ok (.getfield 141, 3) := by decide +kernel
theorem dX7_chip_48 : decode cX7_chip 48 = .ok (.iload_n 1, 1) := by decide +kernel
theorem dX7_chip_49 : decode cX7_chip 49 = .ok (.iload_n 2, 1) := by decide +kernel
theorem dX7_chip_50 : decode cX7_chip 50 = .ok (.iastore, 1) := by decide +kernel
theorem dX7_chip_51 : decode cX7_chip 51 = .ok (.iload_n 3, 1) := by decide +kernel
theorem dX7_chip_52 : decode cX7_chip 52 = .ok (.ireturn, 1) := by decide +kernel
theorem dX7_replace_0 : decode cX7_replace 0 = .ok (.aload_n 0, 1) := by decide +kernel
theorem dX7_replace_1 : decode cX7_replace 1 = .ok (.getfield 19, 3) := by decide +kernel
theorem dX7_replace_4 : decode cX7_replace 4 = .ok (.iload_n 1, 1) := by decide +kernel
theorem dX7_replace_5 : decode cX7_replace 5 = .ok (.invokevirtual 130, 3) := by decide +kernel
theorem dX7_replace_8 : decode cX7_replace 8 = .ok (.ifCond .ne 6, 3) := by decide +kernel
theorem dX7_replace_11 : decode cX7_replace 11 = .ok (.ldc 134, 2) := by decide +kernel
theorem dX7_replace_13 : decode cX7_replace 13 = .ok (.ireturn, 1) := by decide +kernel
theorem dX7_replace_14 : decode cX7_replace 14 = .ok (.aload_n 0, 1) := by decide +kernel
theorem dX7_replace_15 : decode cX7_replace 15 = .ok (.getfield 19, 3) := by decide +kernel
theorem dX7_replace_18 : decode cX7_replace 18 = .ok (.getfield 135, 3) := by decide +kernel
theorem dX7_replace_21 : decode cX7_replace 21 = .ok (.iload_n 1, 1) := by decide +kernel
theorem dX7_replace_22 : decode cX7_replace 22 = .ok (.iaload, 1) := by decide +kernel
theorem dX7_replace_23 : decode cX7_replace 23 = .ok (.istore_n 2, 1) := by decide +kernel
theorem dX7_replace_24 : decode cX7_replace 24 = .ok (.iload_n 2, 1) := by decide +kernel
theorem dX7_replace_25 : decode cX7_replace 25 = .ok (.iconst 3, 1) := by decide +kernel
theorem dX7_replace_26 : decode cX7_replace 26 = .ok (.if_icmp .ne 6, 3) := by decide +kernel
theorem dX7_replace_29 : decode cX7_replace 29 = .ok (.ldc 176, 2) := by decide +kernel
theorem dX7_replace_31 : decode cX7_replace 31 = .ok (.ireturn, 1) := by decide +kernel
theorem dX7_replace_32 : decode cX7_replace 32 = .ok (.aload_n 0, 1) := by decide +kernel
theorem dX7_replace_33 : decode cX7_replace 33 = .ok (.invokevirtual 177, 3) := by decide +kernel
theorem dX7_replace_36 : decode cX7_replace 36 = .ok (.aload_n 0, 1) := by decide +kernel
theorem dX7_replace_37 : decode cX7_replace 37 = .ok (.getfield 19, 3) := by decide +kernel
theorem dX7_replace_40 : decode cX7_replace 40 = .ok (.getfield 135, 3) := by decide +kernel
theorem dX7_replace_43 : decode cX7_replace 43 = .ok (.iload_n 1, 1) := by decide +kernel
theorem dX7_replace_44 : decode cX7_replace 44 = .ok (.iconst 3, 1) := by decide +kernel
theorem dX7_replace_45 : decode cX7_replace 45 = .ok (.iastore, 1) := by decide +kernel
theorem dX7_replace_46 : decode cX7_replace 46 = .ok (.iload_n 2, 1) := by decide +kernel
theorem dX7_replace_47 : decode cX7_replace 47 = .ok (.ireturn, 1) := by decide +kernel
theorem dX7_drift_0 : decode cX7_drift 0 = .ok (.iload_n 1, 1) := by decide +kernel
theorem dX7_drift_1 : decode cX7_drift 1 = .ok (.iconst 1, 1) := by decide +kernel
theorem dX7_drift_2 : decode cX7_drift 2 = .ok (.if_icmp .lt 9, 3) := by decide +kernel
theorem dX7_drift_5 : decode cX7_drift 5 = .ok (.iload_n 1, 1) := by decide +kernel
theorem dX7_drift_6 : decode cX7_drift 6 = .ok (.bipush 30, 2) := by decide +kernel
theorem dX7_drift_8 : decode cX7_drift 8 = .ok (.if_icmp .le 6, 3) := by decide +kernel
theorem dX7_drift_11 : decode cX7_drift 11 = .ok (.ldc 77, 2) := by decide +kernel
theorem dX7_drift_13 : decode cX7_drift 13 = .ok (.ireturn, 1) := by decide +kernel
theorem dX7_drift_14 : decode cX7_drift 14 = .ok (.aload_n 0, 1) := by decide +kernel
theorem dX7_drift_15 : decode cX7_drift 15 = .ok (.getfield 19, 3) := by decide +kernel
theorem dX7_drift_18 : decode cX7_drift 18 = .ok (.invokevirtual 172, 3) := by decide +kernel
theorem dX7_drift_21 : decode cX7_drift 21 = .ok (.ifCond .ne 6, 3) := by decide +kernel
theorem dX7_drift_24 : decode cX7_drift 24 = .ok (.ldc 176, 2) := by decide +kernel
theorem dX7_drift_26 : decode cX7_drift 26 = .ok (.ireturn, 1) := by decide +kernel
theorem dX7_drift_27 : decode cX7_drift 27 = .ok (.aload_n 0, 1) := by decide +kernel
theorem dX7_drift_28 : decode cX7_drift 28 = .ok (.invokevirtual 177, 3) := by decide +kernel
theorem dX7_drift_31 : decode cX7_drift 31 = .ok (.iconst 0, 1) := by decide +kernel
theorem dX7_drift_32 : decode cX7_drift 32 = .ok (.istore_n 2, 1) := by decide +kernel
theorem dX7_drift_33 : decode cX7_drift 33 = .ok (.iload_n 2, 1) := by decide +kernel
theorem dX7_drift_34 : decode cX7_drift 34 = .ok (.iload_n 1, 1) := by decide +kernel
theorem dX7_drift_35 : decode cX7_drift 35 = .ok (.if_icmp .ge 13, 3) := by decide +kernel
theorem dX7_drift_38 : decode cX7_drift 38 = .ok (.aload_n 0, 1) := by decide +kernel
theorem dX7_drift_39 : decode cX7_drift 39 = .ok (.invokevirtual 196, 3) := by decide +kernel
theorem dX7_drift_42 : decode cX7_drift 42 = .ok (.iinc 2 1, 3) := by decide +kernel
theorem dX7_drift_45 : decode cX7_drift 45 = .ok (.goto (-12), 3) := by decide +kernel
theorem dX7_drift_48 : decode cX7_drift 48 = .ok (.aload_n 0, 1) := by decide +kernel
theorem dX7_drift_49 : decode cX7_drift 49 = .ok (.getfield 19, 3) := by decide +kernel
theorem dX7_drift_52 : decode cX7_drift 52 = .ok (.getfield 111, 3) := by decide +kernel
theorem dX7_drift_55 : decode cX7_drift 55 = .ok (.ireturn, 1) := by decide +kernel
theorem dX7_undo_0 : decode cX7_undo 0 = .ok (.aload_n 0, 1) := by decide +kernel
theorem dX7_undo_1 : decode cX7_undo 1 = .ok (.getfield 29, 3) := by decide +kernel
theorem dX7_undo_4 : decode cX7_undo 4 = .ok (.getfield 129, 3) := by decide +kernel
theorem dX7_undo_7 : decode cX7_undo 7 = .ok (.ifCond .ne 6, 3) := by decide +kernel
theorem dX7_undo_10 : decode cX7_undo 10 = .ok (.ldc 176, 2) := by decide +kernel
theorem dX7_undo_12 : decode cX7_undo 12 = .ok (.ireturn, 1) := by decide +kernel
theorem dX7_undo_13 : decode cX7_undo 13 = .ok (.aload_n 0, 1) := by decide +kernel
theorem dX7_undo_14 : decode cX7_undo 14 = .ok (.getfield 29, 3) := by decide +kernel
theorem dX7_undo_17 : decode cX7_undo 17 = .ok (.aload_n 0, 1) := by decide +kernel
theorem dX7_undo_18 : decode cX7_undo 18 = .ok (.getfield 19, 3) := by decide +kernel
theorem dX7_undo_21 : decode cX7_undo 21 = .ok (.invokevirtual 199, 3) := by decide +kernel
theorem dX7_undo_24 : decode cX7_undo 24 = .ok (.aload_n 0, 1) := by decide +kernel
theorem dX7_undo_25 : decode cX7_undo 25 = .ok (.invokevirtual 99, 3) := by decide +kernel
theorem dX7_undo_28 : decode cX7_undo 28 = .ok (.aload_n 0, 1) := by decide +kernel
theorem dX7_undo_29 : decode cX7_undo 29 = .ok (.getfield 29, 3) := by decide +kernel
theorem dX7_undo_32 : decode cX7_undo 32 = .ok (.getfield 129, 3) := by decide +kernel
theorem dX7_undo_35 : decode cX7_undo 35 = .ok (.ireturn, 1) := by decide +kernel
theorem dX7_wouldFall_0 : decode cX7_wouldFall 0 = .ok (.iload_n 1, 1) := by decide +kernel
theorem dX7_wouldFall_1 : decode cX7_wouldFall 1 = .ok (.iload_n 2, 1) := by decide +kernel
theorem dX7_wouldFall_2 : decode cX7_wouldFall 2 = .ok (.iload_n 3, 1) := by decide +kernel
theorem dX7_wouldFall_3 : decode cX7_wouldFall 3 = .ok (.invokestatic 168, 3) := by decide +kernel
theorem dX7_wouldFall_6 : decode cX7_wouldFall 6 = .ok (.ifCond .eq 14, 3) := by decide +kernel
theorem dX7_wouldFall_9 : decode cX7_wouldFall 9 = .ok (.iload 4, 2) := by decide +kernel
theorem dX7_wouldFall_11 : decode cX7_wouldFall 11 = .ok (.ifCond .lt 9, 3) := by decide +kernel
theorem dX7_wouldFall_14 : decode cX7_wouldFall 14 = .ok (.iload 4, 2) := by decide +kernel
theorem dX7_wouldFall_16 : decode cX7_wouldFall 16 = .ok (.iconst 2, 1) := by decide +kernel
theorem dX7_wouldFall_17 : decode cX7_wouldFall 17 = .ok (.if_icmp .le 6, 3) := by decide +kernel
theorem dX7_wouldFall_20 : decode cX7_wouldFall 20 = .ok (.ldc 77, 2) := by decide +kernel
theorem dX7_wouldFall_22 : decode cX7_wouldFall 22 = .ok (.ireturn, 1) := by decide +kernel
theorem dX7_wouldFall_23 : decode cX7_wouldFall 23 = .ok (.aload_n 0, 1) := by decide +kernel
theorem dX7_wouldFall_24 : decode cX7_wouldFall 24 = .ok (.getfield 19, 3) := by decide +kernel
theorem dX7_wouldFall_27 : decode cX7_wouldFall 27 = .ok (.invokevirtual 172, 3) := by decide +kernel
theorem dX7_wouldFall_30 : decode cX7_wouldFall 30 = .ok (.ifCond .ne 6, 3) := by decide +kernel
theorem dX7_wouldFall_33 : decode cX7_wouldFall 33 = .ok (.ldc 176, 2) := by decide +kernel
theorem dX7_wouldFall_35 : decode cX7_wouldFall 35 = .ok (.ireturn, 1) := by decide +kernel
theorem dX7_wouldFall_36 : decode cX7_wouldFall 36 = .ok (.aload_n 0, 1) := by decide +kernel
theorem dX7_wouldFall_37 : decode cX7_wouldFall 37 = .ok (.getfield 48, 3) := by decide +kernel
theorem dX7_wouldFall_40 : decode cX7_wouldFall 40 = .ok (.aload_n 0, 1) := by decide +kernel
theorem dX7_wouldFall_41 : decode cX7_wouldFall 41 = .ok (.getfield 19, 3) := by decide +kernel
theorem dX7_wouldFall_44 : decode cX7_wouldFall 44 = .ok (.invokevirtual 203, 3) := by decide +kernel
theorem dX7_wouldFall_47 : decode cX7_wouldFall 47 = .ok (.aload_n 0, 1) := by decide +kernel
theorem dX7_wouldFall_48 : decode cX7_wouldFall 48 = .ok (.getfield 48, 3) := by decide +kernel
theorem dX7_wouldFall_51 : decode cX7_wouldFall 51 = .ok (.iload_n 1, 1) := by decide +kernel
theorem dX7_wouldFall_52 : decode cX7_wouldFall 52 = .ok (.iload_n 2, 1) := by decide +kernel
theorem dX7_wouldFall_53 : decode cX7_wouldFall 53 = .ok (.iload_n 3, 1) := by decide +kernel
theorem dX7_wouldFall_54 : decode cX7_wouldFall 54 = .ok (.aload_n 0, 1) := by decide +kernel
theorem dX7_wouldFall_55 : decode cX7_wouldFall 55 = .ok (.getfield 19, 3) := by decide +kernel
theorem dX7_wouldFall_58 : decode cX7_wouldFall 58 = .ok (.getfield 111, 3) := by decide +kernel
theorem dX7_wouldFall_61 : decode cX7_wouldFall 61 = .ok (.invokevirtual 206, 3) := by decide +kernel
theorem dX7_wouldFall_64 : decode cX7_wouldFall 64 = .ok (.istore 5, 2) := by decide +kernel
theorem dX7_wouldFall_66 : decode cX7_wouldFall 66 = .ok (.iload 4, 2) := by decide +kernel
theorem dX7_wouldFall_68 : decode cX7_wouldFall 68 = .ok (.ifCond .ne 6, 3) := by decide +kernel
theorem dX7_wouldFall_71 : decode cX7_wouldFall 71 = .ok (.iload 5, 2) := by decide +kernel
theorem dX7_wouldFall_73 : decode cX7_wouldFall 73 = .ok (.ireturn, 1) := by decide +kernel
theorem dX7_wouldFall_74 : decode cX7_wouldFall 74 = .ok (.iload 4, 2) := by decide +kernel
theorem dX7_wouldFall_76 : decode cX7_wouldFall 76 = .ok (.iconst 1, 1) := by decide +kernel
theorem dX7_wouldFall_77 : decode cX7_wouldFall 77 = .ok (.if_icmp .ne 13, 3) := by decide +kernel
theorem dX7_wouldFall_80 : decode cX7_wouldFall 80 = .ok (.aload_n 0, 1) := by decide +kernel
theorem dX7_wouldFall_81 : decode cX7_wouldFall 81 = .ok (.getfield 48, 3) := by decide +kernel
theorem dX7_wouldFall_84 : decode cX7_wouldFall 84 = .ok (.getfield 210, 3) := by decide +kernel
theorem dX7_wouldFall_87 : decode cX7_wouldFall 87 = .ok (.goto 10, 3) := by decide +kernel
theorem dX7_wouldFall_90 : decode cX7_wouldFall 90 = .ok (.aload_n 0, 1) := by decide +kernel
theorem dX7_wouldFall_91 : decode cX7_wouldFall 91 = .ok (.getfield 48, 3) := by decide +kernel
theorem dX7_wouldFall_94 : decode cX7_wouldFall 94 = .ok (.getfield 213, 3) := by decide +kernel
theorem dX7_wouldFall_97 : decode cX7_wouldFall 97 = .ok (.ireturn, 1) := by decide +kernel
theorem dX7_balls_0 : decode cX7_balls 0 = .ok (.aload_n 0, 1) := by decide +kernel
theorem dX7_balls_1 : decode cX7_balls 1 = .ok (.getfield 19, 3) := by decide +kernel
theorem dX7_balls_4 : decode cX7_balls 4 = .ok (.iload_n 1, 1) := by decide +kernel
theorem dX7_balls_5 : decode cX7_balls 5 = .ok (.invokevirtual 216, 3) := by decide +kernel
theorem dX7_balls_8 : decode cX7_balls 8 = .ok (.ifCond .ne 6, 3) := by decide +kernel
theorem dX7_balls_11 : decode cX7_balls 11 = .ok (.ldc 134, 2) := by decide +kernel
theorem dX7_balls_13 : decode cX7_balls 13 = .ok (.ireturn, 1) := by decide +kernel
theorem dX7_balls_14 : decode cX7_balls 14 = .ok (.iload_n 2, 1) := by decide +kernel
theorem dX7_balls_15 : decode cX7_balls 15 = .ok (.ifCond .lt 8, 3) := by decide +kernel
theorem dX7_balls_18 : decode cX7_balls 18 = .ok (.iload_n 2, 1) := by decide +kernel
theorem dX7_balls_19 : decode cX7_balls 19 = .ok (.iconst 1, 1) := by decide +kernel
theorem dX7_balls_20 : decode cX7_balls 20 = .ok (.if_icmp .le 6, 3) := by decide +kernel
theorem dX7_balls_23 : decode cX7_balls 23 = .ok (.ldc 77, 2) := by decide +kernel
theorem dX7_balls_25 : decode cX7_balls 25 = .ok (.ireturn, 1) := by decide +kernel
theorem dX7_balls_26 : decode cX7_balls 26 = .ok (.aload_n 0, 1) := by decide +kernel
theorem dX7_balls_27 : decode cX7_balls 27 = .ok (.getfield 19, 3) := by decide +kernel
theorem dX7_balls_30 : decode cX7_balls 30 = .ok (.invokevirtual 172, 3) := by decide +kernel
theorem dX7_balls_33 : decode cX7_balls 33 = .ok (.ifCond .ne 6, 3) := by decide +kernel
theorem dX7_balls_36 : decode cX7_balls 36 = .ok (.ldc 176, 2) := by decide +kernel
theorem dX7_balls_38 : decode cX7_balls 38 = .ok (.ireturn, 1) := by decide +kernel
theorem dX7_balls_39 : decode cX7_balls 39 = .ok (.aload_n 0, 1) := by decide +kernel
theorem dX7_balls_40 : decode cX7_balls 40 = .ok (.getfield 55, 3) := by decide +kernel
theorem dX7_balls_43 : decode cX7_balls 43 = .ok (.aload_n 0, 1) := by decide +kernel
theorem dX7_balls_44 : decode cX7_balls 44 = .ok (.getfield 48, 3) := by decide +kernel
theorem dX7_balls_47 : decode cX7_balls 47 = .ok (.aload_n 0, 1) := by decide +kernel
theorem dX7_balls_48 : decode cX7_balls 48 = .ok (.getfield 19, 3) := by decide +kernel
theorem dX7_balls_51 : decode cX7_balls 51 = .ok (.invokevirtual 219, 3) := by decide +kernel
theorem dX7_balls_54 : decode cX7_balls 54 = .ok (.iload_n 2, 1) := by decide +kernel
theorem dX7_balls_55 : decode cX7_balls 55 = .ok (.ifCond .ne 14, 3) := by decide +kernel
theorem dX7_balls_58 : decode cX7_balls 58 = .ok (.aload_n 0, 1) := by decide +kernel
theorem dX7_balls_59 : decode cX7_balls 59 = .ok (.getfield 55, 3) := by decide +kernel
theorem dX7_balls_62 : decode cX7_balls 62 = .ok (.iload_n 1, 1) := by decide +kernel
theorem dX7_balls_63 : decode cX7_balls 63 = .ok (.invokevirtual 223, 3) := by decide +kernel
theorem dX7_balls_66 : decode cX7_balls 66 = .ok (.goto 14, 3) := by decide +kernel
theorem dX7_balls_69 : decode cX7_balls 69 = .ok (.aload_n 0, 1) := by decide +kernel
theorem dX7_balls_70 : decode cX7_balls 70 = .ok (.getfield 55, 3) := by decide +kernel
theorem dX7_balls_73 : decode cX7_balls 73 = .ok (.iload_n 1, 1) := by decide +kernel
theorem dX7_balls_74 : decode cX7_balls 74 = .ok (.invokevirtual 226, 3) := by decide +kernel
theorem dX7_balls_77 : decode cX7_balls 77 = .ok (.invokestatic 229, 3) := by decide +kernel
theorem dX7_balls_80 : decode cX7_balls 80 = .ok (.ireturn, 1) := by decide +kernel
theorem dX7_spare_0 : decode cX7_spare 0 = .ok (.aload_n 0, 1) := by decide +kernel
theorem dX7_spare_1 : decode cX7_spare 1 = .ok (.getfield 19, 3) := by decide +kernel
theorem dX7_spare_4 : decode cX7_spare 4 = .ok (.iload_n 1, 1) := by decide +kernel
theorem dX7_spare_5 : decode cX7_spare 5 = .ok (.invokevirtual 216, 3) := by decide +kernel
theorem dX7_spare_8 : decode cX7_spare 8 = .ok (.ifCond .eq 14, 3) := by decide +kernel
theorem dX7_spare_11 : decode cX7_spare 11 = .ok (.aload_n 0, 1) := by decide +kernel
theorem dX7_spare_12 : decode cX7_spare 12 = .ok (.getfield 19, 3) := by decide +kernel
theorem dX7_spare_15 : decode cX7_spare 15 = .ok (.iload_n 2, 1) := by decide +kernel
theorem dX7_spare_16 : decode cX7_spare 16 = .ok (.invokevirtual 216, 3) := by decide +kernel
theorem dX7_spare_19 : decode cX7_spare 19 = .ok (.ifCond .ne 6, 3) := by decide +kernel
theorem dX7_spare_22 : decode cX7_spare 22 = .ok (.ldc 134, 2) := by decide +kernel
theorem dX7_spare_24 : decode cX7_spare 24 = .ok (.ireturn, 1) := by decide +kernel
theorem dX7_spare_25 : decode cX7_spare 25 = .ok (.aload_n 0, 1) := by decide +kernel
theorem dX7_spare_26 : decode cX7_spare 26 = .ok (.getfield 19, 3) := by decide +kernel
theorem dX7_spare_29 : decode cX7_spare 29 = .ok (.invokevirtual 172, 3) := by decide +kernel
theorem dX7_spare_32 : decode cX7_spare 32 = .ok (.ifCond .ne 6, 3) := by decide +kernel
theorem dX7_spare_35 : decode cX7_spare 35 = .ok (.ldc 176, 2) := by decide +kernel
theorem dX7_spare_37 : decode cX7_spare 37 = .ok (.ireturn, 1) := by decide +kernel
theorem dX7_spare_38 : decode cX7_spare 38 = .ok (.aload_n 0, 1) := by decide +kernel
theorem dX7_spare_39 : decode cX7_spare 39 = .ok (.getfield 55, 3) := by decide +kernel
theorem dX7_spare_42 : decode cX7_spare 42 = .ok (.aload_n 0, 1) := by decide +kernel
theorem dX7_spare_43 : decode cX7_spare 43 = .ok (.getfield 48, 3) := by decide +kernel
theorem dX7_spare_46 : decode cX7_spare 46 = .ok (.aload_n 0, 1) := by decide +kernel
theorem dX7_spare_47 : decode cX7_spare 47 = .ok (.getfield 19, 3) := by decide +kernel
theorem dX7_spare_50 : decode cX7_spare 50 = .ok (.invokevirtual 219, 3) := by decide +kernel
theorem dX7_spare_53 : decode cX7_spare 53 = .ok (.aload_n 0, 1) := by decide +kernel
theorem dX7_spare_54 : decode cX7_spare 54 = .ok (.getfield 55, 3) := by decide +kernel
theorem dX7_spare_57 : decode cX7_spare 57 = .ok (.iload_n 1, 1) := by decide +kernel
theorem dX7_spare_58 : decode cX7_spare 58 = .ok (.iload_n 2, 1) := by decide +kernel
theorem dX7_spare_59 : decode cX7_spare 59 = .ok (.invokevirtual 232, 3) := by decide +kernel
theorem dX7_spare_62 : decode cX7_spare 62 = .ok (.invokestatic 229, 3) := by decide +kernel
theorem dX7_spare_65 : decode cX7_spare 65 = .ok (.ireturn, 1) := by decide +kernel
theorem dX7_allDown_0 : decode cX7_allDown 0 = .ok (.iload_n 1, 1) := by decide +kernel
theorem dX7_allDown_1 : decode cX7_allDown 1 = .ok (.ifCond .lt 8, 3) := by decide +kernel
theorem dX7_allDown_4 : decode cX7_allDown 4 = .ok (.iload_n 1, 1) := by decide +kernel
theorem dX7_allDown_5 : decode cX7_allDown 5 = .ok (.iconst 1, 1) := by decide +kernel
theorem dX7_allDown_6 : decode cX7_allDown 6 = .ok (.if_icmp .le 6, 3) := by decide +kernel
theorem dX7_allDown_9 : decode cX7_allDown 9 = .ok (.ldc 77, 2) := by decide +kernel
theorem dX7_allDown_11 : decode cX7_allDown 11 = .ok (.ireturn, 1) := by decide +kernel
theorem dX7_allDown_12 : decode cX7_allDown 12 = .ok (.aload_n 0, 1) := by decide +kernel
theorem dX7_allDown_13 : decode cX7_allDown 13 = .ok (.getfield 19, 3) := by decide +kernel
theorem dX7_allDown_16 : decode cX7_allDown 16 = .ok (.invokevirtual 172, 3) := by decide +kernel
theorem dX7_allDown_19 : decode cX7_allDown 19 = .ok (.ifCond .ne 6, 3) := by decide +kernel
theorem dX7_allDown_22 : decode cX7_allDown 22 = .ok (.ldc 176, 2) := by decide +kernel
theorem dX7_allDown_24 : decode cX7_allDown 24 = .ok (.ireturn, 1) := by decide +kernel
theorem dX7_allDown_25 : decode cX7_allDown 25 = .ok (.aload_n 0, 1) := by decide +kernel
theorem dX7_allDown_26 : decode cX7_allDown 26 = .ok (.getfield 62, 3) := by decide +kernel
theorem dX7_allDown_29 : decode cX7_allDown 29 = .ok (.aload_n 0, 1) := by decide +kernel
theorem dX7_allDown_30 : decode cX7_allDown 30 = .ok (.getfield 48, 3) := by decide +kernel
theorem dX7_allDown_33 : decode cX7_allDown 33 = .ok (.aload_n 0, 1) := by decide +kernel
theorem dX7_allDown_34 : decode cX7_allDown 34 = .ok (.getfield 19, 3) := by decide +kernel
theorem dX7_allDown_37 : decode cX7_allDown 37 = .ok (.invokevirtual 236, 3) := by decide +kernel
theorem dX7_allDown_40 : decode cX7_allDown 40 = .ok (.iload_n 1, 1) := by decide +kernel
theorem dX7_allDown_41 : decode cX7_allDown 41 = .ok (.ifCond .ne 13, 3) := by decide +kernel
theorem dX7_allDown_44 : decode cX7_allDown 44 = .ok (.aload_n 0, 1) := by decide +kernel
theorem dX7_allDown_45 : decode cX7_allDown 45 = .ok (.getfield 62, 3) := by decide +kernel
theorem dX7_allDown_48 : decode cX7_allDown 48 = .ok (.getfield 239, 3) := by decide +kernel
theorem dX7_allDown_51 : decode cX7_allDown 51 = .ok (.goto 13, 3) := by decide +kernel
theorem dX7_allDown_54 : decode cX7_allDown 54 = .ok (.aload_n 0, 1) := by decide +kernel
theorem dX7_allDown_55 : decode cX7_allDown 55 = .ok (.getfield 62, 3) := by decide +kernel
theorem dX7_allDown_58 : decode cX7_allDown 58 = .ok (.getfield 242, 3) := by decide +kernel
theorem dX7_allDown_61 : decode cX7_allDown 61 = .ok (.invokestatic 229, 3) := by decide +kernel
theorem dX7_allDown_64 : decode cX7_allDown 64 = .ok (.ireturn, 1) := by decide +kernel
theorem dX7_mend_0 : decode cX7_mend 0 = .ok (.iload_n 1, 1) := by decide +kernel
theorem dX7_mend_1 : decode cX7_mend 1 = .ok (.iload_n 2, 1) := by decide +kernel
theorem dX7_mend_2 : decode cX7_mend 2 = .ok (.iload_n 3, 1) := by decide +kernel
theorem dX7_mend_3 : decode cX7_mend 3 = .ok (.invokestatic 168, 3) := by decide +kernel
theorem dX7_mend_6 : decode cX7_mend 6 = .ok (.ifCond .eq 14, 3) := by decide +kernel
theorem dX7_mend_9 : decode cX7_mend 9 = .ok (.iload 4, 2) := by decide +kernel
theorem dX7_mend_11 : decode cX7_mend 11 = .ok (.ifCond .lt 9, 3) := by decide +kernel
theorem dX7_mend_14 : decode cX7_mend 14 = .ok (.iload 4, 2) := by decide +kernel
theorem dX7_mend_16 : decode cX7_mend 16 = .ok (.iconst 1, 1) := by decide +kernel
theorem dX7_mend_17 : decode cX7_mend 17 = .ok (.if_icmp .le 6, 3) := by decide +kernel
theorem dX7_mend_20 : decode cX7_mend 20 = .ok (.ldc 77, 2) := by decide +kernel
theorem dX7_mend_22 : decode cX7_mend 22 = .ok (.ireturn, 1) := by decide +kernel
theorem dX7_mend_23 : decode cX7_mend 23 = .ok (.aload_n 0, 1) := by decide +kernel
theorem dX7_mend_24 : decode cX7_mend 24 = .ok (.getfield 19, 3) := by decide +kernel
theorem dX7_mend_27 : decode cX7_mend 27 = .ok (.invokevirtual 172, 3) := by decide +kernel
theorem dX7_mend_30 : decode cX7_mend 30 = .ok (.ifCond .ne 6, 3) := by decide +kernel
theorem dX7_mend_33 : decode cX7_mend 33 = .ok (.ldc 176, 2) := by decide +kernel
theorem dX7_mend_35 : decode cX7_mend 35 = .ok (.ireturn, 1) := by decide +kernel
theorem dX7_mend_36 : decode cX7_mend 36 = .ok (.aload_n 0, 1) := by decide +kernel
theorem dX7_mend_37 : decode cX7_mend 37 = .ok (.getfield 23, 3) := by decide +kernel
theorem dX7_mend_40 : decode cX7_mend 40 = .ok (.aload_n 0, 1) := by decide +kernel
theorem dX7_mend_41 : decode cX7_mend 41 = .ok (.getfield 19, 3) := by decide +kernel
theorem dX7_mend_44 : decode cX7_mend 44 = .ok (.invokevirtual 245, 3) := by decide +kernel
theorem dX7_mend_47 : decode cX7_mend 47 = .ok (.iconst (-1), 1) := by decide +kernel
theorem dX7_mend_48 : decode cX7_mend 48 = .ok (.istore 5, 2) := by decide +kernel
theorem dX7_mend_50 : decode cX7_mend 50 = .ok (.bipush 10, 2) := by decide +kernel
theorem dX7_mend_52 : decode cX7_mend 52 = .ok (.istore 6, 2) := by decide +kernel
theorem dX7_mend_54 : decode cX7_mend 54 = .ok (.iconst 0, 1) := by decide +kernel
theorem dX7_mend_55 : decode cX7_mend 55 = .ok (.istore 7, 2) := by decide +kernel
theorem dX7_mend_57 : decode cX7_mend 57 = .ok (.iload 7, 2) := by decide +kernel
theorem dX7_mend_59 : decode cX7_mend 59 = .ok (.bipush 9, 2) := by decide +kernel
theorem dX7_mend_61 : decode cX7_mend 61 = .ok (.if_icmp .ge 62, 3) := by decide +kernel
theorem dX7_mend_64 : decode cX7_mend 64 = .ok (.iload 7, 2) := by decide +kernel
theorem dX7_mend_66 : decode cX7_mend 66 = .ok (.iconst 1, 1) := by decide +kernel
theorem dX7_mend_67 : decode cX7_mend 67 = .ok (.iadd, 1) := by decide +kernel
theorem dX7_mend_68 : decode cX7_mend 68 = .ok (.istore 8, 2) := by decide +kernel
theorem dX7_mend_70 : decode cX7_mend 70 = .ok (.iload 8, 2) := by decide +kernel
theorem dX7_mend_72 : decode cX7_mend 72 = .ok (.bipush 9, 2) := by decide +kernel
theorem dX7_mend_74 : decode cX7_mend 74 = .ok (.if_icmp .ge 43, 3) := by decide +kernel
theorem dX7_mend_77 : decode cX7_mend 77 = .ok (.aload_n 0, 1) := by decide +kernel
theorem dX7_mend_78 : decode cX7_mend 78 = .ok (.iload 7, 2) := by decide +kernel
theorem dX7_mend_80 : decode cX7_mend 80 = .ok (.iload 8, 2) := by decide +kernel
theorem dX7_mend_82 : decode cX7_mend 82 = .ok (.iload_n 1, 1) := by decide +kernel
theorem dX7_mend_83 : decode cX7_mend 83 = .ok (.iload_n 2, 1) := by decide +kernel
theorem dX7_mend_84 : decode cX7_mend 84 = .ok (.iload_n 3, 1) := by decide +kernel
theorem dX7_mend_85 : decode cX7_mend 85 = .ok (.invokevirtual 248, 3) := by decide +kernel
theorem dX7_mend_88 : decode cX7_mend 88 = .ok (.istore 9, 2) := by decide +kernel
theorem dX7_mend_90 : decode cX7_mend 90 = .ok (.iload 9, 2) := by decide +kernel
theorem dX7_mend_92 : decode cX7_mend 92 = .ok (.iload 6, 2) := by decide +kernel
theorem dX7_mend_94 : decode cX7_mend 94 = .ok (.if_icmp .ge 17, 3) := by decide +kernel
theorem dX7_mend_97 : decode cX7_mend 97 = .ok (.iload 9, 2) := by decide +kernel
theorem dX7_mend_99 : decode cX7_mend 99 = .ok (.istore 6, 2) := by decide +kernel
theorem dX7_mend_101 : decode cX7_mend 101 = .ok (.bipush 10, 2) := by decide +kernel
theorem dX7_mend_103 : decode cX7_mend 103 = .ok (.iload 7, 2) := by decide +kernel
theorem dX7_mend_105 : decode cX7_mend 105 = .ok (.imul, 1) := by decide +kernel
theorem dX7_mend_106 : decode cX7_mend 106 = .ok (.iload 8, 2) := by decide +kernel
theorem dX7_mend_108 : decode cX7_mend 108 = .ok (.iadd, 1) := by decide +kernel
theorem dX7_mend_109 : decode cX7_mend 109 = .ok (.istore 5, 2) := by decide +kernel
theorem dX7_mend_111 : decode cX7_mend 111 = .ok (.iinc 8 1, 3) := by decide +kernel
theorem dX7_mend_114 : decode cX7_mend 114 = .ok (.goto (-44), 3) := by decide +kernel
theorem dX7_mend_117 : decode cX7_mend 117 = .ok (.iinc 7 1, 3) := by decide +kernel
theorem dX7_mend_120 : decode cX7_mend 120 = .ok (.goto (-63), 3) := by decide +kernel
theorem dX7_mend_123 : decode cX7_mend 123 = .ok (.iload 4, 2) := by decide +kernel
theorem dX7_mend_125 : decode cX7_mend 125 = .ok (.ifCond .ne 8, 3) := by decide +kernel
theorem dX7_mend_128 : decode cX7_mend 128 = .ok (.iload 5, 2) := by decide +kernel
theorem dX7_mend_130 : decode cX7_mend 130 = .ok (.goto 5, 3) := by decide +kernel
theorem dX7_mend_133 : decode cX7_mend 133 = .ok (.iload 6, 2) := by decide +kernel
theorem dX7_mend_135 : decode cX7_mend 135 = .ok (.ireturn, 1) := by decide +kernel
theorem dX7_hand_0 : decode cX7_hand 0 = .ok (.aload_n 0, 1) := by decide +kernel
theorem dX7_hand_1 : decode cX7_hand 1 = .ok (.getfield 19, 3) := by decide +kernel
theorem dX7_hand_4 : decode cX7_hand 4 = .ok (.iload_n 1, 1) := by decide +kernel
theorem dX7_hand_5 : decode cX7_hand 5 = .ok (.invokevirtual 216, 3) := by decide +kernel
theorem dX7_hand_8 : decode cX7_hand 8 = .ok (.ifCond .ne 6, 3) := by decide +kernel
theorem dX7_hand_11 : decode cX7_hand 11 = .ok (.ldc 134, 2) := by decide +kernel
theorem dX7_hand_13 : decode cX7_hand 13 = .ok (.ireturn, 1) := by decide +kernel
theorem dX7_hand_14 : decode cX7_hand 14 = .ok (.aload_n 0, 1) := by decide +kernel
theorem dX7_hand_15 : decode cX7_hand 15 = .ok (.getfield 19, 3) := by decide +kernel
theorem dX7_hand_18 : decode cX7_hand 18 = .ok (.invokevirtual 172, 3) := by decide +kernel
theorem dX7_hand_21 : decode cX7_hand 21 = .ok (.ifCond .ne 6, 3) := by decide +kernel
theorem dX7_hand_24 : decode cX7_hand 24 = .ok (.ldc 176, 2) := by decide +kernel
theorem dX7_hand_26 : decode cX7_hand 26 = .ok (.ireturn, 1) := by decide +kernel
theorem dX7_hand_27 : decode cX7_hand 27 = .ok (.aload_n 0, 1) := by decide +kernel
theorem dX7_hand_28 : decode cX7_hand 28 = .ok (.getfield 55, 3) := by decide +kernel
theorem dX7_hand_31 : decode cX7_hand 31 = .ok (.aload_n 0, 1) := by decide +kernel
theorem dX7_hand_32 : decode cX7_hand 32 = .ok (.getfield 48, 3) := by decide +kernel
theorem dX7_hand_35 : decode cX7_hand 35 = .ok (.aload_n 0, 1) := by decide +kernel
theorem dX7_hand_36 : decode cX7_hand 36 = .ok (.getfield 19, 3) := by decide +kernel
theorem dX7_hand_39 : decode cX7_hand 39 = .ok (.invokevirtual 219, 3) := by decide +kernel
theorem dX7_hand_42 : decode cX7_hand 42 = .ok (.aload_n 0, 1) := by decide +kernel
theorem dX7_hand_43 : decode cX7_hand 43 = .ok (.getfield 55, 3) := by decide +kernel
theorem dX7_hand_46 : decode cX7_hand 46 = .ok (.iload_n 1, 1) := by decide +kernel
theorem dX7_hand_47 : decode cX7_hand 47 = .ok (.invokevirtual 252, 3) := by decide +kernel
theorem dX7_hand_50 : decode cX7_hand 50 = .ok (.ireturn, 1) := by decide +kernel
theorem dX7_ask_0 : decode cX7_ask 0 = .ok (.iload_n 1, 1) := by decide +kernel
theorem dX7_ask_1 : decode cX7_ask 1 = .ok (.ifCond .lt 8, 3) := by decide +kernel
theorem dX7_ask_4 : decode cX7_ask 4 = .ok (.iload_n 1, 1) := by decide +kernel
theorem dX7_ask_5 : decode cX7_ask 5 = .ok (.iconst 5, 1) := by decide +kernel
theorem dX7_ask_6 : decode cX7_ask 6 = .ok (.if_icmp .lt 6, 3) := by decide +kernel
theorem dX7_ask_9 : decode cX7_ask 9 = .ok (.ldc 77, 2) := by decide +kernel
theorem dX7_ask_11 : decode cX7_ask 11 = .ok (.ireturn, 1) := by decide +kernel
theorem dX7_ask_12 : decode cX7_ask 12 = .ok (.aload_n 0, 1) := by decide +kernel
theorem dX7_ask_13 : decode cX7_ask 13 = .ok (.getfield 19, 3) := by decide +kernel
theorem dX7_ask_16 : decode cX7_ask 16 = .ok (.invokevirtual 172, 3) := by decide +kernel
theorem dX7_ask_19 : decode cX7_ask 19 = .ok (.ifCond .ne 6, 3) := by decide +kernel
theorem dX7_ask_22 : decode cX7_ask 22 = .ok (.ldc 176, 2) := by decide +kernel
theorem dX7_ask_24 : decode cX7_ask 24 = .ok (.ireturn, 1) := by decide +kernel
theorem dX7_ask_25 : decode cX7_ask 25 = .ok (.aload_n 0, 1) := by decide +kernel
theorem dX7_ask_26 : decode cX7_ask 26 = .ok (.getfield 55, 3) := by decide +kernel
theorem dX7_ask_29 : decode cX7_ask 29 = .ok (.aload_n 0, 1) := by decide +kernel
theorem dX7_ask_30 : decode cX7_ask 30 = .ok (.getfield 48, 3) := by decide +kernel
theorem dX7_ask_33 : decode cX7_ask 33 = .ok (.aload_n 0, 1) := by decide +kernel
theorem dX7_ask_34 : decode cX7_ask 34 = .ok (.getfield 19, 3) := by decide +kernel
theorem dX7_ask_37 : decode cX7_ask 37 = .ok (.invokevirtual 219, 3) := by decide +kernel
theorem dX7_ask_40 : decode cX7_ask 40 = .ok (.aload_n 0, 1) := by decide +kernel
theorem dX7_ask_41 : decode cX7_ask 41 = .ok (.getfield 55, 3) := by decide +kernel
theorem dX7_ask_44 : decode cX7_ask 44 = .ok (.iload_n 1, 1) := by decide +kernel
theorem dX7_ask_45 : decode cX7_ask 45 = .ok (.aload_n 0, 1) := by decide +kernel
theorem dX7_ask_46 : decode cX7_ask 46 = .ok (.getfield 19, 3) := by decide +kernel
theorem dX7_ask_49 : decode cX7_ask 49 = .ok (.getfield 102, 3) := by decide +kernel
theorem dX7_ask_52 : decode cX7_ask 52 = .ok (.invokevirtual 255, 3) := by decide +kernel
theorem dX7_ask_55 : decode cX7_ask 55 = .ok (.ireturn, 1) := by decide +kernel
theorem dX7_calm_0 : decode cX7_calm 0 = .ok (.iload_n 1, 1) := by decide +kernel
theorem dX7_calm_1 : decode cX7_calm 1 = .ok (.ifCond .lt 19, 3) := by decide +kernel
theorem dX7_calm_4 : decode cX7_calm 4 = .ok (.iload_n 1, 1) := by decide +kernel
theorem dX7_calm_5 : decode cX7_calm 5 = .ok (.bipush 60, 2) := by decide +kernel
theorem dX7_calm_7 : decode cX7_calm 7 = .ok (.if_icmp .gt 13, 3) := by decide +kernel
theorem dX7_calm_10 : decode cX7_calm 10 = .ok (.iload_n 2, 1) := by decide +kernel
theorem dX7_calm_11 : decode cX7_calm 11 = .ok (.ifCond .lt 9, 3) := by decide +kernel
theorem dX7_calm_14 : decode cX7_calm 14 = .ok (.iload_n 2, 1) := by decide +kernel
theorem dX7_calm_15 : decode cX7_calm 15 = .ok (.bipush 100, 2) := by decide +kernel
theorem dX7_calm_17 : decode cX7_calm 17 = .ok (.if_icmp .le 6, 3) := by decide +kernel
theorem dX7_calm_20 : decode cX7_calm 20 = .ok (.ldc 77, 2) := by decide +kernel
theorem dX7_calm_22 : decode cX7_calm 22 = .ok (.ireturn, 1) := by decide +kernel
theorem dX7_calm_23 : decode cX7_calm 23 = .ok (.ldc2_w 258, 3) := by decide +kernel
theorem dX7_calm_26 : decode cX7_calm 26 = .ok (.lstore_n 3, 1) := by decide +kernel
theorem dX7_calm_27 : decode cX7_calm 27 = .ok (.iconst 0, 1) := by decide +kernel
theorem dX7_calm_28 : decode cX7_calm 28 = .ok (.istore 5, 2) := by decide +kernel
theorem dX7_calm_30 : decode cX7_calm 30 = .ok (.iload 5, 2) := by decide +kernel
theorem dX7_calm_32 : decode cX7_calm 32 = .ok (.iload_n 1, 1) := by decide +kernel
theorem dX7_calm_33 : decode cX7_calm 33 = .ok (.if_icmp .ge 18, 3) := by decide +kernel
theorem dX7_calm_36 : decode cX7_calm 36 = .ok (.lload_n 3, 1) := by decide +kernel
theorem dX7_calm_37 : decode cX7_calm 37 = .ok (.iload_n 2, 1) := by decide +kernel
theorem dX7_calm_38 : decode cX7_calm 38 = .ok (.i2l, 1) := by decide +kernel
theorem dX7_calm_39 : decode cX7_calm 39 = .ok (.lmul, 1) := by decide +kernel
theorem dX7_calm_40 : decode cX7_calm 40 = .ok (.ldc2_w 260, 3) := by decide +kernel
theorem dX7_calm_43 : decode cX7_calm 43 = .ok (.ldiv, 1) := by decide +kernel
theorem dX7_calm_44 : decode cX7_calm 44 = .ok (.lstore_n 3, 1) := by decide +kernel
theorem dX7_calm_45 : decode cX7_calm 45 = .ok (.iinc 5 1, 3) := by decide +kernel
theorem dX7_calm_48 : decode cX7_calm 48 = .ok (.goto (-18), 3) := by decide +kernel
theorem dX7_calm_51 : decode cX7_calm 51 = .ok (.lload_n 3, 1) := by decide +kernel
theorem dX7_calm_52 : decode cX7_calm 52 = .ok (.l2i, 1) := by decide +kernel
theorem dX7_calm_53 : decode cX7_calm 53 = .ok (.ireturn, 1) := by decide +kernel
theorem dX7_write_0 : decode cX7_write 0 = .ok (.aload_n 0, 1) := by decide +kernel
theorem dX7_write_1 : decode cX7_write 1 = .ok (.getfield 19, 3) := by decide +kernel
theorem dX7_write_4 : decode cX7_write 4 = .ok (.iload_n 1, 1) := by decide +kernel
theorem dX7_write_5 : decode cX7_write 5 = .ok (.invokevirtual 130, 3) := by decide +kernel
theorem dX7_write_8 : decode cX7_write 8 = .ok (.ifCond .eq 15, 3) := by decide +kernel
theorem dX7_write_11 : decode cX7_write 11 = .ok (.aload_n 0, 1) := by decide +kernel
theorem dX7_write_12 : decode cX7_write 12 = .ok (.getfield 69, 3) := by decide +kernel
theorem dX7_write_15 : decode cX7_write 15 = .ok (.iload_n 1, 1) := by decide +kernel
theorem dX7_write_16 : decode cX7_write 16 = .ok (.iload_n 2, 1) := by decide +kernel
theorem dX7_write_17 : decode cX7_write 17 = .ok (.invokevirtual 262, 3) := by decide +kernel
theorem dX7_write_20 : decode cX7_write 20 = .ok (.goto 5, 3) := by decide +kernel
theorem dX7_write_23 : decode cX7_write 23 = .ok (.ldc 134, 2) := by decide +kernel
theorem dX7_write_25 : decode cX7_write 25 = .ok (.ireturn, 1) := by decide +kernel
theorem dX7_tear_0 : decode cX7_tear 0 = .ok (.aload_n 0, 1) := by decide +kernel
theorem dX7_tear_1 : decode cX7_tear 1 = .ok (.getfield 69, 3) := by decide +kernel
theorem dX7_tear_4 : decode cX7_tear 4 = .ok (.getfield 126, 3) := by decide +kernel
theorem dX7_tear_7 : decode cX7_tear 7 = .ok (.istore_n 1, 1) := by decide +kernel
theorem dX7_tear_8 : decode cX7_tear 8 = .ok (.aload_n 0, 1) := by decide +kernel
theorem dX7_tear_9 : decode cX7_tear 9 = .ok (.getfield 69, 3) := by decide +kernel
theorem dX7_tear_12 : decode cX7_tear 12 = .ok (.invokevirtual 96, 3) := by decide +kernel
theorem dX7_tear_15 : decode cX7_tear 15 = .ok (.iload_n 1, 1) := by decide +kernel
theorem dX7_tear_16 : decode cX7_tear 16 = .ok (.ireturn, 1) := by decide +kernel
theorem dX7_judge_0 : decode cX7_judge 0 = .ok (.aload_n 0, 1) := by decide +kernel
theorem dX7_judge_1 : decode cX7_judge 1 = .ok (.getfield 69, 3) := by decide +kernel
theorem dX7_judge_4 : decode cX7_judge 4 = .ok (.aload_n 0, 1) := by decide +kernel
theorem dX7_judge_5 : decode cX7_judge 5 = .ok (.getfield 19, 3) := by decide +kernel
theorem dX7_judge_8 : decode cX7_judge 8 = .ok (.getfield 111, 3) := by decide +kernel
theorem dX7_judge_11 : decode cX7_judge 11 = .ok (.invokevirtual 265, 3) := by decide +kernel
theorem dX7_judge_14 : decode cX7_judge 14 = .ok (.ireturn, 1) := by decide +kernel
theorem dX7_seed_0 : decode cX7_seed 0 = .ok (.iload_n 1, 1) := by decide +kernel
theorem dX7_seed_1 : decode cX7_seed 1 = .ok (.ifCond .ge 6, 3) := by decide +kernel
theorem dX7_seed_4 : decode cX7_seed 4 = .ok (.ldc 77, 2) := by decide +kernel
theorem dX7_seed_6 : decode cX7_seed 6 = .ok (.ireturn, 1) := by decide +kernel
theorem dX7_seed_7 : decode cX7_seed 7 = .ok (.aload_n 0, 1) := by decide +kernel
theorem dX7_seed_8 : decode cX7_seed 8 = .ok (.getfield 268, 3) := by decide +kernel
theorem dX7_seed_11 : decode cX7_seed 11 = .ok (.istore_n 2, 1) := by decide +kernel
theorem dX7_seed_12 : decode cX7_seed 12 = .ok (.aload_n 0, 1) := by decide +kernel
theorem dX7_seed_13 : decode cX7_seed 13 = .ok (.iload_n 1, 1) := by decide +kernel
theorem dX7_seed_14 : decode cX7_seed 14 = .ok (.putfield 268, 3) := by decide +kernel
theorem dX7_seed_17 : decode cX7_seed 17 = .ok (.iload_n 2, 1) := by decide +kernel
theorem dX7_seed_18 : decode cX7_seed 18 = .ok (.ireturn, 1) := by decide +kernel
theorem dX7_keep_0 : decode cX7_keep 0 = .ok (.iload_n 1, 1) := by decide +kernel
theorem dX7_keep_1 : decode cX7_keep 1 = .ok (.ifCond .lt 8, 3) := by decide +kernel
theorem dX7_keep_4 : decode cX7_keep 4 = .ok (.iload_n 1, 1) := by decide +kernel
theorem dX7_keep_5 : decode cX7_keep 5 = .ok (.iconst 2, 1) := by decide +kernel
theorem dX7_keep_6 : decode cX7_keep 6 = .ok (.if_icmp .lt 6, 3) := by decide +kernel
theorem dX7_keep_9 : decode cX7_keep 9 = .ok (.ldc 134, 2) := by decide +kernel
theorem dX7_keep_11 : decode cX7_keep 11 = .ok (.ireturn, 1) := by decide +kernel
theorem dX7_keep_12 : decode cX7_keep 12 = .ok (.aload_n 0, 1) := by decide +kernel
theorem dX7_keep_13 : decode cX7_keep 13 = .ok (.getfield 33, 3) := by decide +kernel
theorem dX7_keep_16 : decode cX7_keep 16 = .ok (.iload_n 1, 1) := by decide +kernel
theorem dX7_keep_17 : decode cX7_keep 17 = .ok (.aaload, 1) := by decide +kernel
theorem dX7_keep_18 : decode cX7_keep 18 = .ok (.aload_n 0, 1) := by decide +kernel
theorem dX7_keep_19 : decode cX7_keep 19 = .ok (.getfield 19, 3) := by decide +kernel
theorem dX7_keep_22 : decode cX7_keep 22 = .ok (.invokevirtual 245, 3) := by decide +kernel
theorem dX7_keep_25 : decode cX7_keep 25 = .ok (.aload_n 0, 1) := by decide +kernel
theorem dX7_keep_26 : decode cX7_keep 26 = .ok (.getfield 41, 3) := by decide +kernel
theorem dX7_keep_29 : decode cX7_keep 29 = .ok (.iload_n 1, 1) := by decide +kernel
theorem dX7_keep_30 : decode cX7_keep 30 = .ok (.aload_n 0, 1) := by decide +kernel
theorem dX7_keep_31 : decode cX7_keep 31 = .ok (.getfield 268, 3) := by decide +kernel
theorem dX7_keep_34 : decode cX7_keep 34 = .ok (.iastore, 1) := by decide +kernel
theorem dX7_keep_35 : decode cX7_keep 35 = .ok (.aload_n 0, 1) := by decide +kernel
theorem dX7_keep_36 : decode cX7_keep 36 = .ok (.getfield 37, 3) := by decide +kernel
theorem dX7_keep_39 : decode cX7_keep 39 = .ok (.iload_n 1, 1) := by decide +kernel
theorem dX7_keep_40 : decode cX7_keep 40 = .ok (.iconst 1, 1) := by decide +kernel
theorem dX7_keep_41 : decode cX7_keep 41 = .ok (.bastore, 1) := by decide +kernel
theorem dX7_keep_42 : decode cX7_keep 42 = .ok (.aload_n 0, 1) := by decide +kernel
theorem dX7_keep_43 : decode cX7_keep 43 = .ok (.getfield 29, 3) := by decide +kernel
theorem dX7_keep_46 : decode cX7_keep 46 = .ok (.invokevirtual 93, 3) := by decide +kernel
theorem dX7_keep_49 : decode cX7_keep 49 = .ok (.iconst 1, 1) := by decide +kernel
theorem dX7_keep_50 : decode cX7_keep 50 = .ok (.ireturn, 1) := by decide +kernel
theorem dX7_goBack_0 : decode cX7_goBack 0 = .ok (.iload_n 1, 1) := by decide +kernel
theorem dX7_goBack_1 : decode cX7_goBack 1 = .ok (.ifCond .lt 8, 3) := by decide +kernel
theorem dX7_goBack_4 : decode cX7_goBack 4 = .ok (.iload_n 1, 1) := by decide +kernel
theorem dX7_goBack_5 : decode cX7_goBack 5 = .ok (.iconst 2, 1) := by decide +kernel
theorem dX7_goBack_6 : decode cX7_goBack 6 = .ok (.if_icmp .lt 6, 3) := by decide +kernel
theorem dX7_goBack_9 : decode cX7_goBack 9 = .ok (.ldc 134, 2) := by decide +kernel
theorem dX7_goBack_11 : decode cX7_goBack 11 = .ok (.ireturn, 1) := by decide +kernel
theorem dX7_goBack_12 : decode cX7_goBack 12 = .ok (.aload_n 0, 1) := by decide +kernel
theorem dX7_goBack_13 : decode cX7_goBack 13 = .ok (.getfield 37, 3) := by decide +kernel
theorem dX7_goBack_16 : decode cX7_goBack 16 = .ok (.iload_n 1, 1) := by decide +kernel
theorem dX7_goBack_17 : decode cX7_goBack 17 = .ok (.baload, 1) := by decide +kernel
theorem dX7_goBack_18 : decode cX7_goBack 18 = .ok (.ifCond .ne 6, 3) := by decide +kernel
theorem dX7_goBack_21 : decode cX7_goBack 21 = .ok (.ldc 176, 2) := by decide +kernel
theorem dX7_goBack_23 : decode cX7_goBack 23 = .ok (.ireturn, 1) := by decide +kernel
theorem dX7_goBack_24 : decode cX7_goBack 24 = .ok (.aload_n 0, 1) := by decide +kernel
theorem dX7_goBack_25 : decode cX7_goBack 25 = .ok (.getfield 19, 3) := by decide +kernel
theorem dX7_goBack_28 : decode cX7_goBack 28 = .ok (.aload_n 0, 1) := by decide +kernel
theorem dX7_goBack_29 : decode cX7_goBack 29 = .ok (.getfield 33, 3) := by decide +kernel
theorem dX7_goBack_32 : decode cX7_goBack 32 = .ok (.iload_n 1, 1) := by decide +kernel
theorem dX7_goBack_33 : decode cX7_goBack 33 = .ok (.aaload, 1) := by decide +kernel
theorem dX7_goBack_34 : decode cX7_goBack 34 = .ok (.invokevirtual 245, 3) := by decide +kernel
theorem dX7_goBack_37 : decode cX7_goBack 37 = .ok (.aload_n 0, 1) := by decide +kernel
theorem dX7_goBack_38 : decode cX7_goBack 38 = .ok (.aload_n 0, 1) := by decide +kernel
theorem dX7_goBack_39 : decode cX7_goBack 39 = .ok (.getfield 41, 3) := by decide +kernel
theorem dX7_goBack_42 : decode cX7_goBack 42 = .ok (.iload_n 1, 1) := by decide +kernel
theorem dX7_goBack_43 : decode cX7_goBack 43 = .ok (.iaload, 1) := by decide +kernel
theorem dX7_goBack_44 : decode cX7_goBack 44 = .ok (.putfield 268, 3) := by decide +kernel
theorem dX7_goBack_47 : decode cX7_goBack 47 = .ok (.aload_n 0, 1) := by decide +kernel
theorem dX7_goBack_48 : decode cX7_goBack 48 = .ok (.getfield 29, 3) := by decide +kernel
theorem dX7_goBack_51 : decode cX7_goBack 51 = .ok (.invokevirtual 93, 3) := by decide +kernel
theorem dX7_goBack_54 : decode cX7_goBack 54 = .ok (.aload_n 0, 1) := by decide +kernel
theorem dX7_goBack_55 : decode cX7_goBack 55 = .ok (.invokevirtual 99, 3) := by decide +kernel
theorem dX7_goBack_58 : decode cX7_goBack 58 = .ok (.iconst 1, 1) := by decide +kernel
theorem dX7_goBack_59 : decode cX7_goBack 59 = .ok (.ireturn, 1) := by decide +kernel
theorem dX7_isPlate_0 : decode cX7_isPlate 0 = .ok (.iload_n 0, 1) := by decide +kernel
theorem dX7_isPlate_1 : decode cX7_isPlate 1 = .ok (.ifCond .lt 13, 3) := by decide +kernel
theorem dX7_isPlate_4 : decode cX7_isPlate 4 = .ok (.iload_n 0, 1) := by decide +kernel
theorem dX7_isPlate_5 : decode cX7_isPlate 5 = .ok (.bipush 9, 2) := by decide +kernel
theorem dX7_isPlate_7 : decode cX7_isPlate 7 = .ok (.if_icmp .ge 7, 3) := by decide +kernel
theorem dX7_isPlate_10 : decode cX7_isPlate 10 = .ok (.iconst 1, 1) := by decide +kernel
theorem dX7_isPlate_11 : decode cX7_isPlate 11 = .ok (.goto 4, 3) := by decide +kernel
theorem dX7_isPlate_14 : decode cX7_isPlate 14 = .ok (.iconst 0, 1) := by decide +kernel
theorem dX7_isPlate_15 : decode cX7_isPlate 15 = .ok (.ireturn, 1) := by decide +kernel
theorem dX7_isBall_0 : decode cX7_isBall 0 = .ok (.iload_n 0, 1) := by decide +kernel
theorem dX7_isBall_1 : decode cX7_isBall 1 = .ok (.ifCond .lt 32, 3) := by decide +kernel
theorem dX7_isBall_4 : decode cX7_isBall 4 = .ok (.iload_n 0, 1) := by decide +kernel
theorem dX7_isBall_5 : decode cX7_isBall 5 = .ok (.iconst 5, 1) := by decide +kernel
theorem dX7_isBall_6 : decode cX7_isBall 6 = .ok (.if_icmp .ge 27, 3) := by decide +kernel
theorem dX7_isBall_9 : decode cX7_isBall 9 = .ok (.iload_n 1, 1) := by decide +kernel
theorem dX7_isBall_10 : decode cX7_isBall 10 = .ok (.ifCond .lt 23, 3) := by decide +kernel
theorem dX7_isBall_13 : decode cX7_isBall 13 = .ok (.iload_n 1, 1) := by decide +kernel
theorem dX7_isBall_14 : decode cX7_isBall 14 = .ok (.iconst 3, 1) := by decide +kernel
theorem dX7_isBall_15 : decode cX7_isBall 15 = .ok (.if_icmp .ge 18, 3) := by decide +kernel
theorem dX7_isBall_18 : decode cX7_isBall 18 = .ok (.iload_n 2, 1) := by decide +kernel
theorem dX7_isBall_19 : decode cX7_isBall 19 = .ok (.iconst 1, 1) := by decide +kernel
theorem dX7_isBall_20 : decode cX7_isBall 20 = .ok (.if_icmp .lt 13, 3) := by decide +kernel
theorem dX7_isBall_23 : decode cX7_isBall 23 = .ok (.iload_n 2, 1) := by decide +kernel
theorem dX7_isBall_24 : decode cX7_isBall 24 = .ok (.bipush 40, 2) := by decide +kernel
theorem dX7_isBall_26 : decode cX7_isBall 26 = .ok (.if_icmp .gt 7, 3) := by decide +kernel
theorem dX7_isBall_29 : decode cX7_isBall 29 = .ok (.iconst 1, 1) := by decide +kernel
theorem dX7_isBall_30 : decode cX7_isBall 30 = .ok (.goto 4, 3) := by decide +kernel
theorem dX7_isBall_33 : decode cX7_isBall 33 = .ok (.iconst 0, 1) := by decide +kernel
theorem dX7_isBall_34 : decode cX7_isBall 34 = .ok (.ireturn, 1) := by decide +kernel
theorem dX7_numberOf_0 : decode cX7_numberOf 0 = .ok (.iload_n 0, 1) := by decide +kernel
theorem dX7_numberOf_1 : decode cX7_numberOf 1 = .ok (.ifCond .ge 5, 3) := by decide +kernel
theorem dX7_numberOf_4 : decode cX7_numberOf 4 = .ok (.iconst (-1), 1) := by decide +kernel
theorem dX7_numberOf_5 : decode cX7_numberOf 5 = .ok (.ireturn, 1) := by decide +kernel
theorem dX7_numberOf_6 : decode cX7_numberOf 6 = .ok (.iload_n 0, 1) := by decide +kernel
theorem dX7_numberOf_7 : decode cX7_numberOf 7 = .ok (.bipush 40, 2) := by decide +kernel
theorem dX7_numberOf_9 : decode cX7_numberOf 9 = .ok (.idiv, 1) := by decide +kernel
theorem dX7_numberOf_10 : decode cX7_numberOf 10 = .ok (.istore_n 1, 1) := by decide +kernel
theorem dX7_numberOf_11 : decode cX7_numberOf 11 = .ok (.sipush 1000, 3) := by decide +kernel
theorem dX7_numberOf_14 : decode cX7_numberOf 14 = .ok (.iload_n 1, 1) := by decide +kernel
theorem dX7_numberOf_15 : decode cX7_numberOf 15 = .ok (.iconst 3, 1) := by decide +kernel
theorem dX7_numberOf_16 : decode cX7_numberOf 16 = .ok (.idiv, 1) := by decide +kernel
theorem dX7_numberOf_17 : decode cX7_numberOf 17 = .ok (.imul, 1) := by decide +kernel
theorem dX7_numberOf_18 : decode cX7_numberOf 18 = .ok (.bipush 100, 2) := by decide +kernel
theorem dX7_numberOf_20 : decode cX7_numberOf 20 = .ok (.iload_n 1, 1) := by decide +kernel
theorem dX7_numberOf_21 : decode cX7_numberOf 21 = .ok (.iconst 3, 1) := by decide +kernel
theorem dX7_numberOf_22 : decode cX7_numberOf 22 = .ok (.irem, 1) := by decide +kernel
theorem dX7_numberOf_23 : decode cX7_numberOf 23 = .ok (.imul, 1) := by decide +kernel
theorem dX7_numberOf_24 : decode cX7_numberOf 24 = .ok (.iadd, 1) := by decide +kernel
theorem dX7_numberOf_25 : decode cX7_numberOf 25 = .ok (.iload_n 0, 1) := by decide +kernel
theorem dX7_numberOf_26 : decode cX7_numberOf 26 = .ok (.bipush 40, 2) := by decide +kernel
theorem dX7_numberOf_28 : decode cX7_numberOf 28 = .ok (.irem, 1) := by decide +kernel
theorem dX7_numberOf_29 : decode cX7_numberOf 29 = .ok (.iadd, 1) := by decide +kernel
theorem dX7_numberOf_30 : decode cX7_numberOf 30 = .ok (.iconst 1, 1) := by decide +kernel
theorem dX7_numberOf_31 : decode cX7_numberOf 31 = .ok (.iadd, 1) := by decide +kernel
theorem dX7_numberOf_32 : decode cX7_numberOf 32 = .ok (.ireturn, 1) := by decide +kernel
theorem dX7_remember_0 : decode cX7_remember 0 = .ok (.aload_n 0, 1) := by decide +kernel
theorem dX7_remember_1 : decode cX7_remember 1 = .ok (.getfield 29, 3) := by decide +kernel
theorem dX7_remember_4 : decode cX7_remember 4 = .ok (.aload_n 0, 1) := by decide +kernel
theorem dX7_remember_5 : decode cX7_remember 5 = .ok (.getfield 19, 3) := by decide +kernel
theorem dX7_remember_8 : decode cX7_remember 8 = .ok (.invokevirtual 271, 3) := by decide +kernel
theorem dX7_remember_11 : decode cX7_remember 11 = .ok (.aload_n 0, 1) := by decide +kernel
theorem dX7_remember_12 : decode cX7_remember 12 = .ok (.invokevirtual 99, 3) := by decide +kernel
theorem dX7_remember_15 : decode cX7_remember 15 = .ok (.return_, 1) := by decide +kernel
theorem dX7_stirred_0 : decode cX7_stirred 0 = .ok (.aload_n 0, 1) := by decide +kernel
theorem dX7_stirred_1 : decode cX7_stirred 1 = .ok (.getfield 55, 3) := by decide +kernel
theorem dX7_stirred_4 : decode cX7_stirred 4 = .ok (.iconst 0, 1) := by decide +kernel
theorem dX7_stirred_5 : decode cX7_stirred 5 = .ok (.putfield 274, 3) := by decide +kernel
theorem dX7_stirred_8 : decode cX7_stirred 8 = .ok (.aload_n 0, 1) := by decide +kernel
theorem dX7_stirred_9 : decode cX7_stirred 9 = .ok (.getfield 62, 3) := by decide +kernel
theorem dX7_stirred_12 : decode cX7_stirred 12 = .ok (.iconst 0, 1) := by decide +kernel
theorem dX7_stirred_13 : decode cX7_stirred 13 = .ok (.putfield 278, 3) := by decide +kernel
theorem dX7_stirred_16 : decode cX7_stirred 16 = .ok (.return_, 1) := by decide +kernel
theorem dX7_throwOne_0 : decode cX7_throwOne 0 = .ok (.aload_n 0, 1) := by decide +kernel
theorem dX7_throwOne_1 : decode cX7_throwOne 1 = .ok (.getfield 48, 3) := by decide +kernel
theorem dX7_throwOne_4 : decode cX7_throwOne 4 = .ok (.aload_n 0, 1) := by decide +kernel
theorem dX7_throwOne_5 : decode cX7_throwOne 5 = .ok (.getfield 19, 3) := by decide +kernel
theorem dX7_throwOne_8 : decode cX7_throwOne 8 = .ok (.invokevirtual 203, 3) := by decide +kernel
theorem dX7_throwOne_11 : decode cX7_throwOne 11 = .ok (.aload_n 0, 1) := by decide +kernel
theorem dX7_throwOne_12 : decode cX7_throwOne 12 = .ok (.getfield 48, 3) := by decide +kernel
theorem dX7_throwOne_15 : decode cX7_throwOne 15 = .ok (.invokevirtual 281, 3) := by decide +kernel
theorem dX7_throwOne_18 : decode cX7_throwOne 18 = .ok (.aload_n 0, 1) := by decide +kernel
theorem dX7_throwOne_19 : decode cX7_throwOne 19 = .ok (.getfield 48, 3) := by decide +kernel
theorem dX7_throwOne_22 : decode cX7_throwOne 22 = .ok (.iload_n 1, 1) := by decide +kernel
theorem dX7_throwOne_23 : decode cX7_throwOne 23 = .ok (.iload_n 2, 1) := by decide +kernel
theorem dX7_throwOne_24 : decode cX7_throwOne 24 = .ok (.iload_n 3, 1) := by decide +kernel
theorem dX7_throwOne_25 : decode cX7_throwOne 25 = .ok (.aload_n 0, 1) := by decide +kernel
theorem dX7_throwOne_26 : decode cX7_throwOne 26 = .ok (.getfield 19, 3) := by decide +kernel
theorem dX7_throwOne_29 : decode cX7_throwOne 29 = .ok (.getfield 111, 3) := by decide +kernel
theorem dX7_throwOne_32 : decode cX7_throwOne 32 = .ok (.invokevirtual 206, 3) := by decide +kernel
theorem dX7_throwOne_35 : decode cX7_throwOne 35 = .ok (.istore 4, 2) := by decide +kernel
theorem dX7_throwOne_37 : decode cX7_throwOne 37 = .ok (.aload_n 0, 1) := by decide +kernel
theorem dX7_throwOne_38 : decode cX7_throwOne 38 = .ok (.getfield 19, 3) := by decide +kernel
theorem dX7_throwOne_41 : decode cX7_throwOne 41 = .ok (.aload_n 0, 1) := by decide +kernel
theorem dX7_throwOne_42 : decode cX7_throwOne 42 = .ok (.getfield 48, 3) := by decide +kernel
theorem dX7_throwOne_45 : decode cX7_throwOne 45 = .ok (.iload 4, 2) := by decide +kernel
theorem dX7_throwOne_47 : decode cX7_throwOne 47 = .ok (.invokevirtual 284, 3) := by decide +kernel
theorem dX7_throwOne_50 : decode cX7_throwOne 50 = .ok (.iload 4, 2) := by decide +kernel
theorem dX7_throwOne_52 : decode cX7_throwOne 52 = .ok (.ireturn, 1) := by decide +kernel
theorem dX7_driftOnce_0 : decode cX7_driftOnce 0 = .ok (.aload_n 0, 1) := by decide +kernel
theorem dX7_driftOnce_1 : decode cX7_driftOnce 1 = .ok (.iconst 4, 1) := by decide +kernel
theorem dX7_driftOnce_2 : decode cX7_driftOnce 2 = .ok (.invokevirtual 288, 3) := by decide +kernel
theorem dX7_driftOnce_5 : decode cX7_driftOnce 5 = .ok (.istore_n 1, 1) := by decide +kernel
theorem dX7_driftOnce_6 : decode cX7_driftOnce 6 = .ok (.iload_n 1, 1) := by decide +kernel
theorem dX7_driftOnce_7 : decode cX7_driftOnce 7 = .ok (.iconst 1, 1) := by decide +kernel
theorem dX7_driftOnce_8 : decode cX7_driftOnce 8 = .ok (.if_icmp .gt 37, 3) := by decide +kernel
theorem dX7_driftOnce_11 : decode cX7_driftOnce 11 = .ok (.aload_n 0, 1) := by decide +kernel
theorem dX7_driftOnce_12 : decode cX7_driftOnce 12 = .ok (.iconst 5, 1) := by decide +kernel
theorem dX7_driftOnce_13 : decode cX7_driftOnce 13 = .ok (.invokevirtual 288, 3) := by decide +kernel
theorem dX7_driftOnce_16 : decode cX7_driftOnce 16 = .ok (.istore_n 2, 1) := by decide +kernel
theorem dX7_driftOnce_17 : decode cX7_driftOnce 17 = .ok (.aload_n 0, 1) := by decide +kernel
theorem dX7_driftOnce_18 : decode cX7_driftOnce 18 = .ok (.iconst 3, 1) := by decide +kernel
theorem dX7_driftOnce_19 : decode cX7_driftOnce 19 = .ok (.invokevirtual 288, 3) := by decide +kernel
theorem dX7_driftOnce_22 : decode cX7_driftOnce 22 = .ok (.istore_n 3, 1) := by decide +kernel
theorem dX7_driftOnce_23 : decode cX7_driftOnce 23 = .ok (.aload_n 0, 1) := by decide +kernel
theorem dX7_driftOnce_24 : decode cX7_driftOnce 24 = .ok (.bipush 40, 2) := by decide +kernel
theorem dX7_driftOnce_26 : decode cX7_driftOnce 26 = .ok (.invokevirtual 288, 3) := by decide +kernel
theorem dX7_driftOnce_29 : decode cX7_driftOnce 29 = .ok (.iconst 1, 1) := by decide +kernel
theorem dX7_driftOnce_30 : decode cX7_driftOnce 30 = .ok (.iadd, 1) := by decide +kernel
theorem dX7_driftOnce_31 : decode cX7_driftOnce 31 = .ok (.istore 4, 2) := by decide +kernel
theorem dX7_driftOnce_33 : decode cX7_driftOnce 33 = .ok (.aload_n 0, 1) := by decide +kernel
theorem dX7_driftOnce_34 : decode cX7_driftOnce 34 = .ok (.iload_n 2, 1) := by decide +kernel
theorem dX7_driftOnce_35 : decode cX7_driftOnce 35 = .ok (.iload_n 3, 1) := by decide +kernel
theorem dX7_driftOnce_36 : decode cX7_driftOnce 36 = .ok (.iload 4, 2) := by decide +kernel
theorem dX7_driftOnce_38 : decode cX7_driftOnce 38 = .ok (.invokevirtual 180, 3) := by decide +kernel
theorem dX7_driftOnce_41 : decode cX7_driftOnce 41 = .ok (.pop, 1) := by decide +kernel
theorem dX7_driftOnce_42 : decode cX7_driftOnce 42 = .ok (.goto 41, 3) := by decide +kernel
theorem dX7_driftOnce_45 : decode cX7_driftOnce 45 = .ok (.iload_n 1, 1) := by decide +kernel
theorem dX7_driftOnce_46 : decode cX7_driftOnce 46 = .ok (.iconst 2, 1) := by decide +kernel
theorem dX7_driftOnce_47 : decode cX7_driftOnce 47 = .ok (.if_icmp .ne 13, 3) := by decide +kernel
theorem dX7_driftOnce_50 : decode cX7_driftOnce 50 = .ok (.aload_n 0, 1) := by decide +kernel
theorem dX7_driftOnce_51 : decode cX7_driftOnce 51 = .ok (.getfield 19, 3) := by decide +kernel
theorem dX7_driftOnce_54 : decode cX7_driftOnce 54 = .ok (.invokevirtual 189, 3) := by decide +kernel
theorem dX7_driftOnce_57 : decode cX7_driftOnce 57 = .ok (.goto 26, 3) := by decide +kernel
theorem dX7_driftOnce_60 : decode cX7_driftOnce 60 = .ok (.aload_n 0, 1) := by decide +kernel
theorem dX7_driftOnce_61 : decode cX7_driftOnce 61 = .ok (.bipush 9, 2) := by decide +kernel
theorem dX7_driftOnce_63 : decode cX7_driftOnce 63 = .ok (.invokevirtual 288, 3) := by decide +kernel
theorem dX7_driftOnce_66 : decode cX7_driftOnce 66 = .ok (.istore_n 2, 1) := by decide +kernel
theorem dX7_driftOnce_67 : decode cX7_driftOnce 67 = .ok (.aload_n 0, 1) := by decide +kernel
theorem dX7_driftOnce_68 : decode cX7_driftOnce 68 = .ok (.bipush 9, 2) := by decide +kernel
theorem dX7_driftOnce_70 : decode cX7_driftOnce 70 = .ok (.invokevirtual 288, 3) := by decide +kernel
theorem dX7_driftOnce_73 : decode cX7_driftOnce 73 = .ok (.istore_n 3, 1) := by decide +kernel
theorem dX7_driftOnce_74 : decode cX7_driftOnce 74 = .ok (.aload_n 0, 1) := by decide +kernel
theorem dX7_driftOnce_75 : decode cX7_driftOnce 75 = .ok (.getfield 19, 3) := by decide +kernel
theorem dX7_driftOnce_78 : decode cX7_driftOnce 78 = .ok (.iload_n 2, 1) := by decide +kernel
theorem dX7_driftOnce_79 : decode cX7_driftOnce 79 = .ok (.iload_n 3, 1) := by decide +kernel
theorem dX7_driftOnce_80 : decode cX7_driftOnce 80 = .ok (.invokevirtual 192, 3) := by decide +kernel
theorem dX7_driftOnce_83 : decode cX7_driftOnce 83 = .ok (.return_, 1) := by decide +kernel
theorem dX7_draw_0 : decode cX7_draw 0 = .ok (.aload_n 0, 1) := by decide +kernel
theorem dX7_draw_1 : decode cX7_draw 1 = .ok (.aload_n 0, 1) := by decide +kernel
theorem dX7_draw_2 : decode cX7_draw 2 = .ok (.getfield 268, 3) := by decide +kernel
theorem dX7_draw_5 : decode cX7_draw 5 = .ok (.i2l, 1) := by decide +kernel
theorem dX7_draw_6 : decode cX7_draw 6 = .ok (.ldc2_w 291, 3) := by decide +kernel
theorem dX7_draw_9 : decode cX7_draw 9 = .ok (.lmul, 1) := by decide +kernel
theorem dX7_draw_10 : decode cX7_draw 10 = .ok (.ldc2_w 293, 3) := by decide +kernel
theorem dX7_draw_13 : decode cX7_draw 13 = .ok (.ladd, 1) := by decide +kernel
theorem dX7_draw_14 : decode cX7_draw 14 = .ok (.ldc2_w 295, 3) := by decide +kernel
theorem dX7_draw_17 : decode cX7_draw 17 = .ok (.land, 1) := by decide +kernel
theorem dX7_draw_18 : decode cX7_draw 18 = .ok (.l2i, 1) := by decide +kernel
theorem dX7_draw_19 : decode cX7_draw 19 = .ok (.putfield 268, 3) := by decide +kernel
theorem dX7_draw_22 : decode cX7_draw 22 = .ok (.iload_n 1, 1) := by decide +kernel
theorem dX7_draw_23 : decode cX7_draw 23 = .ok (.iconst 1, 1) := by decide +kernel
theorem dX7_draw_24 : decode cX7_draw 24 = .ok (.if_icmp .ge 7, 3) := by decide +kernel
theorem dX7_draw_27 : decode cX7_draw 27 = .ok (.iconst 0, 1) := by decide +kernel
theorem dX7_draw_28 : decode cX7_draw 28 = .ok (.goto 13, 3) := by decide +kernel
theorem dX7_draw_31 : decode cX7_draw 31 = .ok (.aload_n 0, 1) := by decide +kernel
theorem dX7_draw_32 : decode cX7_draw 32 = .ok (.getfield 268, 3) := by decide +kernel
theorem dX7_draw_35 : decode cX7_draw 35 = .ok (.ldc_w 297, 3) := by decide +kernel
theorem dX7_draw_38 : decode cX7_draw 38 = .ok (.idiv, 1) := by decide +kernel
theorem dX7_draw_39 : decode cX7_draw 39 = .ok (.iload_n 1, 1) := by decide +kernel
theorem dX7_draw_40 : decode cX7_draw 40 = .ok (.irem, 1) := by decide +kernel
theorem dX7_draw_41 : decode cX7_draw 41 = .ok (.ireturn, 1) := by decide +kernel
theorem dX7_fallsIfSwapped_0 : decode cX7_fallsIfSwapped 0 = .ok (.aload_n 0, 1) := by decide +kernel
theorem dX7_fallsIfSwapped_1 : decode cX7_fallsIfSwapped 1 = .ok (.getfield 23, 3) := by decide +kernel
theorem dX7_fallsIfSwapped_4 : decode cX7_fallsIfSwapped 4 = .ok (.iload_n 1, 1) := by decide +kernel
theorem dX7_fallsIfSwapped_5 : decode cX7_fallsIfSwapped 5 = .ok (.iload_n 2, 1) := by decide +kernel
theorem dX7_fallsIfSwapped_6 : decode cX7_fallsIfSwapped 6 = .ok (.invokevirtual 192, 3) := by decide +kernel
theorem dX7_fallsIfSwapped_9 : decode cX7_fallsIfSwapped 9 = .ok (.aload_n 0, 1) := by decide +kernel
theorem dX7_fallsIfSwapped_10 : decode cX7_fallsIfSwapped 10 = .ok (.getfield 48, 3) := by decide +kernel
theorem dX7_fallsIfSwapped_13 : decode cX7_fallsIfSwapped 13 = .ok (.aload_n 0, 1) := by decide +kernel
theorem dX7_fallsIfSwapped_14 : decode cX7_fallsIfSwapped 14 = .ok (.getfield 23, 3) := by decide +kernel
theorem dX7_fallsIfSwapped_17 : decode cX7_fallsIfSwapped 17 = .ok (.invokevirtual 203, 3) := by decide +kernel
theorem dX7_fallsIfSwapped_20 : decode cX7_fallsIfSwapped 20 = .ok (.aload_n 0, 1) := by decide +kernel
theorem dX7_fallsIfSwapped_21 : decode cX7_fallsIfSwapped 21 = .ok (.getfield 48, 3) := by decide +kernel
theorem dX7_fallsIfSwapped_24 : decode cX7_fallsIfSwapped 24 = .ok (.iload_n 3, 1) := by decide +kernel
theorem dX7_fallsIfSwapped_25 : decode cX7_fallsIfSwapped 25 = .ok (.iload 4, 2) := by decide +kernel
theorem dX7_fallsIfSwapped_27 : decode cX7_fallsIfSwapped 27 = .ok (.iload 5, 2) := by decide +kernel
theorem dX7_fallsIfSwapped_29 : decode cX7_fallsIfSwapped 29 = .ok (.aload_n 0, 1) := by decide +kernel
theorem dX7_fallsIfSwapped_30 : decode cX7_fallsIfSwapped 30 = .ok (.getfield 23, 3) := by decide +kernel
theorem dX7_fallsIfSwapped_33 : decode cX7_fallsIfSwapped 33 = .ok (.getfield 111, 3) := by decide +kernel
theorem dX7_fallsIfSwapped_36 : decode cX7_fallsIfSwapped 36 = .ok (.invokevirtual 206, 3) := by decide +kernel
theorem dX7_fallsIfSwapped_39 : decode cX7_fallsIfSwapped 39 = .ok (.istore 6, 2) := by decide +kernel
theorem dX7_fallsIfSwapped_41 : decode cX7_fallsIfSwapped 41 = .ok (.aload_n 0, 1) := by decide +kernel
theorem dX7_fallsIfSwapped_42 : decode cX7_fallsIfSwapped 42 = .ok (.getfield 23, 3) := by decide +kernel
theorem dX7_fallsIfSwapped_45 : decode cX7_fallsIfSwapped 45 = .ok (.iload_n 1, 1) := by decide +kernel
theorem dX7_fallsIfSwapped_46 : decode cX7_fallsIfSwapped 46 = .ok (.iload_n 2, 1) := by decide +kernel
theorem dX7_fallsIfSwapped_47 : decode cX7_fallsIfSwapped 47 = .ok (.invokevirtual 192, 3) := by decide +kernel
theorem dX7_fallsIfSwapped_50 : decode cX7_fallsIfSwapped 50 = .ok (.iload 6, 2) := by decide +kernel
theorem dX7_fallsIfSwapped_52 : decode cX7_fallsIfSwapped 52 = .ok (.invokestatic 184, 3) := by decide +kernel
theorem dX7_fallsIfSwapped_55 : decode cX7_fallsIfSwapped 55 = .ok (.ireturn, 1) := by decide +kernel
theorem dX7_toldOfAllBalls_0 : decode cX7_toldOfAllBalls 0 = .ok (.aload_n 0, 1) := by decide +kernel
theorem dX7_toldOfAllBalls_1 : decode cX7_toldOfAllBalls 1 = .ok (.getfield 19, 3) := by decide +kernel
theorem dX7_toldOfAllBalls_4 : decode cX7_toldOfAllBalls 4 = .ok (.invokevirtual 172, 3) := by decide +kernel
theorem dX7_toldOfAllBalls_7 : decode cX7_toldOfAllBalls 7 = .ok (.ifCond .ne 5, 3) := by decide +kernel
theorem dX7_toldOfAllBalls_10 : decode cX7_toldOfAllBalls 10 = .ok (.iconst (-1), 1) := by decide +kernel
theorem dX7_toldOfAllBalls_11 : decode cX7_toldOfAllBalls 11 = .ok (.ireturn, 1) := by decide +kernel
theorem dX7_toldOfAllBalls_12 : decode cX7_toldOfAllBalls 12 = .ok (.aload_n 0, 1) := by decide +kernel
theorem dX7_toldOfAllBalls_13 : decode cX7_toldOfAllBalls 13 = .ok (.getfield 55, 3) := by decide +kernel
theorem dX7_toldOfAllBalls_16 : decode cX7_toldOfAllBalls 16 = .ok (.aload_n 0, 1) := by decide +kernel
theorem dX7_toldOfAllBalls_17 : decode cX7_toldOfAllBalls 17 = .ok (.getfield 48, 3) := by decide +kernel
theorem dX7_toldOfAllBalls_20 : decode cX7_toldOfAllBalls 20 = .ok (.aload_n 0, 1) := by decide +kernel
theorem dX7_toldOfAllBalls_21 : decode cX7_toldOfAllBalls 21 = .ok (.getfield 19, 3) := by decide +kernel
theorem dX7_toldOfAllBalls_24 : decode cX7_toldOfAllBalls 24 = .ok (.invokevirtual 219, 3) := by decide +kernel
theorem dX7_toldOfAllBalls_27 : decode cX7_toldOfAllBalls 27 = .ok (.iload_n 1, 1) := by decide +kernel
theorem dX7_toldOfAllBalls_28 : decode cX7_toldOfAllBalls 28 = .ok (.tableswitch 89 6 9 #[32, 43, 58, 70], 32) := by decide +kernel
theorem dX7_toldOfAllBalls_60 : decode cX7_toldOfAllBalls 60 = .ok (.aload_n 0, 1) := by decide +kernel
theorem dX7_toldOfAllBalls_61 : decode cX7_toldOfAllBalls 61 = .ok (.getfield 55, 3) := by decide +kernel
theorem dX7_toldOfAllBalls_64 : decode cX7_toldOfAllBalls 64 = .ok (.invokevirtual 298, 3) := by decide +kernel
theorem dX7_toldOfAllBalls_67 : decode cX7_toldOfAllBalls 67 = .ok (.invokestatic 229, 3) := by decide +kernel
theorem dX7_toldOfAllBalls_70 : decode cX7_toldOfAllBalls 70 = .ok (.ireturn, 1) := by decide +kernel
theorem dX7_toldOfAllBalls_71 : decode cX7_toldOfAllBalls 71 = .ok (.aload_n 0, 1) := by decide +kernel
theorem dX7_toldOfAllBalls_72 : decode cX7_toldOfAllBalls 72 = .ok (.getfield 55, 3) := by decide +kernel
theorem dX7_toldOfAllBalls_75 : decode cX7_toldOfAllBalls 75 = .ok (.aload_n 0, 1) := by decide +kernel
theorem dX7_toldOfAllBalls_76 : decode cX7_toldOfAllBalls 76 = .ok (.getfield 55, 3) := by decide +kernel
theorem dX7_toldOfAllBalls_79 : decode cX7_toldOfAllBalls 79 = .ok (.invokevirtual 298, 3) := by decide +kernel
theorem dX7_toldOfAllBalls_82 : decode cX7_toldOfAllBalls 82 = .ok (.invokevirtual 301, 3) := by decide +kernel
theorem dX7_toldOfAllBalls_85 : decode cX7_toldOfAllBalls 85 = .ok (.ireturn, 1) := by decide +kernel
theorem dX7_toldOfAllBalls_86 : decode cX7_toldOfAllBalls 86 = .ok (.aload_n 0, 1) := by decide +kernel
theorem dX7_toldOfAllBalls_87 : decode cX7_toldOfAllBalls 87 = .ok (.getfield 55, 3) := by decide +kernel
theorem dX7_toldOfAllBalls_90 : decode cX7_toldOfAllBalls 90 = .ok (.aload_n 0, 1) := by decide +kernel
theorem dX7_toldOfAllBalls_91 : decode cX7_toldOfAllBalls 91 = .ok (.getfield 19, 3) := by decide +kernel
theorem dX7_toldOfAllBalls_94 : decode cX7_toldOfAllBalls 94 = .ok (.invokevirtual 304, 3) := by decide +kernel
theorem dX7_toldOfAllBalls_97 : decode cX7_toldOfAllBalls 97 = .ok (.ireturn, 1) := by decide +kernel
theorem dX7_toldOfAllBalls_98 : decode cX7_toldOfAllBalls 98 = .ok (.aload_n 0, 1) := by decide +kernel
theorem dX7_toldOfAllBalls_99 : decode cX7_toldOfAllBalls 99 = .ok (.getfield 55, 3) := by decide +kernel
theorem dX7_toldOfAllBalls_102 : decode cX7_toldOfAllBalls 102 = .ok (.aload_n 0, 1) := by decide +kernel
theorem dX7_toldOfAllBalls_103 : decode cX7_toldOfAllBalls 103 = .ok (.getfield 55, 3) := by decide +kernel
theorem dX7_toldOfAllBalls_106 : decode cX7_toldOfAllBalls 106 = .ok (.aload_n 0, 1) := by decide +kernel
theorem dX7_toldOfAllBalls_107 : decode cX7_toldOfAllBalls 107 = .ok (.getfield 19, 3) := by decide +kernel
theorem dX7_toldOfAllBalls_110 : decode cX7_toldOfAllBalls 110 = .ok (.invokevirtual 304, 3) := by decide +kernel
theorem dX7_toldOfAllBalls_113 : decode cX7_toldOfAllBalls 113 = .ok (.invokevirtual 308, 3) := by decide +kernel
theorem dX7_toldOfAllBalls_116 : decode cX7_toldOfAllBalls 116 = .ok (.ireturn, 1) := by decide +kernel
theorem dX7_toldOfAllBalls_117 : decode cX7_toldOfAllBalls 117 = .ok (.aload_n 0, 1) := by decide +kernel
theorem dX7_toldOfAllBalls_118 : decode cX7_toldOfAllBalls 118 = .ok (.getfield 55, 3) := by decide +kernel
theorem dX7_toldOfAllBalls_121 : decode cX7_toldOfAllBalls 121 = .ok (.iconst 0, 1) := by decide +kernel
theorem dX7_toldOfAllBalls_122 : decode cX7_toldOfAllBalls 122 = .ok (.invokevirtual 223, 3) := by decide +kernel
theorem dX7_toldOfAllBalls_125 : decode cX7_toldOfAllBalls 125 = .ok (.ireturn, 1) := by decide +kernel
theorem dJ6_bitCount_0f7a4_0 : decode cJ6_bitCount_0f7a4 0 = .ok (.iload_n 0, 1) := by decide +kernel
theorem dJ6_bitCount_0f7a4_1 : decode cJ6_bitCount_0f7a4 1 = .ok (.iload_n 0, 1) := by decide +kernel
theorem dJ6_bitCount_0f7a4_2 : decode cJ6_bitCount_0f7a4 2 = .ok (.iconst 1, 1) := by decide +kernel
theorem dJ6_bitCount_0f7a4_3 : decode cJ6_bitCount_0f7a4 3 = .ok (.iushr, 1) := by decide +kernel
theorem dJ6_bitCount_0f7a4_4 : decode cJ6_bitCount_0f7a4 4 = .ok (.ldc_w 265, 3) := by decide +kernel
theorem dJ6_bitCount_0f7a4_7 : decode cJ6_bitCount_0f7a4 7 = .ok (.iand, 1) := by decide +kernel
theorem dJ6_bitCount_0f7a4_8 : decode cJ6_bitCount_0f7a4 8 = .ok (.isub, 1) := by decide +kernel
theorem dJ6_bitCount_0f7a4_9 : decode cJ6_bitCount_0f7a4 9 = .ok (.istore_n 0, 1) := by decide +kernel
theorem dJ6_bitCount_0f7a4_10 : decode cJ6_bitCount_0f7a4 10 = .ok (.iload_n 0, 1) := by decide +kernel
theorem dJ6_bitCount_0f7a4_11 : decode cJ6_bitCount_0f7a4 11 = .ok (.ldc_w 266, 3) := by decide +kernel
theorem dJ6_bitCount_0f7a4_14 : decode cJ6_bitCount_0f7a4 14 = .ok (.iand, 1) := by decide +kernel
theorem dJ6_bitCount_0f7a4_15 : decode cJ6_bitCount_0f7a4 15 = .ok (.iload_n 0, 1) := by decide +kernel
theorem dJ6_bitCount_0f7a4_16 : decode cJ6_bitCount_0f7a4 16 = .ok (.iconst 2, 1) := by decide +kernel
theorem dJ6_bitCount_0f7a4_17 : decode cJ6_bitCount_0f7a4 17 = .ok (.iushr, 1) := by decide +kernel
theorem dJ6_bitCount_0f7a4_18 : decode cJ6_bitCount_0f7a4 18 = .ok (.ldc_w 266, 3) := by decide +kernel
theorem dJ6_bitCount_0f7a4_21 : decode cJ6_bitCount_0f7a4 21 = .ok (.iand, 1) := by decide +kernel
theorem dJ6_bitCount_0f7a4_22 : decode cJ6_bitCount_0f7a4 22 = .ok (.iadd, 1) := by decide +kernel
theorem dJ6_bitCount_0f7a4_23 : decode cJ6_bitCount_0f7a4 23 = .ok (.istore_n 0, 1) := by decide +kernel
theorem dJ6_bitCount_0f7a4_24 : decode cJ6_bitCount_0f7a4 24 = .ok (.iload_n 0, 1) := by decide +kernel
theorem dJ6_bitCount_0f7a4_25 : decode cJ6_bitCount_0f7a4 25 = .ok (.iload_n 0, 1) := by decide +kernel
theorem dJ6_bitCount_0f7a4_26 : decode cJ6_bitCount_0f7a4 26 = .ok (.iconst 4, 1) := by decide +kernel
theorem dJ6_bitCount_0f7a4_27 : decode cJ6_bitCount_0f7a4 27 = .ok (.iushr, 1) := by decide +kernel
theorem dJ6_bitCount_0f7a4_28 : decode cJ6_bitCount_0f7a4 28 = .ok (.iadd, 1) := by decide +kernel
theorem dJ6_bitCount_0f7a4_29 : decode cJ6_bitCount_0f7a4 29 = .ok (.ldc_w 267, 3) := by decide +kernel
theorem dJ6_bitCount_0f7a4_32 : decode cJ6_bitCount_0f7a4 32 = .ok (.iand, 1) := by decide +kernel
theorem dJ6_bitCount_0f7a4_33 : decode cJ6_bitCount_0f7a4 33 = .ok (.istore_n 0, 1) := by decide +kernel
theorem dJ6_bitCount_0f7a4_34 : decode cJ6_bitCount_0f7a4 34 = .ok (.iload_n 0, 1) := by decide +kernel
theorem dJ6_bitCount_0f7a4_35 : decode cJ6_bitCount_0f7a4 35 = .ok (.iload_n 0, 1) := by decide +kernel
theorem dJ6_bitCount_0f7a4_36 : decode cJ6_bitCount_0f7a4 36 = .ok (.bipush 8, 2) := by decide +kernel
theorem dJ6_bitCount_0f7a4_38 : decode cJ6_bitCount_0f7a4 38 = .ok (.iushr, 1) := by decide +kernel
theorem dJ6_bitCount_0f7a4_39 : decode cJ6_bitCount_0f7a4 39 = .ok (.iadd, 1) := by decide +kernel
theorem dJ6_bitCount_0f7a4_40 : decode cJ6_bitCount_0f7a4 40 = .ok (.istore_n 0, 1) := by decide +kernel
theorem dJ6_bitCount_0f7a4_41 : decode cJ6_bitCount_0f7a4 41 = .ok (.iload_n 0, 1) := by decide +kernel
theorem dJ6_bitCount_0f7a4_42 : decode cJ6_bitCount_0f7a4 42 = .ok (.iload_n 0, 1) := by decide +kernel
theorem dJ6_bitCount_0f7a4_43 : decode cJ6_bitCount_0f7a4 43 = .ok (.bipush 16, 2) := by decide +kernel
theorem dJ6_bitCount_0f7a4_45 : decode cJ6_bitCount_0f7a4 45 = .ok (.iushr, 1) := by decide +kernel
theorem dJ6_bitCount_0f7a4_46 : decode cJ6_bitCount_0f7a4 46 = .ok (.iadd, 1) := by decide +kernel
theorem dJ6_bitCount_0f7a4_47 : decode cJ6_bitCount_0f7a4 47 = .ok (.istore_n 0, 1) := by decide +kernel
theorem dJ6_bitCount_0f7a4_48 : decode cJ6_bitCount_0f7a4 48 = .ok (.iload_n 0, 1) := by decide +kernel
theorem dJ6_bitCount_0f7a4_49 : decode cJ6_bitCount_0f7a4 49 = .ok (.bipush 63, 2) := by decide +kernel
theorem dJ6_bitCount_0f7a4_51 : decode cJ6_bitCount_0f7a4 51 = .ok (.iand, 1) := by decide +kernel
theorem dJ6_bitCount_0f7a4_52 : decode cJ6_bitCount_0f7a4 52 = .ok (.ireturn, 1) := by decide +kernel
theorem dJ9_abs_0f7a4_0 : decode cJ9_abs_0f7a4 0 = .ok (.iload_n 0, 1) := by decide +kernel
theorem dJ9_abs_0f7a4_1 : decode cJ9_abs_0f7a4 1 = .ok (.ifCond .ge 8, 3) := by decide +kernel
theorem dJ9_abs_0f7a4_4 : decode cJ9_abs_0f7a4 4 = .ok (.iload_n 0, 1) := by decide +kernel
theorem dJ9_abs_0f7a4_5 : decode cJ9_abs_0f7a4 5 = .ok (.ineg, 1) := by decide +kernel
theorem dJ9_abs_0f7a4_6 : decode cJ9_abs_0f7a4 6 = .ok (.goto 4, 3) := by decide +kernel
theorem dJ9_abs_0f7a4_9 : decode cJ9_abs_0f7a4 9 = .ok (.iload_n 0, 1) := by decide +kernel
theorem dJ9_abs_0f7a4_10 : decode cJ9_abs_0f7a4 10 = .ok (.ireturn, 1) := by decide +kernel
theorem dJ9_max_7cf53_0 : decode cJ9_max_7cf53 0 = .ok (.iload_n 0, 1) := by decide +kernel
theorem dJ9_max_7cf53_1 : decode cJ9_max_7cf53 1 = .ok (.iload_n 1, 1) := by decide +kernel
theorem dJ9_max_7cf53_2 : decode cJ9_max_7cf53 2 = .ok (.if_icmp .lt 7, 3) := by decide +kernel
theorem dJ9_max_7cf53_5 : decode cJ9_max_7cf53 5 = .ok (.iload_n 0, 1) := by decide +kernel
theorem dJ9_max_7cf53_6 : decode cJ9_max_7cf53 6 = .ok (.goto 4, 3) := by decide +kernel
theorem dJ9_max_7cf53_9 : decode cJ9_max_7cf53 9 = .ok (.iload_n 1, 1) := by decide +kernel
theorem dJ9_max_7cf53_10 : decode cJ9_max_7cf53 10 = .ok (.ireturn, 1) := by decide +kernel
theorem dJ9_min_7cf53_0 : decode cJ9_min_7cf53 0 = .ok (.iload_n 0, 1) := by decide +kernel
theorem dJ9_min_7cf53_1 : decode cJ9_min_7cf53 1 = .ok (.iload_n 1, 1) := by decide +kernel
theorem dJ9_min_7cf53_2 : decode cJ9_min_7cf53 2 = .ok (.if_icmp .gt 7, 3) := by decide +kernel
theorem dJ9_min_7cf53_5 : decode cJ9_min_7cf53 5 = .ok (.iload_n 0, 1) := by decide +kernel
theorem dJ9_min_7cf53_6 : decode cJ9_min_7cf53 6 = .ok (.goto 4, 3) := by decide +kernel
theorem dJ9_min_7cf53_9 : decode cJ9_min_7cf53 9 = .ok (.iload_n 1, 1) := by decide +kernel
theorem dJ9_min_7cf53_10 : decode cJ9_min_7cf53 10 = .ok (.ireturn, 1) := by decide +kernel
theorem dJ7_fill_53178_0 : decode cJ7_fill_53178 0 = .ok (.iconst 0, 1) := by decide +kernel
theorem dJ7_fill_53178_1 : decode cJ7_fill_53178 1 = .ok (.istore_n 2, 1) := by decide +kernel
theorem dJ7_fill_53178_2 : decode cJ7_fill_53178 2 = .ok (.aload_n 0, 1) := by decide +kernel
theorem dJ7_fill_53178_3 : decode cJ7_fill_53178 3 = .ok (.arraylength, 1) := by decide +kernel
theorem dJ7_fill_53178_4 : decode cJ7_fill_53178 4 = .ok (.istore_n 3, 1) := by decide +kernel
theorem dJ7_fill_53178_5 : decode cJ7_fill_53178 5 = .ok (.iload_n 2, 1) := by decide +kernel
theorem dJ7_fill_53178_6 : decode cJ7_fill_53178 6 = .ok (.iload_n 3, 1) := by decide +kernel
theorem dJ7_fill_53178_7 : decode cJ7_fill_53178 7 = .ok (.if_icmp .ge 13, 3) := by decide +kernel
theorem dJ7_fill_53178_10 : decode cJ7_fill_53178 10 = .ok (.aload_n 0, 1) := by decide +kernel
theorem dJ7_fill_53178_11 : decode cJ7_fill_53178 11 = .ok (.iload_n 2, 1) := by decide +kernel
theorem dJ7_fill_53178_12 : decode cJ7_fill_53178 12 = .ok (.iload_n 1, 1) := by decide +kernel
theorem dJ7_fill_53178_13 : decode cJ7_fill_53178 13 = .ok (.iastore, 1) := by decide +kernel
theorem dJ7_fill_53178_14 : decode cJ7_fill_53178 14 = .ok (.iinc 2 1, 3) := by decide +kernel
theorem dJ7_fill_53178_17 : decode cJ7_fill_53178 17 = .ok (.goto (-12), 3) := by decide +kernel
theorem dJ7_fill_53178_20 : decode cJ7_fill_53178 20 = .ok (.return_, 1) := by decide +kernel
end
section
/-- the words of the tables that a call hands on -/
def tb : List Cond := lw_tbl.filter goodWord
theorem tb_in {w : Cond} (i : Nat) (h : lw_tbl[i]? = some w) (g : goodWord w = true) : w ∈ tb := List.mem_filter.mpr ⟨List.mem_of_getElem? h, g⟩
theorem tb_gd {c : Cond} (h : c ∈ tb) : GoodIn tb (c :: tb) := fun w hw => by
  rcases List.mem_cons.mp hw with rfl | hw
  · exact ⟨h, good_of_word (List.mem_filter.mp h).2⟩
  · exact ⟨hw, good_of_word (List.mem_filter.mp hw).2⟩
def isNest : Cond → Bool
  | .fieldLinkNest .. => true
  | .methodLinkNest .. => true
  | _ => false
def nws : List Cond := tables_1.filter isNest
theorem nw_in {w : Cond} (i : Nat) (h : tables_1[i]? = some w) (g : isNest w = true) : w ∈ nws := List.mem_filter.mpr ⟨List.mem_of_getElem? h, g⟩
theorem nw_of {w : Cond} (h : w ∈ nws) {A : Array Value} {U : State} (hb : w.before A U = true) : va_Nw w U := by
  have h2 := (List.mem_filter.mp h).2
  cases w <;> first | exact va_Nw.of rfl hb | (simp [isNest] at h2; done)
theorem nw_warm {w : Cond} (h : w ∈ nws) {s U : State} (hW : s.WarmedH U.vm) (hz : va_Nw w s) : va_Nw w U := by
  have h2 := (List.mem_filter.mp h).2
  cases w <;> first | exact va_Nw.warmF hW hz | exact va_Nw.warmM hW hz | (simp [isNest] at h2; done)
theorem nw_same {w : Cond} (h : w ∈ nws) {s U : State} (hW : s.vm = U.vm) (hz : va_Nw w s) : va_Nw w U := by
  have h2 := (List.mem_filter.mp h).2
  cases w <;> first | exact va_Nw.same rfl hW hz | (simp [isNest] at h2; done)
theorem se_X2_isMore : Cond.selects RX2 yX2_isMore yX2_isMore ∈ tb := tb_in 0 (by decide +kernel) rfl
theorem se_X2_sees : Cond.selects RX2 yX2_sees yX2_sees ∈ tb := tb_in 1 (by decide +kernel) rfl
theorem se_X2_readFloor : Cond.selects RX2 yX2_readFloor yX2_readFloor ∈ tb := tb_in 2 (by decide +kernel) rfl
theorem se_X2_takeSign : Cond.selects RX2 yX2_takeSign yX2_takeSign ∈ tb := tb_in 3 (by decide +kernel) rfl
theorem se_X2_fail : Cond.selects RX2 yX2_fail yX2_fail ∈ tb := tb_in 4 (by decide +kernel) rfl
theorem se_X2_takeNumber : Cond.selects RX2 yX2_takeNumber yX2_takeNumber ∈ tb := tb_in 5 (by decide +kernel) rfl
theorem se_X2_seesFigure : Cond.selects RX2 yX2_seesFigure yX2_seesFigure ∈ tb := tb_in 6 (by decide +kernel) rfl
theorem se_X2_readSkittle : Cond.selects RX2 yX2_readSkittle yX2_readSkittle ∈ tb := tb_in 7 (by decide +kernel) rfl
theorem se_X7_stirred : Cond.selects RX7 yX7_stirred yX7_stirred ∈ tb := tb_in 8 (by decide +kernel) rfl
theorem se_X7_toldOfAllBalls : Cond.selects RX7 yX7_toldOfAllBalls yX7_toldOfAllBalls ∈ tb := tb_in 9 (by decide +kernel) rfl
theorem se_X5_whoStandsAt : Cond.selects RX5 yX5_whoStandsAt yX5_whoStandsAt ∈ tb := tb_in 10 (by decide +kernel) rfl
theorem se_X5_meet : Cond.selects RX5 yX5_meet yX5_meet ∈ tb := tb_in 11 (by decide +kernel) rfl
theorem se_X5_rock : Cond.selects RX5 yX5_rock yX5_rock ∈ tb := tb_in 12 (by decide +kernel) rfl
theorem se_X5_topple : Cond.selects RX5 yX5_topple yX5_topple ∈ tb := tb_in 13 (by decide +kernel) rfl
theorem se_X5_strike : Cond.selects RX5 yX5_strike yX5_strike ∈ tb := tb_in 14 (by decide +kernel) rfl
theorem se_X6_fallsAmong : Cond.selects RX6 yX6_fallsAmong yX6_fallsAmong ∈ tb := tb_in 15 (by decide +kernel) rfl
theorem se_X7_remember : Cond.selects RX7 yX7_remember yX7_remember ∈ tb := tb_in 16 (by decide +kernel) rfl
theorem se_X7_throwOne : Cond.selects RX7 yX7_throwOne yX7_throwOne ∈ tb := tb_in 17 (by decide +kernel) rfl
theorem se_X3_put : Cond.selects RX3 yX3_put yX3_put ∈ tb := tb_in 18 (by decide +kernel) rfl
theorem se_X7_driftOnce : Cond.selects RX7 yX7_driftOnce yX7_driftOnce ∈ tb := tb_in 19 (by decide +kernel) rfl
theorem se_X7_draw : Cond.selects RX7 yX7_draw yX7_draw ∈ tb := tb_in 20 (by decide +kernel) rfl
theorem se_X0_reach : Cond.selects RX0 yX0_reach yX0_reach ∈ tb := tb_in 21 (by decide +kernel) rfl
theorem se_X0_goOn : Cond.selects RX0 yX0_goOn yX0_goOn ∈ tb := tb_in 22 (by decide +kernel) rfl
theorem se_X7_fallsIfSwapped : Cond.selects RX7 yX7_fallsIfSwapped yX7_fallsIfSwapped ∈ tb := tb_in 23 (by decide +kernel) rfl
theorem se_X8_reads : Cond.selects RX8 yX8_reads yX8_reads ∈ tb := tb_in 24 (by decide +kernel) rfl
theorem se_X8_blanks : Cond.selects RX8 yX8_blanks yX8_blanks ∈ tb := tb_in 25 (by decide +kernel) rfl
theorem se_X8_letterAt : Cond.selects RX8 yX8_letterAt yX8_letterAt ∈ tb := tb_in 26 (by decide +kernel) rfl
theorem se_X8_isWell : Cond.selects RX8 yX8_isWell yX8_isWell ∈ tb := tb_in 27 (by decide +kernel) rfl
theorem se_X8_faulty : Cond.selects RX8 yX8_faulty yX8_faulty ∈ tb := tb_in 28 (by decide +kernel) rfl
theorem se_X8_due : Cond.selects RX8 yX8_due yX8_due ∈ tb := tb_in 29 (by decide +kernel) rfl
theorem se_X8_tells : Cond.selects RX8 yX8_tells yX8_tells ∈ tb := tb_in 30 (by decide +kernel) rfl
theorem se_X8_ends : Cond.selects RX8 yX8_ends yX8_ends ∈ tb := tb_in 31 (by decide +kernel) rfl
theorem se_X8_settles : Cond.selects RX8 yX8_settles yX8_settles ∈ tb := tb_in 32 (by decide +kernel) rfl
theorem se_X8_worst : Cond.selects RX8 yX8_worst yX8_worst ∈ tb := tb_in 33 (by decide +kernel) rfl
theorem se_X8_sets : Cond.selects RX8 yX8_sets yX8_sets ∈ tb := tb_in 34 (by decide +kernel) rfl
theorem se_X8_bearsOn : Cond.selects RX8 yX8_bearsOn yX8_bearsOn ∈ tb := tb_in 35 (by decide +kernel) rfl
theorem se_X8_goesBy : Cond.selects RX8 yX8_goesBy yX8_goesBy ∈ tb := tb_in 36 (by decide +kernel) rfl
theorem se_X8_goes : Cond.selects RX8 yX8_goes yX8_goes ∈ tb := tb_in 37 (by decide +kernel) rfl
theorem se_X8_falls : Cond.selects RX8 yX8_falls yX8_falls ∈ tb := tb_in 38 (by decide +kernel) rfl
theorem se_X8_fallsNow : Cond.selects RX8 yX8_fallsNow yX8_fallsNow ∈ tb := tb_in 39 (by decide +kernel) rfl
theorem se_X8_plateOf : Cond.selects RX8 yX8_plateOf yX8_plateOf ∈ tb := tb_in 40 (by decide +kernel) rfl
theorem se_X8_rocksNow : Cond.selects RX8 yX8_rocksNow yX8_rocksNow ∈ tb := tb_in 41 (by decide +kernel) rfl
theorem se_X8_safest : Cond.selects RX8 yX8_safest yX8_safest ∈ tb := tb_in 42 (by decide +kernel) rfl
theorem se_X8_firm : Cond.selects RX8 yX8_firm yX8_firm ∈ tb := tb_in 43 (by decide +kernel) rfl
theorem se_X8_ballsFor : Cond.selects RX8 yX8_ballsFor yX8_ballsFor ∈ tb := tb_in 44 (by decide +kernel) rfl
theorem se_X8_talks : Cond.selects RX8 yX8_talks yX8_talks ∈ tb := tb_in 45 (by decide +kernel) rfl
theorem se_X8_isSkittle : Cond.selects RX8 yX8_isSkittle yX8_isSkittle ∈ tb := tb_in 46 (by decide +kernel) rfl
theorem se_X8_firstTaker : Cond.selects RX8 yX8_firstTaker yX8_firstTaker ∈ tb := tb_in 47 (by decide +kernel) rfl
theorem se_X8_whoOn : Cond.selects RX8 yX8_whoOn yX8_whoOn ∈ tb := tb_in 48 (by decide +kernel) rfl
theorem se_X8_isBall : Cond.selects RX8 yX8_isBall yX8_isBall ∈ tb := tb_in 49 (by decide +kernel) rfl
theorem se_X8_notes : Cond.selects RX8 yX8_notes yX8_notes ∈ tb := tb_in 50 (by decide +kernel) rfl
theorem se_X8_throwsBall : Cond.selects RX8 yX8_throwsBall yX8_throwsBall ∈ tb := tb_in 51 (by decide +kernel) rfl
theorem se_X8_changes : Cond.selects RX8 yX8_changes yX8_changes ∈ tb := tb_in 52 (by decide +kernel) rfl
theorem se_X8_draw : Cond.selects RX8 yX8_draw yX8_draw ∈ tb := tb_in 53 (by decide +kernel) rfl
theorem se_X8_isSet : Cond.selects RX8 yX8_isSet yX8_isSet ∈ tb := tb_in 54 (by decide +kernel) rfl
theorem in_RL : Cond.initialized RL ∈ tb := tb_in 55 (by decide +kernel) rfl
theorem in_RX7 : Cond.initialized RX7 ∈ tb := tb_in 56 (by decide +kernel) rfl
theorem in_RX2 : Cond.initialized RX2 ∈ tb := tb_in 57 (by decide +kernel) rfl
theorem in_RX3 : Cond.initialized RX3 ∈ tb := tb_in 58 (by decide +kernel) rfl
theorem in_RX4 : Cond.initialized RX4 ∈ tb := tb_in 59 (by decide +kernel) rfl
theorem in_RX5 : Cond.initialized RX5 ∈ tb := tb_in 60 (by decide +kernel) rfl
theorem in_RX6 : Cond.initialized RX6 ∈ tb := tb_in 61 (by decide +kernel) rfl
theorem in_RX0 : Cond.initialized RX0 ∈ tb := tb_in 62 (by decide +kernel) rfl
theorem in_RX1 : Cond.initialized RX1 ∈ tb := tb_in 63 (by decide +kernel) rfl
theorem in_RX8 : Cond.initialized RX8 ∈ tb := tb_in 64 (by decide +kernel) rfl
theorem in_RJ9 : Cond.initialized "java/lang/Math" ∈ tb := tb_in 65 (by decide +kernel) rfl
theorem in_RJ6 : Cond.initialized RJ6 ∈ tb := tb_in 66 (by decide +kernel) rfl
theorem in_RJ10 : Cond.initialized "java/lang/System" ∈ tb := tb_in 67 (by decide +kernel) rfl
theorem in_RJ7 : Cond.initialized RJ7 ∈ tb := tb_in 68 (by decide +kernel) rfl
theorem cl_RL_7 : Cond.classLink RL 7 RX7 ∈ tb := tb_in 69 (by decide +kernel) rfl
theorem is_RX7 : Cond.instantiable RX7 13 ∈ tb := tb_in 70 (by decide +kernel) rfl
theorem lk_RL_9 : Cond.methodLink RL 9 yX7_init ∈ tb := tb_in 71 (by decide +kernel) rfl
theorem im_X7_init : Cond.instanceMethod yX7_init ∈ tb := tb_in 72 (by decide +kernel) rfl
theorem co_X7_init : Cond.code yX7_init cX7_init 2 none ∈ tb := tb_in 73 (by decide +kernel) rfl
theorem lk_RX7_3 : Cond.methodLink RX7 3 objectInit ∈ tb := tb_in 74 (by decide +kernel) rfl
theorem cl_RX7_9 : Cond.classLink RX7 9 RX2 ∈ tb := tb_in 77 (by decide +kernel) rfl
theorem is_RX2 : Cond.instantiable RX2 10 ∈ tb := tb_in 78 (by decide +kernel) rfl
theorem lk_RX7_11 : Cond.methodLinkNest RX7 11 yX2_init "SkittleGentry" ∈ nws := nw_in 24 (by decide +kernel) rfl
theorem im_X2_init : Cond.instanceMethod yX2_init ∈ tb := tb_in 80 (by decide +kernel) rfl
theorem co_X2_init : Cond.code yX2_init cX2_init 1 none ∈ tb := tb_in 81 (by decide +kernel) rfl
theorem lk_RX2_3 : Cond.methodLink RX2 3 objectInit ∈ tb := tb_in 82 (by decide +kernel) rfl
theorem lk_RX2_9 : Cond.fieldLink RX2 9 "SkittleGentry$CountyText" "letters" "[I" ∈ tb := tb_in 83 (by decide +kernel) rfl
theorem lk_RX2_15 : Cond.fieldLink RX2 15 "SkittleGentry$CountyText" "kinds" "[I" ∈ tb := tb_in 84 (by decide +kernel) rfl
theorem lk_RX3_59 : Cond.fieldLinkNest RX3 59 "SkittleGentry$CountyText" "kinds" "[I" "SkittleGentry" ∈ nws := nw_in 30 (by decide +kernel) rfl
theorem lk_RX2_18 : Cond.fieldLink RX2 18 "SkittleGentry$CountyText" "weights" "[I" ∈ tb := tb_in 86 (by decide +kernel) rfl
theorem lk_RX3_60 : Cond.fieldLinkNest RX3 60 "SkittleGentry$CountyText" "weights" "[I" "SkittleGentry" ∈ nws := nw_in 32 (by decide +kernel) rfl
theorem lk_RX2_21 : Cond.fieldLink RX2 21 "SkittleGentry$CountyText" "chips" "[I" ∈ tb := tb_in 88 (by decide +kernel) rfl
theorem lk_RX3_61 : Cond.fieldLinkNest RX3 61 "SkittleGentry$CountyText" "chips" "[I" "SkittleGentry" ∈ nws := nw_in 34 (by decide +kernel) rfl
theorem lk_RX2_24 : Cond.fieldLink RX2 24 "SkittleGentry$CountyText" "length" "I" ∈ tb := tb_in 90 (by decide +kernel) rfl
theorem lk_RX7_108 : Cond.fieldLinkNest RX7 108 "SkittleGentry$CountyText" "length" "I" "SkittleGentry" ∈ nws := nw_in 36 (by decide +kernel) rfl
theorem lk_RX2_29 : Cond.fieldLink RX2 29 "SkittleGentry$CountyText" "at" "I" ∈ tb := tb_in 92 (by decide +kernel) rfl
theorem lk_RX3_55 : Cond.fieldLinkNest RX3 55 "SkittleGentry$CountyText" "floor" "I" "SkittleGentry" ∈ nws := nw_in 38 (by decide +kernel) rfl
theorem lk_RX2_32 : Cond.fieldLink RX2 32 "SkittleGentry$CountyText" "floor" "I" ∈ tb := tb_in 94 (by decide +kernel) rfl
theorem lk_RX3_58 : Cond.fieldLinkNest RX3 58 "SkittleGentry$CountyText" "count" "I" "SkittleGentry" ∈ nws := nw_in 40 (by decide +kernel) rfl
theorem lk_RX2_35 : Cond.fieldLink RX2 35 "SkittleGentry$CountyText" "count" "I" ∈ tb := tb_in 96 (by decide +kernel) rfl
theorem lk_RX2_38 : Cond.fieldLink RX2 38 "SkittleGentry$CountyText" "faultNumber" "I" ∈ tb := tb_in 97 (by decide +kernel) rfl
theorem lk_RX7_86 : Cond.fieldLinkNest RX7 86 "SkittleGentry$CountyText" "faultAt" "I" "SkittleGentry" ∈ nws := nw_in 43 (by decide +kernel) rfl
theorem lk_RX2_41 : Cond.fieldLink RX2 41 "SkittleGentry$CountyText" "faultAt" "I" ∈ tb := tb_in 99 (by decide +kernel) rfl
theorem cl_RX7_16 : Cond.classLink RX7 16 RX3 ∈ tb := tb_in 122 (by decide +kernel) rfl
theorem is_RX3 : Cond.instantiable RX3 12 ∈ tb := tb_in 123 (by decide +kernel) rfl
theorem lk_RX7_18 : Cond.methodLink RX7 18 yX3_init ∈ tb := tb_in 124 (by decide +kernel) rfl
theorem im_X3_init : Cond.instanceMethod yX3_init ∈ tb := tb_in 125 (by decide +kernel) rfl
theorem co_X3_init : Cond.code yX3_init cX3_init 2 none ∈ tb := tb_in 126 (by decide +kernel) rfl
theorem lk_RX3_3 : Cond.methodLink RX3 3 objectInit ∈ tb := tb_in 127 (by decide +kernel) rfl
theorem lk_RX3_9 : Cond.fieldLink RX3 9 "SkittleGentry$Gentry" "kinds" "[I" ∈ tb := tb_in 128 (by decide +kernel) rfl
theorem lk_RX7_135 : Cond.fieldLinkNest RX7 135 "SkittleGentry$Gentry" "kinds" "[I" "SkittleGentry" ∈ nws := nw_in 74 (by decide +kernel) rfl
theorem lk_RX3_15 : Cond.fieldLink RX3 15 "SkittleGentry$Gentry" "weights" "[I" ∈ tb := tb_in 130 (by decide +kernel) rfl
theorem lk_RX7_138 : Cond.fieldLinkNest RX7 138 "SkittleGentry$Gentry" "weights" "[I" "SkittleGentry" ∈ nws := nw_in 76 (by decide +kernel) rfl
theorem lk_RX3_18 : Cond.fieldLink RX3 18 "SkittleGentry$Gentry" "chips" "[I" ∈ tb := tb_in 132 (by decide +kernel) rfl
theorem lk_RX7_141 : Cond.fieldLinkNest RX7 141 "SkittleGentry$Gentry" "chips" "[I" "SkittleGentry" ∈ nws := nw_in 78 (by decide +kernel) rfl
theorem lk_RX3_21 : Cond.fieldLink RX3 21 "SkittleGentry$Gentry" "plates" "[I" ∈ tb := tb_in 134 (by decide +kernel) rfl
theorem lk_RX7_144 : Cond.fieldLinkNest RX7 144 "SkittleGentry$Gentry" "plates" "[I" "SkittleGentry" ∈ nws := nw_in 80 (by decide +kernel) rfl
theorem lk_RX3_24 : Cond.fieldLink RX3 24 "SkittleGentry$Gentry" "rocked" "[I" ∈ tb := tb_in 136 (by decide +kernel) rfl
theorem lk_RX7_150 : Cond.fieldLinkNest RX7 150 "SkittleGentry$Gentry" "rocked" "[I" "SkittleGentry" ∈ nws := nw_in 82 (by decide +kernel) rfl
theorem lk_RX3_27 : Cond.fieldLink RX3 27 "SkittleGentry$Gentry" "taken" "[I" ∈ tb := tb_in 138 (by decide +kernel) rfl
theorem lk_RX7_153 : Cond.fieldLinkNest RX7 153 "SkittleGentry$Gentry" "taken" "[I" "SkittleGentry" ∈ nws := nw_in 84 (by decide +kernel) rfl
theorem lk_RX3_30 : Cond.fieldLink RX3 30 "SkittleGentry$Gentry" "on" "[I" ∈ tb := tb_in 140 (by decide +kernel) rfl
theorem lk_RX5_33 : Cond.fieldLinkNest RX5 33 "SkittleGentry$Gentry" "on" "[I" "SkittleGentry" ∈ nws := nw_in 86 (by decide +kernel) rfl
theorem lk_RX7_165 : Cond.fieldLinkNest RX7 165 "SkittleGentry$Gentry" "on" "[I" "SkittleGentry" ∈ nws := nw_in 87 (by decide +kernel) rfl
theorem lk_RX3_33 : Cond.fieldLink RX3 33 "SkittleGentry$Gentry" "floor" "I" ∈ tb := tb_in 143 (by decide +kernel) rfl
theorem lk_RX5_24 : Cond.fieldLinkNest RX5 24 "SkittleGentry$Gentry" "floor" "I" "SkittleGentry" ∈ nws := nw_in 89 (by decide +kernel) rfl
theorem lk_RX7_105 : Cond.fieldLinkNest RX7 105 "SkittleGentry$Gentry" "floor" "I" "SkittleGentry" ∈ nws := nw_in 90 (by decide +kernel) rfl
theorem lk_RX3_43 : Cond.fieldLink RX3 43 "SkittleGentry$Gentry" "count" "I" ∈ tb := tb_in 146 (by decide +kernel) rfl
theorem lk_RX7_102 : Cond.fieldLinkNest RX7 102 "SkittleGentry$Gentry" "count" "I" "SkittleGentry" ∈ nws := nw_in 92 (by decide +kernel) rfl
theorem lk_RX0_41 : Cond.fieldLinkNest RX0 41 "SkittleGentry$Gentry" "standing" "I" "SkittleGentry" ∈ nws := nw_in 93 (by decide +kernel) rfl
theorem lk_RX6_25 : Cond.fieldLinkNest RX6 25 "SkittleGentry$Gentry" "standing" "I" "SkittleGentry" ∈ nws := nw_in 94 (by decide +kernel) rfl
theorem lk_RX3_46 : Cond.fieldLink RX3 46 "SkittleGentry$Gentry" "standing" "I" ∈ tb := tb_in 150 (by decide +kernel) rfl
theorem lk_RX7_111 : Cond.fieldLinkNest RX7 111 "SkittleGentry$Gentry" "standing" "I" "SkittleGentry" ∈ nws := nw_in 96 (by decide +kernel) rfl
theorem lk_RX3_49 : Cond.fieldLink RX3 49 "SkittleGentry$Gentry" "thrown" "I" ∈ tb := tb_in 152 (by decide +kernel) rfl
theorem lk_RX7_114 : Cond.fieldLinkNest RX7 114 "SkittleGentry$Gentry" "thrown" "I" "SkittleGentry" ∈ nws := nw_in 98 (by decide +kernel) rfl
theorem lk_RX3_52 : Cond.fieldLink RX3 52 "SkittleGentry$Gentry" "floorers" "I" ∈ tb := tb_in 154 (by decide +kernel) rfl
theorem lk_RX7_117 : Cond.fieldLinkNest RX7 117 "SkittleGentry$Gentry" "floorers" "I" "SkittleGentry" ∈ nws := nw_in 100 (by decide +kernel) rfl
theorem cl_RX7_26 : Cond.classLink RX7 26 RX4 ∈ tb := tb_in 181 (by decide +kernel) rfl
theorem is_RX4 : Cond.instantiable RX4 3 ∈ tb := tb_in 182 (by decide +kernel) rfl
theorem lk_RX7_28 : Cond.methodLink RX7 28 yX4_init ∈ tb := tb_in 183 (by decide +kernel) rfl
theorem im_X4_init : Cond.instanceMethod yX4_init ∈ tb := tb_in 184 (by decide +kernel) rfl
theorem co_X4_init : Cond.code yX4_init cX4_init 2 none ∈ tb := tb_in 185 (by decide +kernel) rfl
theorem lk_RX4_3 : Cond.methodLink RX4 3 objectInit ∈ tb := tb_in 186 (by decide +kernel) rfl
theorem cl_RX4_9 : Cond.classLink RX4 9 RX3 ∈ tb := tb_in 187 (by decide +kernel) rfl
theorem lk_RX4_17 : Cond.methodLink RX4 17 yX3_init ∈ tb := tb_in 189 (by decide +kernel) rfl
theorem lk_RX4_11 : Cond.fieldLink RX4 11 "SkittleGentry$Past" "ring" "[LSkittleGentry$Gentry;" ∈ tb := tb_in 190 (by decide +kernel) rfl
theorem lk_RX4_18 : Cond.fieldLink RX4 18 "SkittleGentry$Past" "next" "I" ∈ tb := tb_in 191 (by decide +kernel) rfl
theorem lk_RX4_26 : Cond.fieldLink RX4 26 "SkittleGentry$Past" "size" "I" ∈ tb := tb_in 192 (by decide +kernel) rfl
theorem lk_RX7_129 : Cond.fieldLinkNest RX7 129 "SkittleGentry$Past" "size" "I" "SkittleGentry" ∈ nws := nw_in 138 (by decide +kernel) rfl
theorem cl_RX7_45 : Cond.classLink RX7 45 RX5 ∈ tb := tb_in 201 (by decide +kernel) rfl
theorem is_RX5 : Cond.instantiable RX5 8 ∈ tb := tb_in 202 (by decide +kernel) rfl
theorem lk_RX7_47 : Cond.methodLinkNest RX7 47 yX5_init "SkittleGentry" ∈ nws := nw_in 148 (by decide +kernel) rfl
theorem im_X5_init : Cond.instanceMethod yX5_init ∈ tb := tb_in 204 (by decide +kernel) rfl
theorem co_X5_init : Cond.code yX5_init cX5_init 1 none ∈ tb := tb_in 205 (by decide +kernel) rfl
theorem lk_RX5_3 : Cond.methodLink RX5 3 objectInit ∈ tb := tb_in 206 (by decide +kernel) rfl
theorem lk_RX5_9 : Cond.fieldLink RX5 9 "SkittleGentry$Roll" "on" "[I" ∈ tb := tb_in 207 (by decide +kernel) rfl
theorem lk_RX5_15 : Cond.fieldLink RX5 15 "SkittleGentry$Roll" "bears" "[I" ∈ tb := tb_in 208 (by decide +kernel) rfl
theorem lk_RX5_18 : Cond.fieldLink RX5 18 "SkittleGentry$Roll" "taken" "[I" ∈ tb := tb_in 209 (by decide +kernel) rfl
theorem lk_RX3_88 : Cond.fieldLinkNest RX3 88 "SkittleGentry$Roll" "taken" "[I" "SkittleGentry" ∈ nws := nw_in 155 (by decide +kernel) rfl
theorem lk_RX5_21 : Cond.fieldLink RX5 21 "SkittleGentry$Roll" "rocked" "[I" ∈ tb := tb_in 211 (by decide +kernel) rfl
theorem lk_RX3_82 : Cond.fieldLinkNest RX3 82 "SkittleGentry$Roll" "rocked" "[I" "SkittleGentry" ∈ nws := nw_in 157 (by decide +kernel) rfl
theorem lk_RX5_30 : Cond.fieldLink RX5 30 "SkittleGentry$Roll" "drag" "I" ∈ tb := tb_in 213 (by decide +kernel) rfl
theorem lk_RX5_43 : Cond.fieldLink RX5 43 "SkittleGentry$Roll" "standing" "I" ∈ tb := tb_in 214 (by decide +kernel) rfl
theorem lk_RX5_46 : Cond.fieldLink RX5 46 "SkittleGentry$Roll" "rocks" "I" ∈ tb := tb_in 215 (by decide +kernel) rfl
theorem lk_RX7_210 : Cond.fieldLinkNest RX7 210 "SkittleGentry$Roll" "rocks" "I" "SkittleGentry" ∈ nws := nw_in 161 (by decide +kernel) rfl
theorem lk_RX5_49 : Cond.fieldLink RX5 49 "SkittleGentry$Roll" "stays" "I" ∈ tb := tb_in 217 (by decide +kernel) rfl
theorem lk_RX7_213 : Cond.fieldLinkNest RX7 213 "SkittleGentry$Roll" "stays" "I" "SkittleGentry" ∈ nws := nw_in 163 (by decide +kernel) rfl
theorem cl_RX7_52 : Cond.classLink RX7 52 RX6 ∈ tb := tb_in 237 (by decide +kernel) rfl
theorem is_RX6 : Cond.instantiable RX6 2 ∈ tb := tb_in 238 (by decide +kernel) rfl
theorem lk_RX7_54 : Cond.methodLinkNest RX7 54 yX6_init "SkittleGentry" ∈ nws := nw_in 184 (by decide +kernel) rfl
theorem im_X6_init : Cond.instanceMethod yX6_init ∈ tb := tb_in 240 (by decide +kernel) rfl
theorem co_X6_init : Cond.code yX6_init cX6_init 1 none ∈ tb := tb_in 241 (by decide +kernel) rfl
theorem lk_RX6_3 : Cond.methodLink RX6 3 objectInit ∈ tb := tb_in 242 (by decide +kernel) rfl
theorem lk_RX6_9 : Cond.fieldLink RX6 9 "SkittleGentry$Trials" "falls" "[I" ∈ tb := tb_in 243 (by decide +kernel) rfl
theorem lk_RX6_15 : Cond.fieldLink RX6 15 "SkittleGentry$Trials" "filled" "Z" ∈ tb := tb_in 244 (by decide +kernel) rfl
theorem lk_RX7_274 : Cond.fieldLinkNest RX7 274 "SkittleGentry$Trials" "filled" "Z" "SkittleGentry" ∈ nws := nw_in 190 (by decide +kernel) rfl
theorem cl_RX7_59 : Cond.classLink RX7 59 RX0 ∈ tb := tb_in 251 (by decide +kernel) rfl
theorem is_RX0 : Cond.instantiable RX0 7 ∈ tb := tb_in 252 (by decide +kernel) rfl
theorem lk_RX7_61 : Cond.methodLinkNest RX7 61 yX0_init "SkittleGentry" ∈ nws := nw_in 198 (by decide +kernel) rfl
theorem im_X0_init : Cond.instanceMethod yX0_init ∈ tb := tb_in 254 (by decide +kernel) rfl
theorem co_X0_init : Cond.code yX0_init cX0_init 1 none ∈ tb := tb_in 255 (by decide +kernel) rfl
theorem lk_RX0_3 : Cond.methodLink RX0 3 objectInit ∈ tb := tb_in 256 (by decide +kernel) rfl
theorem lk_RX0_9 : Cond.fieldLink RX0 9 "SkittleGentry$AllDown" "queue" "[I" ∈ tb := tb_in 257 (by decide +kernel) rfl
theorem lk_RX0_15 : Cond.fieldLink RX0 15 "SkittleGentry$AllDown" "steps" "[I" ∈ tb := tb_in 258 (by decide +kernel) rfl
theorem lk_RX0_18 : Cond.fieldLink RX0 18 "SkittleGentry$AllDown" "firsts" "[I" ∈ tb := tb_in 259 (by decide +kernel) rfl
theorem lk_RX0_37 : Cond.fieldLink RX0 37 "SkittleGentry$AllDown" "queued" "I" ∈ tb := tb_in 260 (by decide +kernel) rfl
theorem lk_RX0_21 : Cond.fieldLink RX0 21 "SkittleGentry$AllDown" "ended" "Z" ∈ tb := tb_in 261 (by decide +kernel) rfl
theorem lk_RX7_278 : Cond.fieldLinkNest RX7 278 "SkittleGentry$AllDown" "ended" "Z" "SkittleGentry" ∈ nws := nw_in 207 (by decide +kernel) rfl
theorem lk_RX0_54 : Cond.fieldLink RX0 54 "SkittleGentry$AllDown" "fewest" "I" ∈ tb := tb_in 263 (by decide +kernel) rfl
theorem lk_RX7_239 : Cond.fieldLinkNest RX7 239 "SkittleGentry$AllDown" "fewest" "I" "SkittleGentry" ∈ nws := nw_in 209 (by decide +kernel) rfl
theorem lk_RX0_57 : Cond.fieldLink RX0 57 "SkittleGentry$AllDown" "first" "I" ∈ tb := tb_in 265 (by decide +kernel) rfl
theorem lk_RX7_242 : Cond.fieldLinkNest RX7 242 "SkittleGentry$AllDown" "first" "I" "SkittleGentry" ∈ nws := nw_in 211 (by decide +kernel) rfl
theorem cl_RX7_66 : Cond.classLink RX7 66 RX1 ∈ tb := tb_in 282 (by decide +kernel) rfl
theorem is_RX1 : Cond.instantiable RX1 3 ∈ tb := tb_in 283 (by decide +kernel) rfl
theorem lk_RX7_68 : Cond.methodLinkNest RX7 68 yX1_init "SkittleGentry" ∈ nws := nw_in 229 (by decide +kernel) rfl
theorem im_X1_init : Cond.instanceMethod yX1_init ∈ tb := tb_in 285 (by decide +kernel) rfl
theorem co_X1_init : Cond.code yX1_init cX1_init 1 none ∈ tb := tb_in 286 (by decide +kernel) rfl
theorem lk_RX1_3 : Cond.methodLink RX1 3 objectInit ∈ tb := tb_in 287 (by decide +kernel) rfl
theorem lk_RX1_9 : Cond.fieldLink RX1 9 "SkittleGentry$Book" "skittles" "[I" ∈ tb := tb_in 288 (by decide +kernel) rfl
theorem lk_RX1_15 : Cond.fieldLink RX1 15 "SkittleGentry$Book" "stood" "[Z" ∈ tb := tb_in 289 (by decide +kernel) rfl
theorem lk_RX1_19 : Cond.fieldLink RX1 19 "SkittleGentry$Book" "size" "I" ∈ tb := tb_in 290 (by decide +kernel) rfl
theorem lk_RX7_126 : Cond.fieldLinkNest RX7 126 "SkittleGentry$Book" "size" "I" "SkittleGentry" ∈ nws := nw_in 236 (by decide +kernel) rfl
theorem lk_RX7_12 : Cond.fieldLink RX7 12 "SkittleGentry" "text" "LSkittleGentry$CountyText;" ∈ tb := tb_in 299 (by decide +kernel) rfl
theorem lk_RX7_19 : Cond.fieldLink RX7 19 "SkittleGentry" "now" "LSkittleGentry$Gentry;" ∈ tb := tb_in 300 (by decide +kernel) rfl
theorem lk_RX7_23 : Cond.fieldLink RX7 23 "SkittleGentry" "changed" "LSkittleGentry$Gentry;" ∈ tb := tb_in 301 (by decide +kernel) rfl
theorem lk_RX7_29 : Cond.fieldLink RX7 29 "SkittleGentry" "past" "LSkittleGentry$Past;" ∈ tb := tb_in 302 (by decide +kernel) rfl
theorem lk_RX7_33 : Cond.fieldLink RX7 33 "SkittleGentry" "images" "[LSkittleGentry$Gentry;" ∈ tb := tb_in 303 (by decide +kernel) rfl
theorem lk_RX7_37 : Cond.fieldLink RX7 37 "SkittleGentry" "kept" "[Z" ∈ tb := tb_in 304 (by decide +kernel) rfl
theorem lk_RX7_41 : Cond.fieldLink RX7 41 "SkittleGentry" "keptSeeds" "[I" ∈ tb := tb_in 305 (by decide +kernel) rfl
theorem lk_RX7_48 : Cond.fieldLink RX7 48 "SkittleGentry" "roll" "LSkittleGentry$Roll;" ∈ tb := tb_in 306 (by decide +kernel) rfl
theorem lk_RX7_55 : Cond.fieldLink RX7 55 "SkittleGentry" "trials" "LSkittleGentry$Trials;" ∈ tb := tb_in 307 (by decide +kernel) rfl
theorem lk_RX7_62 : Cond.fieldLink RX7 62 "SkittleGentry" "search" "LSkittleGentry$AllDown;" ∈ tb := tb_in 308 (by decide +kernel) rfl
theorem lk_RX7_69 : Cond.fieldLink RX7 69 "SkittleGentry" "book" "LSkittleGentry$Book;" ∈ tb := tb_in 309 (by decide +kernel) rfl
theorem lk_RX7_268 : Cond.fieldLink RX7 268 "SkittleGentry" "seed" "I" ∈ tb := tb_in 310 (by decide +kernel) rfl
theorem lk_RX7_73 : Cond.fieldLink RX7 73 "SkittleGentry" "latestFault" "I" ∈ tb := tb_in 311 (by decide +kernel) rfl
theorem lk_RL_13 : Cond.methodLink RL 13 yX7_feed ∈ tb := tb_in 339 (by decide +kernel) rfl
theorem im_X7_feed : Cond.instanceMethod yX7_feed ∈ tb := tb_in 340 (by decide +kernel) rfl
theorem se_X7_feed : Cond.selects RX7 yX7_feed yX7_feed ∈ tb := tb_in 341 (by decide +kernel) rfl
theorem co_X7_feed : Cond.code yX7_feed cX7_feed 2 (some .int) ∈ tb := tb_in 342 (by decide +kernel) rfl
theorem kk_RX7_77 : Cond.constant RX7 77 (-1000000002) ∈ tb := tb_in 343 (by decide +kernel) rfl
theorem lk_RX7_78 : Cond.methodLink RX7 78 yX2_append ∈ tb := tb_in 344 (by decide +kernel) rfl
theorem im_X2_append : Cond.instanceMethod yX2_append ∈ tb := tb_in 345 (by decide +kernel) rfl
theorem se_X2_append : Cond.selects RX2 yX2_append yX2_append ∈ tb := tb_in 346 (by decide +kernel) rfl
theorem co_X2_append : Cond.code yX2_append cX2_append 2 (some .int) ∈ tb := tb_in 347 (by decide +kernel) rfl
theorem kk_RX2_28 : Cond.constant RX2 28 (-1000000004) ∈ tb := tb_in 348 (by decide +kernel) rfl
theorem lk_RL_18 : Cond.methodLink RL 18 yX7_county ∈ tb := tb_in 349 (by decide +kernel) rfl
theorem im_X7_county : Cond.instanceMethod yX7_county ∈ tb := tb_in 350 (by decide +kernel) rfl
theorem se_X7_county : Cond.selects RX7 yX7_county yX7_county ∈ tb := tb_in 351 (by decide +kernel) rfl
theorem co_X7_county : Cond.code yX7_county cX7_county 3 (some .int) ∈ tb := tb_in 352 (by decide +kernel) rfl
theorem lk_RX7_82 : Cond.methodLink RX7 82 yX2_read ∈ tb := tb_in 353 (by decide +kernel) rfl
theorem im_X2_read : Cond.instanceMethod yX2_read ∈ tb := tb_in 354 (by decide +kernel) rfl
theorem se_X2_read : Cond.selects RX2 yX2_read yX2_read ∈ tb := tb_in 355 (by decide +kernel) rfl
theorem co_X2_read : Cond.code yX2_read cX2_read 2 (some .int) ∈ tb := tb_in 356 (by decide +kernel) rfl
theorem lk_RX2_44 : Cond.methodLink RX2 44 yX2_isMore ∈ tb := tb_in 357 (by decide +kernel) rfl
theorem im_X2_isMore : Cond.instanceMethod yX2_isMore ∈ tb := tb_in 359 (by decide +kernel) rfl
theorem co_X2_isMore : Cond.code yX2_isMore cX2_isMore 1 (some .boolean) ∈ tb := tb_in 360 (by decide +kernel) rfl
theorem lk_RX2_62 : Cond.methodLink RX2 62 yX2_sees ∈ tb := tb_in 361 (by decide +kernel) rfl
theorem im_X2_sees : Cond.instanceMethod yX2_sees ∈ tb := tb_in 363 (by decide +kernel) rfl
theorem co_X2_sees : Cond.code yX2_sees cX2_sees 2 (some .boolean) ∈ tb := tb_in 364 (by decide +kernel) rfl
theorem lk_RX2_48 : Cond.methodLink RX2 48 yX2_readFloor ∈ tb := tb_in 365 (by decide +kernel) rfl
theorem im_X2_readFloor : Cond.instanceMethod yX2_readFloor ∈ tb := tb_in 367 (by decide +kernel) rfl
theorem co_X2_readFloor : Cond.code yX2_readFloor cX2_readFloor 1 none ∈ tb := tb_in 368 (by decide +kernel) rfl
theorem lk_RX2_54 : Cond.methodLink RX2 54 yX2_takeSign ∈ tb := tb_in 369 (by decide +kernel) rfl
theorem im_X2_takeSign : Cond.instanceMethod yX2_takeSign ∈ tb := tb_in 371 (by decide +kernel) rfl
theorem co_X2_takeSign : Cond.code yX2_takeSign cX2_takeSign 2 none ∈ tb := tb_in 372 (by decide +kernel) rfl
theorem lk_RX2_66 : Cond.methodLink RX2 66 yX2_fail ∈ tb := tb_in 373 (by decide +kernel) rfl
theorem im_X2_fail : Cond.instanceMethod yX2_fail ∈ tb := tb_in 375 (by decide +kernel) rfl
theorem co_X2_fail : Cond.code yX2_fail cX2_fail 3 none ∈ tb := tb_in 376 (by decide +kernel) rfl
theorem lk_RX2_58 : Cond.methodLink RX2 58 yX2_takeNumber ∈ tb := tb_in 377 (by decide +kernel) rfl
theorem im_X2_takeNumber : Cond.instanceMethod yX2_takeNumber ∈ tb := tb_in 379 (by decide +kernel) rfl
theorem co_X2_takeNumber : Cond.code yX2_takeNumber cX2_takeNumber 5 (some .int) ∈ tb := tb_in 380 (by decide +kernel) rfl
theorem lk_RX2_70 : Cond.methodLink RX2 70 yX2_seesFigure ∈ tb := tb_in 381 (by decide +kernel) rfl
theorem im_X2_seesFigure : Cond.instanceMethod yX2_seesFigure ∈ tb := tb_in 383 (by decide +kernel) rfl
theorem co_X2_seesFigure : Cond.code yX2_seesFigure cX2_seesFigure 1 (some .boolean) ∈ tb := tb_in 384 (by decide +kernel) rfl
theorem lk_RX2_51 : Cond.methodLink RX2 51 yX2_readSkittle ∈ tb := tb_in 385 (by decide +kernel) rfl
theorem im_X2_readSkittle : Cond.instanceMethod yX2_readSkittle ∈ tb := tb_in 387 (by decide +kernel) rfl
theorem co_X2_readSkittle : Cond.code yX2_readSkittle cX2_readSkittle 4 none ∈ tb := tb_in 388 (by decide +kernel) rfl
theorem lk_RX7_89 : Cond.methodLink RX7 89 yX3_found ∈ tb := tb_in 389 (by decide +kernel) rfl
theorem im_X3_found : Cond.instanceMethod yX3_found ∈ tb := tb_in 390 (by decide +kernel) rfl
theorem se_X3_found : Cond.selects RX3 yX3_found yX3_found ∈ tb := tb_in 391 (by decide +kernel) rfl
theorem co_X3_found : Cond.code yX3_found cX3_found 3 none ∈ tb := tb_in 392 (by decide +kernel) rfl
theorem lk_RX3_62 : Cond.methodLink RX3 62 yX3_standAll ∈ tb := tb_in 393 (by decide +kernel) rfl
theorem im_X3_standAll : Cond.instanceMethod yX3_standAll ∈ tb := tb_in 394 (by decide +kernel) rfl
theorem se_X3_standAll : Cond.selects RX3 yX3_standAll yX3_standAll ∈ tb := tb_in 395 (by decide +kernel) rfl
theorem co_X3_standAll : Cond.code yX3_standAll cX3_standAll 1 none ∈ tb := tb_in 396 (by decide +kernel) rfl
theorem lk_RX7_93 : Cond.methodLink RX7 93 yX4_forget ∈ tb := tb_in 397 (by decide +kernel) rfl
theorem im_X4_forget : Cond.instanceMethod yX4_forget ∈ tb := tb_in 398 (by decide +kernel) rfl
theorem se_X4_forget : Cond.selects RX4 yX4_forget yX4_forget ∈ tb := tb_in 399 (by decide +kernel) rfl
theorem co_X4_forget : Cond.code yX4_forget cX4_forget 1 none ∈ tb := tb_in 400 (by decide +kernel) rfl
theorem lk_RX7_96 : Cond.methodLink RX7 96 yX1_clear ∈ tb := tb_in 401 (by decide +kernel) rfl
theorem im_X1_clear : Cond.instanceMethod yX1_clear ∈ tb := tb_in 402 (by decide +kernel) rfl
theorem se_X1_clear : Cond.selects RX1 yX1_clear yX1_clear ∈ tb := tb_in 403 (by decide +kernel) rfl
theorem co_X1_clear : Cond.code yX1_clear cX1_clear 1 none ∈ tb := tb_in 404 (by decide +kernel) rfl
theorem lk_RX7_99 : Cond.methodLink RX7 99 yX7_stirred ∈ tb := tb_in 405 (by decide +kernel) rfl
theorem im_X7_stirred : Cond.instanceMethod yX7_stirred ∈ tb := tb_in 407 (by decide +kernel) rfl
theorem co_X7_stirred : Cond.code yX7_stirred cX7_stirred 1 none ∈ tb := tb_in 408 (by decide +kernel) rfl
theorem lk_RL_23 : Cond.methodLink RL 23 yX7_fault ∈ tb := tb_in 409 (by decide +kernel) rfl
theorem im_X7_fault : Cond.instanceMethod yX7_fault ∈ tb := tb_in 410 (by decide +kernel) rfl
theorem se_X7_fault : Cond.selects RX7 yX7_fault yX7_fault ∈ tb := tb_in 411 (by decide +kernel) rfl
theorem co_X7_fault : Cond.code yX7_fault cX7_fault 1 (some .int) ∈ tb := tb_in 412 (by decide +kernel) rfl
theorem lk_RL_27 : Cond.methodLink RL 27 yX7_told ∈ tb := tb_in 413 (by decide +kernel) rfl
theorem im_X7_told : Cond.instanceMethod yX7_told ∈ tb := tb_in 414 (by decide +kernel) rfl
theorem se_X7_told : Cond.selects RX7 yX7_told yX7_told ∈ tb := tb_in 415 (by decide +kernel) rfl
theorem co_X7_told : Cond.code yX7_told cX7_told 2 (some .int) ∈ tb := tb_in 416 (by decide +kernel) rfl
theorem lk_RX7_120 : Cond.methodLink RX7 120 yX7_toldOfAllBalls ∈ tb := tb_in 417 (by decide +kernel) rfl
theorem im_X7_toldOfAllBalls : Cond.instanceMethod yX7_toldOfAllBalls ∈ tb := tb_in 419 (by decide +kernel) rfl
theorem co_X7_toldOfAllBalls : Cond.code yX7_toldOfAllBalls cX7_toldOfAllBalls 2 (some .int) ∈ tb := tb_in 420 (by decide +kernel) rfl
theorem lk_RX7_172 : Cond.methodLink RX7 172 yX3_isCounty ∈ tb := tb_in 421 (by decide +kernel) rfl
theorem im_X3_isCounty : Cond.instanceMethod yX3_isCounty ∈ tb := tb_in 422 (by decide +kernel) rfl
theorem se_X3_isCounty : Cond.selects RX3 yX3_isCounty yX3_isCounty ∈ tb := tb_in 423 (by decide +kernel) rfl
theorem co_X3_isCounty : Cond.code yX3_isCounty cX3_isCounty 1 (some .boolean) ∈ tb := tb_in 424 (by decide +kernel) rfl
theorem lk_RX7_219 : Cond.methodLink RX7 219 yX6_fill ∈ tb := tb_in 425 (by decide +kernel) rfl
theorem im_X6_fill : Cond.instanceMethod yX6_fill ∈ tb := tb_in 426 (by decide +kernel) rfl
theorem se_X6_fill : Cond.selects RX6 yX6_fill yX6_fill ∈ tb := tb_in 427 (by decide +kernel) rfl
theorem co_X6_fill : Cond.code yX6_fill cX6_fill 8 none ∈ tb := tb_in 428 (by decide +kernel) rfl
theorem lk_RX6_19 : Cond.methodLink RX6 19 yX5_prepare ∈ tb := tb_in 429 (by decide +kernel) rfl
theorem im_X5_prepare : Cond.instanceMethod yX5_prepare ∈ tb := tb_in 430 (by decide +kernel) rfl
theorem se_X5_prepare : Cond.selects RX5 yX5_prepare yX5_prepare ∈ tb := tb_in 431 (by decide +kernel) rfl
theorem co_X5_prepare : Cond.code yX5_prepare cX5_prepare 3 none ∈ tb := tb_in 432 (by decide +kernel) rfl
theorem lk_RX5_34 : Cond.methodLink RX5 34 yX3_bears ∈ tb := tb_in 433 (by decide +kernel) rfl
theorem im_X3_bears : Cond.instanceMethod yX3_bears ∈ tb := tb_in 434 (by decide +kernel) rfl
theorem se_X3_bears : Cond.selects RX3 yX3_bears yX3_bears ∈ tb := tb_in 435 (by decide +kernel) rfl
theorem co_X3_bears : Cond.code yX3_bears cX3_bears 3 (some .int) ∈ tb := tb_in 436 (by decide +kernel) rfl
theorem lk_RX3_65 : Cond.methodLink RX3 65 yX3_has ∈ tb := tb_in 437 (by decide +kernel) rfl
theorem im_X3_has : Cond.instanceMethod yX3_has ∈ tb := tb_in 438 (by decide +kernel) rfl
theorem se_X3_has : Cond.selects RX3 yX3_has yX3_has ∈ tb := tb_in 439 (by decide +kernel) rfl
theorem co_X3_has : Cond.code yX3_has cX3_has 2 (some .boolean) ∈ tb := tb_in 440 (by decide +kernel) rfl
theorem lk_RX3_69 : Cond.methodLink RX3 69 Lib.Math.max.name ∈ tb := tb_in 441 (by decide +kernel) rfl
theorem sm_J9_max_7cf53 : Cond.static Lib.Math.max.name ∈ tb := tb_in 442 (by decide +kernel) rfl
theorem co_J9_max_7cf53 : Cond.code Lib.Math.max.name Lib.Math.max.code 2 (some .int) ∈ tb := tb_in 443 (by decide +kernel) rfl
theorem lk_RX6_31 : Cond.methodLink RX6 31 yX5_leastPace ∈ tb := tb_in 444 (by decide +kernel) rfl
theorem im_X5_leastPace : Cond.instanceMethod yX5_leastPace ∈ tb := tb_in 445 (by decide +kernel) rfl
theorem se_X5_leastPace : Cond.selects RX5 yX5_leastPace yX5_leastPace ∈ tb := tb_in 446 (by decide +kernel) rfl
theorem co_X5_leastPace : Cond.code yX5_leastPace cX5_leastPace 6 (some .int) ∈ tb := tb_in 447 (by decide +kernel) rfl
theorem lk_RX5_56 : Cond.methodLink RX5 56 yX5_whoStandsAt ∈ tb := tb_in 448 (by decide +kernel) rfl
theorem im_X5_whoStandsAt : Cond.instanceMethod yX5_whoStandsAt ∈ tb := tb_in 450 (by decide +kernel) rfl
theorem co_X5_whoStandsAt : Cond.code yX5_whoStandsAt cX5_whoStandsAt 5 (some .int) ∈ tb := tb_in 451 (by decide +kernel) rfl
theorem lk_RX5_72 : Cond.fieldLinkNest RX5 72 "SkittleGentry" "PLATE_AT" "[I" "SkittleGentry" ∈ nws := nw_in 397 (by decide +kernel) rfl
theorem lk_RX6_35 : Cond.methodLink RX6 35 yX5_send ∈ tb := tb_in 454 (by decide +kernel) rfl
theorem im_X5_send : Cond.instanceMethod yX5_send ∈ tb := tb_in 455 (by decide +kernel) rfl
theorem se_X5_send : Cond.selects RX5 yX5_send yX5_send ∈ tb := tb_in 456 (by decide +kernel) rfl
theorem co_X5_send : Cond.code yX5_send cX5_send 7 (some .int) ∈ tb := tb_in 457 (by decide +kernel) rfl
theorem lk_RX5_52 : Cond.methodLink RX5 52 yX5_meet ∈ tb := tb_in 458 (by decide +kernel) rfl
theorem im_X5_meet : Cond.instanceMethod yX5_meet ∈ tb := tb_in 460 (by decide +kernel) rfl
theorem co_X5_meet : Cond.code yX5_meet cX5_meet 5 (some .int) ∈ tb := tb_in 461 (by decide +kernel) rfl
theorem lk_RX5_60 : Cond.methodLink RX5 60 yX5_rock ∈ tb := tb_in 462 (by decide +kernel) rfl
theorem im_X5_rock : Cond.instanceMethod yX5_rock ∈ tb := tb_in 464 (by decide +kernel) rfl
theorem co_X5_rock : Cond.code yX5_rock cX5_rock 2 none ∈ tb := tb_in 465 (by decide +kernel) rfl
theorem lk_RX5_64 : Cond.methodLink RX5 64 yX5_topple ∈ tb := tb_in 466 (by decide +kernel) rfl
theorem im_X5_topple : Cond.instanceMethod yX5_topple ∈ tb := tb_in 468 (by decide +kernel) rfl
theorem co_X5_topple : Cond.code yX5_topple cX5_topple 6 none ∈ tb := tb_in 469 (by decide +kernel) rfl
theorem lk_RX5_68 : Cond.methodLink RX5 68 yX5_strike ∈ tb := tb_in 470 (by decide +kernel) rfl
theorem im_X5_strike : Cond.instanceMethod yX5_strike ∈ tb := tb_in 472 (by decide +kernel) rfl
theorem co_X5_strike : Cond.code yX5_strike cX5_strike 6 none ∈ tb := tb_in 473 (by decide +kernel) rfl
theorem lk_RX7_298 : Cond.methodLink RX7 298 yX6_worst ∈ tb := tb_in 474 (by decide +kernel) rfl
theorem im_X6_worst : Cond.instanceMethod yX6_worst ∈ tb := tb_in 475 (by decide +kernel) rfl
theorem se_X6_worst : Cond.selects RX6 yX6_worst yX6_worst ∈ tb := tb_in 476 (by decide +kernel) rfl
theorem co_X6_worst : Cond.code yX6_worst cX6_worst 3 (some .int) ∈ tb := tb_in 477 (by decide +kernel) rfl
theorem lk_RX6_39 : Cond.methodLink RX6 39 yJ6_bitCount_0f7a4 ∈ tb := tb_in 478 (by decide +kernel) rfl
theorem sm_J6_bitCount_0f7a4 : Cond.static yJ6_bitCount_0f7a4 ∈ tb := tb_in 479 (by decide +kernel) rfl
theorem co_J6_bitCount_0f7a4 : Cond.code yJ6_bitCount_0f7a4 cJ6_bitCount_0f7a4 1 (some .int) ∈ tb := tb_in 480 (by decide +kernel) rfl
theorem kk_RJ6_265 : Cond.constant RJ6 265 (1431655765) ∈ tb := tb_in 481 (by decide +kernel) rfl
theorem kk_RJ6_266 : Cond.constant RJ6 266 (858993459) ∈ tb := tb_in 482 (by decide +kernel) rfl
theorem kk_RJ6_267 : Cond.constant RJ6 267 (252645135) ∈ tb := tb_in 483 (by decide +kernel) rfl
theorem lk_RX7_229 : Cond.methodLink RX7 229 yX7_numberOf ∈ tb := tb_in 484 (by decide +kernel) rfl
theorem sm_X7_numberOf : Cond.static yX7_numberOf ∈ tb := tb_in 485 (by decide +kernel) rfl
theorem co_X7_numberOf : Cond.code yX7_numberOf cX7_numberOf 2 (some .int) ∈ tb := tb_in 486 (by decide +kernel) rfl
theorem lk_RX7_301 : Cond.methodLink RX7 301 yX6_fallenBy ∈ tb := tb_in 487 (by decide +kernel) rfl
theorem im_X6_fallenBy : Cond.instanceMethod yX6_fallenBy ∈ tb := tb_in 488 (by decide +kernel) rfl
theorem se_X6_fallenBy : Cond.selects RX6 yX6_fallenBy yX6_fallenBy ∈ tb := tb_in 489 (by decide +kernel) rfl
theorem co_X6_fallenBy : Cond.code yX6_fallenBy cX6_fallenBy 2 (some .int) ∈ tb := tb_in 490 (by decide +kernel) rfl
theorem lk_RX7_304 : Cond.methodLink RX7 304 yX6_safest ∈ tb := tb_in 491 (by decide +kernel) rfl
theorem im_X6_safest : Cond.instanceMethod yX6_safest ∈ tb := tb_in 492 (by decide +kernel) rfl
theorem se_X6_safest : Cond.selects RX6 yX6_safest yX6_safest ∈ tb := tb_in 493 (by decide +kernel) rfl
theorem co_X6_safest : Cond.code yX6_safest cX6_safest 6 (some .int) ∈ tb := tb_in 494 (by decide +kernel) rfl
theorem lk_RX6_45 : Cond.methodLink RX6 45 yX3_stands ∈ tb := tb_in 495 (by decide +kernel) rfl
theorem im_X3_stands : Cond.instanceMethod yX3_stands ∈ tb := tb_in 496 (by decide +kernel) rfl
theorem se_X3_stands : Cond.selects RX3 yX3_stands yX3_stands ∈ tb := tb_in 497 (by decide +kernel) rfl
theorem co_X3_stands : Cond.code yX3_stands cX3_stands 2 (some .boolean) ∈ tb := tb_in 498 (by decide +kernel) rfl
theorem lk_RX6_49 : Cond.methodLink RX6 49 yX6_fallsOf ∈ tb := tb_in 499 (by decide +kernel) rfl
theorem im_X6_fallsOf : Cond.instanceMethod yX6_fallsOf ∈ tb := tb_in 500 (by decide +kernel) rfl
theorem se_X6_fallsOf : Cond.selects RX6 yX6_fallsOf yX6_fallsOf ∈ tb := tb_in 501 (by decide +kernel) rfl
theorem co_X6_fallsOf : Cond.code yX6_fallsOf cX6_fallsOf 2 (some .int) ∈ tb := tb_in 502 (by decide +kernel) rfl
theorem lk_RX6_52 : Cond.methodLink RX6 52 yX6_fallsAmong ∈ tb := tb_in 503 (by decide +kernel) rfl
theorem im_X6_fallsAmong : Cond.instanceMethod yX6_fallsAmong ∈ tb := tb_in 505 (by decide +kernel) rfl
theorem co_X6_fallsAmong : Cond.code yX6_fallsAmong cX6_fallsAmong 6 (some .int) ∈ tb := tb_in 506 (by decide +kernel) rfl
theorem lk_RX6_55 : Cond.methodLink RX6 55 Lib.Math.max.name ∈ tb := tb_in 507 (by decide +kernel) rfl
theorem lk_RX7_308 : Cond.methodLink RX7 308 yX6_fallsOf ∈ tb := tb_in 508 (by decide +kernel) rfl
theorem lk_RX7_223 : Cond.methodLink RX7 223 yX6_howMany ∈ tb := tb_in 509 (by decide +kernel) rfl
theorem im_X6_howMany : Cond.instanceMethod yX6_howMany ∈ tb := tb_in 510 (by decide +kernel) rfl
theorem se_X6_howMany : Cond.selects RX6 yX6_howMany yX6_howMany ∈ tb := tb_in 511 (by decide +kernel) rfl
theorem co_X6_howMany : Cond.code yX6_howMany cX6_howMany 4 (some .int) ∈ tb := tb_in 512 (by decide +kernel) rfl
theorem lk_RX7_123 : Cond.methodLink RX7 123 yX3_pairsThatTalk ∈ tb := tb_in 513 (by decide +kernel) rfl
theorem im_X3_pairsThatTalk : Cond.instanceMethod yX3_pairsThatTalk ∈ tb := tb_in 514 (by decide +kernel) rfl
theorem se_X3_pairsThatTalk : Cond.selects RX3 yX3_pairsThatTalk yX3_pairsThatTalk ∈ tb := tb_in 515 (by decide +kernel) rfl
theorem co_X3_pairsThatTalk : Cond.code yX3_pairsThatTalk cX3_pairsThatTalk 4 (some .int) ∈ tb := tb_in 516 (by decide +kernel) rfl
theorem lk_RX3_95 : Cond.methodLink RX3 95 yX3_lies ∈ tb := tb_in 517 (by decide +kernel) rfl
theorem im_X3_lies : Cond.instanceMethod yX3_lies ∈ tb := tb_in 518 (by decide +kernel) rfl
theorem se_X3_lies : Cond.selects RX3 yX3_lies yX3_lies ∈ tb := tb_in 519 (by decide +kernel) rfl
theorem co_X3_lies : Cond.code yX3_lies cX3_lies 2 (some .boolean) ∈ tb := tb_in 520 (by decide +kernel) rfl
theorem lk_RX3_98 : Cond.methodLink RX3 98 yX3_areSideBySide ∈ tb := tb_in 521 (by decide +kernel) rfl
theorem sm_X3_areSideBySide : Cond.static yX3_areSideBySide ∈ tb := tb_in 522 (by decide +kernel) rfl
theorem co_X3_areSideBySide : Cond.code yX3_areSideBySide cX3_areSideBySide 2 (some .boolean) ∈ tb := tb_in 523 (by decide +kernel) rfl
theorem lk_RX3_102 : Cond.fieldLinkNest RX3 102 "SkittleGentry" "ROW_OF" "[I" "SkittleGentry" ∈ nws := nw_in 469 (by decide +kernel) rfl
theorem lk_RX3_105 : Cond.methodLink RX3 105 Lib.Math.abs.name ∈ tb := tb_in 526 (by decide +kernel) rfl
theorem sm_J9_abs_0f7a4 : Cond.static Lib.Math.abs.name ∈ tb := tb_in 527 (by decide +kernel) rfl
theorem co_J9_abs_0f7a4 : Cond.code Lib.Math.abs.name Lib.Math.abs.code 1 (some .int) ∈ tb := tb_in 528 (by decide +kernel) rfl
theorem lk_RX3_108 : Cond.fieldLinkNest RX3 108 "SkittleGentry" "COLUMN_OF" "[I" "SkittleGentry" ∈ nws := nw_in 474 (by decide +kernel) rfl
theorem lk_RL_31 : Cond.methodLink RL 31 yX7_skittle ∈ tb := tb_in 531 (by decide +kernel) rfl
theorem im_X7_skittle : Cond.instanceMethod yX7_skittle ∈ tb := tb_in 532 (by decide +kernel) rfl
theorem se_X7_skittle : Cond.selects RX7 yX7_skittle yX7_skittle ∈ tb := tb_in 533 (by decide +kernel) rfl
theorem co_X7_skittle : Cond.code yX7_skittle cX7_skittle 3 (some .int) ∈ tb := tb_in 534 (by decide +kernel) rfl
theorem lk_RX7_130 : Cond.methodLink RX7 130 yX3_has ∈ tb := tb_in 535 (by decide +kernel) rfl
theorem kk_RX7_134 : Cond.constant RX7 134 (-1000000001) ∈ tb := tb_in 536 (by decide +kernel) rfl
theorem lk_RX7_147 : Cond.methodLink RX7 147 yX3_stands ∈ tb := tb_in 537 (by decide +kernel) rfl
theorem lk_RX7_156 : Cond.methodLink RX7 156 yX3_firstTaker ∈ tb := tb_in 538 (by decide +kernel) rfl
theorem im_X3_firstTaker : Cond.instanceMethod yX3_firstTaker ∈ tb := tb_in 539 (by decide +kernel) rfl
theorem se_X3_firstTaker : Cond.selects RX3 yX3_firstTaker yX3_firstTaker ∈ tb := tb_in 540 (by decide +kernel) rfl
theorem co_X3_firstTaker : Cond.code yX3_firstTaker cX3_firstTaker 5 (some .int) ∈ tb := tb_in 541 (by decide +kernel) rfl
theorem lk_RX7_159 : Cond.methodLink RX7 159 yX3_bears ∈ tb := tb_in 542 (by decide +kernel) rfl
theorem lk_RL_36 : Cond.methodLink RL 36 yX7_plate ∈ tb := tb_in 543 (by decide +kernel) rfl
theorem im_X7_plate : Cond.instanceMethod yX7_plate ∈ tb := tb_in 544 (by decide +kernel) rfl
theorem se_X7_plate : Cond.selects RX7 yX7_plate yX7_plate ∈ tb := tb_in 545 (by decide +kernel) rfl
theorem co_X7_plate : Cond.code yX7_plate cX7_plate 2 (some .int) ∈ tb := tb_in 546 (by decide +kernel) rfl
theorem lk_RX7_162 : Cond.methodLink RX7 162 yX7_isPlate ∈ tb := tb_in 547 (by decide +kernel) rfl
theorem sm_X7_isPlate : Cond.static yX7_isPlate ∈ tb := tb_in 548 (by decide +kernel) rfl
theorem co_X7_isPlate : Cond.code yX7_isPlate cX7_isPlate 1 (some .boolean) ∈ tb := tb_in 549 (by decide +kernel) rfl
theorem lk_RL_40 : Cond.methodLink RL 40 yX7_ball ∈ tb := tb_in 550 (by decide +kernel) rfl
theorem im_X7_ball : Cond.instanceMethod yX7_ball ∈ tb := tb_in 551 (by decide +kernel) rfl
theorem se_X7_ball : Cond.selects RX7 yX7_ball yX7_ball ∈ tb := tb_in 552 (by decide +kernel) rfl
theorem co_X7_ball : Cond.code yX7_ball cX7_ball 4 (some .int) ∈ tb := tb_in 553 (by decide +kernel) rfl
theorem lk_RX7_168 : Cond.methodLink RX7 168 yX7_isBall ∈ tb := tb_in 554 (by decide +kernel) rfl
theorem sm_X7_isBall : Cond.static yX7_isBall ∈ tb := tb_in 555 (by decide +kernel) rfl
theorem co_X7_isBall : Cond.code yX7_isBall cX7_isBall 3 (some .boolean) ∈ tb := tb_in 556 (by decide +kernel) rfl
theorem kk_RX7_176 : Cond.constant RX7 176 (-1000000003) ∈ tb := tb_in 557 (by decide +kernel) rfl
theorem lk_RX7_177 : Cond.methodLink RX7 177 yX7_remember ∈ tb := tb_in 558 (by decide +kernel) rfl
theorem im_X7_remember : Cond.instanceMethod yX7_remember ∈ tb := tb_in 560 (by decide +kernel) rfl
theorem co_X7_remember : Cond.code yX7_remember cX7_remember 1 none ∈ tb := tb_in 561 (by decide +kernel) rfl
theorem lk_RX7_271 : Cond.methodLink RX7 271 yX4_push ∈ tb := tb_in 562 (by decide +kernel) rfl
theorem im_X4_push : Cond.instanceMethod yX4_push ∈ tb := tb_in 563 (by decide +kernel) rfl
theorem se_X4_push : Cond.selects RX4 yX4_push yX4_push ∈ tb := tb_in 564 (by decide +kernel) rfl
theorem co_X4_push : Cond.code yX4_push cX4_push 2 none ∈ tb := tb_in 565 (by decide +kernel) rfl
theorem lk_RX4_22 : Cond.methodLink RX4 22 yX3_copy ∈ tb := tb_in 566 (by decide +kernel) rfl
theorem im_X3_copy : Cond.instanceMethod yX3_copy ∈ tb := tb_in 567 (by decide +kernel) rfl
theorem se_X3_copy : Cond.selects RX3 yX3_copy yX3_copy ∈ tb := tb_in 568 (by decide +kernel) rfl
theorem co_X3_copy : Cond.code yX3_copy cX3_copy 2 none ∈ tb := tb_in 569 (by decide +kernel) rfl
theorem lk_RX3_37 : Cond.methodLink RX3 37 arraycopyName ∈ tb := tb_in 570 (by decide +kernel) rfl
theorem sm_arraycopy : Cond.static arraycopyName ∈ tb := tb_in 571 (by decide +kernel) rfl
theorem na_arraycopy : Cond.native arraycopyName ∈ tb := tb_in 572 (by decide +kernel) rfl
theorem lk_RX4_29 : Cond.methodLink RX4 29 Lib.Math.min.name ∈ tb := tb_in 573 (by decide +kernel) rfl
theorem sm_J9_min_7cf53 : Cond.static Lib.Math.min.name ∈ tb := tb_in 574 (by decide +kernel) rfl
theorem co_J9_min_7cf53 : Cond.code Lib.Math.min.name Lib.Math.min.code 2 (some .int) ∈ tb := tb_in 575 (by decide +kernel) rfl
theorem lk_RX7_180 : Cond.methodLink RX7 180 yX7_throwOne ∈ tb := tb_in 576 (by decide +kernel) rfl
theorem im_X7_throwOne : Cond.instanceMethod yX7_throwOne ∈ tb := tb_in 578 (by decide +kernel) rfl
theorem co_X7_throwOne : Cond.code yX7_throwOne cX7_throwOne 5 (some .int) ∈ tb := tb_in 579 (by decide +kernel) rfl
theorem lk_RX7_203 : Cond.methodLink RX7 203 yX5_prepare ∈ tb := tb_in 580 (by decide +kernel) rfl
theorem lk_RX7_281 : Cond.methodLink RX7 281 yX5_clearRocked ∈ tb := tb_in 581 (by decide +kernel) rfl
theorem im_X5_clearRocked : Cond.instanceMethod yX5_clearRocked ∈ tb := tb_in 582 (by decide +kernel) rfl
theorem se_X5_clearRocked : Cond.selects RX5 yX5_clearRocked yX5_clearRocked ∈ tb := tb_in 583 (by decide +kernel) rfl
theorem co_X5_clearRocked : Cond.code yX5_clearRocked cX5_clearRocked 1 none ∈ tb := tb_in 584 (by decide +kernel) rfl
theorem lk_RX5_37 : Cond.methodLink RX5 37 yJ7_fill_53178 ∈ tb := tb_in 585 (by decide +kernel) rfl
theorem sm_J7_fill_53178 : Cond.static yJ7_fill_53178 ∈ tb := tb_in 586 (by decide +kernel) rfl
theorem co_J7_fill_53178 : Cond.code yJ7_fill_53178 cJ7_fill_53178 4 none ∈ tb := tb_in 587 (by decide +kernel) rfl
theorem lk_RX7_206 : Cond.methodLink RX7 206 yX5_send ∈ tb := tb_in 588 (by decide +kernel) rfl
theorem lk_RX7_284 : Cond.methodLink RX7 284 yX3_suffer ∈ tb := tb_in 589 (by decide +kernel) rfl
theorem im_X3_suffer : Cond.instanceMethod yX3_suffer ∈ tb := tb_in 590 (by decide +kernel) rfl
theorem se_X3_suffer : Cond.selects RX3 yX3_suffer yX3_suffer ∈ tb := tb_in 591 (by decide +kernel) rfl
theorem co_X3_suffer : Cond.code yX3_suffer cX3_suffer 4 none ∈ tb := tb_in 592 (by decide +kernel) rfl
theorem lk_RX3_85 : Cond.methodLink RX3 85 Lib.Math.min.name ∈ tb := tb_in 593 (by decide +kernel) rfl
theorem lk_RX3_89 : Cond.methodLink RX3 89 yJ6_bitCount_0f7a4 ∈ tb := tb_in 594 (by decide +kernel) rfl
theorem lk_RL_45 : Cond.methodLink RL 45 yX7_setUp ∈ tb := tb_in 595 (by decide +kernel) rfl
theorem im_X7_setUp : Cond.instanceMethod yX7_setUp ∈ tb := tb_in 596 (by decide +kernel) rfl
theorem se_X7_setUp : Cond.selects RX7 yX7_setUp yX7_setUp ∈ tb := tb_in 597 (by decide +kernel) rfl
theorem co_X7_setUp : Cond.code yX7_setUp cX7_setUp 2 (some .int) ∈ tb := tb_in 598 (by decide +kernel) rfl
theorem lk_RX7_184 : Cond.methodLink RX7 184 yJ6_bitCount_0f7a4 ∈ tb := tb_in 599 (by decide +kernel) rfl
theorem lk_RX7_189 : Cond.methodLink RX7 189 yX3_standAll ∈ tb := tb_in 600 (by decide +kernel) rfl
theorem lk_RL_49 : Cond.methodLink RL 49 yX7_lift ∈ tb := tb_in 601 (by decide +kernel) rfl
theorem im_X7_lift : Cond.instanceMethod yX7_lift ∈ tb := tb_in 602 (by decide +kernel) rfl
theorem se_X7_lift : Cond.selects RX7 yX7_lift yX7_lift ∈ tb := tb_in 603 (by decide +kernel) rfl
theorem co_X7_lift : Cond.code yX7_lift cX7_lift 2 (some .int) ∈ tb := tb_in 604 (by decide +kernel) rfl
theorem lk_RL_53 : Cond.methodLink RL 53 yX7_change ∈ tb := tb_in 605 (by decide +kernel) rfl
theorem im_X7_change : Cond.instanceMethod yX7_change ∈ tb := tb_in 606 (by decide +kernel) rfl
theorem se_X7_change : Cond.selects RX7 yX7_change yX7_change ∈ tb := tb_in 607 (by decide +kernel) rfl
theorem co_X7_change : Cond.code yX7_change cX7_change 3 (some .int) ∈ tb := tb_in 608 (by decide +kernel) rfl
theorem lk_RX7_192 : Cond.methodLink RX7 192 yX3_swap ∈ tb := tb_in 609 (by decide +kernel) rfl
theorem im_X3_swap : Cond.instanceMethod yX3_swap ∈ tb := tb_in 610 (by decide +kernel) rfl
theorem se_X3_swap : Cond.selects RX3 yX3_swap yX3_swap ∈ tb := tb_in 611 (by decide +kernel) rfl
theorem co_X3_swap : Cond.code yX3_swap cX3_swap 5 none ∈ tb := tb_in 612 (by decide +kernel) rfl
theorem lk_RX3_75 : Cond.methodLinkNest RX3 75 yX7_isPlate "SkittleGentry" ∈ nws := nw_in 558 (by decide +kernel) rfl
theorem lk_RX3_78 : Cond.methodLink RX3 78 yX3_put ∈ tb := tb_in 614 (by decide +kernel) rfl
theorem im_X3_put : Cond.instanceMethod yX3_put ∈ tb := tb_in 616 (by decide +kernel) rfl
theorem co_X3_put : Cond.code yX3_put cX3_put 3 none ∈ tb := tb_in 617 (by decide +kernel) rfl
theorem lk_RL_57 : Cond.methodLink RL 57 yX7_chip ∈ tb := tb_in 618 (by decide +kernel) rfl
theorem im_X7_chip : Cond.instanceMethod yX7_chip ∈ tb := tb_in 619 (by decide +kernel) rfl
theorem se_X7_chip : Cond.selects RX7 yX7_chip yX7_chip ∈ tb := tb_in 620 (by decide +kernel) rfl
theorem co_X7_chip : Cond.code yX7_chip cX7_chip 4 (some .int) ∈ tb := tb_in 621 (by decide +kernel) rfl
theorem lk_RL_61 : Cond.methodLink RL 61 yX7_replace ∈ tb := tb_in 622 (by decide +kernel) rfl
theorem im_X7_replace : Cond.instanceMethod yX7_replace ∈ tb := tb_in 623 (by decide +kernel) rfl
theorem se_X7_replace : Cond.selects RX7 yX7_replace yX7_replace ∈ tb := tb_in 624 (by decide +kernel) rfl
theorem co_X7_replace : Cond.code yX7_replace cX7_replace 3 (some .int) ∈ tb := tb_in 625 (by decide +kernel) rfl
theorem lk_RL_65 : Cond.methodLink RL 65 yX7_drift ∈ tb := tb_in 626 (by decide +kernel) rfl
theorem im_X7_drift : Cond.instanceMethod yX7_drift ∈ tb := tb_in 627 (by decide +kernel) rfl
theorem se_X7_drift : Cond.selects RX7 yX7_drift yX7_drift ∈ tb := tb_in 628 (by decide +kernel) rfl
theorem co_X7_drift : Cond.code yX7_drift cX7_drift 3 (some .int) ∈ tb := tb_in 629 (by decide +kernel) rfl
theorem lk_RX7_196 : Cond.methodLink RX7 196 yX7_driftOnce ∈ tb := tb_in 630 (by decide +kernel) rfl
theorem im_X7_driftOnce : Cond.instanceMethod yX7_driftOnce ∈ tb := tb_in 632 (by decide +kernel) rfl
theorem co_X7_driftOnce : Cond.code yX7_driftOnce cX7_driftOnce 5 none ∈ tb := tb_in 633 (by decide +kernel) rfl
theorem lk_RX7_288 : Cond.methodLink RX7 288 yX7_draw ∈ tb := tb_in 634 (by decide +kernel) rfl
theorem im_X7_draw : Cond.instanceMethod yX7_draw ∈ tb := tb_in 636 (by decide +kernel) rfl
theorem co_X7_draw : Cond.code yX7_draw cX7_draw 2 (some .int) ∈ tb := tb_in 637 (by decide +kernel) rfl
theorem kk_RX7_291 : Cond.constantLong RX7 291 (1103515245) ∈ tb := tb_in 638 (by decide +kernel) rfl
theorem kk_RX7_293 : Cond.constantLong RX7 293 (12345) ∈ tb := tb_in 639 (by decide +kernel) rfl
theorem kk_RX7_295 : Cond.constantLong RX7 295 (2147483647) ∈ tb := tb_in 640 (by decide +kernel) rfl
theorem kk_RX7_297 : Cond.constant RX7 297 (65536) ∈ tb := tb_in 641 (by decide +kernel) rfl
theorem lk_RL_69 : Cond.methodLink RL 69 yX7_undo ∈ tb := tb_in 642 (by decide +kernel) rfl
theorem im_X7_undo : Cond.instanceMethod yX7_undo ∈ tb := tb_in 643 (by decide +kernel) rfl
theorem se_X7_undo : Cond.selects RX7 yX7_undo yX7_undo ∈ tb := tb_in 644 (by decide +kernel) rfl
theorem co_X7_undo : Cond.code yX7_undo cX7_undo 1 (some .int) ∈ tb := tb_in 645 (by decide +kernel) rfl
theorem lk_RX7_199 : Cond.methodLink RX7 199 yX4_restore ∈ tb := tb_in 646 (by decide +kernel) rfl
theorem im_X4_restore : Cond.instanceMethod yX4_restore ∈ tb := tb_in 647 (by decide +kernel) rfl
theorem se_X4_restore : Cond.selects RX4 yX4_restore yX4_restore ∈ tb := tb_in 648 (by decide +kernel) rfl
theorem co_X4_restore : Cond.code yX4_restore cX4_restore 2 none ∈ tb := tb_in 649 (by decide +kernel) rfl
theorem lk_RL_73 : Cond.methodLink RL 73 yX7_wouldFall ∈ tb := tb_in 650 (by decide +kernel) rfl
theorem im_X7_wouldFall : Cond.instanceMethod yX7_wouldFall ∈ tb := tb_in 651 (by decide +kernel) rfl
theorem se_X7_wouldFall : Cond.selects RX7 yX7_wouldFall yX7_wouldFall ∈ tb := tb_in 652 (by decide +kernel) rfl
theorem co_X7_wouldFall : Cond.code yX7_wouldFall cX7_wouldFall 6 (some .int) ∈ tb := tb_in 653 (by decide +kernel) rfl
theorem lk_RL_78 : Cond.methodLink RL 78 yX7_balls ∈ tb := tb_in 654 (by decide +kernel) rfl
theorem im_X7_balls : Cond.instanceMethod yX7_balls ∈ tb := tb_in 655 (by decide +kernel) rfl
theorem se_X7_balls : Cond.selects RX7 yX7_balls yX7_balls ∈ tb := tb_in 656 (by decide +kernel) rfl
theorem co_X7_balls : Cond.code yX7_balls cX7_balls 3 (some .int) ∈ tb := tb_in 657 (by decide +kernel) rfl
theorem lk_RX7_216 : Cond.methodLink RX7 216 yX3_hasAll ∈ tb := tb_in 658 (by decide +kernel) rfl
theorem im_X3_hasAll : Cond.instanceMethod yX3_hasAll ∈ tb := tb_in 659 (by decide +kernel) rfl
theorem se_X3_hasAll : Cond.selects RX3 yX3_hasAll yX3_hasAll ∈ tb := tb_in 660 (by decide +kernel) rfl
theorem co_X3_hasAll : Cond.code yX3_hasAll cX3_hasAll 2 (some .boolean) ∈ tb := tb_in 661 (by decide +kernel) rfl
theorem lk_RX7_226 : Cond.methodLink RX7 226 yX6_firstOf ∈ tb := tb_in 662 (by decide +kernel) rfl
theorem im_X6_firstOf : Cond.instanceMethod yX6_firstOf ∈ tb := tb_in 663 (by decide +kernel) rfl
theorem se_X6_firstOf : Cond.selects RX6 yX6_firstOf yX6_firstOf ∈ tb := tb_in 664 (by decide +kernel) rfl
theorem co_X6_firstOf : Cond.code yX6_firstOf cX6_firstOf 3 (some .int) ∈ tb := tb_in 665 (by decide +kernel) rfl
theorem lk_RL_82 : Cond.methodLink RL 82 yX7_spare ∈ tb := tb_in 666 (by decide +kernel) rfl
theorem im_X7_spare : Cond.instanceMethod yX7_spare ∈ tb := tb_in 667 (by decide +kernel) rfl
theorem se_X7_spare : Cond.selects RX7 yX7_spare yX7_spare ∈ tb := tb_in 668 (by decide +kernel) rfl
theorem co_X7_spare : Cond.code yX7_spare cX7_spare 3 (some .int) ∈ tb := tb_in 669 (by decide +kernel) rfl
theorem lk_RX7_232 : Cond.methodLink RX7 232 yX6_gentlest ∈ tb := tb_in 670 (by decide +kernel) rfl
theorem im_X6_gentlest : Cond.instanceMethod yX6_gentlest ∈ tb := tb_in 671 (by decide +kernel) rfl
theorem se_X6_gentlest : Cond.selects RX6 yX6_gentlest yX6_gentlest ∈ tb := tb_in 672 (by decide +kernel) rfl
theorem co_X6_gentlest : Cond.code yX6_gentlest cX6_gentlest 6 (some .int) ∈ tb := tb_in 673 (by decide +kernel) rfl
theorem lk_RL_86 : Cond.methodLink RL 86 yX7_allDown ∈ tb := tb_in 674 (by decide +kernel) rfl
theorem im_X7_allDown : Cond.instanceMethod yX7_allDown ∈ tb := tb_in 675 (by decide +kernel) rfl
theorem se_X7_allDown : Cond.selects RX7 yX7_allDown yX7_allDown ∈ tb := tb_in 676 (by decide +kernel) rfl
theorem co_X7_allDown : Cond.code yX7_allDown cX7_allDown 2 (some .int) ∈ tb := tb_in 677 (by decide +kernel) rfl
theorem lk_RX7_236 : Cond.methodLink RX7 236 yX0_run ∈ tb := tb_in 678 (by decide +kernel) rfl
theorem im_X0_run : Cond.instanceMethod yX0_run ∈ tb := tb_in 679 (by decide +kernel) rfl
theorem se_X0_run : Cond.selects RX0 yX0_run yX0_run ∈ tb := tb_in 680 (by decide +kernel) rfl
theorem co_X0_run : Cond.code yX0_run cX0_run 4 none ∈ tb := tb_in 681 (by decide +kernel) rfl
theorem lk_RX0_25 : Cond.methodLink RX0 25 yX5_prepare ∈ tb := tb_in 682 (by decide +kernel) rfl
theorem lk_RX0_31 : Cond.methodLink RX0 31 yJ7_fill_53178 ∈ tb := tb_in 683 (by decide +kernel) rfl
theorem lk_RX0_46 : Cond.methodLink RX0 46 yX0_reach ∈ tb := tb_in 684 (by decide +kernel) rfl
theorem im_X0_reach : Cond.instanceMethod yX0_reach ∈ tb := tb_in 686 (by decide +kernel) rfl
theorem co_X0_reach : Cond.code yX0_reach cX0_reach 4 none ∈ tb := tb_in 687 (by decide +kernel) rfl
theorem lk_RX0_50 : Cond.methodLink RX0 50 yX0_goOn ∈ tb := tb_in 688 (by decide +kernel) rfl
theorem im_X0_goOn : Cond.instanceMethod yX0_goOn ∈ tb := tb_in 690 (by decide +kernel) rfl
theorem co_X0_goOn : Cond.code yX0_goOn cX0_goOn 9 none ∈ tb := tb_in 691 (by decide +kernel) rfl
theorem lk_RX0_60 : Cond.methodLink RX0 60 yX5_leastPace ∈ tb := tb_in 692 (by decide +kernel) rfl
theorem lk_RX0_64 : Cond.methodLink RX0 64 yX5_send ∈ tb := tb_in 693 (by decide +kernel) rfl
theorem lk_RL_90 : Cond.methodLink RL 90 yX7_mend ∈ tb := tb_in 694 (by decide +kernel) rfl
theorem im_X7_mend : Cond.instanceMethod yX7_mend ∈ tb := tb_in 695 (by decide +kernel) rfl
theorem se_X7_mend : Cond.selects RX7 yX7_mend yX7_mend ∈ tb := tb_in 696 (by decide +kernel) rfl
theorem co_X7_mend : Cond.code yX7_mend cX7_mend 10 (some .int) ∈ tb := tb_in 697 (by decide +kernel) rfl
theorem lk_RX7_245 : Cond.methodLink RX7 245 yX3_copy ∈ tb := tb_in 698 (by decide +kernel) rfl
theorem lk_RX7_248 : Cond.methodLink RX7 248 yX7_fallsIfSwapped ∈ tb := tb_in 699 (by decide +kernel) rfl
theorem im_X7_fallsIfSwapped : Cond.instanceMethod yX7_fallsIfSwapped ∈ tb := tb_in 701 (by decide +kernel) rfl
theorem co_X7_fallsIfSwapped : Cond.code yX7_fallsIfSwapped cX7_fallsIfSwapped 7 (some .int) ∈ tb := tb_in 702 (by decide +kernel) rfl
theorem lk_RL_94 : Cond.methodLink RL 94 yX7_hand ∈ tb := tb_in 703 (by decide +kernel) rfl
theorem im_X7_hand : Cond.instanceMethod yX7_hand ∈ tb := tb_in 704 (by decide +kernel) rfl
theorem se_X7_hand : Cond.selects RX7 yX7_hand yX7_hand ∈ tb := tb_in 705 (by decide +kernel) rfl
theorem co_X7_hand : Cond.code yX7_hand cX7_hand 2 (some .int) ∈ tb := tb_in 706 (by decide +kernel) rfl
theorem lk_RX7_252 : Cond.methodLink RX7 252 yX6_linesOf ∈ tb := tb_in 707 (by decide +kernel) rfl
theorem im_X6_linesOf : Cond.instanceMethod yX6_linesOf ∈ tb := tb_in 708 (by decide +kernel) rfl
theorem se_X6_linesOf : Cond.selects RX6 yX6_linesOf yX6_linesOf ∈ tb := tb_in 709 (by decide +kernel) rfl
theorem co_X6_linesOf : Cond.code yX6_linesOf cX6_linesOf 4 (some .int) ∈ tb := tb_in 710 (by decide +kernel) rfl
theorem lk_RL_98 : Cond.methodLink RL 98 yX7_ask ∈ tb := tb_in 711 (by decide +kernel) rfl
theorem im_X7_ask : Cond.instanceMethod yX7_ask ∈ tb := tb_in 712 (by decide +kernel) rfl
theorem se_X7_ask : Cond.selects RX7 yX7_ask yX7_ask ∈ tb := tb_in 713 (by decide +kernel) rfl
theorem co_X7_ask : Cond.code yX7_ask cX7_ask 2 (some .int) ∈ tb := tb_in 714 (by decide +kernel) rfl
theorem lk_RX7_255 : Cond.methodLink RX7 255 yX6_bestToAsk ∈ tb := tb_in 715 (by decide +kernel) rfl
theorem im_X6_bestToAsk : Cond.instanceMethod yX6_bestToAsk ∈ tb := tb_in 716 (by decide +kernel) rfl
theorem se_X6_bestToAsk : Cond.selects RX6 yX6_bestToAsk yX6_bestToAsk ∈ tb := tb_in 717 (by decide +kernel) rfl
theorem co_X6_bestToAsk : Cond.code yX6_bestToAsk cX6_bestToAsk 8 (some .int) ∈ tb := tb_in 718 (by decide +kernel) rfl
theorem lk_RL_102 : Cond.methodLink RL 102 yX7_calm ∈ tb := tb_in 719 (by decide +kernel) rfl
theorem im_X7_calm : Cond.instanceMethod yX7_calm ∈ tb := tb_in 720 (by decide +kernel) rfl
theorem se_X7_calm : Cond.selects RX7 yX7_calm yX7_calm ∈ tb := tb_in 721 (by decide +kernel) rfl
theorem co_X7_calm : Cond.code yX7_calm cX7_calm 6 (some .int) ∈ tb := tb_in 722 (by decide +kernel) rfl
theorem kk_RX7_258 : Cond.constantLong RX7 258 (1000000000) ∈ tb := tb_in 723 (by decide +kernel) rfl
theorem kk_RX7_260 : Cond.constantLong RX7 260 (100) ∈ tb := tb_in 724 (by decide +kernel) rfl
theorem lk_RL_106 : Cond.methodLink RL 106 yX7_write ∈ tb := tb_in 725 (by decide +kernel) rfl
theorem im_X7_write : Cond.instanceMethod yX7_write ∈ tb := tb_in 726 (by decide +kernel) rfl
theorem se_X7_write : Cond.selects RX7 yX7_write yX7_write ∈ tb := tb_in 727 (by decide +kernel) rfl
theorem co_X7_write : Cond.code yX7_write cX7_write 3 (some .int) ∈ tb := tb_in 728 (by decide +kernel) rfl
theorem lk_RX7_262 : Cond.methodLink RX7 262 yX1_append ∈ tb := tb_in 729 (by decide +kernel) rfl
theorem im_X1_append : Cond.instanceMethod yX1_append ∈ tb := tb_in 730 (by decide +kernel) rfl
theorem se_X1_append : Cond.selects RX1 yX1_append yX1_append ∈ tb := tb_in 731 (by decide +kernel) rfl
theorem co_X1_append : Cond.code yX1_append cX1_append 3 (some .int) ∈ tb := tb_in 732 (by decide +kernel) rfl
theorem kk_RX1_23 : Cond.constant RX1 23 (-1000000004) ∈ tb := tb_in 733 (by decide +kernel) rfl
theorem lk_RL_111 : Cond.methodLink RL 111 yX7_tear ∈ tb := tb_in 734 (by decide +kernel) rfl
theorem im_X7_tear : Cond.instanceMethod yX7_tear ∈ tb := tb_in 735 (by decide +kernel) rfl
theorem se_X7_tear : Cond.selects RX7 yX7_tear yX7_tear ∈ tb := tb_in 736 (by decide +kernel) rfl
theorem co_X7_tear : Cond.code yX7_tear cX7_tear 2 (some .int) ∈ tb := tb_in 737 (by decide +kernel) rfl
theorem lk_RL_115 : Cond.methodLink RL 115 yX7_judge ∈ tb := tb_in 738 (by decide +kernel) rfl
theorem im_X7_judge : Cond.instanceMethod yX7_judge ∈ tb := tb_in 739 (by decide +kernel) rfl
theorem se_X7_judge : Cond.selects RX7 yX7_judge yX7_judge ∈ tb := tb_in 740 (by decide +kernel) rfl
theorem co_X7_judge : Cond.code yX7_judge cX7_judge 1 (some .int) ∈ tb := tb_in 741 (by decide +kernel) rfl
theorem lk_RX7_265 : Cond.methodLink RX7 265 yX1_firstWrong ∈ tb := tb_in 742 (by decide +kernel) rfl
theorem im_X1_firstWrong : Cond.instanceMethod yX1_firstWrong ∈ tb := tb_in 743 (by decide +kernel) rfl
theorem se_X1_firstWrong : Cond.selects RX1 yX1_firstWrong yX1_firstWrong ∈ tb := tb_in 744 (by decide +kernel) rfl
theorem co_X1_firstWrong : Cond.code yX1_firstWrong cX1_firstWrong 4 (some .int) ∈ tb := tb_in 745 (by decide +kernel) rfl
theorem lk_RL_119 : Cond.methodLink RL 119 yX7_seed ∈ tb := tb_in 746 (by decide +kernel) rfl
theorem im_X7_seed : Cond.instanceMethod yX7_seed ∈ tb := tb_in 747 (by decide +kernel) rfl
theorem se_X7_seed : Cond.selects RX7 yX7_seed yX7_seed ∈ tb := tb_in 748 (by decide +kernel) rfl
theorem co_X7_seed : Cond.code yX7_seed cX7_seed 3 (some .int) ∈ tb := tb_in 749 (by decide +kernel) rfl
theorem lk_RL_123 : Cond.methodLink RL 123 yX7_keep ∈ tb := tb_in 750 (by decide +kernel) rfl
theorem im_X7_keep : Cond.instanceMethod yX7_keep ∈ tb := tb_in 751 (by decide +kernel) rfl
theorem se_X7_keep : Cond.selects RX7 yX7_keep yX7_keep ∈ tb := tb_in 752 (by decide +kernel) rfl
theorem co_X7_keep : Cond.code yX7_keep cX7_keep 2 (some .int) ∈ tb := tb_in 753 (by decide +kernel) rfl
theorem lk_RL_127 : Cond.methodLink RL 127 yX7_goBack ∈ tb := tb_in 754 (by decide +kernel) rfl
theorem im_X7_goBack : Cond.instanceMethod yX7_goBack ∈ tb := tb_in 755 (by decide +kernel) rfl
theorem se_X7_goBack : Cond.selects RX7 yX7_goBack yX7_goBack ∈ tb := tb_in 756 (by decide +kernel) rfl
theorem co_X7_goBack : Cond.code yX7_goBack cX7_goBack 2 (some .int) ∈ tb := tb_in 757 (by decide +kernel) rfl
theorem cl_RL_10 : Cond.classLink RL 10 RX8 ∈ tb := tb_in 758 (by decide +kernel) rfl
theorem is_RX8 : Cond.instantiable RX8 35 ∈ tb := tb_in 759 (by decide +kernel) rfl
theorem lk_RL_12 : Cond.methodLink RL 12 yX8_init ∈ tb := tb_in 760 (by decide +kernel) rfl
theorem im_X8_init : Cond.instanceMethod yX8_init ∈ tb := tb_in 761 (by decide +kernel) rfl
theorem co_X8_init : Cond.code yX8_init cX8_init 2 none ∈ tb := tb_in 762 (by decide +kernel) rfl
theorem lk_RX8_1 : Cond.methodLink RX8 1 objectInit ∈ tb := tb_in 763 (by decide +kernel) rfl
theorem lk_RX8_72 : Cond.fieldLink RX8 72 "SkittleGentryModel" "thrown" "I" ∈ tb := tb_in 764 (by decide +kernel) rfl
theorem lk_RX8_7 : Cond.fieldLink RX8 7 "SkittleGentryModel" "text" "[I" ∈ tb := tb_in 765 (by decide +kernel) rfl
theorem lk_RX8_80 : Cond.fieldLink RX8 80 "SkittleGentryModel" "typed" "I" ∈ tb := tb_in 766 (by decide +kernel) rfl
theorem lk_RX8_84 : Cond.fieldLink RX8 84 "SkittleGentryModel" "at" "I" ∈ tb := tb_in 767 (by decide +kernel) rfl
theorem lk_RX8_91 : Cond.fieldLink RX8 91 "SkittleGentryModel" "kindOfFault" "I" ∈ tb := tb_in 768 (by decide +kernel) rfl
theorem lk_RX8_98 : Cond.fieldLink RX8 98 "SkittleGentryModel" "place" "I" ∈ tb := tb_in 769 (by decide +kernel) rfl
theorem lk_RX8_68 : Cond.fieldLink RX8 68 "SkittleGentryModel" "faultAt" "I" ∈ tb := tb_in 770 (by decide +kernel) rfl
theorem lk_RX8_133 : Cond.fieldLink RX8 133 "SkittleGentryModel" "isCounty" "Z" ∈ tb := tb_in 771 (by decide +kernel) rfl
theorem lk_RX8_137 : Cond.fieldLink RX8 137 "SkittleGentryModel" "floor" "I" ∈ tb := tb_in 772 (by decide +kernel) rfl
theorem lk_RX8_130 : Cond.fieldLink RX8 130 "SkittleGentryModel" "many" "I" ∈ tb := tb_in 773 (by decide +kernel) rfl
theorem lk_RX8_115 : Cond.fieldLink RX8 115 "SkittleGentryModel" "floorTold" "I" ∈ tb := tb_in 774 (by decide +kernel) rfl
theorem lk_RX8_108 : Cond.fieldLink RX8 108 "SkittleGentryModel" "manyTold" "I" ∈ tb := tb_in 775 (by decide +kernel) rfl
theorem lk_RX8_13 : Cond.fieldLink RX8 13 "SkittleGentryModel" "draft" "[I" ∈ tb := tb_in 776 (by decide +kernel) rfl
theorem lk_RX8_16 : Cond.fieldLink RX8 16 "SkittleGentryModel" "weight" "[I" ∈ tb := tb_in 777 (by decide +kernel) rfl
theorem lk_RX8_19 : Cond.fieldLink RX8 19 "SkittleGentryModel" "s" "[I" ∈ tb := tb_in 778 (by decide +kernel) rfl
theorem lk_RX8_22 : Cond.fieldLink RX8 22 "SkittleGentryModel" "kept" "[I" ∈ tb := tb_in 779 (by decide +kernel) rfl
theorem lk_RX8_25 : Cond.fieldLink RX8 25 "SkittleGentryModel" "isKept" "[Z" ∈ tb := tb_in 780 (by decide +kernel) rfl
theorem lk_RX8_29 : Cond.fieldLink RX8 29 "SkittleGentryModel" "undos" "[I" ∈ tb := tb_in 781 (by decide +kernel) rfl
theorem lk_RX8_143 : Cond.fieldLink RX8 143 "SkittleGentryModel" "undoMany" "I" ∈ tb := tb_in 782 (by decide +kernel) rfl
theorem lk_RX8_32 : Cond.fieldLink RX8 32 "SkittleGentryModel" "bookOf" "[I" ∈ tb := tb_in 783 (by decide +kernel) rfl
theorem lk_RX8_35 : Cond.fieldLink RX8 35 "SkittleGentryModel" "book" "[Z" ∈ tb := tb_in 784 (by decide +kernel) rfl
theorem lk_RX8_140 : Cond.fieldLink RX8 140 "SkittleGentryModel" "bookMany" "I" ∈ tb := tb_in 785 (by decide +kernel) rfl
theorem lk_RX8_38 : Cond.fieldLink RX8 38 "SkittleGentryModel" "on" "[I" ∈ tb := tb_in 786 (by decide +kernel) rfl
theorem lk_RX8_41 : Cond.fieldLink RX8 41 "SkittleGentryModel" "bear" "[I" ∈ tb := tb_in 787 (by decide +kernel) rfl
theorem lk_RX8_44 : Cond.fieldLink RX8 44 "SkittleGentryModel" "rocks" "[I" ∈ tb := tb_in 788 (by decide +kernel) rfl
theorem lk_RX8_47 : Cond.fieldLink RX8 47 "SkittleGentryModel" "taker" "[I" ∈ tb := tb_in 789 (by decide +kernel) rfl
theorem lk_RX8_158 : Cond.fieldLink RX8 158 "SkittleGentryModel" "up" "I" ∈ tb := tb_in 790 (by decide +kernel) rfl
theorem lk_RX8_155 : Cond.fieldLink RX8 155 "SkittleGentryModel" "rockMany" "I" ∈ tb := tb_in 791 (by decide +kernel) rfl
theorem lk_RX8_178 : Cond.fieldLink RX8 178 "SkittleGentryModel" "stays" "I" ∈ tb := tb_in 792 (by decide +kernel) rfl
theorem lk_RX8_50 : Cond.fieldLink RX8 50 "SkittleGentryModel" "striker" "[I" ∈ tb := tb_in 793 (by decide +kernel) rfl
theorem lk_RX8_53 : Cond.fieldLink RX8 53 "SkittleGentryModel" "strength" "[I" ∈ tb := tb_in 794 (by decide +kernel) rfl
theorem lk_RX8_56 : Cond.fieldLink RX8 56 "SkittleGentryModel" "side" "[I" ∈ tb := tb_in 795 (by decide +kernel) rfl
theorem lk_RX8_59 : Cond.fieldLink RX8 59 "SkittleGentryModel" "far" "[I" ∈ tb := tb_in 796 (by decide +kernel) rfl
theorem lk_RX8_62 : Cond.fieldLink RX8 62 "SkittleGentryModel" "firstBy" "[I" ∈ tb := tb_in 797 (by decide +kernel) rfl
theorem lk_RX8_65 : Cond.fieldLink RX8 65 "SkittleGentryModel" "queue" "[I" ∈ tb := tb_in 798 (by decide +kernel) rfl
theorem lk_RL_17 : Cond.methodLink RL 17 yX8_feed ∈ tb := tb_in 870 (by decide +kernel) rfl
theorem im_X8_feed : Cond.instanceMethod yX8_feed ∈ tb := tb_in 871 (by decide +kernel) rfl
theorem se_X8_feed : Cond.selects RX8 yX8_feed yX8_feed ∈ tb := tb_in 872 (by decide +kernel) rfl
theorem co_X8_feed : Cond.code yX8_feed cX8_feed 2 (some .int) ∈ tb := tb_in 873 (by decide +kernel) rfl
theorem lk_RX8_75 : Cond.methodLink RX8 75 yX8_in ∈ tb := tb_in 874 (by decide +kernel) rfl
theorem sm_X8_in : Cond.static yX8_in ∈ tb := tb_in 875 (by decide +kernel) rfl
theorem co_X8_in : Cond.code yX8_in cX8_in 3 (some .boolean) ∈ tb := tb_in 876 (by decide +kernel) rfl
theorem kk_RX8_79 : Cond.constant RX8 79 (-1000000002) ∈ tb := tb_in 877 (by decide +kernel) rfl
theorem kk_RX8_83 : Cond.constant RX8 83 (-1000000004) ∈ tb := tb_in 878 (by decide +kernel) rfl
theorem lk_RL_22 : Cond.methodLink RL 22 yX8_county ∈ tb := tb_in 879 (by decide +kernel) rfl
theorem im_X8_county : Cond.instanceMethod yX8_county ∈ tb := tb_in 880 (by decide +kernel) rfl
theorem se_X8_county : Cond.selects RX8 yX8_county yX8_county ∈ tb := tb_in 881 (by decide +kernel) rfl
theorem co_X8_county : Cond.code yX8_county cX8_county 1 (some .int) ∈ tb := tb_in 882 (by decide +kernel) rfl
theorem lk_RX8_124 : Cond.methodLink RX8 124 yX8_reads ∈ tb := tb_in 883 (by decide +kernel) rfl
theorem im_X8_reads : Cond.instanceMethod yX8_reads ∈ tb := tb_in 885 (by decide +kernel) rfl
theorem co_X8_reads : Cond.code yX8_reads cX8_reads 4 none ∈ tb := tb_in 886 (by decide +kernel) rfl
theorem lk_RX8_101 : Cond.methodLink RX8 101 yX8_blanks ∈ tb := tb_in 887 (by decide +kernel) rfl
theorem im_X8_blanks : Cond.instanceMethod yX8_blanks ∈ tb := tb_in 889 (by decide +kernel) rfl
theorem co_X8_blanks : Cond.code yX8_blanks cX8_blanks 1 none ∈ tb := tb_in 890 (by decide +kernel) rfl
theorem lk_RX8_87 : Cond.methodLink RX8 87 yX8_letterAt ∈ tb := tb_in 891 (by decide +kernel) rfl
theorem im_X8_letterAt : Cond.instanceMethod yX8_letterAt ∈ tb := tb_in 893 (by decide +kernel) rfl
theorem co_X8_letterAt : Cond.code yX8_letterAt cX8_letterAt 2 (some .int) ∈ tb := tb_in 894 (by decide +kernel) rfl
theorem lk_RX8_94 : Cond.methodLink RX8 94 yX8_isWell ∈ tb := tb_in 895 (by decide +kernel) rfl
theorem im_X8_isWell : Cond.instanceMethod yX8_isWell ∈ tb := tb_in 897 (by decide +kernel) rfl
theorem co_X8_isWell : Cond.code yX8_isWell cX8_isWell 1 (some .boolean) ∈ tb := tb_in 898 (by decide +kernel) rfl
theorem lk_RX8_104 : Cond.methodLink RX8 104 yX8_faulty ∈ tb := tb_in 899 (by decide +kernel) rfl
theorem im_X8_faulty : Cond.instanceMethod yX8_faulty ∈ tb := tb_in 901 (by decide +kernel) rfl
theorem co_X8_faulty : Cond.code yX8_faulty cX8_faulty 3 none ∈ tb := tb_in 902 (by decide +kernel) rfl
theorem lk_RX8_111 : Cond.methodLink RX8 111 yX8_due ∈ tb := tb_in 903 (by decide +kernel) rfl
theorem im_X8_due : Cond.instanceMethod yX8_due ∈ tb := tb_in 905 (by decide +kernel) rfl
theorem co_X8_due : Cond.code yX8_due cX8_due 5 (some .int) ∈ tb := tb_in 906 (by decide +kernel) rfl
theorem lk_RX8_118 : Cond.methodLink RX8 118 yX8_tells ∈ tb := tb_in 907 (by decide +kernel) rfl
theorem im_X8_tells : Cond.instanceMethod yX8_tells ∈ tb := tb_in 909 (by decide +kernel) rfl
theorem co_X8_tells : Cond.code yX8_tells cX8_tells 2 none ∈ tb := tb_in 910 (by decide +kernel) rfl
theorem lk_RX8_121 : Cond.methodLink RX8 121 yX8_ends ∈ tb := tb_in 911 (by decide +kernel) rfl
theorem im_X8_ends : Cond.instanceMethod yX8_ends ∈ tb := tb_in 913 (by decide +kernel) rfl
theorem co_X8_ends : Cond.code yX8_ends cX8_ends 1 none ∈ tb := tb_in 914 (by decide +kernel) rfl
theorem lk_RX8_127 : Cond.methodLink RX8 127 yX8_settles ∈ tb := tb_in 915 (by decide +kernel) rfl
theorem im_X8_settles : Cond.instanceMethod yX8_settles ∈ tb := tb_in 917 (by decide +kernel) rfl
theorem co_X8_settles : Cond.code yX8_settles cX8_settles 3 none ∈ tb := tb_in 918 (by decide +kernel) rfl
theorem lk_RL_26 : Cond.methodLink RL 26 yX8_fault ∈ tb := tb_in 919 (by decide +kernel) rfl
theorem im_X8_fault : Cond.instanceMethod yX8_fault ∈ tb := tb_in 920 (by decide +kernel) rfl
theorem se_X8_fault : Cond.selects RX8 yX8_fault yX8_fault ∈ tb := tb_in 921 (by decide +kernel) rfl
theorem co_X8_fault : Cond.code yX8_fault cX8_fault 1 (some .int) ∈ tb := tb_in 922 (by decide +kernel) rfl
theorem lk_RL_30 : Cond.methodLink RL 30 yX8_told ∈ tb := tb_in 923 (by decide +kernel) rfl
theorem im_X8_told : Cond.instanceMethod yX8_told ∈ tb := tb_in 924 (by decide +kernel) rfl
theorem se_X8_told : Cond.selects RX8 yX8_told yX8_told ∈ tb := tb_in 925 (by decide +kernel) rfl
theorem co_X8_told : Cond.code yX8_told cX8_told 2 (some .int) ∈ tb := tb_in 926 (by decide +kernel) rfl
theorem lk_RX8_203 : Cond.methodLink RX8 203 yX8_worst ∈ tb := tb_in 927 (by decide +kernel) rfl
theorem im_X8_worst : Cond.instanceMethod yX8_worst ∈ tb := tb_in 929 (by decide +kernel) rfl
theorem co_X8_worst : Cond.code yX8_worst cX8_worst 6 (some .int) ∈ tb := tb_in 930 (by decide +kernel) rfl
theorem lk_RX8_188 : Cond.methodLink RX8 188 yX8_sets ∈ tb := tb_in 931 (by decide +kernel) rfl
theorem im_X8_sets : Cond.instanceMethod yX8_sets ∈ tb := tb_in 933 (by decide +kernel) rfl
theorem co_X8_sets : Cond.code yX8_sets cX8_sets 5 none ∈ tb := tb_in 934 (by decide +kernel) rfl
theorem lk_RX8_152 : Cond.methodLink RX8 152 yX8_bearsOn ∈ tb := tb_in 935 (by decide +kernel) rfl
theorem im_X8_bearsOn : Cond.instanceMethod yX8_bearsOn ∈ tb := tb_in 937 (by decide +kernel) rfl
theorem co_X8_bearsOn : Cond.code yX8_bearsOn cX8_bearsOn 6 (some .int) ∈ tb := tb_in 938 (by decide +kernel) rfl
theorem lk_RX8_146 : Cond.methodLink RX8 146 yX8_rowOf ∈ tb := tb_in 939 (by decide +kernel) rfl
theorem sm_X8_rowOf : Cond.static yX8_rowOf ∈ tb := tb_in 940 (by decide +kernel) rfl
theorem co_X8_rowOf : Cond.code yX8_rowOf cX8_rowOf 1 (some .int) ∈ tb := tb_in 941 (by decide +kernel) rfl
theorem lk_RX8_191 : Cond.methodLink RX8 191 yX8_goesBy ∈ tb := tb_in 942 (by decide +kernel) rfl
theorem im_X8_goesBy : Cond.instanceMethod yX8_goesBy ∈ tb := tb_in 944 (by decide +kernel) rfl
theorem co_X8_goesBy : Cond.code yX8_goesBy cX8_goesBy 3 (some .int) ∈ tb := tb_in 945 (by decide +kernel) rfl
theorem lk_RX8_184 : Cond.methodLink RX8 184 yX8_goes ∈ tb := tb_in 946 (by decide +kernel) rfl
theorem im_X8_goes : Cond.instanceMethod yX8_goes ∈ tb := tb_in 948 (by decide +kernel) rfl
theorem co_X8_goes : Cond.code yX8_goes cX8_goes 10 (some .int) ∈ tb := tb_in 949 (by decide +kernel) rfl
theorem lk_RX8_167 : Cond.methodLink RX8 167 yX8_plateAt ∈ tb := tb_in 950 (by decide +kernel) rfl
theorem sm_X8_plateAt : Cond.static yX8_plateAt ∈ tb := tb_in 951 (by decide +kernel) rfl
theorem co_X8_plateAt : Cond.code yX8_plateAt cX8_plateAt 3 (some .int) ∈ tb := tb_in 952 (by decide +kernel) rfl
theorem lk_RX8_149 : Cond.methodLink RX8 149 yX8_columnOf ∈ tb := tb_in 953 (by decide +kernel) rfl
theorem sm_X8_columnOf : Cond.static yX8_columnOf ∈ tb := tb_in 954 (by decide +kernel) rfl
theorem co_X8_columnOf : Cond.code yX8_columnOf cX8_columnOf 1 (some .int) ∈ tb := tb_in 955 (by decide +kernel) rfl
theorem lk_RX8_170 : Cond.methodLink RX8 170 yX8_has ∈ tb := tb_in 956 (by decide +kernel) rfl
theorem sm_X8_has : Cond.static yX8_has ∈ tb := tb_in 957 (by decide +kernel) rfl
theorem co_X8_has : Cond.code yX8_has cX8_has 2 (some .boolean) ∈ tb := tb_in 958 (by decide +kernel) rfl
theorem lk_RX8_181 : Cond.methodLink RX8 181 yX8_falls ∈ tb := tb_in 959 (by decide +kernel) rfl
theorem im_X8_falls : Cond.instanceMethod yX8_falls ∈ tb := tb_in 961 (by decide +kernel) rfl
theorem co_X8_falls : Cond.code yX8_falls cX8_falls 8 none ∈ tb := tb_in 962 (by decide +kernel) rfl
theorem lk_RX8_161 : Cond.methodLink RX8 161 yX8_fallsNow ∈ tb := tb_in 963 (by decide +kernel) rfl
theorem im_X8_fallsNow : Cond.instanceMethod yX8_fallsNow ∈ tb := tb_in 965 (by decide +kernel) rfl
theorem co_X8_fallsNow : Cond.code yX8_fallsNow cX8_fallsNow 3 none ∈ tb := tb_in 966 (by decide +kernel) rfl
theorem lk_RX8_164 : Cond.methodLink RX8 164 yX8_plateOf ∈ tb := tb_in 967 (by decide +kernel) rfl
theorem im_X8_plateOf : Cond.instanceMethod yX8_plateOf ∈ tb := tb_in 969 (by decide +kernel) rfl
theorem co_X8_plateOf : Cond.code yX8_plateOf cX8_plateOf 3 (some .int) ∈ tb := tb_in 970 (by decide +kernel) rfl
theorem lk_RX8_174 : Cond.methodLink RX8 174 yX8_rocksNow ∈ tb := tb_in 971 (by decide +kernel) rfl
theorem im_X8_rocksNow : Cond.instanceMethod yX8_rocksNow ∈ tb := tb_in 973 (by decide +kernel) rfl
theorem co_X8_rocksNow : Cond.code yX8_rocksNow cX8_rocksNow 2 none ∈ tb := tb_in 974 (by decide +kernel) rfl
theorem lk_RX8_194 : Cond.methodLink RX8 194 yX8_ones ∈ tb := tb_in 975 (by decide +kernel) rfl
theorem sm_X8_ones : Cond.static yX8_ones ∈ tb := tb_in 976 (by decide +kernel) rfl
theorem co_X8_ones : Cond.code yX8_ones cX8_ones 3 (some .int) ∈ tb := tb_in 977 (by decide +kernel) rfl
theorem lk_RX8_197 : Cond.methodLink RX8 197 yX8_numberOf ∈ tb := tb_in 978 (by decide +kernel) rfl
theorem sm_X8_numberOf : Cond.static yX8_numberOf ∈ tb := tb_in 979 (by decide +kernel) rfl
theorem co_X8_numberOf : Cond.code yX8_numberOf cX8_numberOf 1 (some .int) ∈ tb := tb_in 980 (by decide +kernel) rfl
theorem lk_RX8_206 : Cond.methodLink RX8 206 yX8_safest ∈ tb := tb_in 981 (by decide +kernel) rfl
theorem im_X8_safest : Cond.instanceMethod yX8_safest ∈ tb := tb_in 983 (by decide +kernel) rfl
theorem co_X8_safest : Cond.code yX8_safest cX8_safest 7 (some .int) ∈ tb := tb_in 984 (by decide +kernel) rfl
theorem lk_RX8_209 : Cond.methodLink RX8 209 yX8_firm ∈ tb := tb_in 985 (by decide +kernel) rfl
theorem im_X8_firm : Cond.instanceMethod yX8_firm ∈ tb := tb_in 987 (by decide +kernel) rfl
theorem co_X8_firm : Cond.code yX8_firm cX8_firm 1 (some .int) ∈ tb := tb_in 988 (by decide +kernel) rfl
theorem lk_RX8_200 : Cond.methodLink RX8 200 yX8_ballsFor ∈ tb := tb_in 989 (by decide +kernel) rfl
theorem im_X8_ballsFor : Cond.instanceMethod yX8_ballsFor ∈ tb := tb_in 991 (by decide +kernel) rfl
theorem co_X8_ballsFor : Cond.code yX8_ballsFor cX8_ballsFor 6 (some .int) ∈ tb := tb_in 992 (by decide +kernel) rfl
theorem lk_RX8_213 : Cond.methodLink RX8 213 yX8_talks ∈ tb := tb_in 993 (by decide +kernel) rfl
theorem im_X8_talks : Cond.instanceMethod yX8_talks ∈ tb := tb_in 995 (by decide +kernel) rfl
theorem co_X8_talks : Cond.code yX8_talks cX8_talks 7 (some .int) ∈ tb := tb_in 996 (by decide +kernel) rfl
theorem lk_RL_35 : Cond.methodLink RL 35 yX8_skittle ∈ tb := tb_in 997 (by decide +kernel) rfl
theorem im_X8_skittle : Cond.instanceMethod yX8_skittle ∈ tb := tb_in 998 (by decide +kernel) rfl
theorem se_X8_skittle : Cond.selects RX8 yX8_skittle yX8_skittle ∈ tb := tb_in 999 (by decide +kernel) rfl
theorem co_X8_skittle : Cond.code yX8_skittle cX8_skittle 3 (some .int) ∈ tb := tb_in 1000 (by decide +kernel) rfl
theorem lk_RX8_216 : Cond.methodLink RX8 216 yX8_isSkittle ∈ tb := tb_in 1001 (by decide +kernel) rfl
theorem im_X8_isSkittle : Cond.instanceMethod yX8_isSkittle ∈ tb := tb_in 1003 (by decide +kernel) rfl
theorem co_X8_isSkittle : Cond.code yX8_isSkittle cX8_isSkittle 2 (some .boolean) ∈ tb := tb_in 1004 (by decide +kernel) rfl
theorem kk_RX8_220 : Cond.constant RX8 220 (-1000000001) ∈ tb := tb_in 1005 (by decide +kernel) rfl
theorem lk_RX8_221 : Cond.methodLink RX8 221 yX8_firstTaker ∈ tb := tb_in 1006 (by decide +kernel) rfl
theorem im_X8_firstTaker : Cond.instanceMethod yX8_firstTaker ∈ tb := tb_in 1008 (by decide +kernel) rfl
theorem co_X8_firstTaker : Cond.code yX8_firstTaker cX8_firstTaker 4 (some .int) ∈ tb := tb_in 1009 (by decide +kernel) rfl
theorem lk_RL_39 : Cond.methodLink RL 39 yX8_plate ∈ tb := tb_in 1010 (by decide +kernel) rfl
theorem im_X8_plate : Cond.instanceMethod yX8_plate ∈ tb := tb_in 1011 (by decide +kernel) rfl
theorem se_X8_plate : Cond.selects RX8 yX8_plate yX8_plate ∈ tb := tb_in 1012 (by decide +kernel) rfl
theorem co_X8_plate : Cond.code yX8_plate cX8_plate 2 (some .int) ∈ tb := tb_in 1013 (by decide +kernel) rfl
theorem lk_RX8_224 : Cond.methodLink RX8 224 yX8_isPlate ∈ tb := tb_in 1014 (by decide +kernel) rfl
theorem sm_X8_isPlate : Cond.static yX8_isPlate ∈ tb := tb_in 1015 (by decide +kernel) rfl
theorem co_X8_isPlate : Cond.code yX8_isPlate cX8_isPlate 1 (some .boolean) ∈ tb := tb_in 1016 (by decide +kernel) rfl
theorem lk_RX8_227 : Cond.methodLink RX8 227 yX8_whoOn ∈ tb := tb_in 1017 (by decide +kernel) rfl
theorem im_X8_whoOn : Cond.instanceMethod yX8_whoOn ∈ tb := tb_in 1019 (by decide +kernel) rfl
theorem co_X8_whoOn : Cond.code yX8_whoOn cX8_whoOn 4 (some .int) ∈ tb := tb_in 1020 (by decide +kernel) rfl
theorem lk_RL_44 : Cond.methodLink RL 44 yX8_ball ∈ tb := tb_in 1021 (by decide +kernel) rfl
theorem im_X8_ball : Cond.instanceMethod yX8_ball ∈ tb := tb_in 1022 (by decide +kernel) rfl
theorem se_X8_ball : Cond.selects RX8 yX8_ball yX8_ball ∈ tb := tb_in 1023 (by decide +kernel) rfl
theorem co_X8_ball : Cond.code yX8_ball cX8_ball 4 (some .int) ∈ tb := tb_in 1024 (by decide +kernel) rfl
theorem lk_RX8_230 : Cond.methodLink RX8 230 yX8_isBall ∈ tb := tb_in 1025 (by decide +kernel) rfl
theorem im_X8_isBall : Cond.instanceMethod yX8_isBall ∈ tb := tb_in 1027 (by decide +kernel) rfl
theorem co_X8_isBall : Cond.code yX8_isBall cX8_isBall 4 (some .boolean) ∈ tb := tb_in 1028 (by decide +kernel) rfl
theorem kk_RX8_233 : Cond.constant RX8 233 (-1000000003) ∈ tb := tb_in 1029 (by decide +kernel) rfl
theorem lk_RX8_234 : Cond.methodLink RX8 234 yX8_notes ∈ tb := tb_in 1030 (by decide +kernel) rfl
theorem im_X8_notes : Cond.instanceMethod yX8_notes ∈ tb := tb_in 1032 (by decide +kernel) rfl
theorem co_X8_notes : Cond.code yX8_notes cX8_notes 2 none ∈ tb := tb_in 1033 (by decide +kernel) rfl
theorem lk_RX8_237 : Cond.methodLink RX8 237 yX8_throwsBall ∈ tb := tb_in 1034 (by decide +kernel) rfl
theorem im_X8_throwsBall : Cond.instanceMethod yX8_throwsBall ∈ tb := tb_in 1036 (by decide +kernel) rfl
theorem co_X8_throwsBall : Cond.code yX8_throwsBall cX8_throwsBall 8 (some .int) ∈ tb := tb_in 1037 (by decide +kernel) rfl
theorem lk_RL_48 : Cond.methodLink RL 48 yX8_setUp ∈ tb := tb_in 1038 (by decide +kernel) rfl
theorem im_X8_setUp : Cond.instanceMethod yX8_setUp ∈ tb := tb_in 1039 (by decide +kernel) rfl
theorem se_X8_setUp : Cond.selects RX8 yX8_setUp yX8_setUp ∈ tb := tb_in 1040 (by decide +kernel) rfl
theorem co_X8_setUp : Cond.code yX8_setUp cX8_setUp 2 (some .int) ∈ tb := tb_in 1041 (by decide +kernel) rfl
theorem lk_RL_52 : Cond.methodLink RL 52 yX8_lift ∈ tb := tb_in 1042 (by decide +kernel) rfl
theorem im_X8_lift : Cond.instanceMethod yX8_lift ∈ tb := tb_in 1043 (by decide +kernel) rfl
theorem se_X8_lift : Cond.selects RX8 yX8_lift yX8_lift ∈ tb := tb_in 1044 (by decide +kernel) rfl
theorem co_X8_lift : Cond.code yX8_lift cX8_lift 2 (some .int) ∈ tb := tb_in 1045 (by decide +kernel) rfl
theorem lk_RL_56 : Cond.methodLink RL 56 yX8_change ∈ tb := tb_in 1046 (by decide +kernel) rfl
theorem im_X8_change : Cond.instanceMethod yX8_change ∈ tb := tb_in 1047 (by decide +kernel) rfl
theorem se_X8_change : Cond.selects RX8 yX8_change yX8_change ∈ tb := tb_in 1048 (by decide +kernel) rfl
theorem co_X8_change : Cond.code yX8_change cX8_change 3 (some .int) ∈ tb := tb_in 1049 (by decide +kernel) rfl
theorem lk_RX8_241 : Cond.methodLink RX8 241 yX8_changes ∈ tb := tb_in 1050 (by decide +kernel) rfl
theorem im_X8_changes : Cond.instanceMethod yX8_changes ∈ tb := tb_in 1052 (by decide +kernel) rfl
theorem co_X8_changes : Cond.code yX8_changes cX8_changes 5 none ∈ tb := tb_in 1053 (by decide +kernel) rfl
theorem lk_RL_60 : Cond.methodLink RL 60 yX8_chip ∈ tb := tb_in 1054 (by decide +kernel) rfl
theorem im_X8_chip : Cond.instanceMethod yX8_chip ∈ tb := tb_in 1055 (by decide +kernel) rfl
theorem se_X8_chip : Cond.selects RX8 yX8_chip yX8_chip ∈ tb := tb_in 1056 (by decide +kernel) rfl
theorem co_X8_chip : Cond.code yX8_chip cX8_chip 4 (some .int) ∈ tb := tb_in 1057 (by decide +kernel) rfl
theorem lk_RL_64 : Cond.methodLink RL 64 yX8_replace ∈ tb := tb_in 1058 (by decide +kernel) rfl
theorem im_X8_replace : Cond.instanceMethod yX8_replace ∈ tb := tb_in 1059 (by decide +kernel) rfl
theorem se_X8_replace : Cond.selects RX8 yX8_replace yX8_replace ∈ tb := tb_in 1060 (by decide +kernel) rfl
theorem co_X8_replace : Cond.code yX8_replace cX8_replace 3 (some .int) ∈ tb := tb_in 1061 (by decide +kernel) rfl
theorem lk_RL_68 : Cond.methodLink RL 68 yX8_drift ∈ tb := tb_in 1062 (by decide +kernel) rfl
theorem im_X8_drift : Cond.instanceMethod yX8_drift ∈ tb := tb_in 1063 (by decide +kernel) rfl
theorem se_X8_drift : Cond.selects RX8 yX8_drift yX8_drift ∈ tb := tb_in 1064 (by decide +kernel) rfl
theorem co_X8_drift : Cond.code yX8_drift cX8_drift 7 (some .int) ∈ tb := tb_in 1065 (by decide +kernel) rfl
theorem lk_RX8_251 : Cond.methodLink RX8 251 yX8_draw ∈ tb := tb_in 1066 (by decide +kernel) rfl
theorem im_X8_draw : Cond.instanceMethod yX8_draw ∈ tb := tb_in 1068 (by decide +kernel) rfl
theorem co_X8_draw : Cond.code yX8_draw cX8_draw 4 (some .int) ∈ tb := tb_in 1069 (by decide +kernel) rfl
theorem kk_RX8_244 : Cond.constantLong RX8 244 (1103515245) ∈ tb := tb_in 1070 (by decide +kernel) rfl
theorem kk_RX8_246 : Cond.constantLong RX8 246 (12345) ∈ tb := tb_in 1071 (by decide +kernel) rfl
theorem kk_RX8_248 : Cond.constantLong RX8 248 (2147483648) ∈ tb := tb_in 1072 (by decide +kernel) rfl
theorem kk_RX8_250 : Cond.constant RX8 250 (65536) ∈ tb := tb_in 1073 (by decide +kernel) rfl
theorem lk_RL_72 : Cond.methodLink RL 72 yX8_undo ∈ tb := tb_in 1074 (by decide +kernel) rfl
theorem im_X8_undo : Cond.instanceMethod yX8_undo ∈ tb := tb_in 1075 (by decide +kernel) rfl
theorem se_X8_undo : Cond.selects RX8 yX8_undo yX8_undo ∈ tb := tb_in 1076 (by decide +kernel) rfl
theorem co_X8_undo : Cond.code yX8_undo cX8_undo 2 (some .int) ∈ tb := tb_in 1077 (by decide +kernel) rfl
theorem lk_RL_77 : Cond.methodLink RL 77 yX8_wouldFall ∈ tb := tb_in 1078 (by decide +kernel) rfl
theorem im_X8_wouldFall : Cond.instanceMethod yX8_wouldFall ∈ tb := tb_in 1079 (by decide +kernel) rfl
theorem se_X8_wouldFall : Cond.selects RX8 yX8_wouldFall yX8_wouldFall ∈ tb := tb_in 1080 (by decide +kernel) rfl
theorem co_X8_wouldFall : Cond.code yX8_wouldFall cX8_wouldFall 6 (some .int) ∈ tb := tb_in 1081 (by decide +kernel) rfl
theorem lk_RL_81 : Cond.methodLink RL 81 yX8_balls ∈ tb := tb_in 1082 (by decide +kernel) rfl
theorem im_X8_balls : Cond.instanceMethod yX8_balls ∈ tb := tb_in 1083 (by decide +kernel) rfl
theorem se_X8_balls : Cond.selects RX8 yX8_balls yX8_balls ∈ tb := tb_in 1084 (by decide +kernel) rfl
theorem co_X8_balls : Cond.code yX8_balls cX8_balls 3 (some .int) ∈ tb := tb_in 1085 (by decide +kernel) rfl
theorem lk_RX8_254 : Cond.methodLink RX8 254 yX8_isSet ∈ tb := tb_in 1086 (by decide +kernel) rfl
theorem im_X8_isSet : Cond.instanceMethod yX8_isSet ∈ tb := tb_in 1088 (by decide +kernel) rfl
theorem co_X8_isSet : Cond.code yX8_isSet cX8_isSet 2 (some .boolean) ∈ tb := tb_in 1089 (by decide +kernel) rfl
theorem lk_RL_85 : Cond.methodLink RL 85 yX8_spare ∈ tb := tb_in 1090 (by decide +kernel) rfl
theorem im_X8_spare : Cond.instanceMethod yX8_spare ∈ tb := tb_in 1091 (by decide +kernel) rfl
theorem se_X8_spare : Cond.selects RX8 yX8_spare yX8_spare ∈ tb := tb_in 1092 (by decide +kernel) rfl
theorem co_X8_spare : Cond.code yX8_spare cX8_spare 9 (some .int) ∈ tb := tb_in 1093 (by decide +kernel) rfl
theorem lk_RL_89 : Cond.methodLink RL 89 yX8_allDown ∈ tb := tb_in 1094 (by decide +kernel) rfl
theorem im_X8_allDown : Cond.instanceMethod yX8_allDown ∈ tb := tb_in 1095 (by decide +kernel) rfl
theorem se_X8_allDown : Cond.selects RX8 yX8_allDown yX8_allDown ∈ tb := tb_in 1096 (by decide +kernel) rfl
theorem co_X8_allDown : Cond.code yX8_allDown cX8_allDown 8 (some .int) ∈ tb := tb_in 1097 (by decide +kernel) rfl
theorem lk_RL_93 : Cond.methodLink RL 93 yX8_mend ∈ tb := tb_in 1098 (by decide +kernel) rfl
theorem im_X8_mend : Cond.instanceMethod yX8_mend ∈ tb := tb_in 1099 (by decide +kernel) rfl
theorem se_X8_mend : Cond.selects RX8 yX8_mend yX8_mend ∈ tb := tb_in 1100 (by decide +kernel) rfl
theorem co_X8_mend : Cond.code yX8_mend cX8_mend 10 (some .int) ∈ tb := tb_in 1101 (by decide +kernel) rfl
theorem lk_RL_97 : Cond.methodLink RL 97 yX8_hand ∈ tb := tb_in 1102 (by decide +kernel) rfl
theorem im_X8_hand : Cond.instanceMethod yX8_hand ∈ tb := tb_in 1103 (by decide +kernel) rfl
theorem se_X8_hand : Cond.selects RX8 yX8_hand yX8_hand ∈ tb := tb_in 1104 (by decide +kernel) rfl
theorem co_X8_hand : Cond.code yX8_hand cX8_hand 4 (some .int) ∈ tb := tb_in 1105 (by decide +kernel) rfl
theorem lk_RL_101 : Cond.methodLink RL 101 yX8_ask ∈ tb := tb_in 1106 (by decide +kernel) rfl
theorem im_X8_ask : Cond.instanceMethod yX8_ask ∈ tb := tb_in 1107 (by decide +kernel) rfl
theorem se_X8_ask : Cond.selects RX8 yX8_ask yX8_ask ∈ tb := tb_in 1108 (by decide +kernel) rfl
theorem co_X8_ask : Cond.code yX8_ask cX8_ask 7 (some .int) ∈ tb := tb_in 1109 (by decide +kernel) rfl
theorem lk_RL_105 : Cond.methodLink RL 105 yX8_calm ∈ tb := tb_in 1110 (by decide +kernel) rfl
theorem im_X8_calm : Cond.instanceMethod yX8_calm ∈ tb := tb_in 1111 (by decide +kernel) rfl
theorem se_X8_calm : Cond.selects RX8 yX8_calm yX8_calm ∈ tb := tb_in 1112 (by decide +kernel) rfl
theorem co_X8_calm : Cond.code yX8_calm cX8_calm 6 (some .int) ∈ tb := tb_in 1113 (by decide +kernel) rfl
theorem kk_RX8_257 : Cond.constantLong RX8 257 (1000000000) ∈ tb := tb_in 1114 (by decide +kernel) rfl
theorem kk_RX8_259 : Cond.constantLong RX8 259 (100) ∈ tb := tb_in 1115 (by decide +kernel) rfl
theorem lk_RL_110 : Cond.methodLink RL 110 yX8_write ∈ tb := tb_in 1116 (by decide +kernel) rfl
theorem im_X8_write : Cond.instanceMethod yX8_write ∈ tb := tb_in 1117 (by decide +kernel) rfl
theorem se_X8_write : Cond.selects RX8 yX8_write yX8_write ∈ tb := tb_in 1118 (by decide +kernel) rfl
theorem co_X8_write : Cond.code yX8_write cX8_write 3 (some .int) ∈ tb := tb_in 1119 (by decide +kernel) rfl
theorem lk_RL_114 : Cond.methodLink RL 114 yX8_tear ∈ tb := tb_in 1120 (by decide +kernel) rfl
theorem im_X8_tear : Cond.instanceMethod yX8_tear ∈ tb := tb_in 1121 (by decide +kernel) rfl
theorem se_X8_tear : Cond.selects RX8 yX8_tear yX8_tear ∈ tb := tb_in 1122 (by decide +kernel) rfl
theorem co_X8_tear : Cond.code yX8_tear cX8_tear 2 (some .int) ∈ tb := tb_in 1123 (by decide +kernel) rfl
theorem lk_RL_118 : Cond.methodLink RL 118 yX8_judge ∈ tb := tb_in 1124 (by decide +kernel) rfl
theorem im_X8_judge : Cond.instanceMethod yX8_judge ∈ tb := tb_in 1125 (by decide +kernel) rfl
theorem se_X8_judge : Cond.selects RX8 yX8_judge yX8_judge ∈ tb := tb_in 1126 (by decide +kernel) rfl
theorem co_X8_judge : Cond.code yX8_judge cX8_judge 2 (some .int) ∈ tb := tb_in 1127 (by decide +kernel) rfl
theorem lk_RL_122 : Cond.methodLink RL 122 yX8_seed ∈ tb := tb_in 1128 (by decide +kernel) rfl
theorem im_X8_seed : Cond.instanceMethod yX8_seed ∈ tb := tb_in 1129 (by decide +kernel) rfl
theorem se_X8_seed : Cond.selects RX8 yX8_seed yX8_seed ∈ tb := tb_in 1130 (by decide +kernel) rfl
theorem co_X8_seed : Cond.code yX8_seed cX8_seed 3 (some .int) ∈ tb := tb_in 1131 (by decide +kernel) rfl
theorem lk_RL_126 : Cond.methodLink RL 126 yX8_keep ∈ tb := tb_in 1132 (by decide +kernel) rfl
theorem im_X8_keep : Cond.instanceMethod yX8_keep ∈ tb := tb_in 1133 (by decide +kernel) rfl
theorem se_X8_keep : Cond.selects RX8 yX8_keep yX8_keep ∈ tb := tb_in 1134 (by decide +kernel) rfl
theorem co_X8_keep : Cond.code yX8_keep cX8_keep 3 (some .int) ∈ tb := tb_in 1135 (by decide +kernel) rfl
theorem lk_RL_130 : Cond.methodLink RL 130 yX8_goBack ∈ tb := tb_in 1136 (by decide +kernel) rfl
theorem im_X8_goBack : Cond.instanceMethod yX8_goBack ∈ tb := tb_in 1137 (by decide +kernel) rfl
theorem se_X8_goBack : Cond.selects RX8 yX8_goBack yX8_goBack ∈ tb := tb_in 1138 (by decide +kernel) rfl
theorem co_X8_goBack : Cond.code yX8_goBack cX8_goBack 3 (some .int) ∈ tb := tb_in 1139 (by decide +kernel) rfl
theorem uw_X0 : ∀ w ∈ u_ws RX0 TX0 7, w ∈ tb := by decide +kernel
theorem uw_X1 : ∀ w ∈ u_ws RX1 TX1 3, w ∈ tb := by decide +kernel
theorem uw_X2 : ∀ w ∈ u_ws RX2 TX2 10, w ∈ tb := by decide +kernel
theorem uw_X3 : ∀ w ∈ u_ws RX3 TX3 12, w ∈ tb := by decide +kernel
theorem uw_X4 : ∀ w ∈ u_ws RX4 TX4 3, w ∈ tb := by decide +kernel
theorem uw_X5 : ∀ w ∈ u_ws RX5 TX5 8, w ∈ tb := by decide +kernel
theorem uw_X6 : ∀ w ∈ u_ws RX6 TX6 2, w ∈ tb := by decide +kernel
theorem uw_X7 : ∀ w ∈ u_ws RX7 TX7 13, w ∈ tb := by decide +kernel
theorem uw_X8 : ∀ w ∈ u_ws RX8 TX8 35, w ∈ tb := by decide +kernel
/-- what a call of an instance method needs of the tables -/
def CalV (y : MethodName) (b : ByteArray) (n : Nat) (r : Option FieldType) (C : String) (na : Nat) : Prop := Cond.code y b n r ∈ tb ∧ Cond.instanceMethod y ∈ tb ∧ Cond.selects C y y ∈ tb ∧ Cond.initialized C ∈ tb ∧ y.cls = C ∧ y.cls ≠ "java/lang/invoke/MethodHandle" ∧ y.cls ≠ "java/lang/invoke/VarHandle" ∧ (parseMethodDescriptor y.desc).map (fun d => d.parameters.length) = some na
def CalS (y : MethodName) (b : ByteArray) (n : Nat) (r : Option FieldType) (C : String) (na : Nat) : Prop := Cond.code y b n r ∈ tb ∧ Cond.static y ∈ tb ∧ Cond.initialized C ∈ tb ∧ y.cls = C ∧ y.cls ≠ "java/lang/invoke/MethodHandle" ∧ y.cls ≠ "java/lang/invoke/VarHandle" ∧ (parseMethodDescriptor y.desc).map (fun d => d.parameters.length) = some na
def CalI (y : MethodName) (b : ByteArray) (n : Nat) (C : String) (na : Nat) : Prop := Cond.code y b n none ∈ tb ∧ Cond.instanceMethod y ∈ tb ∧ Cond.initialized C ∈ tb ∧ y.cls = C ∧ y.name = "<init>" ∧ y.cls ≠ "java/lang/invoke/MethodHandle" ∧ y.cls ≠ "java/lang/invoke/VarHandle" ∧ (parseMethodDescriptor y.desc).map (fun d => d.parameters.length) = some na
theorem ca_X0_init : CalI yX0_init cX0_init 1 RX0 0 := ⟨co_X0_init, im_X0_init, in_RX0, rfl, rfl, by decide, by decide, by decide +kernel⟩
theorem ca_X0_run : CalV yX0_run cX0_run 4 none RX0 2 := ⟨co_X0_run, im_X0_run, se_X0_run, in_RX0, rfl, by decide, by decide, by decide +kernel⟩
theorem ca_X0_goOn : CalV yX0_goOn cX0_goOn 9 none RX0 2 := ⟨co_X0_goOn, im_X0_goOn, se_X0_goOn, in_RX0, rfl, by decide, by decide, by decide +kernel⟩
theorem ca_X0_reach : CalV yX0_reach cX0_reach 4 none RX0 3 := ⟨co_X0_reach, im_X0_reach, se_X0_reach, in_RX0, rfl, by decide, by decide, by decide +kernel⟩
theorem ca_X1_init : CalI yX1_init cX1_init 1 RX1 0 := ⟨co_X1_init, im_X1_init, in_RX1, rfl, rfl, by decide, by decide, by decide +kernel⟩
theorem ca_X1_append : CalV yX1_append cX1_append 3 (some .int) RX1 2 := ⟨co_X1_append, im_X1_append, se_X1_append, in_RX1, rfl, by decide, by decide, by decide +kernel⟩
theorem ca_X1_clear : CalV yX1_clear cX1_clear 1 none RX1 0 := ⟨co_X1_clear, im_X1_clear, se_X1_clear, in_RX1, rfl, by decide, by decide, by decide +kernel⟩
theorem ca_X1_firstWrong : CalV yX1_firstWrong cX1_firstWrong 4 (some .int) RX1 1 := ⟨co_X1_firstWrong, im_X1_firstWrong, se_X1_firstWrong, in_RX1, rfl, by decide, by decide, by decide +kernel⟩
theorem ca_X2_init : CalI yX2_init cX2_init 1 RX2 0 := ⟨co_X2_init, im_X2_init, in_RX2, rfl, rfl, by decide, by decide, by decide +kernel⟩
theorem ca_X2_append : CalV yX2_append cX2_append 2 (some .int) RX2 1 := ⟨co_X2_append, im_X2_append, se_X2_append, in_RX2, rfl, by decide, by decide, by decide +kernel⟩
theorem ca_X2_read : CalV yX2_read cX2_read 2 (some .int) RX2 0 := ⟨co_X2_read, im_X2_read, se_X2_read, in_RX2, rfl, by decide, by decide, by decide +kernel⟩
theorem ca_X2_readFloor : CalV yX2_readFloor cX2_readFloor 1 none RX2 0 := ⟨co_X2_readFloor, im_X2_readFloor, se_X2_readFloor, in_RX2, rfl, by decide, by decide, by decide +kernel⟩
theorem ca_X2_readSkittle : CalV yX2_readSkittle cX2_readSkittle 4 none RX2 0 := ⟨co_X2_readSkittle, im_X2_readSkittle, se_X2_readSkittle, in_RX2, rfl, by decide, by decide, by decide +kernel⟩
theorem ca_X2_isMore : CalV yX2_isMore cX2_isMore 1 (some .boolean) RX2 0 := ⟨co_X2_isMore, im_X2_isMore, se_X2_isMore, in_RX2, rfl, by decide, by decide, by decide +kernel⟩
theorem ca_X2_sees : CalV yX2_sees cX2_sees 2 (some .boolean) RX2 1 := ⟨co_X2_sees, im_X2_sees, se_X2_sees, in_RX2, rfl, by decide, by decide, by decide +kernel⟩
theorem ca_X2_seesFigure : CalV yX2_seesFigure cX2_seesFigure 1 (some .boolean) RX2 0 := ⟨co_X2_seesFigure, im_X2_seesFigure, se_X2_seesFigure, in_RX2, rfl, by decide, by decide, by decide +kernel⟩
theorem ca_X2_takeSign : CalV yX2_takeSign cX2_takeSign 2 none RX2 1 := ⟨co_X2_takeSign, im_X2_takeSign, se_X2_takeSign, in_RX2, rfl, by decide, by decide, by decide +kernel⟩
theorem ca_X2_takeNumber : CalV yX2_takeNumber cX2_takeNumber 5 (some .int) RX2 2 := ⟨co_X2_takeNumber, im_X2_takeNumber, se_X2_takeNumber, in_RX2, rfl, by decide, by decide, by decide +kernel⟩
theorem ca_X2_fail : CalV yX2_fail cX2_fail 3 none RX2 2 := ⟨co_X2_fail, im_X2_fail, se_X2_fail, in_RX2, rfl, by decide, by decide, by decide +kernel⟩
theorem ca_X3_init : CalI yX3_init cX3_init 2 RX3 0 := ⟨co_X3_init, im_X3_init, in_RX3, rfl, rfl, by decide, by decide, by decide +kernel⟩
theorem ca_X3_copy : CalV yX3_copy cX3_copy 2 none RX3 1 := ⟨co_X3_copy, im_X3_copy, se_X3_copy, in_RX3, rfl, by decide, by decide, by decide +kernel⟩
theorem ca_X3_found : CalV yX3_found cX3_found 3 none RX3 1 := ⟨co_X3_found, im_X3_found, se_X3_found, in_RX3, rfl, by decide, by decide, by decide +kernel⟩
theorem ca_X3_isCounty : CalV yX3_isCounty cX3_isCounty 1 (some .boolean) RX3 0 := ⟨co_X3_isCounty, im_X3_isCounty, se_X3_isCounty, in_RX3, rfl, by decide, by decide, by decide +kernel⟩
theorem ca_X3_has : CalV yX3_has cX3_has 2 (some .boolean) RX3 1 := ⟨co_X3_has, im_X3_has, se_X3_has, in_RX3, rfl, by decide, by decide, by decide +kernel⟩
theorem ca_X3_hasAll : CalV yX3_hasAll cX3_hasAll 2 (some .boolean) RX3 1 := ⟨co_X3_hasAll, im_X3_hasAll, se_X3_hasAll, in_RX3, rfl, by decide, by decide, by decide +kernel⟩
theorem ca_X3_stands : CalV yX3_stands cX3_stands 2 (some .boolean) RX3 1 := ⟨co_X3_stands, im_X3_stands, se_X3_stands, in_RX3, rfl, by decide, by decide, by decide +kernel⟩
theorem ca_X3_lies : CalV yX3_lies cX3_lies 2 (some .boolean) RX3 1 := ⟨co_X3_lies, im_X3_lies, se_X3_lies, in_RX3, rfl, by decide, by decide, by decide +kernel⟩
theorem ca_X3_standAll : CalV yX3_standAll cX3_standAll 1 none RX3 0 := ⟨co_X3_standAll, im_X3_standAll, se_X3_standAll, in_RX3, rfl, by decide, by decide, by decide +kernel⟩
theorem ca_X3_bears : CalV yX3_bears cX3_bears 3 (some .int) RX3 1 := ⟨co_X3_bears, im_X3_bears, se_X3_bears, in_RX3, rfl, by decide, by decide, by decide +kernel⟩
theorem ca_X3_swap : CalV yX3_swap cX3_swap 5 none RX3 2 := ⟨co_X3_swap, im_X3_swap, se_X3_swap, in_RX3, rfl, by decide, by decide, by decide +kernel⟩
theorem ca_X3_put : CalV yX3_put cX3_put 3 none RX3 2 := ⟨co_X3_put, im_X3_put, se_X3_put, in_RX3, rfl, by decide, by decide, by decide +kernel⟩
theorem ca_X3_suffer : CalV yX3_suffer cX3_suffer 4 none RX3 2 := ⟨co_X3_suffer, im_X3_suffer, se_X3_suffer, in_RX3, rfl, by decide, by decide, by decide +kernel⟩
theorem ca_X3_firstTaker : CalV yX3_firstTaker cX3_firstTaker 5 (some .int) RX3 1 := ⟨co_X3_firstTaker, im_X3_firstTaker, se_X3_firstTaker, in_RX3, rfl, by decide, by decide, by decide +kernel⟩
theorem ca_X3_pairsThatTalk : CalV yX3_pairsThatTalk cX3_pairsThatTalk 4 (some .int) RX3 0 := ⟨co_X3_pairsThatTalk, im_X3_pairsThatTalk, se_X3_pairsThatTalk, in_RX3, rfl, by decide, by decide, by decide +kernel⟩
theorem ca_X3_areSideBySide : CalS yX3_areSideBySide cX3_areSideBySide 2 (some .boolean) RX3 2 := ⟨co_X3_areSideBySide, sm_X3_areSideBySide, in_RX3, rfl, by decide, by decide, by decide +kernel⟩
theorem ca_X4_init : CalI yX4_init cX4_init 2 RX4 0 := ⟨co_X4_init, im_X4_init, in_RX4, rfl, rfl, by decide, by decide, by decide +kernel⟩
theorem ca_X4_push : CalV yX4_push cX4_push 2 none RX4 1 := ⟨co_X4_push, im_X4_push, se_X4_push, in_RX4, rfl, by decide, by decide, by decide +kernel⟩
theorem ca_X4_restore : CalV yX4_restore cX4_restore 2 none RX4 1 := ⟨co_X4_restore, im_X4_restore, se_X4_restore, in_RX4, rfl, by decide, by decide, by decide +kernel⟩
theorem ca_X4_forget : CalV yX4_forget cX4_forget 1 none RX4 0 := ⟨co_X4_forget, im_X4_forget, se_X4_forget, in_RX4, rfl, by decide, by decide, by decide +kernel⟩
theorem ca_X5_init : CalI yX5_init cX5_init 1 RX5 0 := ⟨co_X5_init, im_X5_init, in_RX5, rfl, rfl, by decide, by decide, by decide +kernel⟩
theorem ca_X5_prepare : CalV yX5_prepare cX5_prepare 3 none RX5 1 := ⟨co_X5_prepare, im_X5_prepare, se_X5_prepare, in_RX5, rfl, by decide, by decide, by decide +kernel⟩
theorem ca_X5_clearRocked : CalV yX5_clearRocked cX5_clearRocked 1 none RX5 0 := ⟨co_X5_clearRocked, im_X5_clearRocked, se_X5_clearRocked, in_RX5, rfl, by decide, by decide, by decide +kernel⟩
theorem ca_X5_send : CalV yX5_send cX5_send 7 (some .int) RX5 4 := ⟨co_X5_send, im_X5_send, se_X5_send, in_RX5, rfl, by decide, by decide, by decide +kernel⟩
theorem ca_X5_leastPace : CalV yX5_leastPace cX5_leastPace 6 (some .int) RX5 3 := ⟨co_X5_leastPace, im_X5_leastPace, se_X5_leastPace, in_RX5, rfl, by decide, by decide, by decide +kernel⟩
theorem ca_X5_meet : CalV yX5_meet cX5_meet 5 (some .int) RX5 3 := ⟨co_X5_meet, im_X5_meet, se_X5_meet, in_RX5, rfl, by decide, by decide, by decide +kernel⟩
theorem ca_X5_topple : CalV yX5_topple cX5_topple 6 none RX5 5 := ⟨co_X5_topple, im_X5_topple, se_X5_topple, in_RX5, rfl, by decide, by decide, by decide +kernel⟩
theorem ca_X5_strike : CalV yX5_strike cX5_strike 6 none RX5 4 := ⟨co_X5_strike, im_X5_strike, se_X5_strike, in_RX5, rfl, by decide, by decide, by decide +kernel⟩
theorem ca_X5_rock : CalV yX5_rock cX5_rock 2 none RX5 1 := ⟨co_X5_rock, im_X5_rock, se_X5_rock, in_RX5, rfl, by decide, by decide, by decide +kernel⟩
theorem ca_X5_whoStandsAt : CalV yX5_whoStandsAt cX5_whoStandsAt 5 (some .int) RX5 2 := ⟨co_X5_whoStandsAt, im_X5_whoStandsAt, se_X5_whoStandsAt, in_RX5, rfl, by decide, by decide, by decide +kernel⟩
theorem ca_X6_init : CalI yX6_init cX6_init 1 RX6 0 := ⟨co_X6_init, im_X6_init, in_RX6, rfl, rfl, by decide, by decide, by decide +kernel⟩
theorem ca_X6_fill : CalV yX6_fill cX6_fill 8 none RX6 2 := ⟨co_X6_fill, im_X6_fill, se_X6_fill, in_RX6, rfl, by decide, by decide, by decide +kernel⟩
theorem ca_X6_howMany : CalV yX6_howMany cX6_howMany 4 (some .int) RX6 1 := ⟨co_X6_howMany, im_X6_howMany, se_X6_howMany, in_RX6, rfl, by decide, by decide, by decide +kernel⟩
theorem ca_X6_firstOf : CalV yX6_firstOf cX6_firstOf 3 (some .int) RX6 1 := ⟨co_X6_firstOf, im_X6_firstOf, se_X6_firstOf, in_RX6, rfl, by decide, by decide, by decide +kernel⟩
theorem ca_X6_linesOf : CalV yX6_linesOf cX6_linesOf 4 (some .int) RX6 1 := ⟨co_X6_linesOf, im_X6_linesOf, se_X6_linesOf, in_RX6, rfl, by decide, by decide, by decide +kernel⟩
theorem ca_X6_gentlest : CalV yX6_gentlest cX6_gentlest 6 (some .int) RX6 2 := ⟨co_X6_gentlest, im_X6_gentlest, se_X6_gentlest, in_RX6, rfl, by decide, by decide, by decide +kernel⟩
theorem ca_X6_worst : CalV yX6_worst cX6_worst 3 (some .int) RX6 0 := ⟨co_X6_worst, im_X6_worst, se_X6_worst, in_RX6, rfl, by decide, by decide, by decide +kernel⟩
theorem ca_X6_fallenBy : CalV yX6_fallenBy cX6_fallenBy 2 (some .int) RX6 1 := ⟨co_X6_fallenBy, im_X6_fallenBy, se_X6_fallenBy, in_RX6, rfl, by decide, by decide, by decide +kernel⟩
theorem ca_X6_safest : CalV yX6_safest cX6_safest 6 (some .int) RX6 1 := ⟨co_X6_safest, im_X6_safest, se_X6_safest, in_RX6, rfl, by decide, by decide, by decide +kernel⟩
theorem ca_X6_fallsOf : CalV yX6_fallsOf cX6_fallsOf 2 (some .int) RX6 1 := ⟨co_X6_fallsOf, im_X6_fallsOf, se_X6_fallsOf, in_RX6, rfl, by decide, by decide, by decide +kernel⟩
theorem ca_X6_fallsAmong : CalV yX6_fallsAmong cX6_fallsAmong 6 (some .int) RX6 3 := ⟨co_X6_fallsAmong, im_X6_fallsAmong, se_X6_fallsAmong, in_RX6, rfl, by decide, by decide, by decide +kernel⟩
theorem ca_X6_bestToAsk : CalV yX6_bestToAsk cX6_bestToAsk 8 (some .int) RX6 2 := ⟨co_X6_bestToAsk, im_X6_bestToAsk, se_X6_bestToAsk, in_RX6, rfl, by decide, by decide, by decide +kernel⟩
theorem ca_X7_init : CalI yX7_init cX7_init 2 RX7 0 := ⟨co_X7_init, im_X7_init, in_RX7, rfl, rfl, by decide, by decide, by decide +kernel⟩
theorem ca_X7_feed : CalV yX7_feed cX7_feed 2 (some .int) RX7 1 := ⟨co_X7_feed, im_X7_feed, se_X7_feed, in_RX7, rfl, by decide, by decide, by decide +kernel⟩
theorem ca_X7_county : CalV yX7_county cX7_county 3 (some .int) RX7 0 := ⟨co_X7_county, im_X7_county, se_X7_county, in_RX7, rfl, by decide, by decide, by decide +kernel⟩
theorem ca_X7_fault : CalV yX7_fault cX7_fault 1 (some .int) RX7 0 := ⟨co_X7_fault, im_X7_fault, se_X7_fault, in_RX7, rfl, by decide, by decide, by decide +kernel⟩
theorem ca_X7_told : CalV yX7_told cX7_told 2 (some .int) RX7 1 := ⟨co_X7_told, im_X7_told, se_X7_told, in_RX7, rfl, by decide, by decide, by decide +kernel⟩
theorem ca_X7_skittle : CalV yX7_skittle cX7_skittle 3 (some .int) RX7 2 := ⟨co_X7_skittle, im_X7_skittle, se_X7_skittle, in_RX7, rfl, by decide, by decide, by decide +kernel⟩
theorem ca_X7_plate : CalV yX7_plate cX7_plate 2 (some .int) RX7 1 := ⟨co_X7_plate, im_X7_plate, se_X7_plate, in_RX7, rfl, by decide, by decide, by decide +kernel⟩
theorem ca_X7_ball : CalV yX7_ball cX7_ball 4 (some .int) RX7 3 := ⟨co_X7_ball, im_X7_ball, se_X7_ball, in_RX7, rfl, by decide, by decide, by decide +kernel⟩
theorem ca_X7_setUp : CalV yX7_setUp cX7_setUp 2 (some .int) RX7 0 := ⟨co_X7_setUp, im_X7_setUp, se_X7_setUp, in_RX7, rfl, by decide, by decide, by decide +kernel⟩
theorem ca_X7_lift : CalV yX7_lift cX7_lift 2 (some .int) RX7 1 := ⟨co_X7_lift, im_X7_lift, se_X7_lift, in_RX7, rfl, by decide, by decide, by decide +kernel⟩
theorem ca_X7_change : CalV yX7_change cX7_change 3 (some .int) RX7 2 := ⟨co_X7_change, im_X7_change, se_X7_change, in_RX7, rfl, by decide, by decide, by decide +kernel⟩
theorem ca_X7_chip : CalV yX7_chip cX7_chip 4 (some .int) RX7 2 := ⟨co_X7_chip, im_X7_chip, se_X7_chip, in_RX7, rfl, by decide, by decide, by decide +kernel⟩
theorem ca_X7_replace : CalV yX7_replace cX7_replace 3 (some .int) RX7 1 := ⟨co_X7_replace, im_X7_replace, se_X7_replace, in_RX7, rfl, by decide, by decide, by decide +kernel⟩
theorem ca_X7_drift : CalV yX7_drift cX7_drift 3 (some .int) RX7 1 := ⟨co_X7_drift, im_X7_drift, se_X7_drift, in_RX7, rfl, by decide, by decide, by decide +kernel⟩
theorem ca_X7_undo : CalV yX7_undo cX7_undo 1 (some .int) RX7 0 := ⟨co_X7_undo, im_X7_undo, se_X7_undo, in_RX7, rfl, by decide, by decide, by decide +kernel⟩
theorem ca_X7_wouldFall : CalV yX7_wouldFall cX7_wouldFall 6 (some .int) RX7 4 := ⟨co_X7_wouldFall, im_X7_wouldFall, se_X7_wouldFall, in_RX7, rfl, by decide, by decide, by decide +kernel⟩
theorem ca_X7_balls : CalV yX7_balls cX7_balls 3 (some .int) RX7 2 := ⟨co_X7_balls, im_X7_balls, se_X7_balls, in_RX7, rfl, by decide, by decide, by decide +kernel⟩
theorem ca_X7_spare : CalV yX7_spare cX7_spare 3 (some .int) RX7 2 := ⟨co_X7_spare, im_X7_spare, se_X7_spare, in_RX7, rfl, by decide, by decide, by decide +kernel⟩
theorem ca_X7_allDown : CalV yX7_allDown cX7_allDown 2 (some .int) RX7 1 := ⟨co_X7_allDown, im_X7_allDown, se_X7_allDown, in_RX7, rfl, by decide, by decide, by decide +kernel⟩
theorem ca_X7_mend : CalV yX7_mend cX7_mend 10 (some .int) RX7 4 := ⟨co_X7_mend, im_X7_mend, se_X7_mend, in_RX7, rfl, by decide, by decide, by decide +kernel⟩
theorem ca_X7_hand : CalV yX7_hand cX7_hand 2 (some .int) RX7 1 := ⟨co_X7_hand, im_X7_hand, se_X7_hand, in_RX7, rfl, by decide, by decide, by decide +kernel⟩
theorem ca_X7_ask : CalV yX7_ask cX7_ask 2 (some .int) RX7 1 := ⟨co_X7_ask, im_X7_ask, se_X7_ask, in_RX7, rfl, by decide, by decide, by decide +kernel⟩
theorem ca_X7_calm : CalV yX7_calm cX7_calm 6 (some .int) RX7 2 := ⟨co_X7_calm, im_X7_calm, se_X7_calm, in_RX7, rfl, by decide, by decide, by decide +kernel⟩
theorem ca_X7_write : CalV yX7_write cX7_write 3 (some .int) RX7 2 := ⟨co_X7_write, im_X7_write, se_X7_write, in_RX7, rfl, by decide, by decide, by decide +kernel⟩
theorem ca_X7_tear : CalV yX7_tear cX7_tear 2 (some .int) RX7 0 := ⟨co_X7_tear, im_X7_tear, se_X7_tear, in_RX7, rfl, by decide, by decide, by decide +kernel⟩
theorem ca_X7_judge : CalV yX7_judge cX7_judge 1 (some .int) RX7 0 := ⟨co_X7_judge, im_X7_judge, se_X7_judge, in_RX7, rfl, by decide, by decide, by decide +kernel⟩
theorem ca_X7_seed : CalV yX7_seed cX7_seed 3 (some .int) RX7 1 := ⟨co_X7_seed, im_X7_seed, se_X7_seed, in_RX7, rfl, by decide, by decide, by decide +kernel⟩
theorem ca_X7_keep : CalV yX7_keep cX7_keep 2 (some .int) RX7 1 := ⟨co_X7_keep, im_X7_keep, se_X7_keep, in_RX7, rfl, by decide, by decide, by decide +kernel⟩
theorem ca_X7_goBack : CalV yX7_goBack cX7_goBack 2 (some .int) RX7 1 := ⟨co_X7_goBack, im_X7_goBack, se_X7_goBack, in_RX7, rfl, by decide, by decide, by decide +kernel⟩
theorem ca_X7_isPlate : CalS yX7_isPlate cX7_isPlate 1 (some .boolean) RX7 1 := ⟨co_X7_isPlate, sm_X7_isPlate, in_RX7, rfl, by decide, by decide, by decide +kernel⟩
theorem ca_X7_isBall : CalS yX7_isBall cX7_isBall 3 (some .boolean) RX7 3 := ⟨co_X7_isBall, sm_X7_isBall, in_RX7, rfl, by decide, by decide, by decide +kernel⟩
theorem ca_X7_numberOf : CalS yX7_numberOf cX7_numberOf 2 (some .int) RX7 1 := ⟨co_X7_numberOf, sm_X7_numberOf, in_RX7, rfl, by decide, by decide, by decide +kernel⟩
theorem ca_X7_remember : CalV yX7_remember cX7_remember 1 none RX7 0 := ⟨co_X7_remember, im_X7_remember, se_X7_remember, in_RX7, rfl, by decide, by decide, by decide +kernel⟩
theorem ca_X7_stirred : CalV yX7_stirred cX7_stirred 1 none RX7 0 := ⟨co_X7_stirred, im_X7_stirred, se_X7_stirred, in_RX7, rfl, by decide, by decide, by decide +kernel⟩
theorem ca_X7_throwOne : CalV yX7_throwOne cX7_throwOne 5 (some .int) RX7 3 := ⟨co_X7_throwOne, im_X7_throwOne, se_X7_throwOne, in_RX7, rfl, by decide, by decide, by decide +kernel⟩
theorem ca_X7_driftOnce : CalV yX7_driftOnce cX7_driftOnce 5 none RX7 0 := ⟨co_X7_driftOnce, im_X7_driftOnce, se_X7_driftOnce, in_RX7, rfl, by decide, by decide, by decide +kernel⟩
theorem ca_X7_draw : CalV yX7_draw cX7_draw 2 (some .int) RX7 1 := ⟨co_X7_draw, im_X7_draw, se_X7_draw, in_RX7, rfl, by decide, by decide, by decide +kernel⟩
theorem ca_X7_fallsIfSwapped : CalV yX7_fallsIfSwapped cX7_fallsIfSwapped 7 (some .int) RX7 5 := ⟨co_X7_fallsIfSwapped, im_X7_fallsIfSwapped, se_X7_fallsIfSwapped, in_RX7, rfl, by decide, by decide, by decide +kernel⟩
theorem ca_X7_toldOfAllBalls : CalV yX7_toldOfAllBalls cX7_toldOfAllBalls 2 (some .int) RX7 1 := ⟨co_X7_toldOfAllBalls, im_X7_toldOfAllBalls, se_X7_toldOfAllBalls, in_RX7, rfl, by decide, by decide, by decide +kernel⟩
theorem ca_X8_init : CalI yX8_init cX8_init 2 RX8 0 := ⟨co_X8_init, im_X8_init, in_RX8, rfl, rfl, by decide, by decide, by decide +kernel⟩
theorem ca_X8_in : CalS yX8_in cX8_in 3 (some .boolean) RX8 3 := ⟨co_X8_in, sm_X8_in, in_RX8, rfl, by decide, by decide, by decide +kernel⟩
theorem ca_X8_has : CalS yX8_has cX8_has 2 (some .boolean) RX8 2 := ⟨co_X8_has, sm_X8_has, in_RX8, rfl, by decide, by decide, by decide +kernel⟩
theorem ca_X8_ones : CalS yX8_ones cX8_ones 3 (some .int) RX8 1 := ⟨co_X8_ones, sm_X8_ones, in_RX8, rfl, by decide, by decide, by decide +kernel⟩
theorem ca_X8_feed : CalV yX8_feed cX8_feed 2 (some .int) RX8 1 := ⟨co_X8_feed, im_X8_feed, se_X8_feed, in_RX8, rfl, by decide, by decide, by decide +kernel⟩
theorem ca_X8_letterAt : CalV yX8_letterAt cX8_letterAt 2 (some .int) RX8 1 := ⟨co_X8_letterAt, im_X8_letterAt, se_X8_letterAt, in_RX8, rfl, by decide, by decide, by decide +kernel⟩
theorem ca_X8_blanks : CalV yX8_blanks cX8_blanks 1 none RX8 0 := ⟨co_X8_blanks, im_X8_blanks, se_X8_blanks, in_RX8, rfl, by decide, by decide, by decide +kernel⟩
theorem ca_X8_isWell : CalV yX8_isWell cX8_isWell 1 (some .boolean) RX8 0 := ⟨co_X8_isWell, im_X8_isWell, se_X8_isWell, in_RX8, rfl, by decide, by decide, by decide +kernel⟩
theorem ca_X8_faulty : CalV yX8_faulty cX8_faulty 3 none RX8 2 := ⟨co_X8_faulty, im_X8_faulty, se_X8_faulty, in_RX8, rfl, by decide, by decide, by decide +kernel⟩
theorem ca_X8_due : CalV yX8_due cX8_due 5 (some .int) RX8 2 := ⟨co_X8_due, im_X8_due, se_X8_due, in_RX8, rfl, by decide, by decide, by decide +kernel⟩
theorem ca_X8_ends : CalV yX8_ends cX8_ends 1 none RX8 0 := ⟨co_X8_ends, im_X8_ends, se_X8_ends, in_RX8, rfl, by decide, by decide, by decide +kernel⟩
theorem ca_X8_tells : CalV yX8_tells cX8_tells 2 none RX8 0 := ⟨co_X8_tells, im_X8_tells, se_X8_tells, in_RX8, rfl, by decide, by decide, by decide +kernel⟩
theorem ca_X8_reads : CalV yX8_reads cX8_reads 4 none RX8 0 := ⟨co_X8_reads, im_X8_reads, se_X8_reads, in_RX8, rfl, by decide, by decide, by decide +kernel⟩
theorem ca_X8_county : CalV yX8_county cX8_county 1 (some .int) RX8 0 := ⟨co_X8_county, im_X8_county, se_X8_county, in_RX8, rfl, by decide, by decide, by decide +kernel⟩
theorem ca_X8_settles : CalV yX8_settles cX8_settles 3 none RX8 0 := ⟨co_X8_settles, im_X8_settles, se_X8_settles, in_RX8, rfl, by decide, by decide, by decide +kernel⟩
theorem ca_X8_fault : CalV yX8_fault cX8_fault 1 (some .int) RX8 0 := ⟨co_X8_fault, im_X8_fault, se_X8_fault, in_RX8, rfl, by decide, by decide, by decide +kernel⟩
theorem ca_X8_isSkittle : CalV yX8_isSkittle cX8_isSkittle 2 (some .boolean) RX8 1 := ⟨co_X8_isSkittle, im_X8_isSkittle, se_X8_isSkittle, in_RX8, rfl, by decide, by decide, by decide +kernel⟩
theorem ca_X8_isSet : CalV yX8_isSet cX8_isSet 2 (some .boolean) RX8 1 := ⟨co_X8_isSet, im_X8_isSet, se_X8_isSet, in_RX8, rfl, by decide, by decide, by decide +kernel⟩
theorem ca_X8_isPlate : CalS yX8_isPlate cX8_isPlate 1 (some .boolean) RX8 1 := ⟨co_X8_isPlate, sm_X8_isPlate, in_RX8, rfl, by decide, by decide, by decide +kernel⟩
theorem ca_X8_rowOf : CalS yX8_rowOf cX8_rowOf 1 (some .int) RX8 1 := ⟨co_X8_rowOf, sm_X8_rowOf, in_RX8, rfl, by decide, by decide, by decide +kernel⟩
theorem ca_X8_columnOf : CalS yX8_columnOf cX8_columnOf 1 (some .int) RX8 1 := ⟨co_X8_columnOf, sm_X8_columnOf, in_RX8, rfl, by decide, by decide, by decide +kernel⟩
theorem ca_X8_plateAt : CalS yX8_plateAt cX8_plateAt 3 (some .int) RX8 2 := ⟨co_X8_plateAt, sm_X8_plateAt, in_RX8, rfl, by decide, by decide, by decide +kernel⟩
theorem ca_X8_bearsOn : CalV yX8_bearsOn cX8_bearsOn 6 (some .int) RX8 2 := ⟨co_X8_bearsOn, im_X8_bearsOn, se_X8_bearsOn, in_RX8, rfl, by decide, by decide, by decide +kernel⟩
theorem ca_X8_sets : CalV yX8_sets cX8_sets 5 none RX8 2 := ⟨co_X8_sets, im_X8_sets, se_X8_sets, in_RX8, rfl, by decide, by decide, by decide +kernel⟩
theorem ca_X8_rocksNow : CalV yX8_rocksNow cX8_rocksNow 2 none RX8 1 := ⟨co_X8_rocksNow, im_X8_rocksNow, se_X8_rocksNow, in_RX8, rfl, by decide, by decide, by decide +kernel⟩
theorem ca_X8_fallsNow : CalV yX8_fallsNow cX8_fallsNow 3 none RX8 2 := ⟨co_X8_fallsNow, im_X8_fallsNow, se_X8_fallsNow, in_RX8, rfl, by decide, by decide, by decide +kernel⟩
theorem ca_X8_plateOf : CalV yX8_plateOf cX8_plateOf 3 (some .int) RX8 1 := ⟨co_X8_plateOf, im_X8_plateOf, se_X8_plateOf, in_RX8, rfl, by decide, by decide, by decide +kernel⟩
theorem ca_X8_falls : CalV yX8_falls cX8_falls 8 none RX8 2 := ⟨co_X8_falls, im_X8_falls, se_X8_falls, in_RX8, rfl, by decide, by decide, by decide +kernel⟩
theorem ca_X8_goes : CalV yX8_goes cX8_goes 10 (some .int) RX8 4 := ⟨co_X8_goes, im_X8_goes, se_X8_goes, in_RX8, rfl, by decide, by decide, by decide +kernel⟩
theorem ca_X8_goesBy : CalV yX8_goesBy cX8_goesBy 3 (some .int) RX8 2 := ⟨co_X8_goesBy, im_X8_goesBy, se_X8_goesBy, in_RX8, rfl, by decide, by decide, by decide +kernel⟩
theorem ca_X8_numberOf : CalS yX8_numberOf cX8_numberOf 1 (some .int) RX8 1 := ⟨co_X8_numberOf, sm_X8_numberOf, in_RX8, rfl, by decide, by decide, by decide +kernel⟩
theorem ca_X8_isBall : CalV yX8_isBall cX8_isBall 4 (some .boolean) RX8 3 := ⟨co_X8_isBall, im_X8_isBall, se_X8_isBall, in_RX8, rfl, by decide, by decide, by decide +kernel⟩
theorem ca_X8_worst : CalV yX8_worst cX8_worst 6 (some .int) RX8 1 := ⟨co_X8_worst, im_X8_worst, se_X8_worst, in_RX8, rfl, by decide, by decide, by decide +kernel⟩
theorem ca_X8_safest : CalV yX8_safest cX8_safest 7 (some .int) RX8 1 := ⟨co_X8_safest, im_X8_safest, se_X8_safest, in_RX8, rfl, by decide, by decide, by decide +kernel⟩
theorem ca_X8_firm : CalV yX8_firm cX8_firm 1 (some .int) RX8 0 := ⟨co_X8_firm, im_X8_firm, se_X8_firm, in_RX8, rfl, by decide, by decide, by decide +kernel⟩
theorem ca_X8_talks : CalV yX8_talks cX8_talks 7 (some .int) RX8 0 := ⟨co_X8_talks, im_X8_talks, se_X8_talks, in_RX8, rfl, by decide, by decide, by decide +kernel⟩
theorem ca_X8_told : CalV yX8_told cX8_told 2 (some .int) RX8 1 := ⟨co_X8_told, im_X8_told, se_X8_told, in_RX8, rfl, by decide, by decide, by decide +kernel⟩
theorem ca_X8_firstTaker : CalV yX8_firstTaker cX8_firstTaker 4 (some .int) RX8 1 := ⟨co_X8_firstTaker, im_X8_firstTaker, se_X8_firstTaker, in_RX8, rfl, by decide, by decide, by decide +kernel⟩
theorem ca_X8_skittle : CalV yX8_skittle cX8_skittle 3 (some .int) RX8 2 := ⟨co_X8_skittle, im_X8_skittle, se_X8_skittle, in_RX8, rfl, by decide, by decide, by decide +kernel⟩
theorem ca_X8_whoOn : CalV yX8_whoOn cX8_whoOn 4 (some .int) RX8 1 := ⟨co_X8_whoOn, im_X8_whoOn, se_X8_whoOn, in_RX8, rfl, by decide, by decide, by decide +kernel⟩
theorem ca_X8_plate : CalV yX8_plate cX8_plate 2 (some .int) RX8 1 := ⟨co_X8_plate, im_X8_plate, se_X8_plate, in_RX8, rfl, by decide, by decide, by decide +kernel⟩
theorem ca_X8_notes : CalV yX8_notes cX8_notes 2 none RX8 0 := ⟨co_X8_notes, im_X8_notes, se_X8_notes, in_RX8, rfl, by decide, by decide, by decide +kernel⟩
theorem ca_X8_throwsBall : CalV yX8_throwsBall cX8_throwsBall 8 (some .int) RX8 3 := ⟨co_X8_throwsBall, im_X8_throwsBall, se_X8_throwsBall, in_RX8, rfl, by decide, by decide, by decide +kernel⟩
theorem ca_X8_ball : CalV yX8_ball cX8_ball 4 (some .int) RX8 3 := ⟨co_X8_ball, im_X8_ball, se_X8_ball, in_RX8, rfl, by decide, by decide, by decide +kernel⟩
theorem ca_X8_setUp : CalV yX8_setUp cX8_setUp 2 (some .int) RX8 0 := ⟨co_X8_setUp, im_X8_setUp, se_X8_setUp, in_RX8, rfl, by decide, by decide, by decide +kernel⟩
theorem ca_X8_lift : CalV yX8_lift cX8_lift 2 (some .int) RX8 1 := ⟨co_X8_lift, im_X8_lift, se_X8_lift, in_RX8, rfl, by decide, by decide, by decide +kernel⟩
theorem ca_X8_changes : CalV yX8_changes cX8_changes 5 none RX8 2 := ⟨co_X8_changes, im_X8_changes, se_X8_changes, in_RX8, rfl, by decide, by decide, by decide +kernel⟩
theorem ca_X8_change : CalV yX8_change cX8_change 3 (some .int) RX8 2 := ⟨co_X8_change, im_X8_change, se_X8_change, in_RX8, rfl, by decide, by decide, by decide +kernel⟩
theorem ca_X8_chip : CalV yX8_chip cX8_chip 4 (some .int) RX8 2 := ⟨co_X8_chip, im_X8_chip, se_X8_chip, in_RX8, rfl, by decide, by decide, by decide +kernel⟩
theorem ca_X8_replace : CalV yX8_replace cX8_replace 3 (some .int) RX8 1 := ⟨co_X8_replace, im_X8_replace, se_X8_replace, in_RX8, rfl, by decide, by decide, by decide +kernel⟩
theorem ca_X8_draw : CalV yX8_draw cX8_draw 4 (some .int) RX8 1 := ⟨co_X8_draw, im_X8_draw, se_X8_draw, in_RX8, rfl, by decide, by decide, by decide +kernel⟩
theorem ca_X8_drift : CalV yX8_drift cX8_drift 7 (some .int) RX8 1 := ⟨co_X8_drift, im_X8_drift, se_X8_drift, in_RX8, rfl, by decide, by decide, by decide +kernel⟩
theorem ca_X8_undo : CalV yX8_undo cX8_undo 2 (some .int) RX8 0 := ⟨co_X8_undo, im_X8_undo, se_X8_undo, in_RX8, rfl, by decide, by decide, by decide +kernel⟩
theorem ca_X8_wouldFall : CalV yX8_wouldFall cX8_wouldFall 6 (some .int) RX8 4 := ⟨co_X8_wouldFall, im_X8_wouldFall, se_X8_wouldFall, in_RX8, rfl, by decide, by decide, by decide +kernel⟩
theorem ca_X8_ballsFor : CalV yX8_ballsFor cX8_ballsFor 6 (some .int) RX8 2 := ⟨co_X8_ballsFor, im_X8_ballsFor, se_X8_ballsFor, in_RX8, rfl, by decide, by decide, by decide +kernel⟩
theorem ca_X8_balls : CalV yX8_balls cX8_balls 3 (some .int) RX8 2 := ⟨co_X8_balls, im_X8_balls, se_X8_balls, in_RX8, rfl, by decide, by decide, by decide +kernel⟩
theorem ca_X8_spare : CalV yX8_spare cX8_spare 9 (some .int) RX8 2 := ⟨co_X8_spare, im_X8_spare, se_X8_spare, in_RX8, rfl, by decide, by decide, by decide +kernel⟩
theorem ca_X8_allDown : CalV yX8_allDown cX8_allDown 8 (some .int) RX8 1 := ⟨co_X8_allDown, im_X8_allDown, se_X8_allDown, in_RX8, rfl, by decide, by decide, by decide +kernel⟩
theorem ca_X8_mend : CalV yX8_mend cX8_mend 10 (some .int) RX8 4 := ⟨co_X8_mend, im_X8_mend, se_X8_mend, in_RX8, rfl, by decide, by decide, by decide +kernel⟩
theorem ca_X8_hand : CalV yX8_hand cX8_hand 4 (some .int) RX8 1 := ⟨co_X8_hand, im_X8_hand, se_X8_hand, in_RX8, rfl, by decide, by decide, by decide +kernel⟩
theorem ca_X8_ask : CalV yX8_ask cX8_ask 7 (some .int) RX8 1 := ⟨co_X8_ask, im_X8_ask, se_X8_ask, in_RX8, rfl, by decide, by decide, by decide +kernel⟩
theorem ca_X8_calm : CalV yX8_calm cX8_calm 6 (some .int) RX8 2 := ⟨co_X8_calm, im_X8_calm, se_X8_calm, in_RX8, rfl, by decide, by decide, by decide +kernel⟩
theorem ca_X8_write : CalV yX8_write cX8_write 3 (some .int) RX8 2 := ⟨co_X8_write, im_X8_write, se_X8_write, in_RX8, rfl, by decide, by decide, by decide +kernel⟩
theorem ca_X8_tear : CalV yX8_tear cX8_tear 2 (some .int) RX8 0 := ⟨co_X8_tear, im_X8_tear, se_X8_tear, in_RX8, rfl, by decide, by decide, by decide +kernel⟩
theorem ca_X8_judge : CalV yX8_judge cX8_judge 2 (some .int) RX8 0 := ⟨co_X8_judge, im_X8_judge, se_X8_judge, in_RX8, rfl, by decide, by decide, by decide +kernel⟩
theorem ca_X8_seed : CalV yX8_seed cX8_seed 3 (some .int) RX8 1 := ⟨co_X8_seed, im_X8_seed, se_X8_seed, in_RX8, rfl, by decide, by decide, by decide +kernel⟩
theorem ca_X8_keep : CalV yX8_keep cX8_keep 3 (some .int) RX8 1 := ⟨co_X8_keep, im_X8_keep, se_X8_keep, in_RX8, rfl, by decide, by decide, by decide +kernel⟩
theorem ca_X8_goBack : CalV yX8_goBack cX8_goBack 3 (some .int) RX8 1 := ⟨co_X8_goBack, im_X8_goBack, se_X8_goBack, in_RX8, rfl, by decide, by decide, by decide +kernel⟩
theorem ca_J6_bitCount_0f7a4 : CalS yJ6_bitCount_0f7a4 cJ6_bitCount_0f7a4 1 (some .int) RJ6 1 := ⟨co_J6_bitCount_0f7a4, sm_J6_bitCount_0f7a4, in_RJ6, rfl, by decide, by decide, by decide +kernel⟩
theorem ca_J7_fill_53178 : CalS yJ7_fill_53178 cJ7_fill_53178 4 none RJ7 2 := ⟨co_J7_fill_53178, sm_J7_fill_53178, in_RJ7, rfl, by decide, by decide, by decide +kernel⟩
end
section
abbrev Mx : Type := Program × Launch × Env × Room × State × MethodId × Array Value × List Frame × Method × Code × Nat × Nat
abbrev St : Type := Nat → Nat → Int32
abbrev Wd : Type := va_G × (Nat → Nat) × (Nat → Prop) × ClassId × ClassId × ClassId × Nat × Nat × Nat
abbrev wD (ω : Wd) : va_G := ω.1
abbrev wh (ω : Wd) : Nat → Nat := ω.2.1
abbrev wA (ω : Wd) : Nat → Prop := ω.2.2.1
abbrev wI (ω : Wd) : ClassId := ω.2.2.2.1
abbrev wZ (ω : Wd) : ClassId := ω.2.2.2.2.1
abbrev wG (ω : Wd) : ClassId := ω.2.2.2.2.2.1
abbrev wR (ω : Wd) : Nat := ω.2.2.2.2.2.2.1
abbrev wC (ω : Wd) : Nat := ω.2.2.2.2.2.2.2.1
abbrev wP (ω : Wd) : Nat := ω.2.2.2.2.2.2.2.2
abbrev xl (x : Mx) : Launch := x.2.1
abbrev xR (x : Mx) : Room := x.2.2.2.1
abbrev xs (x : Mx) : State := x.2.2.2.2.1
abbrev xm (x : Mx) : MethodId := x.2.2.2.2.2.1
abbrev xa (x : Mx) : Array Value := x.2.2.2.2.2.2.1
abbrev xb (x : Mx) : List Frame := x.2.2.2.2.2.2.2.1
abbrev xM (x : Mx) : Method := x.2.2.2.2.2.2.2.2.1
abbrev xc (x : Mx) : Code := x.2.2.2.2.2.2.2.2.2.1
abbrev xk (x : Mx) : Nat := x.2.2.2.2.2.2.2.2.2.2.1
abbrev xn (x : Mx) : Nat := x.2.2.2.2.2.2.2.2.2.2.2
/-- a cell becomes another -/
def sa (σ : St) (q : Nat) (f : Nat → Int32) : St := fun j => if j = q then f else σ j
/-- one place of a cell becomes another -/
def su (σ : St) (q k : Nat) (v : Int32) : St := sa σ q (upd (σ q) k v)
abbrev cls : List vw_C := [(RX0, TX0, 7), (RX1, TX1, 3), (RX2, TX2, 10), (RX3, TX3, 12), (RX4, TX4, 3), (RX5, TX5, 8), (RX6, TX6, 2), (RX7, TX7, 13), (RX8, TX8, 35)]
def fX0 (ω : Wd) (f : Nat → Int32) : List Value := [.ref (wh ω 179), .ref (wh ω 180), .ref (wh ω 181), .int (f 3), .int (f 4), .int (f 5), .int (f 6)]
def fX1 (ω : Wd) (f : Nat → Int32) : List Value := [.ref (wh ω 183), .ref (wh ω 184), .int (f 2)]
def fX2 (ω : Wd) (f : Nat → Int32) : List Value := [.ref (wh ω 162), .ref (wh ω 163), .ref (wh ω 164), .ref (wh ω 165), .int (f 4), .int (f 5), .int (f 6), .int (f 7), .int (f 8), .int (f 9)]
def fX3 (ω : Wd) (q : Nat) (f : Nat → Int32) : List Value := [.ref (wh ω (q + 1)), .ref (wh ω (q + 2)), .ref (wh ω (q + 3)), .ref (wh ω (q + 4)), .ref (wh ω (q + 5)), .ref (wh ω (q + 6)), .ref (wh ω (q + 7)), .int (f 7), .int (f 8), .int (f 9), .int (f 10), .int (f 11)]
def fX4 (ω : Wd) (f : Nat → Int32) : List Value := [.ref (wh ω 167), .int (f 1), .int (f 2)]
def fX5 (ω : Wd) (f : Nat → Int32) : List Value := [.ref (wh ω 172), .ref (wh ω 173), .ref (wh ω 174), .ref (wh ω 175), .int (f 4), .int (f 5), .int (f 6), .int (f 7)]
def fX6 (ω : Wd) (f : Nat → Int32) : List Value := [.ref (wh ω 177), .int (f 1)]
def fX7 (ω : Wd) (f : Nat → Int32) : List Value := [.ref (wh ω 161), .ref (wh ω 0), .ref (wh ω 8), .ref (wh ω 166), .ref (wh ω 168), .ref (wh ω 169), .ref (wh ω 170), .ref (wh ω 171), .ref (wh ω 176), .ref (wh ω 178), .ref (wh ω 182), .int (f 11), .int (f 12)]
def fX8 (ω : Wd) (f : Nat → Int32) : List Value := [.int (f 0), .ref (wh ω 186), .int (f 2), .int (f 3), .int (f 4), .int (f 5), .int (f 6), .int (f 7), .int (f 8), .int (f 9), .int (f 10), .int (f 11), .ref (wh ω 187), .ref (wh ω 188), .ref (wh ω 189), .ref (wh ω 190), .ref (wh ω 191), .ref (wh ω 192), .int (f 18), .ref (wh ω 193), .ref (wh ω 194), .int (f 21), .ref (wh ω 195), .ref (wh ω 196), .ref (wh ω 197), .ref (wh ω 198), .int (f 26), .int (f 27), .int (f 28), .ref (wh ω 199), .ref (wh ω 200), .ref (wh ω 201), .ref (wh ω 202), .ref (wh ω 203), .ref (wh ω 204)]
/-- the cell of a number, by what it holds -/
def ceJ (ω : Wd) (q : Nat) (f : Nat → Int32) : va_E :=
  if q < 160 then (if q % 8 = 0 then .inr (3, fX3 ω q f) else .inl (wI ω, 9, .inl f))
  else match q - 160 with
    | 0 => .inr (7, fX7 ω f)
    | 1 => .inr (2, fX2 ω f)
    | 2 => .inl (wI ω, 240, .inl f)
    | 3 => .inl (wI ω, 9, .inl f)
    | 4 => .inl (wI ω, 9, .inl f)
    | 5 => .inl (wI ω, 9, .inl f)
    | 6 => .inr (4, fX4 ω f)
    | 7 => .inl (wG ω, 16, .inr (.inr (.inr (.inr (fun i => some (wh ω (32 + 8 * i)))))))
    | 8 => .inl (wG ω, 2, .inr (.inr (.inr (.inr (fun i => some (wh ω (16 + 8 * i)))))))
    | 9 => .inl (wZ ω, 2, .inl f)
    | 10 => .inl (wI ω, 2, .inl f)
    | 11 => .inr (5, fX5 ω f)
    | 12 => .inl (wI ω, 9, .inl f)
    | 13 => .inl (wI ω, 9, .inl f)
    | 14 => .inl (wI ω, 9, .inl f)
    | 15 => .inl (wI ω, 9, .inl f)
    | 16 => .inr (6, fX6 ω f)
    | 17 => .inl (wI ω, 600, .inl f)
    | 18 => .inr (0, fX0 ω f)
    | 19 => .inl (wI ω, 512, .inl f)
    | 20 => .inl (wI ω, 512, .inl f)
    | 21 => .inl (wI ω, 512, .inl f)
    | 22 => .inr (1, fX1 ω f)
    | 23 => .inl (wI ω, 15, .inl f)
    | 24 => .inl (wZ ω, 15, .inl f)
    | 25 => .inr (8, fX8 ω f)
    | 26 => .inl (wI ω, 240, .inl f)
    | 27 => .inl (wI ω, 27, .inl f)
    | 28 => .inl (wI ω, 9, .inl f)
    | 29 => .inl (wI ω, 49, .inl f)
    | 30 => .inl (wI ω, 98, .inl f)
    | 31 => .inl (wZ ω, 2, .inl f)
    | 32 => .inl (wI ω, 784, .inl f)
    | 33 => .inl (wI ω, 15, .inl f)
    | 34 => .inl (wZ ω, 15, .inl f)
    | 35 => .inl (wI ω, 9, .inl f)
    | 36 => .inl (wI ω, 9, .inl f)
    | 37 => .inl (wI ω, 9, .inl f)
    | 38 => .inl (wI ω, 9, .inl f)
    | 39 => .inl (wI ω, 10, .inl f)
    | 40 => .inl (wI ω, 10, .inl f)
    | 41 => .inl (wI ω, 10, .inl f)
    | 42 => .inl (wI ω, 512, .inl f)
    | 43 => .inl (wI ω, 512, .inl f)
    | _ => .inl (wI ω, 512, .inl f)
def wl (ω : Wd) (σ : St) : va_W := (List.range 205).map (fun j => (wh ω j, ceJ ω j (σ j)))
theorem wl_get {ω : Wd} {σ : St} {q : Nat} (h : q < 205) : (wl ω σ)[q]? = some (wh ω q, ceJ ω q (σ q)) := by
  simp [wl, List.getElem?_map, List.getElem?_range h]
theorem wl_inv {ω : Wd} {σ : St} {q : Nat} {c : Nat × va_E} (h : (wl ω σ)[q]? = some c) : q < 205 ∧ c = (wh ω q, ceJ ω q (σ q)) := by
  by_cases hq : q < 205
  · rw [wl_get hq] at h
    exact ⟨hq, (Option.some.inj h).symm⟩
  · have hl : (wl ω σ).length = 205 := by simp [wl]
    rw [List.getElem?_eq_none (by rw [hl]; omega)] at h
    cases h
theorem wl_len {ω : Wd} {σ : St} : (wl ω σ).length = 205 := by simp [wl]
theorem sa_self {σ : St} {q : Nat} {f : Nat → Int32} : sa σ q f q = f := if_pos rfl
theorem sa_ne {σ : St} {q j : Nat} {f : Nat → Int32} (h : j ≠ q) : sa σ q f j = σ j := if_neg h
theorem wl_set {ω : Wd} {σ : St} {q : Nat} {f : Nat → Int32} (h : q < 205) : (wl ω σ).set q (wh ω q, ceJ ω q f) = wl ω (sa σ q f) := by
  apply List.ext_getElem?
  intro i
  by_cases hi : i < 205
  · rw [wl_get hi]
    by_cases hq : i = q
    · subst hq
      rw [List.getElem?_set_self (by rw [wl_len]; exact hi), sa_self]
    · rw [List.getElem?_set_ne (Ne.symm hq), wl_get hi, sa_ne hq]
  · rw [List.getElem?_eq_none (by rw [List.length_set, wl_len]; omega), List.getElem?_eq_none (by rw [wl_len]; omega)]
abbrev tyL (ω : Wd) : List (ClassId × FieldType) := [(wI ω, .int), (wZ ω, .boolean), (wG ω, .object "SkittleGentry$Gentry")]
def tROW (j : Nat) : Int32 := ([0, 1, 1, 2, 2, 2, 3, 3, 4] : List Int32).getD j 0
def tCOL (j : Nat) : Int32 := ([2, 1, 3, 0, 2, 4, 1, 3, 2] : List Int32).getD j 0
def tPLA (j : Nat) : Int32 := ([-1, -1, 0, -1, -1, -1, 1, -1, 2, -1, 3, -1, 4, -1, 5, -1, 6, -1, 7, -1, -1, -1, 8, -1, -1] : List Int32).getD j 0
/-- the static tables -/
def ST (ω : Wd) (U : State) (H : Heap) : Prop :=
  (va_Z RX7 "ROW_OF" "[I" (.ref (wR ω)) (wA ω) U H ∧ va_T .int (wR ω) 9 (fun j => .int (tROW j)) (wA ω) U H) ∧
  (va_Z RX7 "COLUMN_OF" "[I" (.ref (wC ω)) (wA ω) U H ∧ va_T .int (wC ω) 9 (fun j => .int (tCOL j)) (wA ω) U H) ∧
  (va_Z RX7 "PLATE_AT" "[I" (.ref (wP ω)) (wA ω) U H ∧ va_T .int (wP ω) 25 (fun j => .int (tPLA j)) (wA ω) U H)
theorem ST.kept {ω : Wd} {U : State} {H H1 : Heap} (h : ST ω U H) (hq : ∀ a : Nat, a < H.size → ¬ wA ω a → H1[a]? = H[a]?) : ST ω U H1 :=
  ⟨⟨h.1.1.kept hq, h.1.2.kept hq⟩, ⟨h.2.1.1.kept hq, h.2.1.2.kept hq⟩, ⟨h.2.2.1.kept hq, h.2.2.2.kept hq⟩⟩
theorem ST.moved {ω : Wd} {u U : State} {H : Heap} (hvm : u.vm.Alike U.vm) (h : ST ω u H) : ST ω U H :=
  ⟨⟨h.1.1.moved hvm, h.1.2.moved hvm⟩, ⟨h.2.1.1.moved hvm, h.2.1.2.moved hvm⟩, ⟨h.2.2.1.moved hvm, h.2.2.2.moved hvm⟩⟩
/-- what the tables say of the world -/
def WK (ω : Wd) (U : State) : Prop := va_K (wD ω) cls (tyL ω) U ∧ (∀ w ∈ nws, va_Nw w U) ∧ ST ω U U.heap
/-- the addresses -/
def WD (ω : Wd) : Prop := (∀ i j : Nat, i < 205 → j < 205 → wh ω i = wh ω j → i = j) ∧ ∀ j : Nat, j < 205 → wA ω (wh ω j)
theorem WD.D {ω : Wd} (h : WD ω) (σ : St) : va_D (wA ω) (wl ω σ) := by
  refine ⟨fun i j p q hp hq e => ?_, fun k q hk => ?_⟩
  · obtain ⟨h1, rfl⟩ := wl_inv hp
    obtain ⟨h2, rfl⟩ := wl_inv hq
    exact h.1 i j h1 h2 e
  · obtain ⟨h1, rfl⟩ := wl_inv hk
    exact h.2 k h1
theorem WK.warm {ω : Wd} {s U : State} {H : Heap} {locs : List Loc} (h : WK ω s) (hW : s.WarmedH U.vm) (hS : va_S (wA ω) s.heap H locs) (hH : U.heap = H) : WK ω U := by
  refine ⟨h.1.moved hW.alike, fun w hw => nw_warm hw hW (h.2.1 w hw), ?_⟩
  rw [hH]
  exact (h.2.2.moved hW.alike).kept hS.2.1
theorem WK.call {ω : Wd} {U : State} {g : JFrame} {mk : MethodId} {a : Array Value} (h : WK ω U) : WK ω (U.calling g mk a) :=
  ⟨va_K.moved (u := U) (U := U.calling g mk a) (Vm.Alike.refl U.vm) h.1, fun w hw => nw_same hw (s := U) (U := U.calling g mk a) rfl (h.2.1 w hw), ST.moved (u := U) (U := U.calling g mk a) (Vm.Alike.refl U.vm) h.2.2⟩
/-- where a method stands: the machine, its code, the tables, the world, its room -/
def Cx (x : Mx) (ω : Wd) (cc : ByteArray) (nL : Nat) (own : String) (ret : Option FieldType) (fr lo : Nat) : Prop :=
  x.1.tables.exec = Jvm.exec ∧ (xc x).code = cc ∧ (xc x).maxLocals = nL ∧ (xs x).vm.findClass own = some (xm x).cls ∧ (∀ w ∈ tb, w.before (xa x) (xs x) = true) ∧ (xM x).sig.returnType = ret ∧ (xM x).locks = false ∧ WK ω (xs x) ∧ WD ω ∧ fr ≤ (xR x).frames ∧ lo ≤ (xR x).locals ∧ xk x ≤ (xR x).cells ∧ xn x ≤ (xR x).slots
/-- from here, whatever heap holds the state, the machine comes to Q -/
def G (x : Mx) (ω : Wd) (nL : Nat) (Q : State → Prop) (σ : St) (pc : Nat) (lv : List (Nat × Value)) (st : List Value) : Prop :=
  ∀ (H : Heap) (locs : List Loc) (ls : Array Slot), va_P (wD ω) cls (wl ω σ) H → va_S (wA ω) (xs x).heap H locs → lv_has ls nL lv → W x.1 (xl x) x.2.2.1 (xR x) (xs x) (xm x) (xa x) (xb x) (xM x) (xc x) H locs (xk x) (xn x) Q (F0 (xm x) pc ls st)
section GL
variable {x : Mx} {ω : Wd} {cc : ByteArray} {nL : Nat} {own : String} {ret : Option FieldType} {fr lo : Nat} {Q : State → Prop} {σ : St} {pc : Nat} {lv : List (Nat × Value)} {st : List Value}
theorem G.sub {lv' : List (Nat × Value)} (ks : List Nat) (hl : lv_pick lv ks = lv') (k : G x ω nL Q σ pc lv' st) : G x ω nL Q σ pc lv st := fun H locs ls hP hS h => k H locs ls hP hS (lv_sub h ks hl)
theorem G.to {pc' : Nat} (h : pc = pc') (k : G x ω nL Q σ pc' lv st) : G x ω nL Q σ pc lv st := by subst h; exact k
theorem G.iconst (E : Cx x ω cc nL own ret fr lo) {n : Int} {v : Int32} (hd : decode cc pc = .ok (.iconst n, 1)) (hv : Int32.ofInt n = v) (k : G x ω nL Q σ (pc + 1) lv (.int v :: st)) : G x ω nL Q σ pc lv (st) := fun H locs ls hP hS h => lv_iconst E.1 E.2.1 hd hv (k H locs ls hP hS h)
theorem G.bipush (E : Cx x ω cc nL own ret fr lo) {n : Int} {v : Int32} (hd : decode cc pc = .ok (.bipush n, 2)) (hv : (Int8.ofInt n).toInt32 = v) (k : G x ω nL Q σ (pc + 2) lv (.int v :: st)) : G x ω nL Q σ pc lv (st) := fun H locs ls hP hS h => lv_bipush E.1 E.2.1 hd hv (k H locs ls hP hS h)
theorem G.sipush (E : Cx x ω cc nL own ret fr lo) {n : Int} {v : Int32} (hd : decode cc pc = .ok (.sipush n, 3)) (hv : (Int16.ofInt n).toInt32 = v) (k : G x ω nL Q σ (pc + 3) lv (.int v :: st)) : G x ω nL Q σ pc lv (st) := fun H locs ls hP hS h => lv_sipush E.1 E.2.1 hd hv (k H locs ls hP hS h)
theorem G.iadd (E : Cx x ω cc nL own ret fr lo) {a b : Int32} (hd : decode cc pc = .ok (.iadd, 1)) (k : G x ω nL Q σ (pc + 1) lv (.int (a + b) :: st)) : G x ω nL Q σ pc lv (.int b :: .int a :: st) := fun H locs ls hP hS h => lv_iadd E.1 E.2.1 hd (k H locs ls hP hS h)
theorem G.isub (E : Cx x ω cc nL own ret fr lo) {a b : Int32} (hd : decode cc pc = .ok (.isub, 1)) (k : G x ω nL Q σ (pc + 1) lv (.int (a - b) :: st)) : G x ω nL Q σ pc lv (.int b :: .int a :: st) := fun H locs ls hP hS h => lv_isub E.1 E.2.1 hd (k H locs ls hP hS h)
theorem G.imul (E : Cx x ω cc nL own ret fr lo) {a b : Int32} (hd : decode cc pc = .ok (.imul, 1)) (k : G x ω nL Q σ (pc + 1) lv (.int (a * b) :: st)) : G x ω nL Q σ pc lv (.int b :: .int a :: st) := fun H locs ls hP hS h => lv_imul E.1 E.2.1 hd (k H locs ls hP hS h)
theorem G.iand (E : Cx x ω cc nL own ret fr lo) {a b : Int32} (hd : decode cc pc = .ok (.iand, 1)) (k : G x ω nL Q σ (pc + 1) lv (.int (a &&& b) :: st)) : G x ω nL Q σ pc lv (.int b :: .int a :: st) := fun H locs ls hP hS h => lv_iand E.1 E.2.1 hd (k H locs ls hP hS h)
theorem G.ior (E : Cx x ω cc nL own ret fr lo) {a b : Int32} (hd : decode cc pc = .ok (.ior, 1)) (k : G x ω nL Q σ (pc + 1) lv (.int (a ||| b) :: st)) : G x ω nL Q σ pc lv (.int b :: .int a :: st) := fun H locs ls hP hS h => lv_ior E.1 E.2.1 hd (k H locs ls hP hS h)
theorem G.ixor (E : Cx x ω cc nL own ret fr lo) {a b : Int32} (hd : decode cc pc = .ok (.ixor, 1)) (k : G x ω nL Q σ (pc + 1) lv (.int (a ^^^ b) :: st)) : G x ω nL Q σ pc lv (.int b :: .int a :: st) := fun H locs ls hP hS h => lv_ixor E.1 E.2.1 hd (k H locs ls hP hS h)
theorem G.idiv (E : Cx x ω cc nL own ret fr lo) {a b : Int32} (hd : decode cc pc = .ok (.idiv, 1)) (hz : ¬ b = 0) (k : G x ω nL Q σ (pc + 1) lv (.int (a / b) :: st)) : G x ω nL Q σ pc lv (.int b :: .int a :: st) := fun H locs ls hP hS h => lv_idiv E.1 E.2.1 hd hz (k H locs ls hP hS h)
theorem G.irem (E : Cx x ω cc nL own ret fr lo) {a b : Int32} (hd : decode cc pc = .ok (.irem, 1)) (hz : ¬ b = 0) (k : G x ω nL Q σ (pc + 1) lv (.int (a - a / b * b) :: st)) : G x ω nL Q σ pc lv (.int b :: .int a :: st) := fun H locs ls hP hS h => lv_irem E.1 E.2.1 hd hz (k H locs ls hP hS h)
theorem G.ladd (E : Cx x ω cc nL own ret fr lo) {a b : Int64} (hd : decode cc pc = .ok (.ladd, 1)) (k : G x ω nL Q σ (pc + 1) lv (.long (a + b) :: st)) : G x ω nL Q σ pc lv (.long b :: .long a :: st) := fun H locs ls hP hS h => lv_ladd E.1 E.2.1 hd (k H locs ls hP hS h)
theorem G.lmul (E : Cx x ω cc nL own ret fr lo) {a b : Int64} (hd : decode cc pc = .ok (.lmul, 1)) (k : G x ω nL Q σ (pc + 1) lv (.long (a * b) :: st)) : G x ω nL Q σ pc lv (.long b :: .long a :: st) := fun H locs ls hP hS h => lv_lmul E.1 E.2.1 hd (k H locs ls hP hS h)
theorem G.land (E : Cx x ω cc nL own ret fr lo) {a b : Int64} (hd : decode cc pc = .ok (.land, 1)) (k : G x ω nL Q σ (pc + 1) lv (.long (a &&& b) :: st)) : G x ω nL Q σ pc lv (.long b :: .long a :: st) := fun H locs ls hP hS h => lv_land E.1 E.2.1 hd (k H locs ls hP hS h)
theorem G.ldiv (E : Cx x ω cc nL own ret fr lo) {a b : Int64} (hd : decode cc pc = .ok (.ldiv, 1)) (hz : ¬ b = 0) (k : G x ω nL Q σ (pc + 1) lv (.long (a / b) :: st)) : G x ω nL Q σ pc lv (.long b :: .long a :: st) := fun H locs ls hP hS h => lv_ldiv E.1 E.2.1 hd hz (k H locs ls hP hS h)
theorem G.lrem (E : Cx x ω cc nL own ret fr lo) {a b : Int64} (hd : decode cc pc = .ok (.lrem, 1)) (hz : ¬ b = 0) (k : G x ω nL Q σ (pc + 1) lv (.long (a - a / b * b) :: st)) : G x ω nL Q σ pc lv (.long b :: .long a :: st) := fun H locs ls hP hS h => lv_lrem E.1 E.2.1 hd hz (k H locs ls hP hS h)
theorem G.i2l (E : Cx x ω cc nL own ret fr lo) {a : Int32} (hd : decode cc pc = .ok (.i2l, 1)) (k : G x ω nL Q σ (pc + 1) lv (.long a.toInt64 :: st)) : G x ω nL Q σ pc lv (.int a :: st) := fun H locs ls hP hS h => lv_i2l E.1 E.2.1 hd rfl (k H locs ls hP hS h)
theorem G.l2i (E : Cx x ω cc nL own ret fr lo) {a : Int64} (hd : decode cc pc = .ok (.l2i, 1)) (k : G x ω nL Q σ (pc + 1) lv (.int a.toInt32 :: st)) : G x ω nL Q σ pc lv (.long a :: st) := fun H locs ls hP hS h => lv_l2i E.1 E.2.1 hd rfl (k H locs ls hP hS h)
theorem G.iushr (E : Cx x ω cc nL own ret fr lo) {a b : Int32} (hd : decode cc pc = .ok (.iushr, 1)) (k : G x ω nL Q σ (pc + 1) lv (.int (a.toUInt32 >>> (b.toUInt32 &&& Int32.toUInt32 31)).toInt32 :: st)) : G x ω nL Q σ pc lv (.int b :: .int a :: st) := fun H locs ls hP hS h => lv_iushr E.1 E.2.1 hd rfl (k H locs ls hP hS h)
theorem G.dup (E : Cx x ω cc nL own ret fr lo) {v : Value} (hd : decode cc pc = .ok (.dup, 1)) (hc : v.category = 1) (k : G x ω nL Q σ (pc + 1) lv (v :: v :: st)) : G x ω nL Q σ pc lv (v :: st) := fun H locs ls hP hS h => lv_dup E.1 E.2.1 hd hc (k H locs ls hP hS h)
theorem G.pop (E : Cx x ω cc nL own ret fr lo) {v : Value} (hd : decode cc pc = .ok (.pop, 1)) (hc : v.category = 1) (k : G x ω nL Q σ (pc + 1) lv (st)) : G x ω nL Q σ pc lv (v :: st) := fun H locs ls hP hS h => lv_pop E.1 E.2.1 hd hc (k H locs ls hP hS h)
theorem G.dup2 (E : Cx x ω cc nL own ret fr lo) {v w : Value} (hd : decode cc pc = .ok (.dup2, 1)) (hc : v.category = 1) (hc2 : w.category = 1) (k : G x ω nL Q σ (pc + 1) lv (v :: w :: v :: w :: st)) : G x ω nL Q σ pc lv (v :: w :: st) := fun H locs ls hP hS h => lv_dup2_11 E.1 E.2.1 hd hc hc2 (k H locs ls hP hS h)
theorem G.ishl (E : Cx x ω cc nL own ret fr lo) {a b : Int32} (hd : decode cc pc = .ok (.ishl, 1)) (k : G x ω nL Q σ (pc + 1) lv (.int (a <<< (b &&& 31)) :: st)) : G x ω nL Q σ pc lv (.int b :: .int a :: st) := fun H locs ls hP hS h => lv_ishl E.1 E.2.1 hd (k H locs ls hP hS h)
theorem G.ishr (E : Cx x ω cc nL own ret fr lo) {a b : Int32} (hd : decode cc pc = .ok (.ishr, 1)) (k : G x ω nL Q σ (pc + 1) lv (.int (a >>> (b &&& 31)) :: st)) : G x ω nL Q σ pc lv (.int b :: .int a :: st) := fun H locs ls hP hS h => lv_ishr E.1 E.2.1 hd (k H locs ls hP hS h)
theorem G.ldc (E : Cx x ω cc nL own ret fr lo) {i : Nat} {v : Int32} (hm : Cond.constant own i v ∈ tb) (hd : decode cc pc = .ok (.ldc i, 2)) (k : G x ω nL Q σ (pc + 2) lv (.int v :: st)) : G x ω nL Q σ pc lv st := fun H locs ls hP hS h => lv_ldc E.1 E.2.1 E.2.2.2.1 (E.2.2.2.2.1 _ hm) hd (k H locs ls hP hS h)
theorem G.ldcw (E : Cx x ω cc nL own ret fr lo) {i : Nat} {v : Int32} (hm : Cond.constant own i v ∈ tb) (hd : decode cc pc = .ok (.ldc_w i, 3)) (k : G x ω nL Q σ (pc + 3) lv (.int v :: st)) : G x ω nL Q σ pc lv st := fun H locs ls hP hS h => lv_ldcw E.1 E.2.1 E.2.2.2.1 (E.2.2.2.2.1 _ hm) hd (k H locs ls hP hS h)
theorem G.ldc2 (E : Cx x ω cc nL own ret fr lo) {i : Nat} {v : Int64} (hm : Cond.constantLong own i v ∈ tb) (hd : decode cc pc = .ok (.ldc2_w i, 3)) (k : G x ω nL Q σ (pc + 3) lv (.long v :: st)) : G x ω nL Q σ pc lv st := fun H locs ls hP hS h => lv_ldc2 E.1 E.2.1 E.2.2.2.1 (E.2.2.2.2.1 _ hm) hd (k H locs ls hP hS h)
theorem G.iload_n (E : Cx x ω cc nL own ret fr lo) {j : Fin 4} {i : Nat} {v : Int32} (hd : decode cc pc = .ok (.iload_n j, 1)) (hi : (j : Nat) = i) (k0 : Nat) (hk : lv[k0]? = some (i, .int v)) (k : G x ω nL Q σ (pc + 1) lv (.int v :: st)) : G x ω nL Q σ pc lv st := fun H locs ls hP hS h => lv_iload_n E.1 E.2.1 hd hi (lv_at h k0 hk) (k H locs ls hP hS h)
theorem G.iload (E : Cx x ω cc nL own ret fr lo) {i : Nat} {v : Int32} (hd : decode cc pc = .ok (.iload i, 2)) (k0 : Nat) (hk : lv[k0]? = some (i, .int v)) (k : G x ω nL Q σ (pc + 2) lv (.int v :: st)) : G x ω nL Q σ pc lv st := fun H locs ls hP hS h => lv_iload E.1 E.2.1 hd (lv_at h k0 hk) (k H locs ls hP hS h)
theorem G.lload_n (E : Cx x ω cc nL own ret fr lo) {j : Fin 4} {i : Nat} {v : Int64} (hd : decode cc pc = .ok (.lload_n j, 1)) (hi : (j : Nat) = i) (k0 : Nat) (hk : lv[k0]? = some (i, .long v)) (k : G x ω nL Q σ (pc + 1) lv (.long v :: st)) : G x ω nL Q σ pc lv st := fun H locs ls hP hS h => lv_lload_n E.1 E.2.1 hd hi (lv_at h k0 hk) (k H locs ls hP hS h)
theorem G.lload (E : Cx x ω cc nL own ret fr lo) {i : Nat} {v : Int64} (hd : decode cc pc = .ok (.lload i, 2)) (k0 : Nat) (hk : lv[k0]? = some (i, .long v)) (k : G x ω nL Q σ (pc + 2) lv (.long v :: st)) : G x ω nL Q σ pc lv st := fun H locs ls hP hS h => lv_lload E.1 E.2.1 hd (lv_at h k0 hk) (k H locs ls hP hS h)
theorem G.aload_n (E : Cx x ω cc nL own ret fr lo) {j : Fin 4} {i : Nat} {v : Nat} (hd : decode cc pc = .ok (.aload_n j, 1)) (hi : (j : Nat) = i) (k0 : Nat) (hk : lv[k0]? = some (i, .ref v)) (k : G x ω nL Q σ (pc + 1) lv (.ref v :: st)) : G x ω nL Q σ pc lv st := fun H locs ls hP hS h => lv_aload_n E.1 E.2.1 hd hi (lv_at h k0 hk) (k H locs ls hP hS h)
theorem G.aload (E : Cx x ω cc nL own ret fr lo) {i : Nat} {v : Nat} (hd : decode cc pc = .ok (.aload i, 2)) (k0 : Nat) (hk : lv[k0]? = some (i, .ref v)) (k : G x ω nL Q σ (pc + 2) lv (.ref v :: st)) : G x ω nL Q σ pc lv st := fun H locs ls hP hS h => lv_aload E.1 E.2.1 hd (lv_at h k0 hk) (k H locs ls hP hS h)
theorem G.istore_n (E : Cx x ω cc nL own ret fr lo) {j : Fin 4} {i : Nat} {v : Int32} {lv' : List (Nat × Value)} (hd : decode cc pc = .ok (.istore_n j, 1)) (hi : (j : Nat) = i) (hn : i < nL) (hl : (i, Value.int v) :: lv.filter (fun q => !(q.1 == i) && !(q.1 + 1 == i && q.2.category == 2)) = lv') (k : G x ω nL Q σ (pc + 1) lv' st) : G x ω nL Q σ pc lv (.int v :: st) := fun H locs ls hP hS h => lv_istore_n E.1 E.2.1 hd hi h hn hl (fun ls2 h2 => k H locs ls2 hP hS h2)
theorem G.istore (E : Cx x ω cc nL own ret fr lo) {i : Nat} {v : Int32} {lv' : List (Nat × Value)} (hd : decode cc pc = .ok (.istore i, 2)) (hn : i < nL) (hl : (i, Value.int v) :: lv.filter (fun q => !(q.1 == i) && !(q.1 + 1 == i && q.2.category == 2)) = lv') (k : G x ω nL Q σ (pc + 2) lv' st) : G x ω nL Q σ pc lv (.int v :: st) := fun H locs ls hP hS h => lv_istore E.1 E.2.1 hd h hn hl (fun ls2 h2 => k H locs ls2 hP hS h2)
theorem G.lstore_n (E : Cx x ω cc nL own ret fr lo) {j : Fin 4} {i : Nat} {v : Int64} {lv' : List (Nat × Value)} (hd : decode cc pc = .ok (.lstore_n j, 1)) (hi : (j : Nat) = i) (hn : i + 1 < nL) (hl : (i, Value.long v) :: lv.filter (fun q => !(q.1 == i) && (!(q.1 == i + 1) && !(q.1 + 1 == i && q.2.category == 2))) = lv') (k : G x ω nL Q σ (pc + 1) lv' st) : G x ω nL Q σ pc lv (.long v :: st) := fun H locs ls hP hS h => lv_lstore_n E.1 E.2.1 hd hi h hn hl (fun ls2 h2 => k H locs ls2 hP hS h2)
theorem G.lstore (E : Cx x ω cc nL own ret fr lo) {i : Nat} {v : Int64} {lv' : List (Nat × Value)} (hd : decode cc pc = .ok (.lstore i, 2)) (hn : i + 1 < nL) (hl : (i, Value.long v) :: lv.filter (fun q => !(q.1 == i) && (!(q.1 == i + 1) && !(q.1 + 1 == i && q.2.category == 2))) = lv') (k : G x ω nL Q σ (pc + 2) lv' st) : G x ω nL Q σ pc lv (.long v :: st) := fun H locs ls hP hS h => lv_lstore E.1 E.2.1 hd h hn hl (fun ls2 h2 => k H locs ls2 hP hS h2)
theorem G.iinc (E : Cx x ω cc nL own ret fr lo) {i : Nat} {n : Int} {v w : Int32} {lv' : List (Nat × Value)} (hd : decode cc pc = .ok (.iinc i n, 3)) (k0 : Nat) (hk : lv[k0]? = some (i, .int v)) (hv : v + Int32.ofInt n = w) (hn : i < nL) (hl : (i, Value.int w) :: lv.filter (fun q => !(q.1 == i) && !(q.1 + 1 == i && q.2.category == 2)) = lv') (k : G x ω nL Q σ (pc + 3) lv' st) : G x ω nL Q σ pc lv st := fun H locs ls hP hS h => lv_iinc E.1 E.2.1 hd h hk hv hn hl (fun ls2 h2 => k H locs ls2 hP hS h2)
theorem G.if_eq (E : Cx x ω cc nL own ret fr lo) {a : Int32} {off : Int} {tgt : Nat} (hd : decode cc pc = .ok (.ifCond .eq off, 3)) (ht : (pc : Int) + off = (tgt : Int)) (kt : a = 0 → G x ω nL Q σ tgt lv st) (kf : ¬ a = 0 → G x ω nL Q σ (pc + 3) lv st) : G x ω nL Q σ pc lv (.int a :: st) := fun H locs ls hP hS h => lv_if_eq E.1 E.2.1 hd ht (fun q => kt q H locs ls hP hS h) (fun q => kf q H locs ls hP hS h)
theorem G.icmp_eq (E : Cx x ω cc nL own ret fr lo) {a b : Int32} {off : Int} {tgt : Nat} (hd : decode cc pc = .ok (.if_icmp .eq off, 3)) (ht : (pc : Int) + off = (tgt : Int)) (kt : a = b → G x ω nL Q σ tgt lv st) (kf : ¬ a = b → G x ω nL Q σ (pc + 3) lv st) : G x ω nL Q σ pc lv (.int b :: .int a :: st) := fun H locs ls hP hS h => lv_icmp_eq E.1 E.2.1 hd ht (fun q => kt q H locs ls hP hS h) (fun q => kf q H locs ls hP hS h)
theorem G.if_ne (E : Cx x ω cc nL own ret fr lo) {a : Int32} {off : Int} {tgt : Nat} (hd : decode cc pc = .ok (.ifCond .ne off, 3)) (ht : (pc : Int) + off = (tgt : Int)) (kt : ¬ a = 0 → G x ω nL Q σ tgt lv st) (kf : a = 0 → G x ω nL Q σ (pc + 3) lv st) : G x ω nL Q σ pc lv (.int a :: st) := fun H locs ls hP hS h => lv_if_ne E.1 E.2.1 hd ht (fun q => kt q H locs ls hP hS h) (fun q => kf q H locs ls hP hS h)
theorem G.icmp_ne (E : Cx x ω cc nL own ret fr lo) {a b : Int32} {off : Int} {tgt : Nat} (hd : decode cc pc = .ok (.if_icmp .ne off, 3)) (ht : (pc : Int) + off = (tgt : Int)) (kt : ¬ a = b → G x ω nL Q σ tgt lv st) (kf : a = b → G x ω nL Q σ (pc + 3) lv st) : G x ω nL Q σ pc lv (.int b :: .int a :: st) := fun H locs ls hP hS h => lv_icmp_ne E.1 E.2.1 hd ht (fun q => kt q H locs ls hP hS h) (fun q => kf q H locs ls hP hS h)
theorem G.if_lt (E : Cx x ω cc nL own ret fr lo) {a : Int32} {off : Int} {tgt : Nat} (hd : decode cc pc = .ok (.ifCond .lt off, 3)) (ht : (pc : Int) + off = (tgt : Int)) (kt : a < 0 → G x ω nL Q σ tgt lv st) (kf : ¬ a < 0 → G x ω nL Q σ (pc + 3) lv st) : G x ω nL Q σ pc lv (.int a :: st) := fun H locs ls hP hS h => lv_if_lt E.1 E.2.1 hd ht (fun q => kt q H locs ls hP hS h) (fun q => kf q H locs ls hP hS h)
theorem G.icmp_lt (E : Cx x ω cc nL own ret fr lo) {a b : Int32} {off : Int} {tgt : Nat} (hd : decode cc pc = .ok (.if_icmp .lt off, 3)) (ht : (pc : Int) + off = (tgt : Int)) (kt : a < b → G x ω nL Q σ tgt lv st) (kf : ¬ a < b → G x ω nL Q σ (pc + 3) lv st) : G x ω nL Q σ pc lv (.int b :: .int a :: st) := fun H locs ls hP hS h => lv_icmp_lt E.1 E.2.1 hd ht (fun q => kt q H locs ls hP hS h) (fun q => kf q H locs ls hP hS h)
theorem G.if_ge (E : Cx x ω cc nL own ret fr lo) {a : Int32} {off : Int} {tgt : Nat} (hd : decode cc pc = .ok (.ifCond .ge off, 3)) (ht : (pc : Int) + off = (tgt : Int)) (kt : 0 ≤ a → G x ω nL Q σ tgt lv st) (kf : ¬ 0 ≤ a → G x ω nL Q σ (pc + 3) lv st) : G x ω nL Q σ pc lv (.int a :: st) := fun H locs ls hP hS h => lv_if_ge E.1 E.2.1 hd ht (fun q => kt q H locs ls hP hS h) (fun q => kf q H locs ls hP hS h)
theorem G.icmp_ge (E : Cx x ω cc nL own ret fr lo) {a b : Int32} {off : Int} {tgt : Nat} (hd : decode cc pc = .ok (.if_icmp .ge off, 3)) (ht : (pc : Int) + off = (tgt : Int)) (kt : b ≤ a → G x ω nL Q σ tgt lv st) (kf : ¬ b ≤ a → G x ω nL Q σ (pc + 3) lv st) : G x ω nL Q σ pc lv (.int b :: .int a :: st) := fun H locs ls hP hS h => lv_icmp_ge E.1 E.2.1 hd ht (fun q => kt q H locs ls hP hS h) (fun q => kf q H locs ls hP hS h)
theorem G.if_gt (E : Cx x ω cc nL own ret fr lo) {a : Int32} {off : Int} {tgt : Nat} (hd : decode cc pc = .ok (.ifCond .gt off, 3)) (ht : (pc : Int) + off = (tgt : Int)) (kt : 0 < a → G x ω nL Q σ tgt lv st) (kf : ¬ 0 < a → G x ω nL Q σ (pc + 3) lv st) : G x ω nL Q σ pc lv (.int a :: st) := fun H locs ls hP hS h => lv_if_gt E.1 E.2.1 hd ht (fun q => kt q H locs ls hP hS h) (fun q => kf q H locs ls hP hS h)
theorem G.icmp_gt (E : Cx x ω cc nL own ret fr lo) {a b : Int32} {off : Int} {tgt : Nat} (hd : decode cc pc = .ok (.if_icmp .gt off, 3)) (ht : (pc : Int) + off = (tgt : Int)) (kt : b < a → G x ω nL Q σ tgt lv st) (kf : ¬ b < a → G x ω nL Q σ (pc + 3) lv st) : G x ω nL Q σ pc lv (.int b :: .int a :: st) := fun H locs ls hP hS h => lv_icmp_gt E.1 E.2.1 hd ht (fun q => kt q H locs ls hP hS h) (fun q => kf q H locs ls hP hS h)
theorem G.if_le (E : Cx x ω cc nL own ret fr lo) {a : Int32} {off : Int} {tgt : Nat} (hd : decode cc pc = .ok (.ifCond .le off, 3)) (ht : (pc : Int) + off = (tgt : Int)) (kt : a ≤ 0 → G x ω nL Q σ tgt lv st) (kf : ¬ a ≤ 0 → G x ω nL Q σ (pc + 3) lv st) : G x ω nL Q σ pc lv (.int a :: st) := fun H locs ls hP hS h => lv_if_le E.1 E.2.1 hd ht (fun q => kt q H locs ls hP hS h) (fun q => kf q H locs ls hP hS h)
theorem G.icmp_le (E : Cx x ω cc nL own ret fr lo) {a b : Int32} {off : Int} {tgt : Nat} (hd : decode cc pc = .ok (.if_icmp .le off, 3)) (ht : (pc : Int) + off = (tgt : Int)) (kt : a ≤ b → G x ω nL Q σ tgt lv st) (kf : ¬ a ≤ b → G x ω nL Q σ (pc + 3) lv st) : G x ω nL Q σ pc lv (.int b :: .int a :: st) := fun H locs ls hP hS h => lv_icmp_le E.1 E.2.1 hd ht (fun q => kt q H locs ls hP hS h) (fun q => kf q H locs ls hP hS h)
theorem G.goto (E : Cx x ω cc nL own ret fr lo) {off : Int} {tgt : Nat} (hd : decode cc pc = .ok (.goto off, 3)) (ht : (pc : Int) + off = (tgt : Int)) (k : G x ω nL Q σ tgt lv st) : G x ω nL Q σ pc lv st := fun H locs ls hP hS h => lv_goto E.1 E.2.1 hd ht (k H locs ls hP hS h)
theorem G.tabOut (E : Cx x ω cc nL own ret fr lo) {dflt lo' hi : Int} {offs : Array Int} {len : Nat} {a : Int32} {tgt : Nat} (hd : decode cc pc = .ok (.tableswitch dflt lo' hi offs, len)) (h0 : a.toInt < lo' ∨ hi < a.toInt) (ht : (pc : Int) + dflt = (tgt : Int)) (k : G x ω nL Q σ tgt lv st) : G x ω nL Q σ pc lv (.int a :: st) := fun H locs ls hP hS h => lv_tableOut E.1 E.2.1 hd h0 ht (k H locs ls hP hS h)
theorem G.tabIn (E : Cx x ω cc nL own ret fr lo) {dflt lo' hi : Int} {offs : Array Int} {len : Nat} {a : Int32} {off : Int} {tgt : Nat} (hd : decode cc pc = .ok (.tableswitch dflt lo' hi offs, len)) (h1 : ¬ a.toInt < lo') (h2 : ¬ hi < a.toInt) (ho : offs[(a.toInt - lo').toNat]? = some off) (ht : (pc : Int) + off = (tgt : Int)) (k : G x ω nL Q σ tgt lv st) : G x ω nL Q σ pc lv (.int a :: st) := fun H locs ls hP hS h => lv_tableIn E.1 E.2.1 hd h1 h2 ho ht (k H locs ls hP hS h)
/-- cell q is an object of a class of ours -/
def Ob (ω : Wd) (q ci : Nat) (C : String) (T : u_T) (N : Nat) (fs : (Nat → Int32) → List Value) : Prop := q < 205 ∧ (∀ f, ceJ ω q f = .inr (ci, fs f)) ∧ cls[ci]? = some (C, T, N) ∧ (∀ w ∈ u_ws C T N, w ∈ tb)
theorem G.get (E : Cx x ω cc nL own ret fr lo) {q ci N : Nat} {C : String} {T : u_T} {fs : (Nat → Int32) → List Value} (O : Ob ω q ci C T N fs) (k0 : Nat) (hk : k0 < N) {idx : Nat} (hm : Cond.fieldLink own idx (T k0).1 (T k0).2.1 (T k0).2.2.1 ∈ tb) {v : Value} (hv : (fs (σ q))[k0]? = some v) (hd : decode cc pc = .ok (.getfield idx, 3)) (k : G x ω nL Q σ (pc + 3) lv (v :: st)) : G x ω nL Q σ pc lv (.ref (wh ω q) :: st) := fun H locs ls hP hS h =>
  va_get E.1 E.2.1 E.2.2.2.2.1 O.2.2.2 E.2.2.2.1 E.2.2.2.2.2.2.2.1.1 hP q (by rw [wl_get O.1, O.2.1]) O.2.2.1 k0 hk (E.2.2.2.2.1 _ hm) (fun _ h9 => h9) hv hd (k H locs ls hP hS h)
theorem G.getN (E : Cx x ω cc nL own ret fr lo) {q ci N : Nat} {C host : String} {T : u_T} {fs : (Nat → Int32) → List Value} (O : Ob ω q ci C T N fs) (k0 : Nat) (hk : k0 < N) {idx : Nat} (hm : Cond.fieldLinkNest own idx (T k0).1 (T k0).2.1 (T k0).2.2.1 host ∈ nws) {v : Value} (hv : (fs (σ q))[k0]? = some v) (hd : decode cc pc = .ok (.getfield idx, 3)) (k : G x ω nL Q σ (pc + 3) lv (v :: st)) : G x ω nL Q σ pc lv (.ref (wh ω q) :: st) := fun H locs ls hP hS h =>
  va_getN E.1 E.2.1 E.2.2.2.2.1 O.2.2.2 E.2.2.2.1 E.2.2.2.2.2.2.2.1.1 hP q (by rw [wl_get O.1, O.2.1]) O.2.2.1 k0 hk (va_Nw.use rfl (E.2.2.2.2.2.2.2.1.2.1 _ hm)) (fun _ h9 => h9) hv hd (k H locs ls hP hS h)
/-- ... and its number fields may be written -/
def Obw (T : u_T) (N : Nat) (ty : Nat → FieldType) (fs : (Nat → Int32) → List Value) : Prop := (∀ k, k < N → parseFieldDescriptor (T k).2.2.1 = some (ty k)) ∧ (∀ a, a < N → ∀ b, b < N → a ≠ b → (T a).2.1 ≠ (T b).2.1) ∧ ∀ f, (fs f).length = N
theorem G.put (E : Cx x ω cc nL own ret fr lo) {q ci N : Nat} {C : String} {T : u_T} {fs : (Nat → Int32) → List Value} {ty0 : Nat → FieldType} (O : Ob ω q ci C T N fs) (O2 : Obw T N ty0 fs) (k0 : Nat) (hk : k0 < N) {idx : Nat} (hm : Cond.fieldLink own idx (T k0).1 (T k0).2.1 (T k0).2.2.1 ∈ tb) (hfin : (T k0).2.2.2 = false) {v : Int32} (hn : narrow (ty0 k0) (.int v) = .int v) (hfit : fits (ty0 k0) (.int v) = true) (hset : (fs (σ q)).set k0 (.int v) = fs (upd (σ q) k0 v)) (hd : decode cc pc = .ok (.putfield idx, 3)) (k : G x ω nL Q (su σ q k0 v) (pc + 3) lv st) : G x ω nL Q σ pc lv (.int v :: .ref (wh ω q) :: st) := fun H locs ls hP hS h =>
  va_put E.1 E.2.1 E.2.2.2.2.1 O.2.2.2 ty0 O2.1 O2.2.1 E.2.2.2.1 E.2.2.2.2.2.2.2.1.1 hP (E.2.2.2.2.2.2.2.2.1.D σ) hS q (fs := fs (σ q)) (by rw [wl_get O.1, O.2.1]) O.2.2.1 k0 hk (E.2.2.2.2.1 _ hm) (fun _ h9 => h9) hfin (O2.1 k0 hk) hn hfit (by rw [O2.2.2]; exact hk) hd (fun H1 l1 hP1 _ hS1 => k H1 l1 ls (by
    rw [hset, ← O.2.1 (upd (σ q) k0 v), wl_set O.1] at hP1
    exact hP1) hS1 h)
theorem G.putN (E : Cx x ω cc nL own ret fr lo) {q ci N : Nat} {C host : String} {T : u_T} {fs : (Nat → Int32) → List Value} {ty0 : Nat → FieldType} (O : Ob ω q ci C T N fs) (O2 : Obw T N ty0 fs) (k0 : Nat) (hk : k0 < N) {idx : Nat} (hm : Cond.fieldLinkNest own idx (T k0).1 (T k0).2.1 (T k0).2.2.1 host ∈ nws) (hfin : (T k0).2.2.2 = false) {v : Int32} (hn : narrow (ty0 k0) (.int v) = .int v) (hfit : fits (ty0 k0) (.int v) = true) (hset : (fs (σ q)).set k0 (.int v) = fs (upd (σ q) k0 v)) (hd : decode cc pc = .ok (.putfield idx, 3)) (k : G x ω nL Q (su σ q k0 v) (pc + 3) lv st) : G x ω nL Q σ pc lv (.int v :: .ref (wh ω q) :: st) := fun H locs ls hP hS h =>
  va_putN E.1 E.2.1 E.2.2.2.2.1 O.2.2.2 ty0 O2.1 O2.2.1 E.2.2.2.1 E.2.2.2.2.2.2.2.1.1 hP (E.2.2.2.2.2.2.2.2.1.D σ) hS q (fs := fs (σ q)) (by rw [wl_get O.1, O.2.1]) O.2.2.1 k0 hk (va_Nw.use rfl (E.2.2.2.2.2.2.2.1.2.1 _ hm)) (fun _ h9 => h9) hfin (O2.1 k0 hk) hn hfit (by rw [O2.2.2]; exact hk) hd (fun H1 l1 hP1 _ hS1 => k H1 l1 ls (by
    rw [hset, ← O.2.1 (upd (σ q) k0 v), wl_set O.1] at hP1
    exact hP1) hS1 h)
/-- cell q is a row of n ints (booleans) -/
def isI (q n : Nat) : Prop := q < 205 ∧ ∀ (ω : Wd) (f : Nat → Int32), ceJ ω q f = .inl (wI ω, n, .inl f)
def isZ (q n : Nat) : Prop := q < 205 ∧ ∀ (ω : Wd) (f : Nat → Int32), ceJ ω q f = .inl (wZ ω, n, .inl f)
theorem G.iald (E : Cx x ω cc nL own ret fr lo) {q n : Nat} (O : isI q n) {i : Int32} (hi : vp_in i n) (hd : decode cc pc = .ok (.iaload, 1)) (k : G x ω nL Q σ (pc + 1) lv (.int (σ q i.toNatClampNeg) :: st)) : G x ω nL Q σ pc lv (.int i :: .ref (wh ω q) :: st) := fun H locs ls hP hS h =>
  va_iald E.1 E.2.1 E.2.2.2.2.2.2.2.1.1 hP q 0 (f := σ q) (by rw [wl_get O.1, O.2]) rfl hi hd (k H locs ls hP hS h)
theorem G.zald (E : Cx x ω cc nL own ret fr lo) {q n : Nat} (O : isZ q n) {i : Int32} (hi : vp_in i n) (hd : decode cc pc = .ok (.baload, 1)) (k : G x ω nL Q σ (pc + 1) lv (.int (σ q i.toNatClampNeg) :: st)) : G x ω nL Q σ pc lv (.int i :: .ref (wh ω q) :: st) := fun H locs ls hP hS h =>
  va_zald E.1 E.2.1 E.2.2.2.2.2.2.2.1.1 hP q 1 (f := σ q) (by rw [wl_get O.1, O.2]) rfl hi hd (k H locs ls hP hS h)
theorem G.iast (E : Cx x ω cc nL own ret fr lo) {q n : Nat} (O : isI q n) {i v : Int32} (hi : vp_in i n) (hd : decode cc pc = .ok (.iastore, 1)) (k : G x ω nL Q (su σ q i.toNatClampNeg v) (pc + 1) lv st) : G x ω nL Q σ pc lv (.int v :: .int i :: .ref (wh ω q) :: st) := fun H locs ls hP hS h =>
  va_iast E.1 E.2.1 E.2.2.2.2.2.2.2.1.1 hP (E.2.2.2.2.2.2.2.2.1.D σ) hS q 0 (f := σ q) (by rw [wl_get O.1, O.2]) rfl hi hd (fun H1 l1 hP1 _ hS1 => k H1 l1 ls (by
    rw [← O.2 ω (upd (σ q) i.toNatClampNeg v), wl_set O.1] at hP1
    exact hP1) hS1 h)
theorem G.zast (E : Cx x ω cc nL own ret fr lo) {q n : Nat} (O : isZ q n) {i v : Int32} (hi : vp_in i n) (hd : decode cc pc = .ok (.bastore, 1)) (k : G x ω nL Q (su σ q i.toNatClampNeg (vp_nar .boolean v)) (pc + 1) lv st) : G x ω nL Q σ pc lv (.int v :: .int i :: .ref (wh ω q) :: st) := fun H locs ls hP hS h =>
  va_zast E.1 E.2.1 E.2.2.2.2.2.2.2.1.1 hP (E.2.2.2.2.2.2.2.2.1.D σ) hS q 1 (f := σ q) (by rw [wl_get O.1, O.2]) rfl hi hd (fun H1 l1 hP1 _ hS1 => k H1 l1 ls (by
    rw [← O.2 ω (upd (σ q) i.toNatClampNeg (vp_nar .boolean v)), wl_set O.1] at hP1
    exact hP1) hS1 h)
theorem G.ilen (E : Cx x ω cc nL own ret fr lo) {q n : Nat} (O : isI q n) (hd : decode cc pc = .ok (.arraylength, 1)) (k : G x ω nL Q σ (pc + 1) lv (.int (nI n) :: st)) : G x ω nL Q σ pc lv (.ref (wh ω q) :: st) := fun H locs ls hP hS h =>
  va_alen E.1 E.2.1 E.2.2.2.2.2.2.2.1.1 hP q 0 (x := (n, .inl (σ q))) (by rw [wl_get O.1, O.2]) (ty := .int) rfl rfl hd (k H locs ls hP hS h)
/-- cell q is a row of objects: the one at i is at the cell e i -/
def isG (q n : Nat) (e : Nat → Nat) : Prop := q < 205 ∧ ∀ (ω : Wd) (f : Nat → Int32), ceJ ω q f = .inl (wG ω, n, .inr (.inr (.inr (.inr (fun i => some (wh ω (e i)))))))
theorem G.aald (E : Cx x ω cc nL own ret fr lo) {q n : Nat} {e : Nat → Nat} (O : isG q n e) {i : Int32} (hi : vp_in i n) (hd : decode cc pc = .ok (.aaload, 1)) (k : G x ω nL Q σ (pc + 1) lv (.ref (wh ω (e i.toNatClampNeg)) :: st)) : G x ω nL Q σ pc lv (.int i :: .ref (wh ω q) :: st) := fun H locs ls hP hS h =>
  va_aldq E.1 E.2.1 E.2.2.2.2.2.2.2.1.1 hP q 2 (f := fun i => some (wh ω (e i))) (by rw [wl_get O.1, O.2]) rfl hi hd (k H locs ls hP hS h)
theorem G.gROW (E : Cx x ω cc nL own ret fr lo) {idx : Nat} {host : String} (hm : Cond.fieldLinkNest own idx RX7 "ROW_OF" "[I" host ∈ nws) (hd : decode cc pc = .ok (.getstatic idx, 3)) (k : G x ω nL Q σ (pc + 3) lv (.ref (wR ω) :: st)) : G x ω nL Q σ pc lv st := fun H locs ls hP hS h =>
  va_getsN E.1 E.2.1 E.2.2.2.2.2.2.2.1.2.2.1.1 hS E.2.2.2.1 (va_Nw.use rfl (E.2.2.2.2.2.2.2.1.2.1 _ hm)) (fun _ h9 => h9) hd (k H locs ls hP hS h)
theorem G.gCOL (E : Cx x ω cc nL own ret fr lo) {idx : Nat} {host : String} (hm : Cond.fieldLinkNest own idx RX7 "COLUMN_OF" "[I" host ∈ nws) (hd : decode cc pc = .ok (.getstatic idx, 3)) (k : G x ω nL Q σ (pc + 3) lv (.ref (wC ω) :: st)) : G x ω nL Q σ pc lv st := fun H locs ls hP hS h =>
  va_getsN E.1 E.2.1 E.2.2.2.2.2.2.2.1.2.2.2.1.1 hS E.2.2.2.1 (va_Nw.use rfl (E.2.2.2.2.2.2.2.1.2.1 _ hm)) (fun _ h9 => h9) hd (k H locs ls hP hS h)
theorem G.gPLA (E : Cx x ω cc nL own ret fr lo) {idx : Nat} {host : String} (hm : Cond.fieldLinkNest own idx RX7 "PLATE_AT" "[I" host ∈ nws) (hd : decode cc pc = .ok (.getstatic idx, 3)) (k : G x ω nL Q σ (pc + 3) lv (.ref (wP ω) :: st)) : G x ω nL Q σ pc lv st := fun H locs ls hP hS h =>
  va_getsN E.1 E.2.1 E.2.2.2.2.2.2.2.1.2.2.2.2.1 hS E.2.2.2.1 (va_Nw.use rfl (E.2.2.2.2.2.2.2.1.2.1 _ hm)) (fun _ h9 => h9) hd (k H locs ls hP hS h)
theorem G.tROW (E : Cx x ω cc nL own ret fr lo) {i : Int32} (hi : vp_in i 9) (hd : decode cc pc = .ok (.iaload, 1)) (k : G x ω nL Q σ (pc + 1) lv (.int (tROW i.toNatClampNeg) :: st)) : G x ω nL Q σ pc lv (.int i :: .ref (wR ω) :: st) := fun H locs ls hP hS h =>
  va_ti E.1 E.2.1 E.2.2.2.2.2.2.2.1.2.2.1.2 hS hi rfl hd (k H locs ls hP hS h)
theorem G.tCOL (E : Cx x ω cc nL own ret fr lo) {i : Int32} (hi : vp_in i 9) (hd : decode cc pc = .ok (.iaload, 1)) (k : G x ω nL Q σ (pc + 1) lv (.int (tCOL i.toNatClampNeg) :: st)) : G x ω nL Q σ pc lv (.int i :: .ref (wC ω) :: st) := fun H locs ls hP hS h =>
  va_ti E.1 E.2.1 E.2.2.2.2.2.2.2.1.2.2.2.1.2 hS hi rfl hd (k H locs ls hP hS h)
theorem G.tPLA (E : Cx x ω cc nL own ret fr lo) {i : Int32} (hi : vp_in i 25) (hd : decode cc pc = .ok (.iaload, 1)) (k : G x ω nL Q σ (pc + 1) lv (.int (tPLA i.toNatClampNeg) :: st)) : G x ω nL Q σ pc lv (.int i :: .ref (wP ω) :: st) := fun H locs ls hP hS h =>
  va_ti E.1 E.2.1 E.2.2.2.2.2.2.2.1.2.2.2.2.2 hS hi rfl hd (k H locs ls hP hS h)
end GL
end
section
def PreC (ω : Wd) (σ : St) (av : List Value) : Array Value → State → Prop := va_Pc av (fun U => va_P (wD ω) cls (wl ω σ) U.heap ∧ WK ω U)
def BW (ω : Wd) (σ : St) (t : State) : Prop := va_P (wD ω) cls (wl ω σ) t.heap
def Qi (ω : Wd) (P : Int32 → St → Prop) : Array Value → State → Outcome → State → Prop := va_Qi (S := St) P (BW ω) (wA ω)
def Qv (ω : Wd) (P : St → Prop) : Array Value → State → Outcome → State → Prop := va_Qv (S := St) P (BW ω) (wA ω)
abbrev rmO (fr lo : Nat) : Room := { frames := fr, cells := 0, slots := 0, locals := lo }
/-- a method's contract: from the state σ it returns r, and the state is σ', with P r σ' -/
def MI (l : Launch) (ω : Wd) (y : MethodName) (b : ByteArray) (n : Nat) (r : Option FieldType) (fr lo : Nat) (av : List Value) (σ : St) (P : Int32 → St → Prop) : Prop := Met l y (Cond.code y b n r :: tb) (rmO fr lo) (PreC ω σ av) (Qi ω P) 0 0 (wA ω)
def MV (l : Launch) (ω : Wd) (y : MethodName) (b : ByteArray) (n : Nat) (fr lo : Nat) (av : List Value) (σ : St) (P : St → Prop) : Prop := Met l y (Cond.code y b n none :: tb) (rmO fr lo) (PreC ω σ av) (Qv ω P) 0 0 (wA ω)
def qI (x : Mx) (ω : Wd) (P : Int32 → St → Prop) : State → Prop := MQ (xb x) (Qi ω P) (xa x) (xs x) (xk x) (xn x) (wA ω)
def qV (x : Mx) (ω : Wd) (P : St → Prop) : State → Prop := MQ (xb x) (Qv ω P) (xa x) (xs x) (xk x) (xn x) (wA ω)
theorem MI.intro {l : Launch} {ω : Wd} {y : MethodName} {b : ByteArray} {n : Nat} {r : Option FieldType} {fr lo : Nat} {av : List Value} {σ : St} {P : Int32 → St → Prop} (hw : WD ω) (hy : plainName y.cls = true) (hlen : (lg_sl av).length ≤ n) (body : ∀ x : Mx, Cx x ω b n y.cls r fr lo → G x ω n (qI x ω P) σ 0 (lv_args 0 av) []) : MI l ω y b n r fr lo av σ P := by
  refine Met.ofW (cc := b) (maxL := n) (ret := r) hy rfl ?_
  intro p e s m args below meth c s₁ B hml hv
  obtain ⟨rfl, hP, hK⟩ := hv
  have hts := atoms_spec (ws := Cond.code y b n r :: tb) B.pre
  have h := body (p, l, e, (headSpec (Cond.code y b n r :: tb) (rmO fr lo)).room, s, m, av.toArray, below, meth, c, 0, 0) ⟨B.exec, B.bytes, hml, findClass_of_methodNamed B.named, fun w hw => hts w (List.mem_cons_of_mem _ hw), B.returns, B.notSynchronized, hK, hw, Nat.le_refl _, Nat.le_refl _, Nat.zero_le _, Nat.zero_le _⟩ s.heap [] _ hP va_S.rf (lv_entry av hlen)
  rw [lg_entry_eq]
  exact h
theorem MV.intro {l : Launch} {ω : Wd} {y : MethodName} {b : ByteArray} {n : Nat} {fr lo : Nat} {av : List Value} {σ : St} {P : St → Prop} (hw : WD ω) (hy : plainName y.cls = true) (hlen : (lg_sl av).length ≤ n) (body : ∀ x : Mx, Cx x ω b n y.cls none fr lo → G x ω n (qV x ω P) σ 0 (lv_args 0 av) []) : MV l ω y b n fr lo av σ P := by
  refine Met.ofW (cc := b) (maxL := n) (ret := none) hy rfl ?_
  intro p e s m args below meth c s₁ B hml hv
  obtain ⟨rfl, hP, hK⟩ := hv
  have hts := atoms_spec (ws := Cond.code y b n none :: tb) B.pre
  have h := body (p, l, e, (headSpec (Cond.code y b n none :: tb) (rmO fr lo)).room, s, m, av.toArray, below, meth, c, 0, 0) ⟨B.exec, B.bytes, hml, findClass_of_methodNamed B.named, fun w hw => hts w (List.mem_cons_of_mem _ hw), B.returns, B.notSynchronized, hK, hw, Nat.le_refl _, Nat.le_refl _, Nat.zero_le _, Nat.zero_le _⟩ s.heap [] _ hP va_S.rf (lv_entry av hlen)
  rw [lg_entry_eq]
  exact h
/-- cell q is an object of class C -/
def Rc (ω : Wd) (q : Nat) (C : String) : Prop := q < 205 ∧ ∃ (ci : Nat) (T : u_T) (N : Nat), cls[ci]? = some (C, T, N) ∧ ∀ f, ∃ fs, ceJ ω q f = .inr (ci, fs)
theorem Ob.rc {ω : Wd} {q ci N : Nat} {C : String} {T : u_T} {fs : (Nat → Int32) → List Value} (O : Ob ω q ci C T N fs) : Rc ω q C := ⟨O.1, ci, T, N, O.2.2.1, fun f => ⟨_, O.2.1 f⟩⟩
theorem preC_blind {ω : Wd} {σ : St} {av : List Value} : FrameBlind (PreC ω σ av) := fun _ _ _ _ q => ⟨q.1, q.2.1, q.2.2.call⟩
section GC
variable {x : Mx} {ω : Wd} {cc : ByteArray} {nL : Nat} {own : String} {ret : Option FieldType} {fr lo : Nat} {Q : State → Prop} {σ : St} {pc : Nat} {lv : List (Nat × Value)} {st st0 : List Value}
theorem G.iret (E : Cx x ω cc nL own (some .int) fr lo) {P : Int32 → St → Prop} {v : Int32} (hd : decode cc pc = .ok (.ireturn, 1)) (hp : P v σ) : G x ω nL (qI x ω P) σ pc lv [.int v] := fun H locs ls hP hS h =>
  W.iret E.1 E.2.1 E.2.2.2.2.2.1 (fun t ht hW => ⟨⟨v, σ, rfl, hp, by unfold BW; rw [ht]; exact hP⟩, hS.F ht⟩) hS.2.2 hd E.2.2.2.2.2.2.1
theorem G.zret (E : Cx x ω cc nL own (some .boolean) fr lo) {P : Int32 → St → Prop} {v : Int32} (hd : decode cc pc = .ok (.ireturn, 1)) (hz : narrow .boolean (.int v) = .int v) (hp : P v σ) : G x ω nL (qI x ω P) σ pc lv [.int v] := fun H locs ls hP hS h =>
  W.zret E.1 E.2.1 E.2.2.2.2.2.1 hz (fun t ht hW => ⟨⟨v, σ, rfl, hp, by unfold BW; rw [ht]; exact hP⟩, hS.F ht⟩) hS.2.2 hd E.2.2.2.2.2.2.1
theorem G.vret (E : Cx x ω cc nL own none fr lo) {P : St → Prop} (hd : decode cc pc = .ok (.return_, 1)) (hp : P σ) : G x ω nL (qV x ω P) σ pc lv [] := fun H locs ls hP hS h =>
  W.vret E.1 E.2.1 E.2.2.2.2.2.1 (fun t ht hW => ⟨⟨σ, rfl, hp, by unfold BW; rw [ht]; exact hP⟩, hS.F ht⟩) hS.2.2 hd E.2.2.2.2.2.2.1
variable {y : MethodName} {b : ByteArray} {n na frc loc idx q : Nat} {r : Option FieldType} {C : String} {As rest : List Value}
theorem cbV (E : Cx x ω cc nL own ret fr lo) (K : CalV y b n r C na) (hm : Cond.methodLink own idx y ∈ tb) (hR : frc + 1 ≤ fr ∧ 8 + (n + 11) + loc ≤ lo) : CallW (xR x) (xs x) (xa x) own C idx y b n r (Cond.code y b n r :: tb) (rmO frc loc) 0 0 na := by
  obtain ⟨k1, k2, k3, k4, k5, k6, k7, k8⟩ := K
  exact ⟨callB_of na E.2.2.2.2.1 (tb_gd k1) rfl rfl rfl (E.2.2.2.2.1 _ (by rw [k5]; exact k4)) (E.2.2.2.2.1 _ hm) ⟨k6, k7, k8⟩ ⟨Nat.le_trans hR.1 E.2.2.2.2.2.2.2.2.2.1, Nat.le_trans hR.2 E.2.2.2.2.2.2.2.2.2.2.1⟩, E.2.2.2.2.1 _ k2, E.2.2.2.2.1 _ k3⟩
theorem cbS (E : Cx x ω cc nL own ret fr lo) (K : CalS y b n r C na) (hm : Cond.methodLink own idx y ∈ tb) (hR : frc + 1 ≤ fr ∧ 8 + (n + 11) + loc ≤ lo) : CallB (xR x) (xs x) (xa x) own idx y b n r (Cond.code y b n r :: tb) (rmO frc loc) 0 0 na ∧ (Cond.static y).before (xa x) (xs x) = true := by
  obtain ⟨k1, k2, k4, k5, k6, k7, k8⟩ := K
  exact ⟨callB_of na E.2.2.2.2.1 (tb_gd k1) rfl rfl rfl (E.2.2.2.2.1 _ (by rw [k5]; exact k4)) (E.2.2.2.2.1 _ hm) ⟨k6, k7, k8⟩ ⟨Nat.le_trans hR.1 E.2.2.2.2.2.2.2.2.2.1, Nat.le_trans hR.2 E.2.2.2.2.2.2.2.2.2.2.1⟩, E.2.2.2.2.1 _ k2⟩
theorem cbSN {host : String} (E : Cx x ω cc nL own ret fr lo) (K : CalS y b n r C na) (hm : Cond.methodLinkNest own idx y host ∈ nws) (hR : frc + 1 ≤ fr ∧ 8 + (n + 11) + loc ≤ lo) : va_CN (xR x) (xs x) (xa x) own idx y host b n r (Cond.code y b n r :: tb) (rmO frc loc) 0 0 na ∧ (Cond.static y).before (xa x) (xs x) = true ∧ True := by
  obtain ⟨k1, k2, k4, k5, k6, k7, k8⟩ := K
  exact ⟨va_cnB na E.2.2.2.2.1 (tb_gd k1) rfl rfl rfl (E.2.2.2.2.2.2.2.1.2.1 _ hm) (E.2.2.2.2.1 _ (by rw [k5]; exact k4)) ⟨k6, k7, k8⟩ ⟨Nat.le_trans hR.1 E.2.2.2.2.2.2.2.2.2.1, Nat.le_trans hR.2 E.2.2.2.2.2.2.2.2.2.2.1⟩, E.2.2.2.2.1 _ k2, trivial⟩
theorem preV_of (E : Cx x ω cc nL own ret fr lo) (O : Rc ω q C) {H : Heap} {locs : List Loc} (hP : va_P (wD ω) cls (wl ω σ) H) (hS : va_S (wA ω) (xs x).heap H locs) : PreV (xs x) H C (wh ω q) (PreC ω σ (.ref (wh ω q) :: As)) As := by
  obtain ⟨hq, ci, T, N, hc, hf⟩ := O
  obtain ⟨fs, hfs⟩ := hf (σ q)
  exact ⟨preC_blind, va_recv E.2.2.2.2.2.2.2.1.1 hP hc (q0 := q) (fs := fs) (by rw [wl_get hq, hfs]), fun U hU hW => ⟨rfl, by rw [hU]; exact hP, E.2.2.2.2.2.2.2.1.warm hW hS hU⟩⟩
theorem preS_of (E : Cx x ω cc nL own ret fr lo) {H : Heap} {locs : List Loc} (hP : va_P (wD ω) cls (wl ω σ) H) (hS : va_S (wA ω) (xs x).heap H locs) : PreS (xs x) H (PreC ω σ As) As :=
  ⟨preC_blind, fun U hU hW => ⟨rfl, by rw [hU]; exact hP, E.2.2.2.2.2.2.2.1.warm hW hS hU⟩⟩
theorem G.callI {P : Int32 → St → Prop} (E : Cx x ω cc nL own ret fr lo) (K : CalV y b n r C na) (O : Rc ω q C) (hM : MI (xl x) ω y b n r frc loc (.ref (wh ω q) :: As) σ P) (hm : Cond.methodLink own idx y ∈ tb) (hna : As.length = na) (hR : frc + 1 ≤ fr ∧ 8 + (n + 11) + loc ≤ lo) (hst : st0 = As.reverse ++ .ref (wh ω q) :: rest) (hW : (rest.map fun v => v.category).sum ≤ 8) (hd : decode cc pc = .ok (.invokevirtual idx, 3))
    (k : ∀ (v : Int32) (σ' : St), P v σ' → G x ω nL Q σ' (pc + 3) lv (.int v :: rest)) : G x ω nL Q σ pc lv st0 := fun H locs ls hP hS h =>
  va_calli (va_runV (As := As) (rest := rest) ⟨E.1, E.2.1, E.2.2.1, E.2.2.2.1, E.2.2.2.2.1⟩ hM (cbV E K hm hR) (preV_of E O hP hS) rfl hna h.1 hst (lv_room (pc := pc) (ls := ls) (rest := st0) hW) hd ⟨E.2.2.2.2.2.2.2.2.2.2.2.1, E.2.2.2.2.2.2.2.2.2.2.2.2⟩) hS (fun _ _ z => z) (fun _ z => z) (fun v u t H1 l1 ht _ hp hB _ _ hS1 => k v u hp H1 l1 ls (by rw [← ht]; exact hB) hS1 h)
theorem G.callV {P : St → Prop} (E : Cx x ω cc nL own ret fr lo) (K : CalV y b n none C na) (O : Rc ω q C) (hM : MV (xl x) ω y b n frc loc (.ref (wh ω q) :: As) σ P) (hm : Cond.methodLink own idx y ∈ tb) (hna : As.length = na) (hR : frc + 1 ≤ fr ∧ 8 + (n + 11) + loc ≤ lo) (hst : st0 = As.reverse ++ .ref (wh ω q) :: rest) (hW : (rest.map fun v => v.category).sum ≤ 8) (hd : decode cc pc = .ok (.invokevirtual idx, 3))
    (k : ∀ (σ' : St), P σ' → G x ω nL Q σ' (pc + 3) lv rest) : G x ω nL Q σ pc lv st0 := fun H locs ls hP hS h =>
  va_callv (va_runV (As := As) (rest := rest) ⟨E.1, E.2.1, E.2.2.1, E.2.2.2.1, E.2.2.2.2.1⟩ hM (cbV E K hm hR) (preV_of E O hP hS) rfl hna h.1 hst (lv_room (pc := pc) (ls := ls) (rest := st0) hW) hd ⟨E.2.2.2.2.2.2.2.2.2.2.2.1, E.2.2.2.2.2.2.2.2.2.2.2.2⟩) hS (fun _ _ z => z) (fun _ z => z) (fun u t H1 l1 ht _ hp hB _ _ hS1 => k u hp H1 l1 ls (by rw [← ht]; exact hB) hS1 h)
theorem G.callSI {P : Int32 → St → Prop} (E : Cx x ω cc nL own ret fr lo) (K : CalS y b n r C na) (hM : MI (xl x) ω y b n r frc loc As σ P) (hm : Cond.methodLink own idx y ∈ tb) (hna : As.length = na) (hR : frc + 1 ≤ fr ∧ 8 + (n + 11) + loc ≤ lo) (hst : st0 = As.reverse ++ rest) (hW : (rest.map fun v => v.category).sum ≤ 8) (hd : decode cc pc = .ok (.invokestatic idx, 3))
    (k : ∀ (v : Int32) (σ' : St), P v σ' → G x ω nL Q σ' (pc + 3) lv (.int v :: rest)) : G x ω nL Q σ pc lv st0 := fun H locs ls hP hS h =>
  va_calli (va_runS (As := As) (rest := rest) ⟨E.1, E.2.1, E.2.2.1, E.2.2.2.1, E.2.2.2.2.1⟩ hM (cbS E K hm hR) (preS_of E hP hS) rfl hna h.1 hst (lv_room (pc := pc) (ls := ls) (rest := st0) hW) hd ⟨E.2.2.2.2.2.2.2.2.2.2.2.1, E.2.2.2.2.2.2.2.2.2.2.2.2⟩) hS (fun _ _ z => z) (fun _ z => z) (fun v u t H1 l1 ht _ hp hB _ _ hS1 => k v u hp H1 l1 ls (by rw [← ht]; exact hB) hS1 h)
theorem G.callSV {P : St → Prop} (E : Cx x ω cc nL own ret fr lo) (K : CalS y b n none C na) (hM : MV (xl x) ω y b n frc loc As σ P) (hm : Cond.methodLink own idx y ∈ tb) (hna : As.length = na) (hR : frc + 1 ≤ fr ∧ 8 + (n + 11) + loc ≤ lo) (hst : st0 = As.reverse ++ rest) (hW : (rest.map fun v => v.category).sum ≤ 8) (hd : decode cc pc = .ok (.invokestatic idx, 3))
    (k : ∀ (σ' : St), P σ' → G x ω nL Q σ' (pc + 3) lv rest) : G x ω nL Q σ pc lv st0 := fun H locs ls hP hS h =>
  va_callv (va_runS (As := As) (rest := rest) ⟨E.1, E.2.1, E.2.2.1, E.2.2.2.1, E.2.2.2.2.1⟩ hM (cbS E K hm hR) (preS_of E hP hS) rfl hna h.1 hst (lv_room (pc := pc) (ls := ls) (rest := st0) hW) hd ⟨E.2.2.2.2.2.2.2.2.2.2.2.1, E.2.2.2.2.2.2.2.2.2.2.2.2⟩) hS (fun _ _ z => z) (fun _ z => z) (fun u t H1 l1 ht _ hp hB _ _ hS1 => k u hp H1 l1 ls (by rw [← ht]; exact hB) hS1 h)
theorem G.callSNI {host : String} {P : Int32 → St → Prop} (E : Cx x ω cc nL own ret fr lo) (K : CalS y b n r C na) (hM : MI (xl x) ω y b n r frc loc As σ P) (hm : Cond.methodLinkNest own idx y host ∈ nws) (hna : As.length = na) (hR : frc + 1 ≤ fr ∧ 8 + (n + 11) + loc ≤ lo) (hst : st0 = As.reverse ++ rest) (hW : (rest.map fun v => v.category).sum ≤ 8) (hd : decode cc pc = .ok (.invokestatic idx, 3))
    (k : ∀ (v : Int32) (σ' : St), P v σ' → G x ω nL Q σ' (pc + 3) lv (.int v :: rest)) : G x ω nL Q σ pc lv st0 := fun H locs ls hP hS h =>
  va_calli (va_runSN (As := As) (rest := rest) ⟨E.1, E.2.1, E.2.2.1, E.2.2.2.1, E.2.2.2.2.1⟩ hM (cbSN E K hm hR) (preS_of E hP hS) rfl hna h.1 hst (lv_room (pc := pc) (ls := ls) (rest := st0) hW) hd ⟨E.2.2.2.2.2.2.2.2.2.2.2.1, E.2.2.2.2.2.2.2.2.2.2.2.2⟩) hS (fun _ _ z => z) (fun _ z => z) (fun v u t H1 l1 ht _ hp hB _ _ hS1 => k v u hp H1 l1 ls (by rw [← ht]; exact hB) hS1 h)
theorem G.mmax (E : Cx x ω cc nL own ret fr lo) {a b : Int32} (hm : Cond.methodLink own idx Lib.Math.max.name ∈ tb) (hfr : 1 ≤ fr) (hlo : (st.map fun v => v.category).sum + 13 ≤ lo) (hd : decode cc pc = .ok (.invokestatic idx, 3)) (k : G x ω nL Q σ (pc + 3) lv (.int (if a < b then b else a) :: st)) : G x ω nL Q σ pc lv (.int b :: .int a :: st) := fun H locs ls hP hS h =>
  va_mmax E.1 E.2.1 (E.2.2.1.trans h.1.symm) E.2.2.2.1 (E.2.2.2.2.1 _ hm) (E.2.2.2.2.1 _ sm_J9_max_7cf53) (E.2.2.2.2.1 _ in_RJ9) (E.2.2.2.2.1 _ co_J9_max_7cf53) (Nat.le_trans hfr E.2.2.2.2.2.2.2.2.2.1) (Nat.le_trans hlo E.2.2.2.2.2.2.2.2.2.2.1) E.2.2.2.2.2.2.2.2.2.2.2.1 E.2.2.2.2.2.2.2.2.2.2.2.2 hd (k H locs ls hP hS h)
theorem G.mmin (E : Cx x ω cc nL own ret fr lo) {a b : Int32} (hm : Cond.methodLink own idx Lib.Math.min.name ∈ tb) (hfr : 1 ≤ fr) (hlo : (st.map fun v => v.category).sum + 13 ≤ lo) (hd : decode cc pc = .ok (.invokestatic idx, 3)) (k : G x ω nL Q σ (pc + 3) lv (.int (if b < a then b else a) :: st)) : G x ω nL Q σ pc lv (.int b :: .int a :: st) := fun H locs ls hP hS h =>
  va_mmin E.1 E.2.1 (E.2.2.1.trans h.1.symm) E.2.2.2.1 (E.2.2.2.2.1 _ hm) (E.2.2.2.2.1 _ sm_J9_min_7cf53) (E.2.2.2.2.1 _ in_RJ9) (E.2.2.2.2.1 _ co_J9_min_7cf53) (Nat.le_trans hfr E.2.2.2.2.2.2.2.2.2.1) (Nat.le_trans hlo E.2.2.2.2.2.2.2.2.2.2.1) E.2.2.2.2.2.2.2.2.2.2.2.1 E.2.2.2.2.2.2.2.2.2.2.2.2 hd (k H locs ls hP hS h)
theorem G.mabs (E : Cx x ω cc nL own ret fr lo) {a : Int32} (hm : Cond.methodLink own idx Lib.Math.abs.name ∈ tb) (hfr : 1 ≤ fr) (hlo : (st.map fun v => v.category).sum + 13 ≤ lo) (hd : decode cc pc = .ok (.invokestatic idx, 3)) (k : G x ω nL Q σ (pc + 3) lv (.int (if 0 ≤ a then a else 0 - a) :: st)) : G x ω nL Q σ pc lv (.int a :: st) := fun H locs ls hP hS h =>
  va_mabs E.1 E.2.1 (E.2.2.1.trans h.1.symm) E.2.2.2.1 (E.2.2.2.2.1 _ hm) (E.2.2.2.2.1 _ sm_J9_abs_0f7a4) (E.2.2.2.2.1 _ in_RJ9) (E.2.2.2.2.1 _ co_J9_abs_0f7a4) (Nat.le_trans hfr E.2.2.2.2.2.2.2.2.2.1) (Nat.le_trans hlo E.2.2.2.2.2.2.2.2.2.2.1) E.2.2.2.2.2.2.2.2.2.2.2.1 E.2.2.2.2.2.2.2.2.2.2.2.2 hd (k H locs ls hP hS h)
/-- System.arraycopy(a, 0, b, 0, 9) of two rows of nine ints -/
theorem G.copy9 (E : Cx x ω cc nL own ret fr lo) {q1 : Nat} (O0 : isI q 9) (O1 : isI q1 9) (hm : Cond.methodLink own idx arraycopyName ∈ tb) (hfr : 1 ≤ fr) (hlo : (st.map fun v => v.category).sum + (nativeFrameWords "java/lang/System" "arraycopy" 5 + 11) ≤ lo) (hd : decode cc pc = .ok (.invokestatic idx, 3)) (k : G x ω nL Q (sa σ q1 (va_cpy (σ q) (σ q1) 0 0 9)) (pc + 3) lv st) : G x ω nL Q σ pc lv (.int 9 :: .int 0 :: .ref (wh ω q1) :: .int 0 :: .ref (wh ω q) :: st) := fun H locs ls hP hS h =>
  va_copyi E.1 E.2.1 (E.2.2.1.trans h.1.symm) E.2.2.2.1 (E.2.2.2.2.1 _ hm) (E.2.2.2.2.1 _ na_arraycopy) (E.2.2.2.2.1 _ sm_arraycopy) (E.2.2.2.2.1 _ in_RJ10) E.2.2.2.2.2.2.2.1.1 hP (E.2.2.2.2.2.2.2.2.1.D σ) hS q q1 0 0 (f := σ q) (g := σ q1) (ty := .int) (by rw [wl_get O0.1, O0.2]) (by rw [wl_get O1.1, O1.2]) rfl rfl rfl (by decide) (by decide) (by decide) (by decide) (by decide) (fun _ _ => rfl) (Nat.le_trans hfr E.2.2.2.2.2.2.2.2.2.1) (Nat.le_trans hlo E.2.2.2.2.2.2.2.2.2.2.1) hd (fun H1 l1 hP1 _ hS1 => k H1 l1 ls (by
    rw [← O1.2 ω, wl_set O1.1] at hP1
    exact hP1) hS1 h)
end GC
def isX3 (q : Nat) : Prop := q < 160 ∧ q % 8 = 0
theorem oX3 {ω : Wd} {q : Nat} (h : isX3 q) : Ob ω q 3 RX3 TX3 12 (fX3 ω q) := ⟨by have := h.1; omega, fun f => by unfold ceJ; rw [if_pos h.1, if_pos h.2], rfl, uw_X3⟩
theorem wX3 {ω : Wd} {q : Nat} : Obw TX3 12 tyX3 (fX3 ω q) := ⟨tyX3_ok, nmX3, fun _ => rfl⟩
theorem aX3 {q : Nat} (h : isX3 q) (i : Nat) (h1 : 1 ≤ i) (h2 : i ≤ 7) : isI (q + i) 9 := ⟨by have := h.1; omega, fun ω f => by
  have h3 := h.1
  have h4 := h.2
  unfold ceJ
  rw [if_pos (by omega), if_neg (by omega)]⟩
theorem gX3_ring {i : Nat} (h : i < 16) : isX3 (32 + 8 * i) := ⟨by omega, by omega⟩
theorem gX3_imgs {i : Nat} (h : i < 2) : isX3 (16 + 8 * i) := ⟨by omega, by omega⟩
theorem vp_lt {i : Int32} {n : Nat} (h : vp_in i n) : i.toNatClampNeg < n := Nat.not_le.mp fun q => h (Or.inr q)
theorem oX0 {ω : Wd} : Ob ω 178 0 RX0 TX0 7 (fX0 ω) := ⟨by decide, fun _ => rfl, rfl, uw_X0⟩
theorem wX0 {ω : Wd} : Obw TX0 7 tyX0 (fX0 ω) := ⟨tyX0_ok, nmX0, fun _ => rfl⟩
theorem oX1 {ω : Wd} : Ob ω 182 1 RX1 TX1 3 (fX1 ω) := ⟨by decide, fun _ => rfl, rfl, uw_X1⟩
theorem wX1 {ω : Wd} : Obw TX1 3 tyX1 (fX1 ω) := ⟨tyX1_ok, nmX1, fun _ => rfl⟩
theorem oX2 {ω : Wd} : Ob ω 161 2 RX2 TX2 10 (fX2 ω) := ⟨by decide, fun _ => rfl, rfl, uw_X2⟩
theorem wX2 {ω : Wd} : Obw TX2 10 tyX2 (fX2 ω) := ⟨tyX2_ok, nmX2, fun _ => rfl⟩
theorem oX4 {ω : Wd} : Ob ω 166 4 RX4 TX4 3 (fX4 ω) := ⟨by decide, fun _ => rfl, rfl, uw_X4⟩
theorem wX4 {ω : Wd} : Obw TX4 3 tyX4 (fX4 ω) := ⟨tyX4_ok, nmX4, fun _ => rfl⟩
theorem oX5 {ω : Wd} : Ob ω 171 5 RX5 TX5 8 (fX5 ω) := ⟨by decide, fun _ => rfl, rfl, uw_X5⟩
theorem wX5 {ω : Wd} : Obw TX5 8 tyX5 (fX5 ω) := ⟨tyX5_ok, nmX5, fun _ => rfl⟩
theorem oX6 {ω : Wd} : Ob ω 176 6 RX6 TX6 2 (fX6 ω) := ⟨by decide, fun _ => rfl, rfl, uw_X6⟩
theorem wX6 {ω : Wd} : Obw TX6 2 tyX6 (fX6 ω) := ⟨tyX6_ok, nmX6, fun _ => rfl⟩
theorem oX7 {ω : Wd} : Ob ω 160 7 RX7 TX7 13 (fX7 ω) := ⟨by decide, fun _ => rfl, rfl, uw_X7⟩
theorem wX7 {ω : Wd} : Obw TX7 13 tyX7 (fX7 ω) := ⟨tyX7_ok, nmX7, fun _ => rfl⟩
theorem oX8 {ω : Wd} : Ob ω 185 8 RX8 TX8 35 (fX8 ω) := ⟨by decide, fun _ => rfl, rfl, uw_X8⟩
theorem wX8 {ω : Wd} : Obw TX8 35 tyX8 (fX8 ω) := ⟨tyX8_ok, nmX8, fun _ => rfl⟩
theorem a_162 : isI 162 240 := ⟨by decide, fun _ _ => rfl⟩
theorem a_163 : isI 163 9 := ⟨by decide, fun _ _ => rfl⟩
theorem a_164 : isI 164 9 := ⟨by decide, fun _ _ => rfl⟩
theorem a_165 : isI 165 9 := ⟨by decide, fun _ _ => rfl⟩
theorem a_167 : isG 167 16 (fun i => 32 + 8 * i) := ⟨by decide, fun _ _ => rfl⟩
theorem a_168 : isG 168 2 (fun i => 16 + 8 * i) := ⟨by decide, fun _ _ => rfl⟩
theorem a_169 : isZ 169 2 := ⟨by decide, fun _ _ => rfl⟩
theorem a_170 : isI 170 2 := ⟨by decide, fun _ _ => rfl⟩
theorem a_172 : isI 172 9 := ⟨by decide, fun _ _ => rfl⟩
theorem a_173 : isI 173 9 := ⟨by decide, fun _ _ => rfl⟩
theorem a_174 : isI 174 9 := ⟨by decide, fun _ _ => rfl⟩
theorem a_175 : isI 175 9 := ⟨by decide, fun _ _ => rfl⟩
theorem a_177 : isI 177 600 := ⟨by decide, fun _ _ => rfl⟩
theorem a_179 : isI 179 512 := ⟨by decide, fun _ _ => rfl⟩
theorem a_180 : isI 180 512 := ⟨by decide, fun _ _ => rfl⟩
theorem a_181 : isI 181 512 := ⟨by decide, fun _ _ => rfl⟩
theorem a_183 : isI 183 15 := ⟨by decide, fun _ _ => rfl⟩
theorem a_184 : isZ 184 15 := ⟨by decide, fun _ _ => rfl⟩
theorem a_186 : isI 186 240 := ⟨by decide, fun _ _ => rfl⟩
theorem a_187 : isI 187 27 := ⟨by decide, fun _ _ => rfl⟩
theorem a_188 : isI 188 9 := ⟨by decide, fun _ _ => rfl⟩
theorem a_189 : isI 189 49 := ⟨by decide, fun _ _ => rfl⟩
theorem a_190 : isI 190 98 := ⟨by decide, fun _ _ => rfl⟩
theorem a_191 : isZ 191 2 := ⟨by decide, fun _ _ => rfl⟩
theorem a_192 : isI 192 784 := ⟨by decide, fun _ _ => rfl⟩
theorem a_193 : isI 193 15 := ⟨by decide, fun _ _ => rfl⟩
theorem a_194 : isZ 194 15 := ⟨by decide, fun _ _ => rfl⟩
theorem a_195 : isI 195 9 := ⟨by decide, fun _ _ => rfl⟩
theorem a_196 : isI 196 9 := ⟨by decide, fun _ _ => rfl⟩
theorem a_197 : isI 197 9 := ⟨by decide, fun _ _ => rfl⟩
theorem a_198 : isI 198 9 := ⟨by decide, fun _ _ => rfl⟩
theorem a_199 : isI 199 10 := ⟨by decide, fun _ _ => rfl⟩
theorem a_200 : isI 200 10 := ⟨by decide, fun _ _ => rfl⟩
theorem a_201 : isI 201 10 := ⟨by decide, fun _ _ => rfl⟩
theorem a_202 : isI 202 512 := ⟨by decide, fun _ _ => rfl⟩
theorem a_203 : isI 203 512 := ⟨by decide, fun _ _ => rfl⟩
theorem a_204 : isI 204 512 := ⟨by decide, fun _ _ => rfl⟩
end
