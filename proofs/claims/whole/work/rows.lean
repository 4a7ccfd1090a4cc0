section
-- ===== PART A: goes FIRST, ahead of the names: the tables' words, and 'selects' of the private methods out of them =====
/-- a private method of a class that the tables say can be made, by its rows of tables_1 -/
def lw_okq (q : MethodName × Nat) : Prop := (q.1.cls ≠ "java/lang/invoke/MethodHandle" ∧ q.1.cls ≠ "java/lang/invoke/VarHandle") ∧ Cond.instantiable q.1.cls q.2 ∈ tables_1 ∧ Cond.privateMethod q.1 ∈ tables_1 ∧ Cond.instanceMethod q.1 ∈ tables_1
theorem lw_p0 : lw_okq (⟨"WellTurns", "measure", "(I)I"⟩, 14) := ⟨⟨by decide +kernel, by decide +kernel⟩, List.mem_of_getElem? (i := 12) (by decide +kernel), List.mem_of_getElem? (i := 292) (by decide +kernel), List.mem_of_getElem? (i := 293) (by decide +kernel)⟩
theorem lw_p1 : lw_okq (⟨"WellTurns$Camp", "lineByDays", "()V"⟩, 14) := ⟨⟨by decide +kernel, by decide +kernel⟩, List.mem_of_getElem? (i := 20) (by decide +kernel), List.mem_of_getElem? (i := 308) (by decide +kernel), List.mem_of_getElem? (i := 309) (by decide +kernel)⟩
theorem lw_p2 : lw_okq (⟨"WellTurns$Camp", "lineUp", "(I)V"⟩, 14) := ⟨⟨by decide +kernel, by decide +kernel⟩, List.mem_of_getElem? (i := 20) (by decide +kernel), List.mem_of_getElem? (i := 312) (by decide +kernel), List.mem_of_getElem? (i := 313) (by decide +kernel)⟩
theorem lw_p3 : lw_okq (⟨"WellTurns$Camp", "lineMilky", "(Z)V"⟩, 14) := ⟨⟨by decide +kernel, by decide +kernel⟩, List.mem_of_getElem? (i := 20) (by decide +kernel), List.mem_of_getElem? (i := 316) (by decide +kernel), List.mem_of_getElem? (i := 317) (by decide +kernel)⟩
theorem lw_p4 : lw_okq (⟨"WellTurns$Camp", "lineByTurns", "()V"⟩, 14) := ⟨⟨by decide +kernel, by decide +kernel⟩, List.mem_of_getElem? (i := 20) (by decide +kernel), List.mem_of_getElem? (i := 320) (by decide +kernel), List.mem_of_getElem? (i := 321) (by decide +kernel)⟩
theorem lw_p5 : lw_okq (⟨"WellTurns$Camp", "nextOf", "(II)I"⟩, 14) := ⟨⟨by decide +kernel, by decide +kernel⟩, List.mem_of_getElem? (i := 20) (by decide +kernel), List.mem_of_getElem? (i := 324) (by decide +kernel), List.mem_of_getElem? (i := 325) (by decide +kernel)⟩
theorem lw_p6 : lw_okq (⟨"WellTurns$Camp", "lineAsTheyCome", "()V"⟩, 14) := ⟨⟨by decide +kernel, by decide +kernel⟩, List.mem_of_getElem? (i := 20) (by decide +kernel), List.mem_of_getElem? (i := 328) (by decide +kernel), List.mem_of_getElem? (i := 329) (by decide +kernel)⟩
theorem lw_p7 : lw_okq (⟨"WellTurns$Tape", "readWell", "(LWellTurns$Camp;)Z"⟩, 4) := ⟨⟨by decide +kernel, by decide +kernel⟩, List.mem_of_getElem? (i := 161) (by decide +kernel), List.mem_of_getElem? (i := 355) (by decide +kernel), List.mem_of_getElem? (i := 356) (by decide +kernel)⟩
theorem lw_p8 : lw_okq (⟨"WellTurns$Tape", "readNumber", "(I)I"⟩, 4) := ⟨⟨by decide +kernel, by decide +kernel⟩, List.mem_of_getElem? (i := 161) (by decide +kernel), List.mem_of_getElem? (i := 359) (by decide +kernel), List.mem_of_getElem? (i := 360) (by decide +kernel)⟩
theorem lw_p9 : lw_okq (⟨"WellTurns$Tape", "ahead", "()I"⟩, 4) := ⟨⟨by decide +kernel, by decide +kernel⟩, List.mem_of_getElem? (i := 161) (by decide +kernel), List.mem_of_getElem? (i := 363) (by decide +kernel), List.mem_of_getElem? (i := 364) (by decide +kernel)⟩
theorem lw_p10 : lw_okq (⟨"WellTurns$Tape", "digit", "(I)Z"⟩, 4) := ⟨⟨by decide +kernel, by decide +kernel⟩, List.mem_of_getElem? (i := 161) (by decide +kernel), List.mem_of_getElem? (i := 367) (by decide +kernel), List.mem_of_getElem? (i := 368) (by decide +kernel)⟩
theorem lw_p11 : lw_okq (⟨"WellTurns$Tape", "pass", "(I)Z"⟩, 4) := ⟨⟨by decide +kernel, by decide +kernel⟩, List.mem_of_getElem? (i := 161) (by decide +kernel), List.mem_of_getElem? (i := 371) (by decide +kernel), List.mem_of_getElem? (i := 372) (by decide +kernel)⟩
theorem lw_p12 : lw_okq (⟨"WellTurns$Tape", "readBeasts", "(LWellTurns$Camp;)Z"⟩, 4) := ⟨⟨by decide +kernel, by decide +kernel⟩, List.mem_of_getElem? (i := 161) (by decide +kernel), List.mem_of_getElem? (i := 375) (by decide +kernel), List.mem_of_getElem? (i := 376) (by decide +kernel)⟩
theorem lw_p13 : lw_okq (⟨"WellTurns$Tape", "readBeast", "(LWellTurns$Camp;)Z"⟩, 4) := ⟨⟨by decide +kernel, by decide +kernel⟩, List.mem_of_getElem? (i := 161) (by decide +kernel), List.mem_of_getElem? (i := 379) (by decide +kernel), List.mem_of_getElem? (i := 380) (by decide +kernel)⟩
theorem lw_p14 : lw_okq (⟨"WellTurns$Tape", "kindOf", "(I)I"⟩, 4) := ⟨⟨by decide +kernel, by decide +kernel⟩, List.mem_of_getElem? (i := 161) (by decide +kernel), List.mem_of_getElem? (i := 383) (by decide +kernel), List.mem_of_getElem? (i := 384) (by decide +kernel)⟩
theorem lw_p15 : lw_okq (⟨"WellTurns", "refusal", "(I)I"⟩, 14) := ⟨⟨by decide +kernel, by decide +kernel⟩, List.mem_of_getElem? (i := 12) (by decide +kernel), List.mem_of_getElem? (i := 410) (by decide +kernel), List.mem_of_getElem? (i := 411) (by decide +kernel)⟩
def lw_privs_1 : List (MethodName × Nat) := [(⟨"WellTurns", "measure", "(I)I"⟩, 14), (⟨"WellTurns$Camp", "lineByDays", "()V"⟩, 14), (⟨"WellTurns$Camp", "lineUp", "(I)V"⟩, 14), (⟨"WellTurns$Camp", "lineMilky", "(Z)V"⟩, 14), (⟨"WellTurns$Camp", "lineByTurns", "()V"⟩, 14), (⟨"WellTurns$Camp", "nextOf", "(II)I"⟩, 14), (⟨"WellTurns$Camp", "lineAsTheyCome", "()V"⟩, 14), (⟨"WellTurns$Tape", "readWell", "(LWellTurns$Camp;)Z"⟩, 4), (⟨"WellTurns$Tape", "readNumber", "(I)I"⟩, 4), (⟨"WellTurns$Tape", "ahead", "()I"⟩, 4), (⟨"WellTurns$Tape", "digit", "(I)Z"⟩, 4), (⟨"WellTurns$Tape", "pass", "(I)Z"⟩, 4), (⟨"WellTurns$Tape", "readBeasts", "(LWellTurns$Camp;)Z"⟩, 4), (⟨"WellTurns$Tape", "readBeast", "(LWellTurns$Camp;)Z"⟩, 4), (⟨"WellTurns$Tape", "kindOf", "(I)I"⟩, 4), (⟨"WellTurns", "refusal", "(I)I"⟩, 14)]
theorem lw_r1 : ∀ q ∈ lw_privs_1, lw_okq q := List.forall_mem_cons.mpr ⟨lw_p0, List.forall_mem_cons.mpr ⟨lw_p1, List.forall_mem_cons.mpr ⟨lw_p2, List.forall_mem_cons.mpr ⟨lw_p3, List.forall_mem_cons.mpr ⟨lw_p4, List.forall_mem_cons.mpr ⟨lw_p5, List.forall_mem_cons.mpr ⟨lw_p6, List.forall_mem_cons.mpr ⟨lw_p7, List.forall_mem_cons.mpr ⟨lw_p8, List.forall_mem_cons.mpr ⟨lw_p9, List.forall_mem_cons.mpr ⟨lw_p10, List.forall_mem_cons.mpr ⟨lw_p11, List.forall_mem_cons.mpr ⟨lw_p12, List.forall_mem_cons.mpr ⟨lw_p13, List.forall_mem_cons.mpr ⟨lw_p14, List.forall_mem_cons.mpr ⟨lw_p15, fun _ h => absurd h List.not_mem_nil⟩⟩⟩⟩⟩⟩⟩⟩⟩⟩⟩⟩⟩⟩⟩⟩
theorem lw_p16 : lw_okq (⟨"WellTurns$Moment", "anySwollen", "(LWellTurns$Camp;)Z"⟩, 10) := ⟨⟨by decide +kernel, by decide +kernel⟩, List.mem_of_getElem? (i := 95) (by decide +kernel), List.mem_of_getElem? (i := 430) (by decide +kernel), List.mem_of_getElem? (i := 431) (by decide +kernel)⟩
theorem lw_p17 : lw_okq (⟨"WellTurns$Moment", "drawBucket", "(LWellTurns$Camp;)I"⟩, 10) := ⟨⟨by decide +kernel, by decide +kernel⟩, List.mem_of_getElem? (i := 95) (by decide +kernel), List.mem_of_getElem? (i := 434) (by decide +kernel), List.mem_of_getElem? (i := 435) (by decide +kernel)⟩
theorem lw_p18 : lw_okq (⟨"WellTurns$Moment", "waterBeasts", "(LWellTurns$Camp;I)I"⟩, 10) := ⟨⟨by decide +kernel, by decide +kernel⟩, List.mem_of_getElem? (i := 95) (by decide +kernel), List.mem_of_getElem? (i := 443) (by decide +kernel), List.mem_of_getElem? (i := 444) (by decide +kernel)⟩
theorem lw_p19 : lw_okq (⟨"WellTurns$Moment", "needsYet", "(LWellTurns$Camp;I)I"⟩, 10) := ⟨⟨by decide +kernel, by decide +kernel⟩, List.mem_of_getElem? (i := 95) (by decide +kernel), List.mem_of_getElem? (i := 447) (by decide +kernel), List.mem_of_getElem? (i := 448) (by decide +kernel)⟩
theorem lw_p20 : lw_okq (⟨"WellTurns$Moment", "swell", "(III)V"⟩, 10) := ⟨⟨by decide +kernel, by decide +kernel⟩, List.mem_of_getElem? (i := 95) (by decide +kernel), List.mem_of_getElem? (i := 452) (by decide +kernel), List.mem_of_getElem? (i := 453) (by decide +kernel)⟩
theorem lw_p21 : lw_okq (⟨"WellTurns", "foretell", "()V"⟩, 14) := ⟨⟨by decide +kernel, by decide +kernel⟩, List.mem_of_getElem? (i := 12) (by decide +kernel), List.mem_of_getElem? (i := 483) (by decide +kernel), List.mem_of_getElem? (i := 484) (by decide +kernel)⟩
theorem lw_p22 : lw_okq (⟨"WellTurns", "play", "(II)V"⟩, 14) := ⟨⟨by decide +kernel, by decide +kernel⟩, List.mem_of_getElem? (i := 12) (by decide +kernel), List.mem_of_getElem? (i := 488) (by decide +kernel), List.mem_of_getElem? (i := 489) (by decide +kernel)⟩
theorem lw_p23 : lw_okq (⟨"WellTurns", "foretellDone", "(I)V"⟩, 14) := ⟨⟨by decide +kernel, by decide +kernel⟩, List.mem_of_getElem? (i := 12) (by decide +kernel), List.mem_of_getElem? (i := 496) (by decide +kernel), List.mem_of_getElem? (i := 497) (by decide +kernel)⟩
theorem lw_p24 : lw_okq (⟨"WellTurns", "markDone", "(I)V"⟩, 14) := ⟨⟨by decide +kernel, by decide +kernel⟩, List.mem_of_getElem? (i := 12) (by decide +kernel), List.mem_of_getElem? (i := 500) (by decide +kernel), List.mem_of_getElem? (i := 501) (by decide +kernel)⟩
theorem lw_p25 : lw_okq (⟨"WellTurns", "soonestAll", "(I)I"⟩, 14) := ⟨⟨by decide +kernel, by decide +kernel⟩, List.mem_of_getElem? (i := 12) (by decide +kernel), List.mem_of_getElem? (i := 508) (by decide +kernel), List.mem_of_getElem? (i := 509) (by decide +kernel)⟩
theorem lw_p26 : lw_okq (⟨"WellTurns", "herdWaits", "(I)I"⟩, 14) := ⟨⟨by decide +kernel, by decide +kernel⟩, List.mem_of_getElem? (i := 12) (by decide +kernel), List.mem_of_getElem? (i := 528) (by decide +kernel), List.mem_of_getElem? (i := 529) (by decide +kernel)⟩
theorem lw_p27 : lw_okq (⟨"WellTurns", "bestLaw", "(IZ)I"⟩, 14) := ⟨⟨by decide +kernel, by decide +kernel⟩, List.mem_of_getElem? (i := 12) (by decide +kernel), List.mem_of_getElem? (i := 536) (by decide +kernel), List.mem_of_getElem? (i := 537) (by decide +kernel)⟩
theorem lw_p28 : lw_okq (⟨"WellTurns", "readSeen", "(LWellTurns$Sheet;II)Z"⟩, 14) := ⟨⟨by decide +kernel, by decide +kernel⟩, List.mem_of_getElem? (i := 12) (by decide +kernel), List.mem_of_getElem? (i := 596) (by decide +kernel), List.mem_of_getElem? (i := 597) (by decide +kernel)⟩
theorem lw_p29 : lw_okq (⟨"WellTurns", "wouldBeSeen", "(II)Z"⟩, 14) := ⟨⟨by decide +kernel, by decide +kernel⟩, List.mem_of_getElem? (i := 12) (by decide +kernel), List.mem_of_getElem? (i := 602) (by decide +kernel), List.mem_of_getElem? (i := 603) (by decide +kernel)⟩
theorem lw_p30 : lw_okq (⟨"WellTurnsModel", "isBeast", "(I)Z"⟩, 20) := ⟨⟨by decide +kernel, by decide +kernel⟩, List.mem_of_getElem? (i := 636) (by decide +kernel), List.mem_of_getElem? (i := 716) (by decide +kernel), List.mem_of_getElem? (i := 717) (by decide +kernel)⟩
theorem lw_p31 : lw_okq (⟨"WellTurnsModel", "at", "(II)I"⟩, 20) := ⟨⟨by decide +kernel, by decide +kernel⟩, List.mem_of_getElem? (i := 636) (by decide +kernel), List.mem_of_getElem? (i := 721) (by decide +kernel), List.mem_of_getElem? (i := 722) (by decide +kernel)⟩
def lw_privs_2 : List (MethodName × Nat) := [(⟨"WellTurns$Moment", "anySwollen", "(LWellTurns$Camp;)Z"⟩, 10), (⟨"WellTurns$Moment", "drawBucket", "(LWellTurns$Camp;)I"⟩, 10), (⟨"WellTurns$Moment", "waterBeasts", "(LWellTurns$Camp;I)I"⟩, 10), (⟨"WellTurns$Moment", "needsYet", "(LWellTurns$Camp;I)I"⟩, 10), (⟨"WellTurns$Moment", "swell", "(III)V"⟩, 10), (⟨"WellTurns", "foretell", "()V"⟩, 14), (⟨"WellTurns", "play", "(II)V"⟩, 14), (⟨"WellTurns", "foretellDone", "(I)V"⟩, 14), (⟨"WellTurns", "markDone", "(I)V"⟩, 14), (⟨"WellTurns", "soonestAll", "(I)I"⟩, 14), (⟨"WellTurns", "herdWaits", "(I)I"⟩, 14), (⟨"WellTurns", "bestLaw", "(IZ)I"⟩, 14), (⟨"WellTurns", "readSeen", "(LWellTurns$Sheet;II)Z"⟩, 14), (⟨"WellTurns", "wouldBeSeen", "(II)Z"⟩, 14), (⟨"WellTurnsModel", "isBeast", "(I)Z"⟩, 20), (⟨"WellTurnsModel", "at", "(II)I"⟩, 20)]
theorem lw_r2 : ∀ q ∈ lw_privs_2, lw_okq q := List.forall_mem_cons.mpr ⟨lw_p16, List.forall_mem_cons.mpr ⟨lw_p17, List.forall_mem_cons.mpr ⟨lw_p18, List.forall_mem_cons.mpr ⟨lw_p19, List.forall_mem_cons.mpr ⟨lw_p20, List.forall_mem_cons.mpr ⟨lw_p21, List.forall_mem_cons.mpr ⟨lw_p22, List.forall_mem_cons.mpr ⟨lw_p23, List.forall_mem_cons.mpr ⟨lw_p24, List.forall_mem_cons.mpr ⟨lw_p25, List.forall_mem_cons.mpr ⟨lw_p26, List.forall_mem_cons.mpr ⟨lw_p27, List.forall_mem_cons.mpr ⟨lw_p28, List.forall_mem_cons.mpr ⟨lw_p29, List.forall_mem_cons.mpr ⟨lw_p30, List.forall_mem_cons.mpr ⟨lw_p31, fun _ h => absurd h List.not_mem_nil⟩⟩⟩⟩⟩⟩⟩⟩⟩⟩⟩⟩⟩⟩⟩⟩
theorem lw_p32 : lw_okq (⟨"WellTurnsModel", "needs", "(I)I"⟩, 20) := ⟨⟨by decide +kernel, by decide +kernel⟩, List.mem_of_getElem? (i := 636) (by decide +kernel), List.mem_of_getElem? (i := 725) (by decide +kernel), List.mem_of_getElem? (i := 726) (by decide +kernel)⟩
theorem lw_p33 : lw_okq (⟨"WellTurnsModel", "isMilk", "(I)Z"⟩, 20) := ⟨⟨by decide +kernel, by decide +kernel⟩, List.mem_of_getElem? (i := 636) (by decide +kernel), List.mem_of_getElem? (i := 729) (by decide +kernel), List.mem_of_getElem? (i := 730) (by decide +kernel)⟩
theorem lw_p34 : lw_okq (⟨"WellTurnsModel", "isSated", "(I)Z"⟩, 20) := ⟨⟨by decide +kernel, by decide +kernel⟩, List.mem_of_getElem? (i := 636) (by decide +kernel), List.mem_of_getElem? (i := 733) (by decide +kernel), List.mem_of_getElem? (i := 734) (by decide +kernel)⟩
theorem lw_p35 : lw_okq (⟨"WellTurnsModel", "drinks", "(I)I"⟩, 20) := ⟨⟨by decide +kernel, by decide +kernel⟩, List.mem_of_getElem? (i := 636) (by decide +kernel), List.mem_of_getElem? (i := 737) (by decide +kernel), List.mem_of_getElem? (i := 738) (by decide +kernel)⟩
theorem lw_p36 : lw_okq (⟨"WellTurnsModel", "orders", "(I)V"⟩, 20) := ⟨⟨by decide +kernel, by decide +kernel⟩, List.mem_of_getElem? (i := 636) (by decide +kernel), List.mem_of_getElem? (i := 760) (by decide +kernel), List.mem_of_getElem? (i := 761) (by decide +kernel)⟩
theorem lw_p37 : lw_okq (⟨"WellTurnsModel", "isAhead", "(III)Z"⟩, 20) := ⟨⟨by decide +kernel, by decide +kernel⟩, List.mem_of_getElem? (i := 636) (by decide +kernel), List.mem_of_getElem? (i := 764) (by decide +kernel), List.mem_of_getElem? (i := 765) (by decide +kernel)⟩
theorem lw_p38 : lw_okq (⟨"WellTurnsModel", "among", "(I)I"⟩, 20) := ⟨⟨by decide +kernel, by decide +kernel⟩, List.mem_of_getElem? (i := 636) (by decide +kernel), List.mem_of_getElem? (i := 768) (by decide +kernel), List.mem_of_getElem? (i := 769) (by decide +kernel)⟩
theorem lw_p39 : lw_okq (⟨"WellTurnsModel", "gone", "(IZ)I"⟩, 20) := ⟨⟨by decide +kernel, by decide +kernel⟩, List.mem_of_getElem? (i := 636) (by decide +kernel), List.mem_of_getElem? (i := 777) (by decide +kernel), List.mem_of_getElem? (i := 778) (by decide +kernel)⟩
theorem lw_p40 : lw_okq (⟨"WellTurnsModel", "notes", "()V"⟩, 20) := ⟨⟨by decide +kernel, by decide +kernel⟩, List.mem_of_getElem? (i := 636) (by decide +kernel), List.mem_of_getElem? (i := 781) (by decide +kernel), List.mem_of_getElem? (i := 782) (by decide +kernel)⟩
theorem lw_p41 : lw_okq (⟨"WellTurnsModel", "goes", "(ZI)I"⟩, 20) := ⟨⟨by decide +kernel, by decide +kernel⟩, List.mem_of_getElem? (i := 636) (by decide +kernel), List.mem_of_getElem? (i := 785) (by decide +kernel), List.mem_of_getElem? (i := 786) (by decide +kernel)⟩
theorem lw_p42 : lw_okq (⟨"WellTurnsModel", "draws", "(Z)V"⟩, 20) := ⟨⟨by decide +kernel, by decide +kernel⟩, List.mem_of_getElem? (i := 636) (by decide +kernel), List.mem_of_getElem? (i := 789) (by decide +kernel), List.mem_of_getElem? (i := 790) (by decide +kernel)⟩
theorem lw_p43 : lw_okq (⟨"WellTurnsModel", "drinksOf", "(I)I"⟩, 20) := ⟨⟨by decide +kernel, by decide +kernel⟩, List.mem_of_getElem? (i := 636) (by decide +kernel), List.mem_of_getElem? (i := 797) (by decide +kernel), List.mem_of_getElem? (i := 798) (by decide +kernel)⟩
theorem lw_p44 : lw_okq (⟨"WellTurnsModel", "sated", "()I"⟩, 20) := ⟨⟨by decide +kernel, by decide +kernel⟩, List.mem_of_getElem? (i := 636) (by decide +kernel), List.mem_of_getElem? (i := 817) (by decide +kernel), List.mem_of_getElem? (i := 818) (by decide +kernel)⟩
theorem lw_p45 : lw_okq (⟨"WellTurnsModel", "asides", "()V"⟩, 20) := ⟨⟨by decide +kernel, by decide +kernel⟩, List.mem_of_getElem? (i := 636) (by decide +kernel), List.mem_of_getElem? (i := 827) (by decide +kernel), List.mem_of_getElem? (i := 828) (by decide +kernel)⟩
theorem lw_p46 : lw_okq (⟨"WellTurnsModel", "backs", "()V"⟩, 20) := ⟨⟨by decide +kernel, by decide +kernel⟩, List.mem_of_getElem? (i := 636) (by decide +kernel), List.mem_of_getElem? (i := 831) (by decide +kernel), List.mem_of_getElem? (i := 832) (by decide +kernel)⟩
theorem lw_p47 : lw_okq (⟨"WellTurnsModel", "goesOn", "(I)I"⟩, 20) := ⟨⟨by decide +kernel, by decide +kernel⟩, List.mem_of_getElem? (i := 636) (by decide +kernel), List.mem_of_getElem? (i := 839) (by decide +kernel), List.mem_of_getElem? (i := 840) (by decide +kernel)⟩
def lw_privs_3 : List (MethodName × Nat) := [(⟨"WellTurnsModel", "needs", "(I)I"⟩, 20), (⟨"WellTurnsModel", "isMilk", "(I)Z"⟩, 20), (⟨"WellTurnsModel", "isSated", "(I)Z"⟩, 20), (⟨"WellTurnsModel", "drinks", "(I)I"⟩, 20), (⟨"WellTurnsModel", "orders", "(I)V"⟩, 20), (⟨"WellTurnsModel", "isAhead", "(III)Z"⟩, 20), (⟨"WellTurnsModel", "among", "(I)I"⟩, 20), (⟨"WellTurnsModel", "gone", "(IZ)I"⟩, 20), (⟨"WellTurnsModel", "notes", "()V"⟩, 20), (⟨"WellTurnsModel", "goes", "(ZI)I"⟩, 20), (⟨"WellTurnsModel", "draws", "(Z)V"⟩, 20), (⟨"WellTurnsModel", "drinksOf", "(I)I"⟩, 20), (⟨"WellTurnsModel", "sated", "()I"⟩, 20), (⟨"WellTurnsModel", "asides", "()V"⟩, 20), (⟨"WellTurnsModel", "backs", "()V"⟩, 20), (⟨"WellTurnsModel", "goesOn", "(I)I"⟩, 20)]
theorem lw_r3 : ∀ q ∈ lw_privs_3, lw_okq q := List.forall_mem_cons.mpr ⟨lw_p32, List.forall_mem_cons.mpr ⟨lw_p33, List.forall_mem_cons.mpr ⟨lw_p34, List.forall_mem_cons.mpr ⟨lw_p35, List.forall_mem_cons.mpr ⟨lw_p36, List.forall_mem_cons.mpr ⟨lw_p37, List.forall_mem_cons.mpr ⟨lw_p38, List.forall_mem_cons.mpr ⟨lw_p39, List.forall_mem_cons.mpr ⟨lw_p40, List.forall_mem_cons.mpr ⟨lw_p41, List.forall_mem_cons.mpr ⟨lw_p42, List.forall_mem_cons.mpr ⟨lw_p43, List.forall_mem_cons.mpr ⟨lw_p44, List.forall_mem_cons.mpr ⟨lw_p45, List.forall_mem_cons.mpr ⟨lw_p46, List.forall_mem_cons.mpr ⟨lw_p47, fun _ h => absurd h List.not_mem_nil⟩⟩⟩⟩⟩⟩⟩⟩⟩⟩⟩⟩⟩⟩⟩⟩
theorem lw_p48 : lw_okq (⟨"WellTurnsModel", "others", "()I"⟩, 20) := ⟨⟨by decide +kernel, by decide +kernel⟩, List.mem_of_getElem? (i := 636) (by decide +kernel), List.mem_of_getElem? (i := 847) (by decide +kernel), List.mem_of_getElem? (i := 848) (by decide +kernel)⟩
theorem lw_p49 : lw_okq (⟨"WellTurnsModel", "waitsOf", "(II)I"⟩, 20) := ⟨⟨by decide +kernel, by decide +kernel⟩, List.mem_of_getElem? (i := 636) (by decide +kernel), List.mem_of_getElem? (i := 863) (by decide +kernel), List.mem_of_getElem? (i := 864) (by decide +kernel)⟩
theorem lw_p50 : lw_okq (⟨"WellTurnsModel", "lawBy", "(IZ)I"⟩, 20) := ⟨⟨by decide +kernel, by decide +kernel⟩, List.mem_of_getElem? (i := 636) (by decide +kernel), List.mem_of_getElem? (i := 871) (by decide +kernel), List.mem_of_getElem? (i := 872) (by decide +kernel)⟩
theorem lw_p51 : lw_okq (⟨"WellTurnsModel", "number", "(I)I"⟩, 20) := ⟨⟨by decide +kernel, by decide +kernel⟩, List.mem_of_getElem? (i := 636) (by decide +kernel), List.mem_of_getElem? (i := 906) (by decide +kernel), List.mem_of_getElem? (i := 907) (by decide +kernel)⟩
theorem lw_p52 : lw_okq (⟨"WellTurnsModel", "here", "()I"⟩, 20) := ⟨⟨by decide +kernel, by decide +kernel⟩, List.mem_of_getElem? (i := 636) (by decide +kernel), List.mem_of_getElem? (i := 910) (by decide +kernel), List.mem_of_getElem? (i := 911) (by decide +kernel)⟩
theorem lw_p53 : lw_okq (⟨"WellTurnsModel", "must", "(Z)V"⟩, 20) := ⟨⟨by decide +kernel, by decide +kernel⟩, List.mem_of_getElem? (i := 636) (by decide +kernel), List.mem_of_getElem? (i := 919) (by decide +kernel), List.mem_of_getElem? (i := 920) (by decide +kernel)⟩
theorem lw_p54 : lw_okq (⟨"WellTurnsModel", "takes", "(I)V"⟩, 20) := ⟨⟨by decide +kernel, by decide +kernel⟩, List.mem_of_getElem? (i := 636) (by decide +kernel), List.mem_of_getElem? (i := 923) (by decide +kernel), List.mem_of_getElem? (i := 924) (by decide +kernel)⟩
theorem lw_p55 : lw_okq (⟨"WellTurnsModel", "readBeast", "(I)V"⟩, 20) := ⟨⟨by decide +kernel, by decide +kernel⟩, List.mem_of_getElem? (i := 636) (by decide +kernel), List.mem_of_getElem? (i := 927) (by decide +kernel), List.mem_of_getElem? (i := 928) (by decide +kernel)⟩
theorem lw_p56 : lw_okq (⟨"WellTurnsModel", "why", "(IIII)I"⟩, 20) := ⟨⟨by decide +kernel, by decide +kernel⟩, List.mem_of_getElem? (i := 636) (by decide +kernel), List.mem_of_getElem? (i := 950) (by decide +kernel), List.mem_of_getElem? (i := 951) (by decide +kernel)⟩
def lw_privs_4 : List (MethodName × Nat) := [(⟨"WellTurnsModel", "others", "()I"⟩, 20), (⟨"WellTurnsModel", "waitsOf", "(II)I"⟩, 20), (⟨"WellTurnsModel", "lawBy", "(IZ)I"⟩, 20), (⟨"WellTurnsModel", "number", "(I)I"⟩, 20), (⟨"WellTurnsModel", "here", "()I"⟩, 20), (⟨"WellTurnsModel", "must", "(Z)V"⟩, 20), (⟨"WellTurnsModel", "takes", "(I)V"⟩, 20), (⟨"WellTurnsModel", "readBeast", "(I)V"⟩, 20), (⟨"WellTurnsModel", "why", "(IIII)I"⟩, 20)]
theorem lw_r4 : ∀ q ∈ lw_privs_4, lw_okq q := List.forall_mem_cons.mpr ⟨lw_p48, List.forall_mem_cons.mpr ⟨lw_p49, List.forall_mem_cons.mpr ⟨lw_p50, List.forall_mem_cons.mpr ⟨lw_p51, List.forall_mem_cons.mpr ⟨lw_p52, List.forall_mem_cons.mpr ⟨lw_p53, List.forall_mem_cons.mpr ⟨lw_p54, List.forall_mem_cons.mpr ⟨lw_p55, List.forall_mem_cons.mpr ⟨lw_p56, fun _ h => absurd h List.not_mem_nil⟩⟩⟩⟩⟩⟩⟩⟩⟩
def lw_privs : List (MethodName × Nat) := lw_privs_1 ++ (lw_privs_2 ++ (lw_privs_3 ++ (lw_privs_4)))
def lw_tbl : List Cond := k2_sels lw_privs ++ tables_1
theorem lw_privs_ok : ∀ q ∈ lw_privs, lw_okq q := by
  show ∀ q ∈ lw_privs_1 ++ (lw_privs_2 ++ (lw_privs_3 ++ (lw_privs_4))), lw_okq q
  exact List.forall_mem_append.mpr ⟨lw_r1, List.forall_mem_append.mpr ⟨lw_r2, List.forall_mem_append.mpr ⟨lw_r3, lw_r4⟩⟩⟩
end
section
def RX0 : String := "WellTurns$Camp"
def TX0 : u_T := fun k => match k with
  | 0 => ("WellTurns$Camp", "mud", "I", false)
  | 1 => ("WellTurns$Camp", "rise", "I", false)
  | 2 => ("WellTurns$Camp", "bucket", "I", false)
  | 3 => ("WellTurns$Camp", "places", "I", false)
  | 4 => ("WellTurns$Camp", "from", "I", false)
  | 5 => ("WellTurns$Camp", "law", "I", false)
  | 6 => ("WellTurns$Camp", "puller", "I", false)
  | 7 => ("WellTurns$Camp", "beasts", "I", false)
  | 8 => ("WellTurns$Camp", "kind", "[I", true)
  | 9 => ("WellTurns$Camp", "days", "[I", true)
  | 10 => ("WellTurns$Camp", "herd", "[I", true)
  | 11 => ("WellTurns$Camp", "thirst", "[I", true)
  | 12 => ("WellTurns$Camp", "order", "[I", true)
  | _ => ("WellTurns$Camp", "lined", "I", false)
def tyX0 : Nat → FieldType := fun k => match k with
  | 0 => .int
  | 1 => .int
  | 2 => .int
  | 3 => .int
  | 4 => .int
  | 5 => .int
  | 6 => .int
  | 7 => .int
  | 8 => .array .int
  | 9 => .array .int
  | 10 => .array .int
  | 11 => .array .int
  | 12 => .array .int
  | _ => .int
abbrev wsX00 : List Cond := u_ws RX0 TX0 14
theorem nmX0 : ∀ a, a < 14 → ∀ b, b < 14 → a ≠ b → (TX0 a).2.1 ≠ (TX0 b).2.1 := by decide +kernel
theorem tyX0_ok : ∀ k, k < 14 → parseFieldDescriptor (TX0 k).2.2.1 = some (tyX0 k) := by decide +kernel
abbrev cX0_init : ByteArray := prog_2_method_1_code
def yX0_init : MethodName := ⟨RX0, "<init>", "()V"⟩
abbrev cX0_takeFrom : ByteArray := prog_2_method_2_code
def yX0_takeFrom : MethodName := ⟨RX0, "takeFrom", "(LWellTurns$Camp;)V"⟩
abbrev cX0_lacks : ByteArray := prog_2_method_3_code
def yX0_lacks : MethodName := ⟨RX0, "lacks", "(I)Z"⟩
abbrev cX0_add : ByteArray := prog_2_method_4_code
def yX0_add : MethodName := ⟨RX0, "add", "(III)V"⟩
abbrev cX0_arrange : ByteArray := prog_2_method_5_code
def yX0_arrange : MethodName := ⟨RX0, "arrange", "()V"⟩
abbrev cX0_lineAsTheyCome : ByteArray := prog_2_method_6_code
def yX0_lineAsTheyCome : MethodName := ⟨RX0, "lineAsTheyCome", "()V"⟩
abbrev cX0_lineByDays : ByteArray := prog_2_method_7_code
def yX0_lineByDays : MethodName := ⟨RX0, "lineByDays", "()V"⟩
abbrev cX0_lineMilky : ByteArray := prog_2_method_8_code
def yX0_lineMilky : MethodName := ⟨RX0, "lineMilky", "(Z)V"⟩
abbrev cX0_lineByTurns : ByteArray := prog_2_method_9_code
def yX0_lineByTurns : MethodName := ⟨RX0, "lineByTurns", "()V"⟩
abbrev cX0_nextOf : ByteArray := prog_2_method_10_code
def yX0_nextOf : MethodName := ⟨RX0, "nextOf", "(II)I"⟩
abbrev cX0_lineUp : ByteArray := prog_2_method_11_code
def yX0_lineUp : MethodName := ⟨RX0, "lineUp", "(I)V"⟩
def RX1 : String := "WellTurns$Moment"
def TX1 : u_T := fun k => match k with
  | 0 => ("WellTurns$Moment", "water", "I", false)
  | 1 => ("WellTurns$Moment", "trough", "I", false)
  | 2 => ("WellTurns$Moment", "wear", "I", false)
  | 3 => ("WellTurns$Moment", "spliced", "I", false)
  | 4 => ("WellTurns$Moment", "minute", "I", false)
  | 5 => ("WellTurns$Moment", "draw", "I", false)
  | 6 => ("WellTurns$Moment", "drunk", "[I", true)
  | 7 => ("WellTurns$Moment", "pulled", "[I", true)
  | 8 => ("WellTurns$Moment", "swollen", "[I", true)
  | _ => ("WellTurns$Moment", "streak", "[I", true)
def tyX1 : Nat → FieldType := fun k => match k with
  | 0 => .int
  | 1 => .int
  | 2 => .int
  | 3 => .int
  | 4 => .int
  | 5 => .int
  | 6 => .array .int
  | 7 => .array .int
  | 8 => .array .int
  | _ => .array .int
abbrev wsX10 : List Cond := u_ws RX1 TX1 10
theorem nmX1 : ∀ a, a < 10 → ∀ b, b < 10 → a ≠ b → (TX1 a).2.1 ≠ (TX1 b).2.1 := by decide +kernel
theorem tyX1_ok : ∀ k, k < 10 → parseFieldDescriptor (TX1 k).2.2.1 = some (tyX1 k) := by decide +kernel
abbrev cX1_init : ByteArray := prog_3_method_1_code
def yX1_init : MethodName := ⟨RX1, "<init>", "()V"⟩
abbrev cX1_takeFrom : ByteArray := prog_3_method_2_code
def yX1_takeFrom : MethodName := ⟨RX1, "takeFrom", "(LWellTurns$Moment;)V"⟩
abbrev cX1_begin : ByteArray := prog_3_method_3_code
def yX1_begin : MethodName := ⟨RX1, "begin", "(I)V"⟩
abbrev cX1_needs : ByteArray := prog_3_method_4_code
def yX1_needs : MethodName := ⟨RX1, "needs", "(LWellTurns$Camp;I)I"⟩
abbrev cX1_needsYet : ByteArray := prog_3_method_5_code
def yX1_needsYet : MethodName := ⟨RX1, "needsYet", "(LWellTurns$Camp;I)I"⟩
abbrev cX1_needsYetOf : ByteArray := prog_3_method_6_code
def yX1_needsYetOf : MethodName := ⟨RX1, "needsYetOf", "(LWellTurns$Camp;I)I"⟩
abbrev cX1_sated : ByteArray := prog_3_method_7_code
def yX1_sated : MethodName := ⟨RX1, "sated", "(LWellTurns$Camp;I)Z"⟩
abbrev cX1_satedSet : ByteArray := prog_3_method_8_code
def yX1_satedSet : MethodName := ⟨RX1, "satedSet", "(LWellTurns$Camp;)I"⟩
abbrev cX1_allSated : ByteArray := prog_3_method_9_code
def yX1_allSated : MethodName := ⟨RX1, "allSated", "(LWellTurns$Camp;)Z"⟩
abbrev cX1_drunkTogether : ByteArray := prog_3_method_10_code
def yX1_drunkTogether : MethodName := ⟨RX1, "drunkTogether", "()I"⟩
abbrev cX1_step : ByteArray := prog_3_method_11_code
def yX1_step : MethodName := ⟨RX1, "step", "(LWellTurns$Camp;I)Z"⟩
abbrev cX1_anySwollen : ByteArray := prog_3_method_12_code
def yX1_anySwollen : MethodName := ⟨RX1, "anySwollen", "(LWellTurns$Camp;)Z"⟩
abbrev cX1_drawBucket : ByteArray := prog_3_method_13_code
def yX1_drawBucket : MethodName := ⟨RX1, "drawBucket", "(LWellTurns$Camp;)I"⟩
abbrev cX1_waterBeasts : ByteArray := prog_3_method_14_code
def yX1_waterBeasts : MethodName := ⟨RX1, "waterBeasts", "(LWellTurns$Camp;I)I"⟩
abbrev cX1_swell : ByteArray := prog_3_method_15_code
def yX1_swell : MethodName := ⟨RX1, "swell", "(III)V"⟩
abbrev cX1_ropeBreaks : ByteArray := prog_3_method_16_code
def yX1_ropeBreaks : MethodName := ⟨RX1, "ropeBreaks", "()Z"⟩
def RX2 : String := "WellTurns$Past"
def TX2 : u_T := fun k => match k with
  | 0 => ("WellTurns$Past", "ring", "[LWellTurns$Moment;", true)
  | 1 => ("WellTurns$Past", "next", "I", false)
  | _ => ("WellTurns$Past", "known", "I", false)
def tyX2 : Nat → FieldType := fun k => match k with
  | 0 => .array (.object "WellTurns$Moment")
  | 1 => .int
  | _ => .int
abbrev wsX20 : List Cond := u_ws RX2 TX2 3
theorem nmX2 : ∀ a, a < 3 → ∀ b, b < 3 → a ≠ b → (TX2 a).2.1 ≠ (TX2 b).2.1 := by decide +kernel
theorem tyX2_ok : ∀ k, k < 3 → parseFieldDescriptor (TX2 k).2.2.1 = some (tyX2 k) := by decide +kernel
abbrev cX2_init : ByteArray := prog_4_method_1_code
def yX2_init : MethodName := ⟨RX2, "<init>", "()V"⟩
abbrev cX2_takeFrom : ByteArray := prog_4_method_2_code
def yX2_takeFrom : MethodName := ⟨RX2, "takeFrom", "(LWellTurns$Past;)V"⟩
abbrev cX2_forget : ByteArray := prog_4_method_3_code
def yX2_forget : MethodName := ⟨RX2, "forget", "()V"⟩
abbrev cX2_keep : ByteArray := prog_4_method_4_code
def yX2_keep : MethodName := ⟨RX2, "keep", "(LWellTurns$Moment;)V"⟩
abbrev cX2_giveBack : ByteArray := prog_4_method_5_code
def yX2_giveBack : MethodName := ⟨RX2, "giveBack", "(LWellTurns$Moment;)Z"⟩
def RX3 : String := "WellTurns$Sheet"
def TX3 : u_T := fun k => match k with
  | 0 => ("WellTurns$Sheet", "lane", "I", false)
  | 1 => ("WellTurns$Sheet", "size", "I", false)
  | _ => ("WellTurns$Sheet", "items", "[J", true)
def tyX3 : Nat → FieldType := fun k => match k with
  | 0 => .int
  | 1 => .int
  | _ => .array .long
abbrev wsX30 : List Cond := u_ws RX3 TX3 3
theorem nmX3 : ∀ a, a < 3 → ∀ b, b < 3 → a ≠ b → (TX3 a).2.1 ≠ (TX3 b).2.1 := by decide +kernel
theorem tyX3_ok : ∀ k, k < 3 → parseFieldDescriptor (TX3 k).2.2.1 = some (tyX3 k) := by decide +kernel
abbrev cX3_init : ByteArray := prog_5_method_1_code
def yX3_init : MethodName := ⟨RX3, "<init>", "()V"⟩
abbrev cX3_renew : ByteArray := prog_5_method_2_code
def yX3_renew : MethodName := ⟨RX3, "renew", "(II)V"⟩
abbrev cX3_lacks : ByteArray := prog_5_method_3_code
def yX3_lacks : MethodName := ⟨RX3, "lacks", "(II)Z"⟩
abbrev cX3_refusal : ByteArray := prog_5_method_4_code
def yX3_refusal : MethodName := ⟨RX3, "refusal", "(III)I"⟩
abbrev cX3_put : ByteArray := prog_5_method_5_code
def yX3_put : MethodName := ⟨RX3, "put", "(IJ)V"⟩
def RX4 : String := "WellTurns$Tape"
def TX4 : u_T := fun k => match k with
  | 0 => ("WellTurns$Tape", "letters", "[I", true)
  | 1 => ("WellTurns$Tape", "length", "I", false)
  | 2 => ("WellTurns$Tape", "at", "I", false)
  | _ => ("WellTurns$Tape", "water", "I", false)
def tyX4 : Nat → FieldType := fun k => match k with
  | 0 => .array .int
  | 1 => .int
  | 2 => .int
  | _ => .int
abbrev wsX40 : List Cond := u_ws RX4 TX4 4
theorem nmX4 : ∀ a, a < 4 → ∀ b, b < 4 → a ≠ b → (TX4 a).2.1 ≠ (TX4 b).2.1 := by decide +kernel
theorem tyX4_ok : ∀ k, k < 4 → parseFieldDescriptor (TX4 k).2.2.1 = some (tyX4 k) := by decide +kernel
abbrev cX4_init : ByteArray := prog_6_method_1_code
def yX4_init : MethodName := ⟨RX4, "<init>", "()V"⟩
abbrev cX4_put : ByteArray := prog_6_method_2_code
def yX4_put : MethodName := ⟨RX4, "put", "(I)Z"⟩
abbrev cX4_readInto : ByteArray := prog_6_method_3_code
def yX4_readInto : MethodName := ⟨RX4, "readInto", "(LWellTurns$Camp;)I"⟩
abbrev cX4_readWell : ByteArray := prog_6_method_4_code
def yX4_readWell : MethodName := ⟨RX4, "readWell", "(LWellTurns$Camp;)Z"⟩
abbrev cX4_readBeasts : ByteArray := prog_6_method_5_code
def yX4_readBeasts : MethodName := ⟨RX4, "readBeasts", "(LWellTurns$Camp;)Z"⟩
abbrev cX4_readBeast : ByteArray := prog_6_method_6_code
def yX4_readBeast : MethodName := ⟨RX4, "readBeast", "(LWellTurns$Camp;)Z"⟩
abbrev cX4_kindOf : ByteArray := prog_6_method_7_code
def yX4_kindOf : MethodName := ⟨RX4, "kindOf", "(I)I"⟩
abbrev cX4_readNumber : ByteArray := prog_6_method_8_code
def yX4_readNumber : MethodName := ⟨RX4, "readNumber", "(I)I"⟩
abbrev cX4_digit : ByteArray := prog_6_method_9_code
def yX4_digit : MethodName := ⟨RX4, "digit", "(I)Z"⟩
abbrev cX4_pass : ByteArray := prog_6_method_10_code
def yX4_pass : MethodName := ⟨RX4, "pass", "(I)Z"⟩
abbrev cX4_ahead : ByteArray := prog_6_method_11_code
def yX4_ahead : MethodName := ⟨RX4, "ahead", "()I"⟩
def RX5 : String := "WellTurns"
def TX5 : u_T := fun k => match k with
  | 0 => ("WellTurns", "camp", "LWellTurns$Camp;", true)
  | 1 => ("WellTurns", "moment", "LWellTurns$Moment;", true)
  | 2 => ("WellTurns", "past", "LWellTurns$Past;", true)
  | 3 => ("WellTurns", "hasImage", "Z", false)
  | 4 => ("WellTurns", "keptCamp", "LWellTurns$Camp;", true)
  | 5 => ("WellTurns", "keptMoment", "LWellTurns$Moment;", true)
  | 6 => ("WellTurns", "keptPast", "LWellTurns$Past;", true)
  | 7 => ("WellTurns", "trialCamp", "LWellTurns$Camp;", true)
  | 8 => ("WellTurns", "trial", "LWellTurns$Moment;", true)
  | 9 => ("WellTurns", "doneAt", "[I", true)
  | 10 => ("WellTurns", "seenMinute", "[I", true)
  | 11 => ("WellTurns", "seenWater", "[I", true)
  | 12 => ("WellTurns", "tape", "LWellTurns$Tape;", true)
  | _ => ("WellTurns", "sheets", "[LWellTurns$Sheet;", true)
def tyX5 : Nat → FieldType := fun k => match k with
  | 0 => .object "WellTurns$Camp"
  | 1 => .object "WellTurns$Moment"
  | 2 => .object "WellTurns$Past"
  | 3 => .boolean
  | 4 => .object "WellTurns$Camp"
  | 5 => .object "WellTurns$Moment"
  | 6 => .object "WellTurns$Past"
  | 7 => .object "WellTurns$Camp"
  | 8 => .object "WellTurns$Moment"
  | 9 => .array .int
  | 10 => .array .int
  | 11 => .array .int
  | 12 => .object "WellTurns$Tape"
  | _ => .array (.object "WellTurns$Sheet")
abbrev wsX50 : List Cond := u_ws RX5 TX5 14
theorem nmX5 : ∀ a, a < 14 → ∀ b, b < 14 → a ≠ b → (TX5 a).2.1 ≠ (TX5 b).2.1 := by decide +kernel
theorem tyX5_ok : ∀ k, k < 14 → parseFieldDescriptor (TX5 k).2.2.1 = some (tyX5 k) := by decide +kernel
abbrev cX5_init : ByteArray := prog_1_method_1_code
def yX5_init : MethodName := ⟨RX5, "<init>", "()V"⟩
abbrev cX5_beast : ByteArray := prog_1_method_2_code
def yX5_beast : MethodName := ⟨RX5, "beast", "(III)I"⟩
abbrev cX5_of : ByteArray := prog_1_method_3_code
def yX5_of : MethodName := ⟨RX5, "of", "(II)I"⟩
abbrev cX5_well : ByteArray := prog_1_method_4_code
def yX5_well : MethodName := ⟨RX5, "well", "(II)I"⟩
abbrev cX5_pull : ByteArray := prog_1_method_5_code
def yX5_pull : MethodName := ⟨RX5, "pull", "(I)I"⟩
abbrev cX5_turn : ByteArray := prog_1_method_6_code
def yX5_turn : MethodName := ⟨RX5, "turn", "(I)I"⟩
abbrev cX5_type : ByteArray := prog_1_method_7_code
def yX5_type : MethodName := ⟨RX5, "type", "(I)I"⟩
abbrev cX5_caravan : ByteArray := prog_1_method_8_code
def yX5_caravan : MethodName := ⟨RX5, "caravan", "()I"⟩
abbrev cX5_count : ByteArray := prog_1_method_9_code
def yX5_count : MethodName := ⟨RX5, "count", "(I)I"⟩
abbrev cX5_measure : ByteArray := prog_1_method_10_code
def yX5_measure : MethodName := ⟨RX5, "measure", "(I)I"⟩
abbrev cX5_minutes : ByteArray := prog_1_method_11_code
def yX5_minutes : MethodName := ⟨RX5, "minutes", "(I)I"⟩
abbrev cX5_drift : ByteArray := prog_1_method_12_code
def yX5_drift : MethodName := ⟨RX5, "drift", "(I)I"⟩
abbrev cX5_refusal : ByteArray := prog_1_method_13_code
def yX5_refusal : MethodName := ⟨RX5, "refusal", "(I)I"⟩
abbrev cX5_undo : ByteArray := prog_1_method_14_code
def yX5_undo : MethodName := ⟨RX5, "undo", "()I"⟩
abbrev cX5_seed : ByteArray := prog_1_method_15_code
def yX5_seed : MethodName := ⟨RX5, "seed", "(I)I"⟩
abbrev cX5_water : ByteArray := prog_1_method_16_code
def yX5_water : MethodName := ⟨RX5, "water", "(I)I"⟩
abbrev cX5_done : ByteArray := prog_1_method_17_code
def yX5_done : MethodName := ⟨RX5, "done", "(I)I"⟩
abbrev cX5_all : ByteArray := prog_1_method_18_code
def yX5_all : MethodName := ⟨RX5, "all", "()I"⟩
abbrev cX5_height : ByteArray := prog_1_method_19_code
def yX5_height : MethodName := ⟨RX5, "height", "(I)I"⟩
abbrev cX5_pulls : ByteArray := prog_1_method_20_code
def yX5_pulls : MethodName := ⟨RX5, "pulls", "(I)I"⟩
abbrev cX5_waits : ByteArray := prog_1_method_21_code
def yX5_waits : MethodName := ⟨RX5, "waits", "(II)I"⟩
abbrev cX5_least : ByteArray := prog_1_method_22_code
def yX5_least : MethodName := ⟨RX5, "least", "(I)I"⟩
abbrev cX5_both : ByteArray := prog_1_method_23_code
def yX5_both : MethodName := ⟨RX5, "both", "(I)I"⟩
abbrev cX5_wholly : ByteArray := prog_1_method_24_code
def yX5_wholly : MethodName := ⟨RX5, "wholly", "(II)I"⟩
abbrev cX5_drank : ByteArray := prog_1_method_25_code
def yX5_drank : MethodName := ⟨RX5, "drank", "(II)I"⟩
abbrev cX5_holds : ByteArray := prog_1_method_26_code
def yX5_holds : MethodName := ⟨RX5, "holds", "(I)I"⟩
abbrev cX5_image : ByteArray := prog_1_method_27_code
def yX5_image : MethodName := ⟨RX5, "image", "()I"⟩
abbrev cX5_restore : ByteArray := prog_1_method_28_code
def yX5_restore : MethodName := ⟨RX5, "restore", "()I"⟩
abbrev cX5_foretell : ByteArray := prog_1_method_29_code
def yX5_foretell : MethodName := ⟨RX5, "foretell", "()V"⟩
abbrev cX5_play : ByteArray := prog_1_method_30_code
def yX5_play : MethodName := ⟨RX5, "play", "(II)V"⟩
abbrev cX5_soonestAll : ByteArray := prog_1_method_31_code
def yX5_soonestAll : MethodName := ⟨RX5, "soonestAll", "(I)I"⟩
abbrev cX5_foretellDone : ByteArray := prog_1_method_32_code
def yX5_foretellDone : MethodName := ⟨RX5, "foretellDone", "(I)V"⟩
abbrev cX5_markDone : ByteArray := prog_1_method_33_code
def yX5_markDone : MethodName := ⟨RX5, "markDone", "(I)V"⟩
abbrev cX5_herdWaits : ByteArray := prog_1_method_34_code
def yX5_herdWaits : MethodName := ⟨RX5, "herdWaits", "(I)I"⟩
abbrev cX5_bestLaw : ByteArray := prog_1_method_35_code
def yX5_bestLaw : MethodName := ⟨RX5, "bestLaw", "(IZ)I"⟩
abbrev cX5_buckets : ByteArray := prog_1_method_36_code
def yX5_buckets : MethodName := ⟨RX5, "buckets", "(IIII)I"⟩
abbrev cX5_readSeen : ByteArray := prog_1_method_37_code
def yX5_readSeen : MethodName := ⟨RX5, "readSeen", "(LWellTurns$Sheet;II)Z"⟩
abbrev cX5_wouldBeSeen : ByteArray := prog_1_method_38_code
def yX5_wouldBeSeen : MethodName := ⟨RX5, "wouldBeSeen", "(II)Z"⟩
abbrev cX5_film : ByteArray := prog_1_method_39_code
def yX5_film : MethodName := ⟨RX5, "film", "(IIII)I"⟩
abbrev cX5_sheet : ByteArray := prog_1_method_40_code
def yX5_sheet : MethodName := ⟨RX5, "sheet", "(III)I"⟩
abbrev cX5_drop : ByteArray := prog_1_method_41_code
def yX5_drop : MethodName := ⟨RX5, "drop", "(I)I"⟩
abbrev cX5_item : ByteArray := prog_1_method_42_code
def yX5_item : MethodName := ⟨RX5, "item", "(IIIJ)I"⟩
abbrev cX5_copy : ByteArray := prog_1_method_43_code
def yX5_copy : MethodName := ⟨RX5, "copy", "(IIIII)I"⟩
abbrev cX5_noSheet : ByteArray := prog_1_method_44_code
def yX5_noSheet : MethodName := ⟨RX5, "noSheet", "(I)Z"⟩
abbrev cX5_outside : ByteArray := prog_1_method_45_code
def yX5_outside : MethodName := ⟨RX5, "outside", "(III)Z"⟩
abbrev cX5_milky : ByteArray := prog_1_method_46_code
def yX5_milky : MethodName := ⟨RX5, "milky", "(I)Z"⟩
abbrev cX5_gulp : ByteArray := prog_1_method_47_code
def yX5_gulp : MethodName := ⟨RX5, "gulp", "(I)I"⟩
def RX6 : String := "WellTurnsModel"
def TX6 : u_T := fun k => match k with
  | 0 => ("WellTurnsModel", "now", "[I", true)
  | 1 => ("WellTurnsModel", "turns", "[I", true)
  | 2 => ("WellTurnsModel", "ordered", "I", false)
  | 3 => ("WellTurnsModel", "broke", "I", false)
  | 4 => ("WellTurnsModel", "undone", "[I", true)
  | 5 => ("WellTurnsModel", "undos", "I", false)
  | 6 => ("WellTurnsModel", "aside", "[I", true)
  | 7 => ("WellTurnsModel", "dones", "[I", true)
  | 8 => ("WellTurnsModel", "tape", "[I", true)
  | 9 => ("WellTurnsModel", "typed", "I", false)
  | 10 => ("WellTurnsModel", "place", "I", false)
  | 11 => ("WellTurnsModel", "isFault", "Z", false)
  | 12 => ("WellTurnsModel", "read", "[I", true)
  | 13 => ("WellTurnsModel", "kept", "[I", true)
  | 14 => ("WellTurnsModel", "keptUndos", "I", false)
  | 15 => ("WellTurnsModel", "isKept", "Z", false)
  | 16 => ("WellTurnsModel", "lanes", "[I", true)
  | 17 => ("WellTurnsModel", "sizes", "[I", true)
  | 18 => ("WellTurnsModel", "items", "[J", true)
  | _ => ("WellTurnsModel", "moved", "[J", true)
def tyX6 : Nat → FieldType := fun k => match k with
  | 0 => .array .int
  | 1 => .array .int
  | 2 => .int
  | 3 => .int
  | 4 => .array .int
  | 5 => .int
  | 6 => .array .int
  | 7 => .array .int
  | 8 => .array .int
  | 9 => .int
  | 10 => .int
  | 11 => .boolean
  | 12 => .array .int
  | 13 => .array .int
  | 14 => .int
  | 15 => .boolean
  | 16 => .array .int
  | 17 => .array .int
  | 18 => .array .long
  | _ => .array .long
abbrev wsX60 : List Cond := u_ws RX6 TX6 20
theorem nmX6 : ∀ a, a < 20 → ∀ b, b < 20 → a ≠ b → (TX6 a).2.1 ≠ (TX6 b).2.1 := by decide +kernel
theorem tyX6_ok : ∀ k, k < 20 → parseFieldDescriptor (TX6 k).2.2.1 = some (tyX6 k) := by decide +kernel
abbrev cX6_in : ByteArray := prog_8_method_2_code
def yX6_in : MethodName := ⟨RX6, "in", "(JJJ)Z"⟩
abbrev cX6_init : ByteArray := prog_8_method_3_code
def yX6_init : MethodName := ⟨RX6, "<init>", "()V"⟩
abbrev cX6_isBeast : ByteArray := prog_8_method_4_code
def yX6_isBeast : MethodName := ⟨RX6, "isBeast", "(I)Z"⟩
abbrev cX6_at : ByteArray := prog_8_method_5_code
def yX6_at : MethodName := ⟨RX6, "at", "(II)I"⟩
abbrev cX6_isMilk : ByteArray := prog_8_method_6_code
def yX6_isMilk : MethodName := ⟨RX6, "isMilk", "(I)Z"⟩
abbrev cX6_needs : ByteArray := prog_8_method_7_code
def yX6_needs : MethodName := ⟨RX6, "needs", "(I)I"⟩
abbrev cX6_drinks : ByteArray := prog_8_method_8_code
def yX6_drinks : MethodName := ⟨RX6, "drinks", "(I)I"⟩
abbrev cX6_isSated : ByteArray := prog_8_method_9_code
def yX6_isSated : MethodName := ⟨RX6, "isSated", "(I)Z"⟩
abbrev cX6_sated : ByteArray := prog_8_method_10_code
def yX6_sated : MethodName := ⟨RX6, "sated", "()I"⟩
abbrev cX6_beast : ByteArray := prog_8_method_11_code
def yX6_beast : MethodName := ⟨RX6, "beast", "(III)I"⟩
abbrev cX6_of : ByteArray := prog_8_method_12_code
def yX6_of : MethodName := ⟨RX6, "of", "(II)I"⟩
abbrev cX6_low : ByteArray := prog_8_method_13_code
def yX6_low : MethodName := ⟨RX6, "low", "(I)I"⟩
abbrev cX6_high : ByteArray := prog_8_method_14_code
def yX6_high : MethodName := ⟨RX6, "high", "(I)I"⟩
abbrev cX6_well : ByteArray := prog_8_method_15_code
def yX6_well : MethodName := ⟨RX6, "well", "(II)I"⟩
abbrev cX6_pull : ByteArray := prog_8_method_16_code
def yX6_pull : MethodName := ⟨RX6, "pull", "(I)I"⟩
abbrev cX6_isAhead : ByteArray := prog_8_method_17_code
def yX6_isAhead : MethodName := ⟨RX6, "isAhead", "(III)Z"⟩
abbrev cX6_among : ByteArray := prog_8_method_18_code
def yX6_among : MethodName := ⟨RX6, "among", "(I)I"⟩
abbrev cX6_orders : ByteArray := prog_8_method_19_code
def yX6_orders : MethodName := ⟨RX6, "orders", "(I)V"⟩
abbrev cX6_turn : ByteArray := prog_8_method_20_code
def yX6_turn : MethodName := ⟨RX6, "turn", "(I)I"⟩
abbrev cX6_draws : ByteArray := prog_8_method_21_code
def yX6_draws : MethodName := ⟨RX6, "draws", "(Z)V"⟩
abbrev cX6_drinksOf : ByteArray := prog_8_method_22_code
def yX6_drinksOf : MethodName := ⟨RX6, "drinksOf", "(I)I"⟩
abbrev cX6_goes : ByteArray := prog_8_method_23_code
def yX6_goes : MethodName := ⟨RX6, "goes", "(ZI)I"⟩
abbrev cX6_notes : ByteArray := prog_8_method_24_code
def yX6_notes : MethodName := ⟨RX6, "notes", "()V"⟩
abbrev cX6_gone : ByteArray := prog_8_method_25_code
def yX6_gone : MethodName := ⟨RX6, "gone", "(IZ)I"⟩
abbrev cX6_minutes : ByteArray := prog_8_method_26_code
def yX6_minutes : MethodName := ⟨RX6, "minutes", "(I)I"⟩
abbrev cX6_drift : ByteArray := prog_8_method_27_code
def yX6_drift : MethodName := ⟨RX6, "drift", "(I)I"⟩
abbrev cX6_undo : ByteArray := prog_8_method_28_code
def yX6_undo : MethodName := ⟨RX6, "undo", "()I"⟩
abbrev cX6_seed : ByteArray := prog_8_method_29_code
def yX6_seed : MethodName := ⟨RX6, "seed", "(I)I"⟩
abbrev cX6_count : ByteArray := prog_8_method_30_code
def yX6_count : MethodName := ⟨RX6, "count", "(I)I"⟩
abbrev cX6_asides : ByteArray := prog_8_method_31_code
def yX6_asides : MethodName := ⟨RX6, "asides", "()V"⟩
abbrev cX6_backs : ByteArray := prog_8_method_32_code
def yX6_backs : MethodName := ⟨RX6, "backs", "()V"⟩
abbrev cX6_water : ByteArray := prog_8_method_33_code
def yX6_water : MethodName := ⟨RX6, "water", "(I)I"⟩
abbrev cX6_goesOn : ByteArray := prog_8_method_34_code
def yX6_goesOn : MethodName := ⟨RX6, "goesOn", "(I)I"⟩
abbrev cX6_others : ByteArray := prog_8_method_35_code
def yX6_others : MethodName := ⟨RX6, "others", "()I"⟩
abbrev cX6_done : ByteArray := prog_8_method_36_code
def yX6_done : MethodName := ⟨RX6, "done", "(I)I"⟩
abbrev cX6_all : ByteArray := prog_8_method_37_code
def yX6_all : MethodName := ⟨RX6, "all", "()I"⟩
abbrev cX6_height : ByteArray := prog_8_method_38_code
def yX6_height : MethodName := ⟨RX6, "height", "(I)I"⟩
abbrev cX6_pulls : ByteArray := prog_8_method_39_code
def yX6_pulls : MethodName := ⟨RX6, "pulls", "(I)I"⟩
abbrev cX6_waitsOf : ByteArray := prog_8_method_40_code
def yX6_waitsOf : MethodName := ⟨RX6, "waitsOf", "(II)I"⟩
abbrev cX6_waits : ByteArray := prog_8_method_41_code
def yX6_waits : MethodName := ⟨RX6, "waits", "(II)I"⟩
abbrev cX6_lawBy : ByteArray := prog_8_method_42_code
def yX6_lawBy : MethodName := ⟨RX6, "lawBy", "(IZ)I"⟩
abbrev cX6_least : ByteArray := prog_8_method_43_code
def yX6_least : MethodName := ⟨RX6, "least", "(I)I"⟩
abbrev cX6_both : ByteArray := prog_8_method_44_code
def yX6_both : MethodName := ⟨RX6, "both", "(I)I"⟩
abbrev cX6_many : ByteArray := prog_8_method_45_code
def yX6_many : MethodName := ⟨RX6, "many", "(I)I"⟩
abbrev cX6_wholly : ByteArray := prog_8_method_46_code
def yX6_wholly : MethodName := ⟨RX6, "wholly", "(II)I"⟩
abbrev cX6_drank : ByteArray := prog_8_method_47_code
def yX6_drank : MethodName := ⟨RX6, "drank", "(II)I"⟩
abbrev cX6_holds : ByteArray := prog_8_method_48_code
def yX6_holds : MethodName := ⟨RX6, "holds", "(I)I"⟩
abbrev cX6_type : ByteArray := prog_8_method_49_code
def yX6_type : MethodName := ⟨RX6, "type", "(I)I"⟩
abbrev cX6_here : ByteArray := prog_8_method_50_code
def yX6_here : MethodName := ⟨RX6, "here", "()I"⟩
abbrev cX6_must : ByteArray := prog_8_method_51_code
def yX6_must : MethodName := ⟨RX6, "must", "(Z)V"⟩
abbrev cX6_isDigit : ByteArray := prog_8_method_52_code
def yX6_isDigit : MethodName := ⟨RX6, "isDigit", "(I)Z"⟩
abbrev cX6_takes : ByteArray := prog_8_method_53_code
def yX6_takes : MethodName := ⟨RX6, "takes", "(I)V"⟩
abbrev cX6_number : ByteArray := prog_8_method_54_code
def yX6_number : MethodName := ⟨RX6, "number", "(I)I"⟩
abbrev cX6_readBeast : ByteArray := prog_8_method_55_code
def yX6_readBeast : MethodName := ⟨RX6, "readBeast", "(I)V"⟩
abbrev cX6_caravan : ByteArray := prog_8_method_56_code
def yX6_caravan : MethodName := ⟨RX6, "caravan", "()I"⟩
abbrev cX6_image : ByteArray := prog_8_method_57_code
def yX6_image : MethodName := ⟨RX6, "image", "()I"⟩
abbrev cX6_restore : ByteArray := prog_8_method_58_code
def yX6_restore : MethodName := ⟨RX6, "restore", "()I"⟩
abbrev cX6_isSheet : ByteArray := prog_8_method_59_code
def yX6_isSheet : MethodName := ⟨RX6, "isSheet", "(I)Z"⟩
abbrev cX6_isLane : ByteArray := prog_8_method_60_code
def yX6_isLane : MethodName := ⟨RX6, "isLane", "(I)Z"⟩
abbrev cX6_why : ByteArray := prog_8_method_61_code
def yX6_why : MethodName := ⟨RX6, "why", "(IIII)I"⟩
abbrev cX6_buckets : ByteArray := prog_8_method_62_code
def yX6_buckets : MethodName := ⟨RX6, "buckets", "(IIII)I"⟩
abbrev cX6_film : ByteArray := prog_8_method_63_code
def yX6_film : MethodName := ⟨RX6, "film", "(IIII)I"⟩
abbrev cX6_sheet : ByteArray := prog_8_method_64_code
def yX6_sheet : MethodName := ⟨RX6, "sheet", "(III)I"⟩
abbrev cX6_drop : ByteArray := prog_8_method_65_code
def yX6_drop : MethodName := ⟨RX6, "drop", "(I)I"⟩
abbrev cX6_item : ByteArray := prog_8_method_66_code
def yX6_item : MethodName := ⟨RX6, "item", "(IIIJ)I"⟩
abbrev cX6_copy : ByteArray := prog_8_method_67_code
def yX6_copy : MethodName := ⟨RX6, "copy", "(IIIII)I"⟩
def RJ6 : String := "java/lang/Integer"
def TJ6 : u_T := fun k => match k with
  | _ => ("", "", "", false)
def tyJ6 : Nat → FieldType := fun k => match k with
  | _ => .int
abbrev wsJ60 : List Cond := u_ws RJ6 TJ6 0
theorem nmJ6 : ∀ a, a < 0 → ∀ b, b < 0 → a ≠ b → (TJ6 a).2.1 ≠ (TJ6 b).2.1 := by decide +kernel
theorem tyJ6_ok : ∀ k, k < 0 → parseFieldDescriptor (TJ6 k).2.2.1 = some (tyJ6 k) := by decide +kernel
abbrev cJ6_bitCount_0f7a4 : ByteArray := prog_9_method_49_code
def yJ6_bitCount_0f7a4 : MethodName := ⟨RJ6, "bitCount", "(I)I"⟩
def RJ9 : String := "java/lang/Math"
def TJ9 : u_T := fun k => match k with
  | _ => ("", "", "", false)
def tyJ9 : Nat → FieldType := fun k => match k with
  | _ => .int
abbrev wsJ90 : List Cond := u_ws RJ9 TJ9 0
theorem nmJ9 : ∀ a, a < 0 → ∀ b, b < 0 → a ≠ b → (TJ9 a).2.1 ≠ (TJ9 b).2.1 := by decide +kernel
theorem tyJ9_ok : ∀ k, k < 0 → parseFieldDescriptor (TJ9 k).2.2.1 = some (tyJ9 k) := by decide +kernel
abbrev cJ9_max_7cf53 : ByteArray := prog_10_method_65_code
def yJ9_max_7cf53 : MethodName := ⟨RJ9, "max", "(II)I"⟩
abbrev cJ9_min_7cf53 : ByteArray := prog_10_method_69_code
def yJ9_min_7cf53 : MethodName := ⟨RJ9, "min", "(II)I"⟩
def RJ10 : String := "java/lang/System"
def TJ10 : u_T := fun k => match k with
  | _ => ("", "", "", false)
def tyJ10 : Nat → FieldType := fun k => match k with
  | _ => .int
abbrev wsJ100 : List Cond := u_ws RJ10 TJ10 0
theorem nmJ10 : ∀ a, a < 0 → ∀ b, b < 0 → a ≠ b → (TJ10 a).2.1 ≠ (TJ10 b).2.1 := by decide +kernel
theorem tyJ10_ok : ∀ k, k < 0 → parseFieldDescriptor (TJ10 k).2.2.1 = some (tyJ10 k) := by decide +kernel
def RL : String := "WellTurnsLaw"
abbrev cL_law : ByteArray := code
def yL_law : MethodName := ⟨RL, "law", "([I)Z"⟩
end
section
theorem dX0_init_0 : decode cX0_init 0 = .ok (.aload_n 0, 1) := by decide +kernel
theorem dX0_init_1 : decode cX0_init 1 = .ok (.invokespecial 3, 3) := by decide +kernel
theorem dX0_init_4 : decode cX0_init 4 = .ok (.aload_n 0, 1) := by decide +kernel
theorem dX0_init_5 : decode cX0_init 5 = .ok (.iconst 4, 1) := by decide +kernel
theorem dX0_init_6 : decode cX0_init 6 = .ok (.putfield 9, 3) := by decide +kernel
theorem dX0_init_9 : decode cX0_init 9 = .ok (.aload_n 0, 1) := by decide +kernel
theorem dX0_init_10 : decode cX0_init 10 = .ok (.bipush 10, 2) := by decide +kernel
theorem dX0_init_12 : decode cX0_init 12 = .ok (.putfield 15, 3) := by decide +kernel
theorem dX0_init_15 : decode cX0_init 15 = .ok (.aload_n 0, 1) := by decide +kernel
theorem dX0_init_16 : decode cX0_init 16 = .ok (.iconst 4, 1) := by decide +kernel
theorem dX0_init_17 : decode cX0_init 17 = .ok (.putfield 18, 3) := by decide +kernel
theorem dX0_init_20 : decode cX0_init 20 = .ok (.aload_n 0, 1) := by decide +kernel
theorem dX0_init_21 : decode cX0_init 21 = .ok (.iconst 3, 1) := by decide +kernel
theorem dX0_init_22 : decode cX0_init 22 = .ok (.putfield 21, 3) := by decide +kernel
theorem dX0_init_25 : decode cX0_init 25 = .ok (.aload_n 0, 1) := by decide +kernel
theorem dX0_init_26 : decode cX0_init 26 = .ok (.bipush (-4), 2) := by decide +kernel
theorem dX0_init_28 : decode cX0_init 28 = .ok (.putfield 24, 3) := by decide +kernel
theorem dX0_init_31 : decode cX0_init 31 = .ok (.aload_n 0, 1) := by decide +kernel
theorem dX0_init_32 : decode cX0_init 32 = .ok (.bipush 7, 2) := by decide +kernel
theorem dX0_init_34 : decode cX0_init 34 = .ok (.newarray .int, 2) := by decide +kernel
theorem dX0_init_36 : decode cX0_init 36 = .ok (.putfield 27, 3) := by decide +kernel
theorem dX0_init_39 : decode cX0_init 39 = .ok (.aload_n 0, 1) := by decide +kernel
theorem dX0_init_40 : decode cX0_init 40 = .ok (.bipush 7, 2) := by decide +kernel
theorem dX0_init_42 : decode cX0_init 42 = .ok (.newarray .int, 2) := by decide +kernel
theorem dX0_init_44 : decode cX0_init 44 = .ok (.putfield 31, 3) := by decide +kernel
theorem dX0_init_47 : decode cX0_init 47 = .ok (.aload_n 0, 1) := by decide +kernel
theorem dX0_init_48 : decode cX0_init 48 = .ok (.bipush 7, 2) := by decide +kernel
theorem dX0_init_50 : decode cX0_init 50 = .ok (.newarray .int, 2) := by decide +kernel
theorem dX0_init_52 : decode cX0_init 52 = .ok (.putfield 34, 3) := by decide +kernel
theorem dX0_init_55 : decode cX0_init 55 = .ok (.aload_n 0, 1) := by decide +kernel
theorem dX0_init_56 : decode cX0_init 56 = .ok (.bipush 7, 2) := by decide +kernel
theorem dX0_init_58 : decode cX0_init 58 = .ok (.newarray .int, 2) := by decide +kernel
theorem dX0_init_60 : decode cX0_init 60 = .ok (.putfield 37, 3) := by decide +kernel
theorem dX0_init_63 : decode cX0_init 63 = .ok (.aload_n 0, 1) := by decide +kernel
theorem dX0_init_64 : decode cX0_init 64 = .ok (.bipush 7, 2) := by decide +kernel
theorem dX0_init_66 : decode cX0_init 66 = .ok (.newarray .int, 2) := by decide +kernel
theorem dX0_init_68 : decode cX0_init 68 = .ok (.putfield 40, 3) := by decide +kernel
theorem dX0_init_71 : decode cX0_init 71 = .ok (.return_, 1) := by decide +kernel
theorem dX0_takeFrom_0 : decode cX0_takeFrom 0 = .ok (.aload_n 0, 1) := by decide +kernel
theorem dX0_takeFrom_1 : decode cX0_takeFrom 1 = .ok (.aload_n 1, 1) := by decide +kernel
theorem dX0_takeFrom_2 : decode cX0_takeFrom 2 = .ok (.getfield 9, 3) := by decide +kernel
theorem dX0_takeFrom_5 : decode cX0_takeFrom 5 = .ok (.putfield 9, 3) := by decide +kernel
theorem dX0_takeFrom_8 : decode cX0_takeFrom 8 = .ok (.aload_n 0, 1) := by decide +kernel
theorem dX0_takeFrom_9 : decode cX0_takeFrom 9 = .ok (.aload_n 1, 1) := by decide +kernel
theorem dX0_takeFrom_10 : decode cX0_takeFrom 10 = .ok (.getfield 15, 3) := by decide +kernel
theorem dX0_takeFrom_13 : decode cX0_takeFrom 13 = .ok (.putfield 15, 3) := by decide +kernel
theorem dX0_takeFrom_16 : decode cX0_takeFrom 16 = .ok (.aload_n 0, 1) := by decide +kernel
theorem dX0_takeFrom_17 : decode cX0_takeFrom 17 = .ok (.aload_n 1, 1) := by decide +kernel
theorem dX0_takeFrom_18 : decode cX0_takeFrom 18 = .ok (.getfield 18, 3) := by decide +kernel
theorem dX0_takeFrom_21 : decode cX0_takeFrom 21 = .ok (.putfield 18, 3) := by decide +kernel
theorem dX0_takeFrom_24 : decode cX0_takeFrom 24 = .ok (.aload_n 0, 1) := by decide +kernel
theorem dX0_takeFrom_25 : decode cX0_takeFrom 25 = .ok (.aload_n 1, 1) := by decide +kernel
theorem dX0_takeFrom_26 : decode cX0_takeFrom 26 = .ok (.getfield 21, 3) := by decide +kernel
theorem dX0_takeFrom_29 : decode cX0_takeFrom 29 = .ok (.putfield 21, 3) := by decide +kernel
theorem dX0_takeFrom_32 : decode cX0_takeFrom 32 = .ok (.aload_n 0, 1) := by decide +kernel
theorem dX0_takeFrom_33 : decode cX0_takeFrom 33 = .ok (.aload_n 1, 1) := by decide +kernel
theorem dX0_takeFrom_34 : decode cX0_takeFrom 34 = .ok (.getfield 43, 3) := by decide +kernel
theorem dX0_takeFrom_37 : decode cX0_takeFrom 37 = .ok (.putfield 43, 3) := by decide +kernel
theorem dX0_takeFrom_40 : decode cX0_takeFrom 40 = .ok (.aload_n 0, 1) := by decide +kernel
theorem dX0_takeFrom_41 : decode cX0_takeFrom 41 = .ok (.aload_n 1, 1) := by decide +kernel
theorem dX0_takeFrom_42 : decode cX0_takeFrom 42 = .ok (.getfield 46, 3) := by decide +kernel
theorem dX0_takeFrom_45 : decode cX0_takeFrom 45 = .ok (.putfield 46, 3) := by decide +kernel
theorem dX0_takeFrom_48 : decode cX0_takeFrom 48 = .ok (.aload_n 0, 1) := by decide +kernel
theorem dX0_takeFrom_49 : decode cX0_takeFrom 49 = .ok (.aload_n 1, 1) := by decide +kernel
theorem dX0_takeFrom_50 : decode cX0_takeFrom 50 = .ok (.getfield 24, 3) := by decide +kernel
theorem dX0_takeFrom_53 : decode cX0_takeFrom 53 = .ok (.putfield 24, 3) := by decide +kernel
theorem dX0_takeFrom_56 : decode cX0_takeFrom 56 = .ok (.aload_n 0, 1) := by decide +kernel
theorem dX0_takeFrom_57 : decode cX0_takeFrom 57 = .ok (.aload_n 1, 1) := by decide +kernel
theorem dX0_takeFrom_58 : decode cX0_takeFrom 58 = .ok (.getfield 49, 3) := by decide +kernel
theorem dX0_takeFrom_61 : decode cX0_takeFrom 61 = .ok (.putfield 49, 3) := by decide +kernel
theorem dX0_takeFrom_64 : decode cX0_takeFrom 64 = .ok (.aload_n 1, 1) := by decide +kernel
theorem dX0_takeFrom_65 : decode cX0_takeFrom 65 = .ok (.getfield 27, 3) := by decide +kernel
theorem dX0_takeFrom_68 : decode cX0_takeFrom 68 = .ok (.iconst 0, 1) := by decide +kernel
theorem dX0_takeFrom_69 : decode cX0_takeFrom 69 = .ok (.aload_n 0, 1) := by decide +kernel
theorem dX0_takeFrom_70 : decode cX0_takeFrom 70 = .ok (.getfield 27, 3) := by decide +kernel
theorem dX0_takeFrom_73 : decode cX0_takeFrom 73 = .ok (.iconst 0, 1) := by decide +kernel
theorem dX0_takeFrom_74 : decode cX0_takeFrom 74 = .ok (.bipush 7, 2) := by decide +kernel
theorem dX0_takeFrom_76 : decode cX0_takeFrom 76 = .ok (.invokestatic 52, 3) := by decide +kernel
theorem dX0_takeFrom_79 : decode cX0_takeFrom 79 = .ok (.aload_n 1, 1) := by decide +kernel
theorem dX0_takeFrom_80 : decode cX0_takeFrom 80 = .ok (.getfield 31, 3) := by decide +kernel
theorem dX0_takeFrom_83 : decode cX0_takeFrom 83 = .ok (.iconst 0, 1) := by decide +kernel
theorem dX0_takeFrom_84 : decode cX0_takeFrom 84 = .ok (.aload_n 0, 1) := by decide +kernel
theorem dX0_takeFrom_85 : decode cX0_takeFrom 85 = .ok (.getfield 31, 3) := by decide +kernel
theorem dX0_takeFrom_88 : decode cX0_takeFrom 88 = .ok (.iconst 0, 1) := by decide +kernel
theorem dX0_takeFrom_89 : decode cX0_takeFrom 89 = .ok (.bipush 7, 2) := by decide +kernel
theorem dX0_takeFrom_91 : decode cX0_takeFrom 91 = .ok (.invokestatic 52, 3) := by decide +kernel
theorem dX0_takeFrom_94 : decode cX0_takeFrom 94 = .ok (.aload_n 1, 1) := by decide +kernel
theorem dX0_takeFrom_95 : decode cX0_takeFrom 95 = .ok (.getfield 34, 3) := by decide +kernel
theorem dX0_takeFrom_98 : decode cX0_takeFrom 98 = .ok (.iconst 0, 1) := by decide +kernel
theorem dX0_takeFrom_99 : decode cX0_takeFrom 99 = .ok (.aload_n 0, 1) := by decide +kernel
theorem dX0_takeFrom_100 : decode cX0_takeFrom 100 = .ok (.getfield 34, 3) := by decide +kernel
theorem dX0_takeFrom_103 : decode cX0_takeFrom 103 = .ok (.iconst 0, 1) := by decide +kernel
theorem dX0_takeFrom_104 : decode cX0_takeFrom 104 = .ok (.bipush 7, 2) := by decide +kernel
theorem dX0_takeFrom_106 : decode cX0_takeFrom 106 = .ok (.invokestatic 52, 3) := by decide +kernel
theorem dX0_takeFrom_109 : decode cX0_takeFrom 109 = .ok (.aload_n 1, 1) := by decide +kernel
theorem dX0_takeFrom_110 : decode cX0_takeFrom 110 = .ok (.getfield 37, 3) := by decide +kernel
theorem dX0_takeFrom_113 : decode cX0_takeFrom 113 = .ok (.iconst 0, 1) := by decide +kernel
theorem dX0_takeFrom_114 : decode cX0_takeFrom 114 = .ok (.aload_n 0, 1) := by decide +kernel
theorem dX0_takeFrom_115 : decode cX0_takeFrom 115 = .ok (.getfield 37, 3) := by decide +kernel
theorem dX0_takeFrom_118 : decode cX0_takeFrom 118 = .ok (.iconst 0, 1) := by decide +kernel
theorem dX0_takeFrom_119 : decode cX0_takeFrom 119 = .ok (.bipush 7, 2) := by decide +kernel
theorem dX0_takeFrom_121 : decode cX0_takeFrom 121 = .ok (.invokestatic 52, 3) := by decide +kernel
theorem dX0_takeFrom_124 : decode cX0_takeFrom 124 = .ok (.return_, 1) := by decide +kernel
theorem dX0_lacks_0 : decode cX0_lacks 0 = .ok (.iload_n 1, 1) := by decide +kernel
theorem dX0_lacks_1 : decode cX0_lacks 1 = .ok (.ifCond .lt 11, 3) := by decide +kernel
theorem dX0_lacks_4 : decode cX0_lacks 4 = .ok (.iload_n 1, 1) := by decide +kernel
theorem dX0_lacks_5 : decode cX0_lacks 5 = .ok (.aload_n 0, 1) := by decide +kernel
theorem dX0_lacks_6 : decode cX0_lacks 6 = .ok (.getfield 49, 3) := by decide +kernel
theorem dX0_lacks_9 : decode cX0_lacks 9 = .ok (.if_icmp .lt 7, 3) := by decide +kernel
theorem dX0_lacks_12 : decode cX0_lacks 12 = .ok (.iconst 1, 1) := by decide +kernel
theorem dX0_lacks_13 : decode cX0_lacks 13 = .ok (.goto 4, 3) := by decide +kernel
theorem dX0_lacks_16 : decode cX0_lacks 16 = .ok (.iconst 0, 1) := by decide +kernel
theorem dX0_lacks_17 : decode cX0_lacks 17 = .ok (.ireturn, 1) := by decide +kernel
theorem dX0_add_0 : decode cX0_add 0 = .ok (.aload_n 0, 1) := by decide +kernel
theorem dX0_add_1 : decode cX0_add 1 = .ok (.getfield 49, 3) := by decide +kernel
theorem dX0_add_4 : decode cX0_add 4 = .ok (.bipush 7, 2) := by decide +kernel
theorem dX0_add_6 : decode cX0_add 6 = .ok (.if_icmp .ge 68, 3) := by decide +kernel
theorem dX0_add_9 : decode cX0_add 9 = .ok (.aload_n 0, 1) := by decide +kernel
theorem dX0_add_10 : decode cX0_add 10 = .ok (.getfield 27, 3) := by decide +kernel
theorem dX0_add_13 : decode cX0_add 13 = .ok (.aload_n 0, 1) := by decide +kernel
theorem dX0_add_14 : decode cX0_add 14 = .ok (.getfield 49, 3) := by decide +kernel
theorem dX0_add_17 : decode cX0_add 17 = .ok (.iload_n 1, 1) := by decide +kernel
theorem dX0_add_18 : decode cX0_add 18 = .ok (.iastore, 1) := by decide +kernel
theorem dX0_add_19 : decode cX0_add 19 = .ok (.aload_n 0, 1) := by decide +kernel
theorem dX0_add_20 : decode cX0_add 20 = .ok (.getfield 31, 3) := by decide +kernel
theorem dX0_add_23 : decode cX0_add 23 = .ok (.aload_n 0, 1) := by decide +kernel
theorem dX0_add_24 : decode cX0_add 24 = .ok (.getfield 49, 3) := by decide +kernel
theorem dX0_add_27 : decode cX0_add 27 = .ok (.iload_n 2, 1) := by decide +kernel
theorem dX0_add_28 : decode cX0_add 28 = .ok (.iastore, 1) := by decide +kernel
theorem dX0_add_29 : decode cX0_add 29 = .ok (.aload_n 0, 1) := by decide +kernel
theorem dX0_add_30 : decode cX0_add 30 = .ok (.getfield 34, 3) := by decide +kernel
theorem dX0_add_33 : decode cX0_add 33 = .ok (.aload_n 0, 1) := by decide +kernel
theorem dX0_add_34 : decode cX0_add 34 = .ok (.getfield 49, 3) := by decide +kernel
theorem dX0_add_37 : decode cX0_add 37 = .ok (.iload_n 3, 1) := by decide +kernel
theorem dX0_add_38 : decode cX0_add 38 = .ok (.iastore, 1) := by decide +kernel
theorem dX0_add_39 : decode cX0_add 39 = .ok (.aload_n 0, 1) := by decide +kernel
theorem dX0_add_40 : decode cX0_add 40 = .ok (.getfield 37, 3) := by decide +kernel
theorem dX0_add_43 : decode cX0_add 43 = .ok (.aload_n 0, 1) := by decide +kernel
theorem dX0_add_44 : decode cX0_add 44 = .ok (.getfield 49, 3) := by decide +kernel
theorem dX0_add_47 : decode cX0_add 47 = .ok (.iconst 3, 1) := by decide +kernel
theorem dX0_add_48 : decode cX0_add 48 = .ok (.iload_n 2, 1) := by decide +kernel
theorem dX0_add_49 : decode cX0_add 49 = .ok (.imul, 1) := by decide +kernel
theorem dX0_add_50 : decode cX0_add 50 = .ok (.iload_n 1, 1) := by decide +kernel
theorem dX0_add_51 : decode cX0_add 51 = .ok (.invokestatic 58, 3) := by decide +kernel
theorem dX0_add_54 : decode cX0_add 54 = .ok (.ifCond .eq 7, 3) := by decide +kernel
theorem dX0_add_57 : decode cX0_add 57 = .ok (.iconst 5, 1) := by decide +kernel
theorem dX0_add_58 : decode cX0_add 58 = .ok (.goto 4, 3) := by decide +kernel
theorem dX0_add_61 : decode cX0_add 61 = .ok (.iconst 0, 1) := by decide +kernel
theorem dX0_add_62 : decode cX0_add 62 = .ok (.iadd, 1) := by decide +kernel
theorem dX0_add_63 : decode cX0_add 63 = .ok (.iastore, 1) := by decide +kernel
theorem dX0_add_64 : decode cX0_add 64 = .ok (.aload_n 0, 1) := by decide +kernel
theorem dX0_add_65 : decode cX0_add 65 = .ok (.dup, 1) := by decide +kernel
theorem dX0_add_66 : decode cX0_add 66 = .ok (.getfield 49, 3) := by decide +kernel
theorem dX0_add_69 : decode cX0_add 69 = .ok (.iconst 1, 1) := by decide +kernel
theorem dX0_add_70 : decode cX0_add 70 = .ok (.iadd, 1) := by decide +kernel
theorem dX0_add_71 : decode cX0_add 71 = .ok (.putfield 49, 3) := by decide +kernel
theorem dX0_add_74 : decode cX0_add 74 = .ok (.return_, 1) := by decide +kernel
theorem dX0_arrange_0 : decode cX0_arrange 0 = .ok (.aload_n 0, 1) := by decide +kernel
theorem dX0_arrange_1 : decode cX0_arrange 1 = .ok (.iconst 0, 1) := by decide +kernel
theorem dX0_arrange_2 : decode cX0_arrange 2 = .ok (.putfield 62, 3) := by decide +kernel
theorem dX0_arrange_5 : decode cX0_arrange 5 = .ok (.aload_n 0, 1) := by decide +kernel
theorem dX0_arrange_6 : decode cX0_arrange 6 = .ok (.getfield 46, 3) := by decide +kernel
theorem dX0_arrange_9 : decode cX0_arrange 9 = .ok (.tableswitch 54 1 3 #[27, 34, 47], 27) := by decide +kernel
theorem dX0_arrange_36 : decode cX0_arrange 36 = .ok (.aload_n 0, 1) := by decide +kernel
theorem dX0_arrange_37 : decode cX0_arrange 37 = .ok (.invokevirtual 65, 3) := by decide +kernel
theorem dX0_arrange_40 : decode cX0_arrange 40 = .ok (.goto 27, 3) := by decide +kernel
theorem dX0_arrange_43 : decode cX0_arrange 43 = .ok (.aload_n 0, 1) := by decide +kernel
theorem dX0_arrange_44 : decode cX0_arrange 44 = .ok (.iconst 1, 1) := by decide +kernel
theorem dX0_arrange_45 : decode cX0_arrange 45 = .ok (.invokevirtual 68, 3) := by decide +kernel
theorem dX0_arrange_48 : decode cX0_arrange 48 = .ok (.aload_n 0, 1) := by decide +kernel
theorem dX0_arrange_49 : decode cX0_arrange 49 = .ok (.iconst 0, 1) := by decide +kernel
theorem dX0_arrange_50 : decode cX0_arrange 50 = .ok (.invokevirtual 68, 3) := by decide +kernel
theorem dX0_arrange_53 : decode cX0_arrange 53 = .ok (.goto 14, 3) := by decide +kernel
theorem dX0_arrange_56 : decode cX0_arrange 56 = .ok (.aload_n 0, 1) := by decide +kernel
theorem dX0_arrange_57 : decode cX0_arrange 57 = .ok (.invokevirtual 72, 3) := by decide +kernel
theorem dX0_arrange_60 : decode cX0_arrange 60 = .ok (.goto 7, 3) := by decide +kernel
theorem dX0_arrange_63 : decode cX0_arrange 63 = .ok (.aload_n 0, 1) := by decide +kernel
theorem dX0_arrange_64 : decode cX0_arrange 64 = .ok (.invokevirtual 75, 3) := by decide +kernel
theorem dX0_arrange_67 : decode cX0_arrange 67 = .ok (.return_, 1) := by decide +kernel
theorem dX0_lineAsTheyCome_0 : decode cX0_lineAsTheyCome 0 = .ok (.iconst 0, 1) := by decide +kernel
theorem dX0_lineAsTheyCome_1 : decode cX0_lineAsTheyCome 1 = .ok (.istore_n 1, 1) := by decide +kernel
theorem dX0_lineAsTheyCome_2 : decode cX0_lineAsTheyCome 2 = .ok (.iload_n 1, 1) := by decide +kernel
theorem dX0_lineAsTheyCome_3 : decode cX0_lineAsTheyCome 3 = .ok (.aload_n 0, 1) := by decide +kernel
theorem dX0_lineAsTheyCome_4 : decode cX0_lineAsTheyCome 4 = .ok (.getfield 49, 3) := by decide +kernel
theorem dX0_lineAsTheyCome_7 : decode cX0_lineAsTheyCome 7 = .ok (.if_icmp .ge 14, 3) := by decide +kernel
theorem dX0_lineAsTheyCome_10 : decode cX0_lineAsTheyCome 10 = .ok (.aload_n 0, 1) := by decide +kernel
theorem dX0_lineAsTheyCome_11 : decode cX0_lineAsTheyCome 11 = .ok (.iload_n 1, 1) := by decide +kernel
theorem dX0_lineAsTheyCome_12 : decode cX0_lineAsTheyCome 12 = .ok (.invokevirtual 78, 3) := by decide +kernel
theorem dX0_lineAsTheyCome_15 : decode cX0_lineAsTheyCome 15 = .ok (.iinc 1 1, 3) := by decide +kernel
theorem dX0_lineAsTheyCome_18 : decode cX0_lineAsTheyCome 18 = .ok (.goto (-16), 3) := by decide +kernel
theorem dX0_lineAsTheyCome_21 : decode cX0_lineAsTheyCome 21 = .ok (.return_, 1) := by decide +kernel
theorem dX0_lineByDays_0 : decode cX0_lineByDays 0 = .ok (.bipush 9, 2) := by decide +kernel
theorem dX0_lineByDays_2 : decode cX0_lineByDays 2 = .ok (.istore_n 1, 1) := by decide +kernel
theorem dX0_lineByDays_3 : decode cX0_lineByDays 3 = .ok (.iload_n 1, 1) := by decide +kernel
theorem dX0_lineByDays_4 : decode cX0_lineByDays 4 = .ok (.iconst 1, 1) := by decide +kernel
theorem dX0_lineByDays_5 : decode cX0_lineByDays 5 = .ok (.if_icmp .lt 40, 3) := by decide +kernel
theorem dX0_lineByDays_8 : decode cX0_lineByDays 8 = .ok (.iconst 0, 1) := by decide +kernel
theorem dX0_lineByDays_9 : decode cX0_lineByDays 9 = .ok (.istore_n 2, 1) := by decide +kernel
theorem dX0_lineByDays_10 : decode cX0_lineByDays 10 = .ok (.iload_n 2, 1) := by decide +kernel
theorem dX0_lineByDays_11 : decode cX0_lineByDays 11 = .ok (.aload_n 0, 1) := by decide +kernel
theorem dX0_lineByDays_12 : decode cX0_lineByDays 12 = .ok (.getfield 49, 3) := by decide +kernel
theorem dX0_lineByDays_15 : decode cX0_lineByDays 15 = .ok (.if_icmp .ge 24, 3) := by decide +kernel
theorem dX0_lineByDays_18 : decode cX0_lineByDays 18 = .ok (.aload_n 0, 1) := by decide +kernel
theorem dX0_lineByDays_19 : decode cX0_lineByDays 19 = .ok (.getfield 31, 3) := by decide +kernel
theorem dX0_lineByDays_22 : decode cX0_lineByDays 22 = .ok (.iload_n 2, 1) := by decide +kernel
theorem dX0_lineByDays_23 : decode cX0_lineByDays 23 = .ok (.iaload, 1) := by decide +kernel
theorem dX0_lineByDays_24 : decode cX0_lineByDays 24 = .ok (.iload_n 1, 1) := by decide +kernel
theorem dX0_lineByDays_25 : decode cX0_lineByDays 25 = .ok (.if_icmp .ne 8, 3) := by decide +kernel
theorem dX0_lineByDays_28 : decode cX0_lineByDays 28 = .ok (.aload_n 0, 1) := by decide +kernel
theorem dX0_lineByDays_29 : decode cX0_lineByDays 29 = .ok (.iload_n 2, 1) := by decide +kernel
theorem dX0_lineByDays_30 : decode cX0_lineByDays 30 = .ok (.invokevirtual 78, 3) := by decide +kernel
theorem dX0_lineByDays_33 : decode cX0_lineByDays 33 = .ok (.iinc 2 1, 3) := by decide +kernel
theorem dX0_lineByDays_36 : decode cX0_lineByDays 36 = .ok (.goto (-26), 3) := by decide +kernel
theorem dX0_lineByDays_39 : decode cX0_lineByDays 39 = .ok (.iinc 1 (-1), 3) := by decide +kernel
theorem dX0_lineByDays_42 : decode cX0_lineByDays 42 = .ok (.goto (-39), 3) := by decide +kernel
theorem dX0_lineByDays_45 : decode cX0_lineByDays 45 = .ok (.return_, 1) := by decide +kernel
theorem dX0_lineMilky_0 : decode cX0_lineMilky 0 = .ok (.iconst 0, 1) := by decide +kernel
theorem dX0_lineMilky_1 : decode cX0_lineMilky 1 = .ok (.istore_n 2, 1) := by decide +kernel
theorem dX0_lineMilky_2 : decode cX0_lineMilky 2 = .ok (.iload_n 2, 1) := by decide +kernel
theorem dX0_lineMilky_3 : decode cX0_lineMilky 3 = .ok (.aload_n 0, 1) := by decide +kernel
theorem dX0_lineMilky_4 : decode cX0_lineMilky 4 = .ok (.getfield 49, 3) := by decide +kernel
theorem dX0_lineMilky_7 : decode cX0_lineMilky 7 = .ok (.if_icmp .ge 27, 3) := by decide +kernel
theorem dX0_lineMilky_10 : decode cX0_lineMilky 10 = .ok (.aload_n 0, 1) := by decide +kernel
theorem dX0_lineMilky_11 : decode cX0_lineMilky 11 = .ok (.getfield 27, 3) := by decide +kernel
theorem dX0_lineMilky_14 : decode cX0_lineMilky 14 = .ok (.iload_n 2, 1) := by decide +kernel
theorem dX0_lineMilky_15 : decode cX0_lineMilky 15 = .ok (.iaload, 1) := by decide +kernel
theorem dX0_lineMilky_16 : decode cX0_lineMilky 16 = .ok (.invokestatic 58, 3) := by decide +kernel
theorem dX0_lineMilky_19 : decode cX0_lineMilky 19 = .ok (.iload_n 1, 1) := by decide +kernel
theorem dX0_lineMilky_20 : decode cX0_lineMilky 20 = .ok (.if_icmp .ne 8, 3) := by decide +kernel
theorem dX0_lineMilky_23 : decode cX0_lineMilky 23 = .ok (.aload_n 0, 1) := by decide +kernel
theorem dX0_lineMilky_24 : decode cX0_lineMilky 24 = .ok (.iload_n 2, 1) := by decide +kernel
theorem dX0_lineMilky_25 : decode cX0_lineMilky 25 = .ok (.invokevirtual 78, 3) := by decide +kernel
theorem dX0_lineMilky_28 : decode cX0_lineMilky 28 = .ok (.iinc 2 1, 3) := by decide +kernel
theorem dX0_lineMilky_31 : decode cX0_lineMilky 31 = .ok (.goto (-29), 3) := by decide +kernel
theorem dX0_lineMilky_34 : decode cX0_lineMilky 34 = .ok (.return_, 1) := by decide +kernel
theorem dX0_lineByTurns_0 : decode cX0_lineByTurns 0 = .ok (.aload_n 0, 1) := by decide +kernel
theorem dX0_lineByTurns_1 : decode cX0_lineByTurns 1 = .ok (.iconst 0, 1) := by decide +kernel
theorem dX0_lineByTurns_2 : decode cX0_lineByTurns 2 = .ok (.iconst 0, 1) := by decide +kernel
theorem dX0_lineByTurns_3 : decode cX0_lineByTurns 3 = .ok (.invokevirtual 82, 3) := by decide +kernel
theorem dX0_lineByTurns_6 : decode cX0_lineByTurns 6 = .ok (.istore_n 1, 1) := by decide +kernel
theorem dX0_lineByTurns_7 : decode cX0_lineByTurns 7 = .ok (.aload_n 0, 1) := by decide +kernel
theorem dX0_lineByTurns_8 : decode cX0_lineByTurns 8 = .ok (.iconst 1, 1) := by decide +kernel
theorem dX0_lineByTurns_9 : decode cX0_lineByTurns 9 = .ok (.iconst 0, 1) := by decide +kernel
theorem dX0_lineByTurns_10 : decode cX0_lineByTurns 10 = .ok (.invokevirtual 82, 3) := by decide +kernel
theorem dX0_lineByTurns_13 : decode cX0_lineByTurns 13 = .ok (.istore_n 2, 1) := by decide +kernel
theorem dX0_lineByTurns_14 : decode cX0_lineByTurns 14 = .ok (.iconst 0, 1) := by decide +kernel
theorem dX0_lineByTurns_15 : decode cX0_lineByTurns 15 = .ok (.istore_n 3, 1) := by decide +kernel
theorem dX0_lineByTurns_16 : decode cX0_lineByTurns 16 = .ok (.iload_n 3, 1) := by decide +kernel
theorem dX0_lineByTurns_17 : decode cX0_lineByTurns 17 = .ok (.aload_n 0, 1) := by decide +kernel
theorem dX0_lineByTurns_18 : decode cX0_lineByTurns 18 = .ok (.getfield 49, 3) := by decide +kernel
theorem dX0_lineByTurns_21 : decode cX0_lineByTurns 21 = .ok (.if_icmp .ge 53, 3) := by decide +kernel
theorem dX0_lineByTurns_24 : decode cX0_lineByTurns 24 = .ok (.iload_n 1, 1) := by decide +kernel
theorem dX0_lineByTurns_25 : decode cX0_lineByTurns 25 = .ok (.aload_n 0, 1) := by decide +kernel
theorem dX0_lineByTurns_26 : decode cX0_lineByTurns 26 = .ok (.getfield 49, 3) := by decide +kernel
theorem dX0_lineByTurns_29 : decode cX0_lineByTurns 29 = .ok (.if_icmp .ge 17, 3) := by decide +kernel
theorem dX0_lineByTurns_32 : decode cX0_lineByTurns 32 = .ok (.aload_n 0, 1) := by decide +kernel
theorem dX0_lineByTurns_33 : decode cX0_lineByTurns 33 = .ok (.iload_n 1, 1) := by decide +kernel
theorem dX0_lineByTurns_34 : decode cX0_lineByTurns 34 = .ok (.invokevirtual 78, 3) := by decide +kernel
theorem dX0_lineByTurns_37 : decode cX0_lineByTurns 37 = .ok (.aload_n 0, 1) := by decide +kernel
theorem dX0_lineByTurns_38 : decode cX0_lineByTurns 38 = .ok (.iconst 0, 1) := by decide +kernel
theorem dX0_lineByTurns_39 : decode cX0_lineByTurns 39 = .ok (.iload_n 1, 1) := by decide +kernel
theorem dX0_lineByTurns_40 : decode cX0_lineByTurns 40 = .ok (.iconst 1, 1) := by decide +kernel
theorem dX0_lineByTurns_41 : decode cX0_lineByTurns 41 = .ok (.iadd, 1) := by decide +kernel
theorem dX0_lineByTurns_42 : decode cX0_lineByTurns 42 = .ok (.invokevirtual 82, 3) := by decide +kernel
theorem dX0_lineByTurns_45 : decode cX0_lineByTurns 45 = .ok (.istore_n 1, 1) := by decide +kernel
theorem dX0_lineByTurns_46 : decode cX0_lineByTurns 46 = .ok (.iload_n 2, 1) := by decide +kernel
theorem dX0_lineByTurns_47 : decode cX0_lineByTurns 47 = .ok (.aload_n 0, 1) := by decide +kernel
theorem dX0_lineByTurns_48 : decode cX0_lineByTurns 48 = .ok (.getfield 49, 3) := by decide +kernel
theorem dX0_lineByTurns_51 : decode cX0_lineByTurns 51 = .ok (.if_icmp .ge 17, 3) := by decide +kernel
theorem dX0_lineByTurns_54 : decode cX0_lineByTurns 54 = .ok (.aload_n 0, 1) := by decide +kernel
theorem dX0_lineByTurns_55 : decode cX0_lineByTurns 55 = .ok (.iload_n 2, 1) := by decide +kernel
theorem dX0_lineByTurns_56 : decode cX0_lineByTurns 56 = .ok (.invokevirtual 78, 3) := by decide +kernel
theorem dX0_lineByTurns_59 : decode cX0_lineByTurns 59 = .ok (.aload_n 0, 1) := by decide +kernel
theorem dX0_lineByTurns_60 : decode cX0_lineByTurns 60 = .ok (.iconst 1, 1) := by decide +kernel
theorem dX0_lineByTurns_61 : decode cX0_lineByTurns 61 = .ok (.iload_n 2, 1) := by decide +kernel
theorem dX0_lineByTurns_62 : decode cX0_lineByTurns 62 = .ok (.iconst 1, 1) := by decide +kernel
theorem dX0_lineByTurns_63 : decode cX0_lineByTurns 63 = .ok (.iadd, 1) := by decide +kernel
theorem dX0_lineByTurns_64 : decode cX0_lineByTurns 64 = .ok (.invokevirtual 82, 3) := by decide +kernel
theorem dX0_lineByTurns_67 : decode cX0_lineByTurns 67 = .ok (.istore_n 2, 1) := by decide +kernel
theorem dX0_lineByTurns_68 : decode cX0_lineByTurns 68 = .ok (.iinc 3 1, 3) := by decide +kernel
theorem dX0_lineByTurns_71 : decode cX0_lineByTurns 71 = .ok (.goto (-55), 3) := by decide +kernel
theorem dX0_lineByTurns_74 : decode cX0_lineByTurns 74 = .ok (.return_, 1) := by decide +kernel
theorem dX0_nextOf_0 : decode cX0_nextOf 0 = .ok (.iload_n 2, 1) := by decide +kernel
theorem dX0_nextOf_1 : decode cX0_nextOf 1 = .ok (.istore_n 3, 1) := by decide +kernel
theorem dX0_nextOf_2 : decode cX0_nextOf 2 = .ok (.iload_n 3, 1) := by decide +kernel
theorem dX0_nextOf_3 : decode cX0_nextOf 3 = .ok (.aload_n 0, 1) := by decide +kernel
theorem dX0_nextOf_4 : decode cX0_nextOf 4 = .ok (.getfield 49, 3) := by decide +kernel
theorem dX0_nextOf_7 : decode cX0_nextOf 7 = .ok (.if_icmp .ge 21, 3) := by decide +kernel
theorem dX0_nextOf_10 : decode cX0_nextOf 10 = .ok (.aload_n 0, 1) := by decide +kernel
theorem dX0_nextOf_11 : decode cX0_nextOf 11 = .ok (.getfield 34, 3) := by decide +kernel
theorem dX0_nextOf_14 : decode cX0_nextOf 14 = .ok (.iload_n 3, 1) := by decide +kernel
theorem dX0_nextOf_15 : decode cX0_nextOf 15 = .ok (.iaload, 1) := by decide +kernel
theorem dX0_nextOf_16 : decode cX0_nextOf 16 = .ok (.iload_n 1, 1) := by decide +kernel
theorem dX0_nextOf_17 : decode cX0_nextOf 17 = .ok (.if_icmp .ne 5, 3) := by decide +kernel
theorem dX0_nextOf_20 : decode cX0_nextOf 20 = .ok (.iload_n 3, 1) := by decide +kernel
theorem dX0_nextOf_21 : decode cX0_nextOf 21 = .ok (.ireturn, 1) := by decide +kernel
theorem dX0_nextOf_22 : decode cX0_nextOf 22 = .ok (.iinc 3 1, 3) := by decide +kernel
theorem dX0_nextOf_25 : decode cX0_nextOf 25 = .ok (.goto (-23), 3) := by decide +kernel
theorem dX0_nextOf_28 : decode cX0_nextOf 28 = .ok (.aload_n 0, 1) := by decide +kernel
theorem dX0_nextOf_29 : decode cX0_nextOf 29 = .ok (.getfield 49, 3) := by decide +kernel
theorem dX0_nextOf_32 : decode cX0_nextOf 32 = .ok (.ireturn, 1) := by decide +kernel
theorem dX0_lineUp_0 : decode cX0_lineUp 0 = .ok (.aload_n 0, 1) := by decide +kernel
theorem dX0_lineUp_1 : decode cX0_lineUp 1 = .ok (.getfield 62, 3) := by decide +kernel
theorem dX0_lineUp_4 : decode cX0_lineUp 4 = .ok (.bipush 7, 2) := by decide +kernel
theorem dX0_lineUp_6 : decode cX0_lineUp 6 = .ok (.if_icmp .ge 23, 3) := by decide +kernel
theorem dX0_lineUp_9 : decode cX0_lineUp 9 = .ok (.aload_n 0, 1) := by decide +kernel
theorem dX0_lineUp_10 : decode cX0_lineUp 10 = .ok (.getfield 40, 3) := by decide +kernel
theorem dX0_lineUp_13 : decode cX0_lineUp 13 = .ok (.aload_n 0, 1) := by decide +kernel
theorem dX0_lineUp_14 : decode cX0_lineUp 14 = .ok (.getfield 62, 3) := by decide +kernel
theorem dX0_lineUp_17 : decode cX0_lineUp 17 = .ok (.iload_n 1, 1) := by decide +kernel
theorem dX0_lineUp_18 : decode cX0_lineUp 18 = .ok (.iastore, 1) := by decide +kernel
theorem dX0_lineUp_19 : decode cX0_lineUp 19 = .ok (.aload_n 0, 1) := by decide +kernel
theorem dX0_lineUp_20 : decode cX0_lineUp 20 = .ok (.dup, 1) := by decide +kernel
theorem dX0_lineUp_21 : decode cX0_lineUp 21 = .ok (.getfield 62, 3) := by decide +kernel
theorem dX0_lineUp_24 : decode cX0_lineUp 24 = .ok (.iconst 1, 1) := by decide +kernel
theorem dX0_lineUp_25 : decode cX0_lineUp 25 = .ok (.iadd, 1) := by decide +kernel
theorem dX0_lineUp_26 : decode cX0_lineUp 26 = .ok (.putfield 62, 3) := by decide +kernel
theorem dX0_lineUp_29 : decode cX0_lineUp 29 = .ok (.return_, 1) := by decide +kernel
theorem dX1_init_0 : decode cX1_init 0 = .ok (.aload_n 0, 1) := by decide +kernel
theorem dX1_init_1 : decode cX1_init 1 = .ok (.invokespecial 3, 3) := by decide +kernel
theorem dX1_init_4 : decode cX1_init 4 = .ok (.aload_n 0, 1) := by decide +kernel
theorem dX1_init_5 : decode cX1_init 5 = .ok (.bipush 30, 2) := by decide +kernel
theorem dX1_init_7 : decode cX1_init 7 = .ok (.putfield 9, 3) := by decide +kernel
theorem dX1_init_10 : decode cX1_init 10 = .ok (.aload_n 0, 1) := by decide +kernel
theorem dX1_init_11 : decode cX1_init 11 = .ok (.iconst 1, 1) := by decide +kernel
theorem dX1_init_12 : decode cX1_init 12 = .ok (.putfield 15, 3) := by decide +kernel
theorem dX1_init_15 : decode cX1_init 15 = .ok (.aload_n 0, 1) := by decide +kernel
theorem dX1_init_16 : decode cX1_init 16 = .ok (.bipush 7, 2) := by decide +kernel
theorem dX1_init_18 : decode cX1_init 18 = .ok (.newarray .int, 2) := by decide +kernel
theorem dX1_init_20 : decode cX1_init 20 = .ok (.putfield 18, 3) := by decide +kernel
theorem dX1_init_23 : decode cX1_init 23 = .ok (.aload_n 0, 1) := by decide +kernel
theorem dX1_init_24 : decode cX1_init 24 = .ok (.bipush 7, 2) := by decide +kernel
theorem dX1_init_26 : decode cX1_init 26 = .ok (.newarray .int, 2) := by decide +kernel
theorem dX1_init_28 : decode cX1_init 28 = .ok (.putfield 22, 3) := by decide +kernel
theorem dX1_init_31 : decode cX1_init 31 = .ok (.aload_n 0, 1) := by decide +kernel
theorem dX1_init_32 : decode cX1_init 32 = .ok (.bipush 7, 2) := by decide +kernel
theorem dX1_init_34 : decode cX1_init 34 = .ok (.newarray .int, 2) := by decide +kernel
theorem dX1_init_36 : decode cX1_init 36 = .ok (.putfield 25, 3) := by decide +kernel
theorem dX1_init_39 : decode cX1_init 39 = .ok (.aload_n 0, 1) := by decide +kernel
theorem dX1_init_40 : decode cX1_init 40 = .ok (.bipush 7, 2) := by decide +kernel
theorem dX1_init_42 : decode cX1_init 42 = .ok (.newarray .int, 2) := by decide +kernel
theorem dX1_init_44 : decode cX1_init 44 = .ok (.putfield 28, 3) := by decide +kernel
theorem dX1_init_47 : decode cX1_init 47 = .ok (.return_, 1) := by decide +kernel
theorem dX1_takeFrom_0 : decode cX1_takeFrom 0 = .ok (.aload_n 0, 1) := by decide +kernel
theorem dX1_takeFrom_1 : decode cX1_takeFrom 1 = .ok (.aload_n 1, 1) := by decide +kernel
theorem dX1_takeFrom_2 : decode cX1_takeFrom 2 = .ok (.getfield 9, 3) := by decide +kernel
theorem dX1_takeFrom_5 : decode cX1_takeFrom 5 = .ok (.putfield 9, 3) := by decide +kernel
theorem dX1_takeFrom_8 : decode cX1_takeFrom 8 = .ok (.aload_n 0, 1) := by decide +kernel
theorem dX1_takeFrom_9 : decode cX1_takeFrom 9 = .ok (.aload_n 1, 1) := by decide +kernel
theorem dX1_takeFrom_10 : decode cX1_takeFrom 10 = .ok (.getfield 31, 3) := by decide +kernel
theorem dX1_takeFrom_13 : decode cX1_takeFrom 13 = .ok (.putfield 31, 3) := by decide +kernel
theorem dX1_takeFrom_16 : decode cX1_takeFrom 16 = .ok (.aload_n 0, 1) := by decide +kernel
theorem dX1_takeFrom_17 : decode cX1_takeFrom 17 = .ok (.aload_n 1, 1) := by decide +kernel
theorem dX1_takeFrom_18 : decode cX1_takeFrom 18 = .ok (.getfield 34, 3) := by decide +kernel
theorem dX1_takeFrom_21 : decode cX1_takeFrom 21 = .ok (.putfield 34, 3) := by decide +kernel
theorem dX1_takeFrom_24 : decode cX1_takeFrom 24 = .ok (.aload_n 0, 1) := by decide +kernel
theorem dX1_takeFrom_25 : decode cX1_takeFrom 25 = .ok (.aload_n 1, 1) := by decide +kernel
theorem dX1_takeFrom_26 : decode cX1_takeFrom 26 = .ok (.getfield 37, 3) := by decide +kernel
theorem dX1_takeFrom_29 : decode cX1_takeFrom 29 = .ok (.putfield 37, 3) := by decide +kernel
theorem dX1_takeFrom_32 : decode cX1_takeFrom 32 = .ok (.aload_n 0, 1) := by decide +kernel
theorem dX1_takeFrom_33 : decode cX1_takeFrom 33 = .ok (.aload_n 1, 1) := by decide +kernel
theorem dX1_takeFrom_34 : decode cX1_takeFrom 34 = .ok (.getfield 40, 3) := by decide +kernel
theorem dX1_takeFrom_37 : decode cX1_takeFrom 37 = .ok (.putfield 40, 3) := by decide +kernel
theorem dX1_takeFrom_40 : decode cX1_takeFrom 40 = .ok (.aload_n 0, 1) := by decide +kernel
theorem dX1_takeFrom_41 : decode cX1_takeFrom 41 = .ok (.aload_n 1, 1) := by decide +kernel
theorem dX1_takeFrom_42 : decode cX1_takeFrom 42 = .ok (.getfield 15, 3) := by decide +kernel
theorem dX1_takeFrom_45 : decode cX1_takeFrom 45 = .ok (.putfield 15, 3) := by decide +kernel
theorem dX1_takeFrom_48 : decode cX1_takeFrom 48 = .ok (.aload_n 1, 1) := by decide +kernel
theorem dX1_takeFrom_49 : decode cX1_takeFrom 49 = .ok (.getfield 18, 3) := by decide +kernel
theorem dX1_takeFrom_52 : decode cX1_takeFrom 52 = .ok (.iconst 0, 1) := by decide +kernel
theorem dX1_takeFrom_53 : decode cX1_takeFrom 53 = .ok (.aload_n 0, 1) := by decide +kernel
theorem dX1_takeFrom_54 : decode cX1_takeFrom 54 = .ok (.getfield 18, 3) := by decide +kernel
theorem dX1_takeFrom_57 : decode cX1_takeFrom 57 = .ok (.iconst 0, 1) := by decide +kernel
theorem dX1_takeFrom_58 : decode cX1_takeFrom 58 = .ok (.bipush 7, 2) := by decide +kernel
theorem dX1_takeFrom_60 : decode cX1_takeFrom 60 = .ok (.invokestatic 43, 3) := by decide +kernel
theorem dX1_takeFrom_63 : decode cX1_takeFrom 63 = .ok (.aload_n 1, 1) := by decide +kernel
theorem dX1_takeFrom_64 : decode cX1_takeFrom 64 = .ok (.getfield 22, 3) := by decide +kernel
theorem dX1_takeFrom_67 : decode cX1_takeFrom 67 = .ok (.iconst 0, 1) := by decide +kernel
theorem dX1_takeFrom_68 : decode cX1_takeFrom 68 = .ok (.aload_n 0, 1) := by decide +kernel
theorem dX1_takeFrom_69 : decode cX1_takeFrom 69 = .ok (.getfield 22, 3) := by decide +kernel
theorem dX1_takeFrom_72 : decode cX1_takeFrom 72 = .ok (.iconst 0, 1) := by decide +kernel
theorem dX1_takeFrom_73 : decode cX1_takeFrom 73 = .ok (.bipush 7, 2) := by decide +kernel
theorem dX1_takeFrom_75 : decode cX1_takeFrom 75 = .ok (.invokestatic 43, 3) := by decide +kernel
theorem dX1_takeFrom_78 : decode cX1_takeFrom 78 = .ok (.aload_n 1, 1) := by decide +kernel
theorem dX1_takeFrom_79 : decode cX1_takeFrom 79 = .ok (.getfield 25, 3) := by decide +kernel
theorem dX1_takeFrom_82 : decode cX1_takeFrom 82 = .ok (.iconst 0, 1) := by decide +kernel
theorem dX1_takeFrom_83 : decode cX1_takeFrom 83 = .ok (.aload_n 0, 1) := by decide +kernel
theorem dX1_takeFrom_84 : decode cX1_takeFrom 84 = .ok (.getfield 25, 3) := by decide +kernel
theorem dX1_takeFrom_87 : decode cX1_takeFrom 87 = .ok (.iconst 0, 1) := by decide +kernel
theorem dX1_takeFrom_88 : decode cX1_takeFrom 88 = .ok (.bipush 7, 2) := by decide +kernel
theorem dX1_takeFrom_90 : decode cX1_takeFrom 90 = .ok (.invokestatic 43, 3) := by decide +kernel
theorem dX1_takeFrom_93 : decode cX1_takeFrom 93 = .ok (.aload_n 1, 1) := by decide +kernel
theorem dX1_takeFrom_94 : decode cX1_takeFrom 94 = .ok (.getfield 28, 3) := by decide +kernel
theorem dX1_takeFrom_97 : decode cX1_takeFrom 97 = .ok (.iconst 0, 1) := by decide +kernel
theorem dX1_takeFrom_98 : decode cX1_takeFrom 98 = .ok (.aload_n 0, 1) := by decide +kernel
theorem dX1_takeFrom_99 : decode cX1_takeFrom 99 = .ok (.getfield 28, 3) := by decide +kernel
theorem dX1_takeFrom_102 : decode cX1_takeFrom 102 = .ok (.iconst 0, 1) := by decide +kernel
theorem dX1_takeFrom_103 : decode cX1_takeFrom 103 = .ok (.bipush 7, 2) := by decide +kernel
theorem dX1_takeFrom_105 : decode cX1_takeFrom 105 = .ok (.invokestatic 43, 3) := by decide +kernel
theorem dX1_takeFrom_108 : decode cX1_takeFrom 108 = .ok (.return_, 1) := by decide +kernel
theorem dX1_begin_0 : decode cX1_begin 0 = .ok (.aload_n 0, 1) := by decide +kernel
theorem dX1_begin_1 : decode cX1_begin 1 = .ok (.iload_n 1, 1) := by decide +kernel
theorem dX1_begin_2 : decode cX1_begin 2 = .ok (.putfield 9, 3) := by decide +kernel
theorem dX1_begin_5 : decode cX1_begin 5 = .ok (.aload_n 0, 1) := by decide +kernel
theorem dX1_begin_6 : decode cX1_begin 6 = .ok (.iconst 0, 1) := by decide +kernel
theorem dX1_begin_7 : decode cX1_begin 7 = .ok (.putfield 31, 3) := by decide +kernel
theorem dX1_begin_10 : decode cX1_begin 10 = .ok (.aload_n 0, 1) := by decide +kernel
theorem dX1_begin_11 : decode cX1_begin 11 = .ok (.iconst 0, 1) := by decide +kernel
theorem dX1_begin_12 : decode cX1_begin 12 = .ok (.putfield 34, 3) := by decide +kernel
theorem dX1_begin_15 : decode cX1_begin 15 = .ok (.aload_n 0, 1) := by decide +kernel
theorem dX1_begin_16 : decode cX1_begin 16 = .ok (.iconst 0, 1) := by decide +kernel
theorem dX1_begin_17 : decode cX1_begin 17 = .ok (.putfield 37, 3) := by decide +kernel
theorem dX1_begin_20 : decode cX1_begin 20 = .ok (.aload_n 0, 1) := by decide +kernel
theorem dX1_begin_21 : decode cX1_begin 21 = .ok (.iconst 0, 1) := by decide +kernel
theorem dX1_begin_22 : decode cX1_begin 22 = .ok (.putfield 40, 3) := by decide +kernel
theorem dX1_begin_25 : decode cX1_begin 25 = .ok (.iconst 0, 1) := by decide +kernel
theorem dX1_begin_26 : decode cX1_begin 26 = .ok (.istore_n 2, 1) := by decide +kernel
theorem dX1_begin_27 : decode cX1_begin 27 = .ok (.iload_n 2, 1) := by decide +kernel
theorem dX1_begin_28 : decode cX1_begin 28 = .ok (.bipush 7, 2) := by decide +kernel
theorem dX1_begin_30 : decode cX1_begin 30 = .ok (.if_icmp .ge 37, 3) := by decide +kernel
theorem dX1_begin_33 : decode cX1_begin 33 = .ok (.aload_n 0, 1) := by decide +kernel
theorem dX1_begin_34 : decode cX1_begin 34 = .ok (.getfield 18, 3) := by decide +kernel
theorem dX1_begin_37 : decode cX1_begin 37 = .ok (.iload_n 2, 1) := by decide +kernel
theorem dX1_begin_38 : decode cX1_begin 38 = .ok (.iconst 0, 1) := by decide +kernel
theorem dX1_begin_39 : decode cX1_begin 39 = .ok (.iastore, 1) := by decide +kernel
theorem dX1_begin_40 : decode cX1_begin 40 = .ok (.aload_n 0, 1) := by decide +kernel
theorem dX1_begin_41 : decode cX1_begin 41 = .ok (.getfield 22, 3) := by decide +kernel
theorem dX1_begin_44 : decode cX1_begin 44 = .ok (.iload_n 2, 1) := by decide +kernel
theorem dX1_begin_45 : decode cX1_begin 45 = .ok (.iconst 0, 1) := by decide +kernel
theorem dX1_begin_46 : decode cX1_begin 46 = .ok (.iastore, 1) := by decide +kernel
theorem dX1_begin_47 : decode cX1_begin 47 = .ok (.aload_n 0, 1) := by decide +kernel
theorem dX1_begin_48 : decode cX1_begin 48 = .ok (.getfield 25, 3) := by decide +kernel
theorem dX1_begin_51 : decode cX1_begin 51 = .ok (.iload_n 2, 1) := by decide +kernel
theorem dX1_begin_52 : decode cX1_begin 52 = .ok (.iconst 0, 1) := by decide +kernel
theorem dX1_begin_53 : decode cX1_begin 53 = .ok (.iastore, 1) := by decide +kernel
theorem dX1_begin_54 : decode cX1_begin 54 = .ok (.aload_n 0, 1) := by decide +kernel
theorem dX1_begin_55 : decode cX1_begin 55 = .ok (.getfield 28, 3) := by decide +kernel
theorem dX1_begin_58 : decode cX1_begin 58 = .ok (.iload_n 2, 1) := by decide +kernel
theorem dX1_begin_59 : decode cX1_begin 59 = .ok (.iconst 0, 1) := by decide +kernel
theorem dX1_begin_60 : decode cX1_begin 60 = .ok (.iastore, 1) := by decide +kernel
theorem dX1_begin_61 : decode cX1_begin 61 = .ok (.iinc 2 1, 3) := by decide +kernel
theorem dX1_begin_64 : decode cX1_begin 64 = .ok (.goto (-37), 3) := by decide +kernel
theorem dX1_begin_67 : decode cX1_begin 67 = .ok (.return_, 1) := by decide +kernel
theorem dX1_needs_0 : decode cX1_needs 0 = .ok (.aload_n 1, 1) := by decide +kernel
theorem dX1_needs_1 : decode cX1_needs 1 = .ok (.getfield 49, 3) := by decide +kernel
theorem dX1_needs_4 : decode cX1_needs 4 = .ok (.iload_n 2, 1) := by decide +kernel
theorem dX1_needs_5 : decode cX1_needs 5 = .ok (.iaload, 1) := by decide +kernel
theorem dX1_needs_6 : decode cX1_needs 6 = .ok (.aload_n 0, 1) := by decide +kernel
theorem dX1_needs_7 : decode cX1_needs 7 = .ok (.getfield 22, 3) := by decide +kernel
theorem dX1_needs_10 : decode cX1_needs 10 = .ok (.iload_n 2, 1) := by decide +kernel
theorem dX1_needs_11 : decode cX1_needs 11 = .ok (.iaload, 1) := by decide +kernel
theorem dX1_needs_12 : decode cX1_needs 12 = .ok (.iconst 3, 1) := by decide +kernel
theorem dX1_needs_13 : decode cX1_needs 13 = .ok (.idiv, 1) := by decide +kernel
theorem dX1_needs_14 : decode cX1_needs 14 = .ok (.iadd, 1) := by decide +kernel
theorem dX1_needs_15 : decode cX1_needs 15 = .ok (.ireturn, 1) := by decide +kernel
theorem dX1_needsYet_0 : decode cX1_needsYet 0 = .ok (.iconst 0, 1) := by decide +kernel
theorem dX1_needsYet_1 : decode cX1_needsYet 1 = .ok (.aload_n 0, 1) := by decide +kernel
theorem dX1_needsYet_2 : decode cX1_needsYet 2 = .ok (.aload_n 1, 1) := by decide +kernel
theorem dX1_needsYet_3 : decode cX1_needsYet 3 = .ok (.iload_n 2, 1) := by decide +kernel
theorem dX1_needsYet_4 : decode cX1_needsYet 4 = .ok (.invokevirtual 54, 3) := by decide +kernel
theorem dX1_needsYet_7 : decode cX1_needsYet 7 = .ok (.aload_n 0, 1) := by decide +kernel
theorem dX1_needsYet_8 : decode cX1_needsYet 8 = .ok (.getfield 18, 3) := by decide +kernel
theorem dX1_needsYet_11 : decode cX1_needsYet 11 = .ok (.iload_n 2, 1) := by decide +kernel
theorem dX1_needsYet_12 : decode cX1_needsYet 12 = .ok (.iaload, 1) := by decide +kernel
theorem dX1_needsYet_13 : decode cX1_needsYet 13 = .ok (.isub, 1) := by decide +kernel
theorem dX1_needsYet_14 : decode cX1_needsYet 14 = .ok (.invokestatic 58, 3) := by decide +kernel
theorem dX1_needsYet_17 : decode cX1_needsYet 17 = .ok (.ireturn, 1) := by decide +kernel
theorem dX1_needsYetOf_0 : decode cX1_needsYetOf 0 = .ok (.iconst 0, 1) := by decide +kernel
theorem dX1_needsYetOf_1 : decode cX1_needsYetOf 1 = .ok (.istore_n 3, 1) := by decide +kernel
theorem dX1_needsYetOf_2 : decode cX1_needsYetOf 2 = .ok (.iconst 0, 1) := by decide +kernel
theorem dX1_needsYetOf_3 : decode cX1_needsYetOf 3 = .ok (.istore 4, 2) := by decide +kernel
theorem dX1_needsYetOf_5 : decode cX1_needsYetOf 5 = .ok (.iload 4, 2) := by decide +kernel
theorem dX1_needsYetOf_7 : decode cX1_needsYetOf 7 = .ok (.aload_n 1, 1) := by decide +kernel
theorem dX1_needsYetOf_8 : decode cX1_needsYetOf 8 = .ok (.getfield 64, 3) := by decide +kernel
theorem dX1_needsYetOf_11 : decode cX1_needsYetOf 11 = .ok (.if_icmp .ge 29, 3) := by decide +kernel
theorem dX1_needsYetOf_14 : decode cX1_needsYetOf 14 = .ok (.iload_n 2, 1) := by decide +kernel
theorem dX1_needsYetOf_15 : decode cX1_needsYetOf 15 = .ok (.iload 4, 2) := by decide +kernel
theorem dX1_needsYetOf_17 : decode cX1_needsYetOf 17 = .ok (.ishr, 1) := by decide +kernel
theorem dX1_needsYetOf_18 : decode cX1_needsYetOf 18 = .ok (.iconst 1, 1) := by decide +kernel
theorem dX1_needsYetOf_19 : decode cX1_needsYetOf 19 = .ok (.iand, 1) := by decide +kernel
theorem dX1_needsYetOf_20 : decode cX1_needsYetOf 20 = .ok (.iconst 1, 1) := by decide +kernel
theorem dX1_needsYetOf_21 : decode cX1_needsYetOf 21 = .ok (.if_icmp .ne 13, 3) := by decide +kernel
theorem dX1_needsYetOf_24 : decode cX1_needsYetOf 24 = .ok (.iload_n 3, 1) := by decide +kernel
theorem dX1_needsYetOf_25 : decode cX1_needsYetOf 25 = .ok (.aload_n 0, 1) := by decide +kernel
theorem dX1_needsYetOf_26 : decode cX1_needsYetOf 26 = .ok (.aload_n 1, 1) := by decide +kernel
theorem dX1_needsYetOf_27 : decode cX1_needsYetOf 27 = .ok (.iload 4, 2) := by decide +kernel
theorem dX1_needsYetOf_29 : decode cX1_needsYetOf 29 = .ok (.invokevirtual 67, 3) := by decide +kernel
theorem dX1_needsYetOf_32 : decode cX1_needsYetOf 32 = .ok (.iadd, 1) := by decide +kernel
theorem dX1_needsYetOf_33 : decode cX1_needsYetOf 33 = .ok (.istore_n 3, 1) := by decide +kernel
theorem dX1_needsYetOf_34 : decode cX1_needsYetOf 34 = .ok (.iinc 4 1, 3) := by decide +kernel
theorem dX1_needsYetOf_37 : decode cX1_needsYetOf 37 = .ok (.goto (-32), 3) := by decide +kernel
theorem dX1_needsYetOf_40 : decode cX1_needsYetOf 40 = .ok (.iload_n 3, 1) := by decide +kernel
theorem dX1_needsYetOf_41 : decode cX1_needsYetOf 41 = .ok (.ireturn, 1) := by decide +kernel
theorem dX1_sated_0 : decode cX1_sated 0 = .ok (.aload_n 0, 1) := by decide +kernel
theorem dX1_sated_1 : decode cX1_sated 1 = .ok (.getfield 18, 3) := by decide +kernel
theorem dX1_sated_4 : decode cX1_sated 4 = .ok (.iload_n 2, 1) := by decide +kernel
theorem dX1_sated_5 : decode cX1_sated 5 = .ok (.iaload, 1) := by decide +kernel
theorem dX1_sated_6 : decode cX1_sated 6 = .ok (.aload_n 0, 1) := by decide +kernel
theorem dX1_sated_7 : decode cX1_sated 7 = .ok (.aload_n 1, 1) := by decide +kernel
theorem dX1_sated_8 : decode cX1_sated 8 = .ok (.iload_n 2, 1) := by decide +kernel
theorem dX1_sated_9 : decode cX1_sated 9 = .ok (.invokevirtual 54, 3) := by decide +kernel
theorem dX1_sated_12 : decode cX1_sated 12 = .ok (.if_icmp .lt 7, 3) := by decide +kernel
theorem dX1_sated_15 : decode cX1_sated 15 = .ok (.iconst 1, 1) := by decide +kernel
theorem dX1_sated_16 : decode cX1_sated 16 = .ok (.goto 4, 3) := by decide +kernel
theorem dX1_sated_19 : decode cX1_sated 19 = .ok (.iconst 0, 1) := by decide +kernel
theorem dX1_sated_20 : decode cX1_sated 20 = .ok (.ireturn, 1) := by decide +kernel
theorem dX1_satedSet_0 : decode cX1_satedSet 0 = .ok (.iconst 0, 1) := by decide +kernel
theorem dX1_satedSet_1 : decode cX1_satedSet 1 = .ok (.istore_n 2, 1) := by decide +kernel
theorem dX1_satedSet_2 : decode cX1_satedSet 2 = .ok (.iconst 0, 1) := by decide +kernel
theorem dX1_satedSet_3 : decode cX1_satedSet 3 = .ok (.istore_n 3, 1) := by decide +kernel
theorem dX1_satedSet_4 : decode cX1_satedSet 4 = .ok (.iload_n 3, 1) := by decide +kernel
theorem dX1_satedSet_5 : decode cX1_satedSet 5 = .ok (.aload_n 1, 1) := by decide +kernel
theorem dX1_satedSet_6 : decode cX1_satedSet 6 = .ok (.getfield 64, 3) := by decide +kernel
theorem dX1_satedSet_9 : decode cX1_satedSet 9 = .ok (.if_icmp .ge 24, 3) := by decide +kernel
theorem dX1_satedSet_12 : decode cX1_satedSet 12 = .ok (.aload_n 0, 1) := by decide +kernel
theorem dX1_satedSet_13 : decode cX1_satedSet 13 = .ok (.aload_n 1, 1) := by decide +kernel
theorem dX1_satedSet_14 : decode cX1_satedSet 14 = .ok (.iload_n 3, 1) := by decide +kernel
theorem dX1_satedSet_15 : decode cX1_satedSet 15 = .ok (.invokevirtual 70, 3) := by decide +kernel
theorem dX1_satedSet_18 : decode cX1_satedSet 18 = .ok (.ifCond .eq 9, 3) := by decide +kernel
theorem dX1_satedSet_21 : decode cX1_satedSet 21 = .ok (.iload_n 2, 1) := by decide +kernel
theorem dX1_satedSet_22 : decode cX1_satedSet 22 = .ok (.iconst 1, 1) := by decide +kernel
theorem dX1_satedSet_23 : decode cX1_satedSet 23 = .ok (.iload_n 3, 1) := by decide +kernel
theorem dX1_satedSet_24 : decode cX1_satedSet 24 = .ok (.ishl, 1) := by decide +kernel
theorem dX1_satedSet_25 : decode cX1_satedSet 25 = .ok (.ior, 1) := by decide +kernel
theorem dX1_satedSet_26 : decode cX1_satedSet 26 = .ok (.istore_n 2, 1) := by decide +kernel
theorem dX1_satedSet_27 : decode cX1_satedSet 27 = .ok (.iinc 3 1, 3) := by decide +kernel
theorem dX1_satedSet_30 : decode cX1_satedSet 30 = .ok (.goto (-26), 3) := by decide +kernel
theorem dX1_satedSet_33 : decode cX1_satedSet 33 = .ok (.iload_n 2, 1) := by decide +kernel
theorem dX1_satedSet_34 : decode cX1_satedSet 34 = .ok (.ireturn, 1) := by decide +kernel
theorem dX1_allSated_0 : decode cX1_allSated 0 = .ok (.iconst 0, 1) := by decide +kernel
theorem dX1_allSated_1 : decode cX1_allSated 1 = .ok (.istore_n 2, 1) := by decide +kernel
theorem dX1_allSated_2 : decode cX1_allSated 2 = .ok (.iload_n 2, 1) := by decide +kernel
theorem dX1_allSated_3 : decode cX1_allSated 3 = .ok (.aload_n 1, 1) := by decide +kernel
theorem dX1_allSated_4 : decode cX1_allSated 4 = .ok (.getfield 64, 3) := by decide +kernel
theorem dX1_allSated_7 : decode cX1_allSated 7 = .ok (.if_icmp .ge 28, 3) := by decide +kernel
theorem dX1_allSated_10 : decode cX1_allSated 10 = .ok (.iload_n 2, 1) := by decide +kernel
theorem dX1_allSated_11 : decode cX1_allSated 11 = .ok (.aload_n 1, 1) := by decide +kernel
theorem dX1_allSated_12 : decode cX1_allSated 12 = .ok (.getfield 74, 3) := by decide +kernel
theorem dX1_allSated_15 : decode cX1_allSated 15 = .ok (.if_icmp .eq 14, 3) := by decide +kernel
theorem dX1_allSated_18 : decode cX1_allSated 18 = .ok (.aload_n 0, 1) := by decide +kernel
theorem dX1_allSated_19 : decode cX1_allSated 19 = .ok (.aload_n 1, 1) := by decide +kernel
theorem dX1_allSated_20 : decode cX1_allSated 20 = .ok (.iload_n 2, 1) := by decide +kernel
theorem dX1_allSated_21 : decode cX1_allSated 21 = .ok (.invokevirtual 70, 3) := by decide +kernel
theorem dX1_allSated_24 : decode cX1_allSated 24 = .ok (.ifCond .ne 5, 3) := by decide +kernel
theorem dX1_allSated_27 : decode cX1_allSated 27 = .ok (.iconst 0, 1) := by decide +kernel
theorem dX1_allSated_28 : decode cX1_allSated 28 = .ok (.ireturn, 1) := by decide +kernel
theorem dX1_allSated_29 : decode cX1_allSated 29 = .ok (.iinc 2 1, 3) := by decide +kernel
theorem dX1_allSated_32 : decode cX1_allSated 32 = .ok (.goto (-30), 3) := by decide +kernel
theorem dX1_allSated_35 : decode cX1_allSated 35 = .ok (.iconst 1, 1) := by decide +kernel
theorem dX1_allSated_36 : decode cX1_allSated 36 = .ok (.ireturn, 1) := by decide +kernel
theorem dX1_drunkTogether_0 : decode cX1_drunkTogether 0 = .ok (.iconst 0, 1) := by decide +kernel
theorem dX1_drunkTogether_1 : decode cX1_drunkTogether 1 = .ok (.istore_n 1, 1) := by decide +kernel
theorem dX1_drunkTogether_2 : decode cX1_drunkTogether 2 = .ok (.iconst 0, 1) := by decide +kernel
theorem dX1_drunkTogether_3 : decode cX1_drunkTogether 3 = .ok (.istore_n 2, 1) := by decide +kernel
theorem dX1_drunkTogether_4 : decode cX1_drunkTogether 4 = .ok (.iload_n 2, 1) := by decide +kernel
theorem dX1_drunkTogether_5 : decode cX1_drunkTogether 5 = .ok (.bipush 7, 2) := by decide +kernel
theorem dX1_drunkTogether_7 : decode cX1_drunkTogether 7 = .ok (.if_icmp .ge 18, 3) := by decide +kernel
theorem dX1_drunkTogether_10 : decode cX1_drunkTogether 10 = .ok (.iload_n 1, 1) := by decide +kernel
theorem dX1_drunkTogether_11 : decode cX1_drunkTogether 11 = .ok (.aload_n 0, 1) := by decide +kernel
theorem dX1_drunkTogether_12 : decode cX1_drunkTogether 12 = .ok (.getfield 18, 3) := by decide +kernel
theorem dX1_drunkTogether_15 : decode cX1_drunkTogether 15 = .ok (.iload_n 2, 1) := by decide +kernel
theorem dX1_drunkTogether_16 : decode cX1_drunkTogether 16 = .ok (.iaload, 1) := by decide +kernel
theorem dX1_drunkTogether_17 : decode cX1_drunkTogether 17 = .ok (.iadd, 1) := by decide +kernel
theorem dX1_drunkTogether_18 : decode cX1_drunkTogether 18 = .ok (.istore_n 1, 1) := by decide +kernel
theorem dX1_drunkTogether_19 : decode cX1_drunkTogether 19 = .ok (.iinc 2 1, 3) := by decide +kernel
theorem dX1_drunkTogether_22 : decode cX1_drunkTogether 22 = .ok (.goto (-18), 3) := by decide +kernel
theorem dX1_drunkTogether_25 : decode cX1_drunkTogether 25 = .ok (.iload_n 1, 1) := by decide +kernel
theorem dX1_drunkTogether_26 : decode cX1_drunkTogether 26 = .ok (.ireturn, 1) := by decide +kernel
theorem dX1_step_0 : decode cX1_step 0 = .ok (.aload_n 0, 1) := by decide +kernel
theorem dX1_step_1 : decode cX1_step 1 = .ok (.getfield 37, 3) := by decide +kernel
theorem dX1_step_4 : decode cX1_step 4 = .ok (.ifCond .gt 11, 3) := by decide +kernel
theorem dX1_step_7 : decode cX1_step 7 = .ok (.aload_n 0, 1) := by decide +kernel
theorem dX1_step_8 : decode cX1_step 8 = .ok (.aload_n 1, 1) := by decide +kernel
theorem dX1_step_9 : decode cX1_step 9 = .ok (.invokevirtual 77, 3) := by decide +kernel
theorem dX1_step_12 : decode cX1_step 12 = .ok (.ifCond .eq 7, 3) := by decide +kernel
theorem dX1_step_15 : decode cX1_step 15 = .ok (.iconst 1, 1) := by decide +kernel
theorem dX1_step_16 : decode cX1_step 16 = .ok (.goto 4, 3) := by decide +kernel
theorem dX1_step_19 : decode cX1_step 19 = .ok (.iconst 0, 1) := by decide +kernel
theorem dX1_step_20 : decode cX1_step 20 = .ok (.istore_n 3, 1) := by decide +kernel
theorem dX1_step_21 : decode cX1_step 21 = .ok (.bipush 60, 2) := by decide +kernel
theorem dX1_step_23 : decode cX1_step 23 = .ok (.aload_n 0, 1) := by decide +kernel
theorem dX1_step_24 : decode cX1_step 24 = .ok (.getfield 9, 3) := by decide +kernel
theorem dX1_step_27 : decode cX1_step 27 = .ok (.isub, 1) := by decide +kernel
theorem dX1_step_28 : decode cX1_step 28 = .ok (.aload_n 1, 1) := by decide +kernel
theorem dX1_step_29 : decode cX1_step 29 = .ok (.getfield 81, 3) := by decide +kernel
theorem dX1_step_32 : decode cX1_step 32 = .ok (.idiv, 1) := by decide +kernel
theorem dX1_step_33 : decode cX1_step 33 = .ok (.istore 4, 2) := by decide +kernel
theorem dX1_step_35 : decode cX1_step 35 = .ok (.aload_n 0, 1) := by decide +kernel
theorem dX1_step_36 : decode cX1_step 36 = .ok (.dup, 1) := by decide +kernel
theorem dX1_step_37 : decode cX1_step 37 = .ok (.getfield 9, 3) := by decide +kernel
theorem dX1_step_40 : decode cX1_step 40 = .ok (.iload 4, 2) := by decide +kernel
theorem dX1_step_42 : decode cX1_step 42 = .ok (.iadd, 1) := by decide +kernel
theorem dX1_step_43 : decode cX1_step 43 = .ok (.putfield 9, 3) := by decide +kernel
theorem dX1_step_46 : decode cX1_step 46 = .ok (.aload_n 0, 1) := by decide +kernel
theorem dX1_step_47 : decode cX1_step 47 = .ok (.aload_n 1, 1) := by decide +kernel
theorem dX1_step_48 : decode cX1_step 48 = .ok (.invokevirtual 84, 3) := by decide +kernel
theorem dX1_step_51 : decode cX1_step 51 = .ok (.istore 5, 2) := by decide +kernel
theorem dX1_step_53 : decode cX1_step 53 = .ok (.aload_n 0, 1) := by decide +kernel
theorem dX1_step_54 : decode cX1_step 54 = .ok (.aload_n 1, 1) := by decide +kernel
theorem dX1_step_55 : decode cX1_step 55 = .ok (.iload_n 2, 1) := by decide +kernel
theorem dX1_step_56 : decode cX1_step 56 = .ok (.invokevirtual 88, 3) := by decide +kernel
theorem dX1_step_59 : decode cX1_step 59 = .ok (.istore 6, 2) := by decide +kernel
theorem dX1_step_61 : decode cX1_step 61 = .ok (.aload_n 0, 1) := by decide +kernel
theorem dX1_step_62 : decode cX1_step 62 = .ok (.dup, 1) := by decide +kernel
theorem dX1_step_63 : decode cX1_step 63 = .ok (.getfield 40, 3) := by decide +kernel
theorem dX1_step_66 : decode cX1_step 66 = .ok (.iconst 1, 1) := by decide +kernel
theorem dX1_step_67 : decode cX1_step 67 = .ok (.iadd, 1) := by decide +kernel
theorem dX1_step_68 : decode cX1_step 68 = .ok (.putfield 40, 3) := by decide +kernel
theorem dX1_step_71 : decode cX1_step 71 = .ok (.iload_n 3, 1) := by decide +kernel
theorem dX1_step_72 : decode cX1_step 72 = .ok (.ifCond .ne 18, 3) := by decide +kernel
theorem dX1_step_75 : decode cX1_step 75 = .ok (.iload 4, 2) := by decide +kernel
theorem dX1_step_77 : decode cX1_step 77 = .ok (.ifCond .ne 13, 3) := by decide +kernel
theorem dX1_step_80 : decode cX1_step 80 = .ok (.iload 5, 2) := by decide +kernel
theorem dX1_step_82 : decode cX1_step 82 = .ok (.ifCond .ne 8, 3) := by decide +kernel
theorem dX1_step_85 : decode cX1_step 85 = .ok (.iload 6, 2) := by decide +kernel
theorem dX1_step_87 : decode cX1_step 87 = .ok (.ifCond .eq 7, 3) := by decide +kernel
theorem dX1_step_90 : decode cX1_step 90 = .ok (.iconst 1, 1) := by decide +kernel
theorem dX1_step_91 : decode cX1_step 91 = .ok (.goto 4, 3) := by decide +kernel
theorem dX1_step_94 : decode cX1_step 94 = .ok (.iconst 0, 1) := by decide +kernel
theorem dX1_step_95 : decode cX1_step 95 = .ok (.ireturn, 1) := by decide +kernel
theorem dX1_anySwollen_0 : decode cX1_anySwollen 0 = .ok (.iconst 0, 1) := by decide +kernel
theorem dX1_anySwollen_1 : decode cX1_anySwollen 1 = .ok (.istore_n 2, 1) := by decide +kernel
theorem dX1_anySwollen_2 : decode cX1_anySwollen 2 = .ok (.iload_n 2, 1) := by decide +kernel
theorem dX1_anySwollen_3 : decode cX1_anySwollen 3 = .ok (.aload_n 1, 1) := by decide +kernel
theorem dX1_anySwollen_4 : decode cX1_anySwollen 4 = .ok (.getfield 64, 3) := by decide +kernel
theorem dX1_anySwollen_7 : decode cX1_anySwollen 7 = .ok (.if_icmp .ge 20, 3) := by decide +kernel
theorem dX1_anySwollen_10 : decode cX1_anySwollen 10 = .ok (.aload_n 0, 1) := by decide +kernel
theorem dX1_anySwollen_11 : decode cX1_anySwollen 11 = .ok (.getfield 25, 3) := by decide +kernel
theorem dX1_anySwollen_14 : decode cX1_anySwollen 14 = .ok (.iload_n 2, 1) := by decide +kernel
theorem dX1_anySwollen_15 : decode cX1_anySwollen 15 = .ok (.iaload, 1) := by decide +kernel
theorem dX1_anySwollen_16 : decode cX1_anySwollen 16 = .ok (.ifCond .le 5, 3) := by decide +kernel
theorem dX1_anySwollen_19 : decode cX1_anySwollen 19 = .ok (.iconst 1, 1) := by decide +kernel
theorem dX1_anySwollen_20 : decode cX1_anySwollen 20 = .ok (.ireturn, 1) := by decide +kernel
theorem dX1_anySwollen_21 : decode cX1_anySwollen 21 = .ok (.iinc 2 1, 3) := by decide +kernel
theorem dX1_anySwollen_24 : decode cX1_anySwollen 24 = .ok (.goto (-22), 3) := by decide +kernel
theorem dX1_anySwollen_27 : decode cX1_anySwollen 27 = .ok (.iconst 0, 1) := by decide +kernel
theorem dX1_anySwollen_28 : decode cX1_anySwollen 28 = .ok (.ireturn, 1) := by decide +kernel
theorem dX1_drawBucket_0 : decode cX1_drawBucket 0 = .ok (.aload_n 0, 1) := by decide +kernel
theorem dX1_drawBucket_1 : decode cX1_drawBucket 1 = .ok (.getfield 37, 3) := by decide +kernel
theorem dX1_drawBucket_4 : decode cX1_drawBucket 4 = .ok (.ifCond .le 15, 3) := by decide +kernel
theorem dX1_drawBucket_7 : decode cX1_drawBucket 7 = .ok (.aload_n 0, 1) := by decide +kernel
theorem dX1_drawBucket_8 : decode cX1_drawBucket 8 = .ok (.dup, 1) := by decide +kernel
theorem dX1_drawBucket_9 : decode cX1_drawBucket 9 = .ok (.getfield 37, 3) := by decide +kernel
theorem dX1_drawBucket_12 : decode cX1_drawBucket 12 = .ok (.iconst 1, 1) := by decide +kernel
theorem dX1_drawBucket_13 : decode cX1_drawBucket 13 = .ok (.isub, 1) := by decide +kernel
theorem dX1_drawBucket_14 : decode cX1_drawBucket 14 = .ok (.putfield 37, 3) := by decide +kernel
theorem dX1_drawBucket_17 : decode cX1_drawBucket 17 = .ok (.iconst 0, 1) := by decide +kernel
theorem dX1_drawBucket_18 : decode cX1_drawBucket 18 = .ok (.ireturn, 1) := by decide +kernel
theorem dX1_drawBucket_19 : decode cX1_drawBucket 19 = .ok (.aload_n 0, 1) := by decide +kernel
theorem dX1_drawBucket_20 : decode cX1_drawBucket 20 = .ok (.getfield 9, 3) := by decide +kernel
theorem dX1_drawBucket_23 : decode cX1_drawBucket 23 = .ok (.aload_n 1, 1) := by decide +kernel
theorem dX1_drawBucket_24 : decode cX1_drawBucket 24 = .ok (.getfield 91, 3) := by decide +kernel
theorem dX1_drawBucket_27 : decode cX1_drawBucket 27 = .ok (.if_icmp .ge 5, 3) := by decide +kernel
theorem dX1_drawBucket_30 : decode cX1_drawBucket 30 = .ok (.iconst 0, 1) := by decide +kernel
theorem dX1_drawBucket_31 : decode cX1_drawBucket 31 = .ok (.ireturn, 1) := by decide +kernel
theorem dX1_drawBucket_32 : decode cX1_drawBucket 32 = .ok (.aload_n 1, 1) := by decide +kernel
theorem dX1_drawBucket_33 : decode cX1_drawBucket 33 = .ok (.getfield 74, 3) := by decide +kernel
theorem dX1_drawBucket_36 : decode cX1_drawBucket 36 = .ok (.bipush (-4), 2) := by decide +kernel
theorem dX1_drawBucket_38 : decode cX1_drawBucket 38 = .ok (.if_icmp .ne 12, 3) := by decide +kernel
theorem dX1_drawBucket_41 : decode cX1_drawBucket 41 = .ok (.aload_n 1, 1) := by decide +kernel
theorem dX1_drawBucket_42 : decode cX1_drawBucket 42 = .ok (.getfield 94, 3) := by decide +kernel
theorem dX1_drawBucket_45 : decode cX1_drawBucket 45 = .ok (.iconst 2, 1) := by decide +kernel
theorem dX1_drawBucket_46 : decode cX1_drawBucket 46 = .ok (.idiv, 1) := by decide +kernel
theorem dX1_drawBucket_47 : decode cX1_drawBucket 47 = .ok (.goto 7, 3) := by decide +kernel
theorem dX1_drawBucket_50 : decode cX1_drawBucket 50 = .ok (.aload_n 1, 1) := by decide +kernel
theorem dX1_drawBucket_51 : decode cX1_drawBucket 51 = .ok (.getfield 94, 3) := by decide +kernel
theorem dX1_drawBucket_54 : decode cX1_drawBucket 54 = .ok (.istore_n 2, 1) := by decide +kernel
theorem dX1_drawBucket_55 : decode cX1_drawBucket 55 = .ok (.iconst 0, 1) := by decide +kernel
theorem dX1_drawBucket_56 : decode cX1_drawBucket 56 = .ok (.aload_n 0, 1) := by decide +kernel
theorem dX1_drawBucket_57 : decode cX1_drawBucket 57 = .ok (.getfield 9, 3) := by decide +kernel
theorem dX1_drawBucket_60 : decode cX1_drawBucket 60 = .ok (.aload_n 1, 1) := by decide +kernel
theorem dX1_drawBucket_61 : decode cX1_drawBucket 61 = .ok (.getfield 97, 3) := by decide +kernel
theorem dX1_drawBucket_64 : decode cX1_drawBucket 64 = .ok (.isub, 1) := by decide +kernel
theorem dX1_drawBucket_65 : decode cX1_drawBucket 65 = .ok (.invokestatic 58, 3) := by decide +kernel
theorem dX1_drawBucket_68 : decode cX1_drawBucket 68 = .ok (.istore_n 3, 1) := by decide +kernel
theorem dX1_drawBucket_69 : decode cX1_drawBucket 69 = .ok (.iload_n 2, 1) := by decide +kernel
theorem dX1_drawBucket_70 : decode cX1_drawBucket 70 = .ok (.iload_n 3, 1) := by decide +kernel
theorem dX1_drawBucket_71 : decode cX1_drawBucket 71 = .ok (.bipush 24, 2) := by decide +kernel
theorem dX1_drawBucket_73 : decode cX1_drawBucket 73 = .ok (.aload_n 0, 1) := by decide +kernel
theorem dX1_drawBucket_74 : decode cX1_drawBucket 74 = .ok (.getfield 31, 3) := by decide +kernel
theorem dX1_drawBucket_77 : decode cX1_drawBucket 77 = .ok (.isub, 1) := by decide +kernel
theorem dX1_drawBucket_78 : decode cX1_drawBucket 78 = .ok (.invokestatic 100, 3) := by decide +kernel
theorem dX1_drawBucket_81 : decode cX1_drawBucket 81 = .ok (.invokestatic 100, 3) := by decide +kernel
theorem dX1_drawBucket_84 : decode cX1_drawBucket 84 = .ok (.istore 4, 2) := by decide +kernel
theorem dX1_drawBucket_86 : decode cX1_drawBucket 86 = .ok (.iload 4, 2) := by decide +kernel
theorem dX1_drawBucket_88 : decode cX1_drawBucket 88 = .ok (.ifCond .eq 59, 3) := by decide +kernel
theorem dX1_drawBucket_91 : decode cX1_drawBucket 91 = .ok (.aload_n 0, 1) := by decide +kernel
theorem dX1_drawBucket_92 : decode cX1_drawBucket 92 = .ok (.dup, 1) := by decide +kernel
theorem dX1_drawBucket_93 : decode cX1_drawBucket 93 = .ok (.getfield 9, 3) := by decide +kernel
theorem dX1_drawBucket_96 : decode cX1_drawBucket 96 = .ok (.iload 4, 2) := by decide +kernel
theorem dX1_drawBucket_98 : decode cX1_drawBucket 98 = .ok (.isub, 1) := by decide +kernel
theorem dX1_drawBucket_99 : decode cX1_drawBucket 99 = .ok (.putfield 9, 3) := by decide +kernel
theorem dX1_drawBucket_102 : decode cX1_drawBucket 102 = .ok (.aload_n 0, 1) := by decide +kernel
theorem dX1_drawBucket_103 : decode cX1_drawBucket 103 = .ok (.dup, 1) := by decide +kernel
theorem dX1_drawBucket_104 : decode cX1_drawBucket 104 = .ok (.getfield 31, 3) := by decide +kernel
theorem dX1_drawBucket_107 : decode cX1_drawBucket 107 = .ok (.iload 4, 2) := by decide +kernel
theorem dX1_drawBucket_109 : decode cX1_drawBucket 109 = .ok (.iadd, 1) := by decide +kernel
theorem dX1_drawBucket_110 : decode cX1_drawBucket 110 = .ok (.putfield 31, 3) := by decide +kernel
theorem dX1_drawBucket_113 : decode cX1_drawBucket 113 = .ok (.aload_n 0, 1) := by decide +kernel
theorem dX1_drawBucket_114 : decode cX1_drawBucket 114 = .ok (.dup, 1) := by decide +kernel
theorem dX1_drawBucket_115 : decode cX1_drawBucket 115 = .ok (.getfield 34, 3) := by decide +kernel
theorem dX1_drawBucket_118 : decode cX1_drawBucket 118 = .ok (.iconst 1, 1) := by decide +kernel
theorem dX1_drawBucket_119 : decode cX1_drawBucket 119 = .ok (.iadd, 1) := by decide +kernel
theorem dX1_drawBucket_120 : decode cX1_drawBucket 120 = .ok (.putfield 34, 3) := by decide +kernel
theorem dX1_drawBucket_123 : decode cX1_drawBucket 123 = .ok (.aload_n 1, 1) := by decide +kernel
theorem dX1_drawBucket_124 : decode cX1_drawBucket 124 = .ok (.aload_n 1, 1) := by decide +kernel
theorem dX1_drawBucket_125 : decode cX1_drawBucket 125 = .ok (.getfield 74, 3) := by decide +kernel
theorem dX1_drawBucket_128 : decode cX1_drawBucket 128 = .ok (.invokevirtual 103, 3) := by decide +kernel
theorem dX1_drawBucket_131 : decode cX1_drawBucket 131 = .ok (.ifCond .ne 16, 3) := by decide +kernel
theorem dX1_drawBucket_134 : decode cX1_drawBucket 134 = .ok (.aload_n 0, 1) := by decide +kernel
theorem dX1_drawBucket_135 : decode cX1_drawBucket 135 = .ok (.getfield 22, 3) := by decide +kernel
theorem dX1_drawBucket_138 : decode cX1_drawBucket 138 = .ok (.aload_n 1, 1) := by decide +kernel
theorem dX1_drawBucket_139 : decode cX1_drawBucket 139 = .ok (.getfield 74, 3) := by decide +kernel
theorem dX1_drawBucket_142 : decode cX1_drawBucket 142 = .ok (.dup2, 1) := by decide +kernel
theorem dX1_drawBucket_143 : decode cX1_drawBucket 143 = .ok (.iaload, 1) := by decide +kernel
theorem dX1_drawBucket_144 : decode cX1_drawBucket 144 = .ok (.iconst 1, 1) := by decide +kernel
theorem dX1_drawBucket_145 : decode cX1_drawBucket 145 = .ok (.iadd, 1) := by decide +kernel
theorem dX1_drawBucket_146 : decode cX1_drawBucket 146 = .ok (.iastore, 1) := by decide +kernel
theorem dX1_drawBucket_147 : decode cX1_drawBucket 147 = .ok (.iload 4, 2) := by decide +kernel
theorem dX1_drawBucket_149 : decode cX1_drawBucket 149 = .ok (.ireturn, 1) := by decide +kernel
theorem dX1_waterBeasts_0 : decode cX1_waterBeasts 0 = .ok (.aload_n 1, 1) := by decide +kernel
theorem dX1_waterBeasts_1 : decode cX1_waterBeasts 1 = .ok (.getfield 107, 3) := by decide +kernel
theorem dX1_waterBeasts_4 : decode cX1_waterBeasts 4 = .ok (.istore_n 3, 1) := by decide +kernel
theorem dX1_waterBeasts_5 : decode cX1_waterBeasts 5 = .ok (.iconst 0, 1) := by decide +kernel
theorem dX1_waterBeasts_6 : decode cX1_waterBeasts 6 = .ok (.istore 4, 2) := by decide +kernel
theorem dX1_waterBeasts_8 : decode cX1_waterBeasts 8 = .ok (.iconst 0, 1) := by decide +kernel
theorem dX1_waterBeasts_9 : decode cX1_waterBeasts 9 = .ok (.istore 5, 2) := by decide +kernel
theorem dX1_waterBeasts_11 : decode cX1_waterBeasts 11 = .ok (.iload 5, 2) := by decide +kernel
theorem dX1_waterBeasts_13 : decode cX1_waterBeasts 13 = .ok (.aload_n 1, 1) := by decide +kernel
theorem dX1_waterBeasts_14 : decode cX1_waterBeasts 14 = .ok (.getfield 64, 3) := by decide +kernel
theorem dX1_waterBeasts_17 : decode cX1_waterBeasts 17 = .ok (.if_icmp .ge 140, 3) := by decide +kernel
theorem dX1_waterBeasts_20 : decode cX1_waterBeasts 20 = .ok (.aload_n 1, 1) := by decide +kernel
theorem dX1_waterBeasts_21 : decode cX1_waterBeasts 21 = .ok (.getfield 110, 3) := by decide +kernel
theorem dX1_waterBeasts_24 : decode cX1_waterBeasts 24 = .ok (.iload 5, 2) := by decide +kernel
theorem dX1_waterBeasts_26 : decode cX1_waterBeasts 26 = .ok (.iaload, 1) := by decide +kernel
theorem dX1_waterBeasts_27 : decode cX1_waterBeasts 27 = .ok (.istore 6, 2) := by decide +kernel
theorem dX1_waterBeasts_29 : decode cX1_waterBeasts 29 = .ok (.aload_n 0, 1) := by decide +kernel
theorem dX1_waterBeasts_30 : decode cX1_waterBeasts 30 = .ok (.aload_n 1, 1) := by decide +kernel
theorem dX1_waterBeasts_31 : decode cX1_waterBeasts 31 = .ok (.iload 6, 2) := by decide +kernel
theorem dX1_waterBeasts_33 : decode cX1_waterBeasts 33 = .ok (.invokevirtual 67, 3) := by decide +kernel
theorem dX1_waterBeasts_36 : decode cX1_waterBeasts 36 = .ok (.istore 7, 2) := by decide +kernel
theorem dX1_waterBeasts_38 : decode cX1_waterBeasts 38 = .ok (.iconst 0, 1) := by decide +kernel
theorem dX1_waterBeasts_39 : decode cX1_waterBeasts 39 = .ok (.istore 8, 2) := by decide +kernel
theorem dX1_waterBeasts_41 : decode cX1_waterBeasts 41 = .ok (.iload_n 3, 1) := by decide +kernel
theorem dX1_waterBeasts_42 : decode cX1_waterBeasts 42 = .ok (.ifCond .le 94, 3) := by decide +kernel
theorem dX1_waterBeasts_45 : decode cX1_waterBeasts 45 = .ok (.iload_n 2, 1) := by decide +kernel
theorem dX1_waterBeasts_46 : decode cX1_waterBeasts 46 = .ok (.iload 6, 2) := by decide +kernel
theorem dX1_waterBeasts_48 : decode cX1_waterBeasts 48 = .ok (.ishr, 1) := by decide +kernel
theorem dX1_waterBeasts_49 : decode cX1_waterBeasts 49 = .ok (.iconst 1, 1) := by decide +kernel
theorem dX1_waterBeasts_50 : decode cX1_waterBeasts 50 = .ok (.iand, 1) := by decide +kernel
theorem dX1_waterBeasts_51 : decode cX1_waterBeasts 51 = .ok (.iconst 1, 1) := by decide +kernel
theorem dX1_waterBeasts_52 : decode cX1_waterBeasts 52 = .ok (.if_icmp .ne 84, 3) := by decide +kernel
theorem dX1_waterBeasts_55 : decode cX1_waterBeasts 55 = .ok (.iload 6, 2) := by decide +kernel
theorem dX1_waterBeasts_57 : decode cX1_waterBeasts 57 = .ok (.aload_n 1, 1) := by decide +kernel
theorem dX1_waterBeasts_58 : decode cX1_waterBeasts 58 = .ok (.getfield 74, 3) := by decide +kernel
theorem dX1_waterBeasts_61 : decode cX1_waterBeasts 61 = .ok (.if_icmp .eq 75, 3) := by decide +kernel
theorem dX1_waterBeasts_64 : decode cX1_waterBeasts 64 = .ok (.aload_n 0, 1) := by decide +kernel
theorem dX1_waterBeasts_65 : decode cX1_waterBeasts 65 = .ok (.getfield 25, 3) := by decide +kernel
theorem dX1_waterBeasts_68 : decode cX1_waterBeasts 68 = .ok (.iload 6, 2) := by decide +kernel
theorem dX1_waterBeasts_70 : decode cX1_waterBeasts 70 = .ok (.iaload, 1) := by decide +kernel
theorem dX1_waterBeasts_71 : decode cX1_waterBeasts 71 = .ok (.ifCond .ne 65, 3) := by decide +kernel
theorem dX1_waterBeasts_74 : decode cX1_waterBeasts 74 = .ok (.iload 7, 2) := by decide +kernel
theorem dX1_waterBeasts_76 : decode cX1_waterBeasts 76 = .ok (.ifCond .le 60, 3) := by decide +kernel
theorem dX1_waterBeasts_79 : decode cX1_waterBeasts 79 = .ok (.iinc 3 (-1), 3) := by decide +kernel
theorem dX1_waterBeasts_82 : decode cX1_waterBeasts 82 = .ok (.aload_n 1, 1) := by decide +kernel
theorem dX1_waterBeasts_83 : decode cX1_waterBeasts 83 = .ok (.getfield 113, 3) := by decide +kernel
theorem dX1_waterBeasts_86 : decode cX1_waterBeasts 86 = .ok (.iload 6, 2) := by decide +kernel
theorem dX1_waterBeasts_88 : decode cX1_waterBeasts 88 = .ok (.iaload, 1) := by decide +kernel
theorem dX1_waterBeasts_89 : decode cX1_waterBeasts 89 = .ok (.invokestatic 116, 3) := by decide +kernel
theorem dX1_waterBeasts_92 : decode cX1_waterBeasts 92 = .ok (.iload 7, 2) := by decide +kernel
theorem dX1_waterBeasts_94 : decode cX1_waterBeasts 94 = .ok (.aload_n 0, 1) := by decide +kernel
theorem dX1_waterBeasts_95 : decode cX1_waterBeasts 95 = .ok (.getfield 31, 3) := by decide +kernel
theorem dX1_waterBeasts_98 : decode cX1_waterBeasts 98 = .ok (.invokestatic 100, 3) := by decide +kernel
theorem dX1_waterBeasts_101 : decode cX1_waterBeasts 101 = .ok (.invokestatic 100, 3) := by decide +kernel
theorem dX1_waterBeasts_104 : decode cX1_waterBeasts 104 = .ok (.istore 8, 2) := by decide +kernel
theorem dX1_waterBeasts_106 : decode cX1_waterBeasts 106 = .ok (.aload_n 0, 1) := by decide +kernel
theorem dX1_waterBeasts_107 : decode cX1_waterBeasts 107 = .ok (.getfield 18, 3) := by decide +kernel
theorem dX1_waterBeasts_110 : decode cX1_waterBeasts 110 = .ok (.iload 6, 2) := by decide +kernel
theorem dX1_waterBeasts_112 : decode cX1_waterBeasts 112 = .ok (.dup2, 1) := by decide +kernel
theorem dX1_waterBeasts_113 : decode cX1_waterBeasts 113 = .ok (.iaload, 1) := by decide +kernel
theorem dX1_waterBeasts_114 : decode cX1_waterBeasts 114 = .ok (.iload 8, 2) := by decide +kernel
theorem dX1_waterBeasts_116 : decode cX1_waterBeasts 116 = .ok (.iadd, 1) := by decide +kernel
theorem dX1_waterBeasts_117 : decode cX1_waterBeasts 117 = .ok (.iastore, 1) := by decide +kernel
theorem dX1_waterBeasts_118 : decode cX1_waterBeasts 118 = .ok (.aload_n 0, 1) := by decide +kernel
theorem dX1_waterBeasts_119 : decode cX1_waterBeasts 119 = .ok (.dup, 1) := by decide +kernel
theorem dX1_waterBeasts_120 : decode cX1_waterBeasts 120 = .ok (.getfield 31, 3) := by decide +kernel
theorem dX1_waterBeasts_123 : decode cX1_waterBeasts 123 = .ok (.iload 8, 2) := by decide +kernel
theorem dX1_waterBeasts_125 : decode cX1_waterBeasts 125 = .ok (.isub, 1) := by decide +kernel
theorem dX1_waterBeasts_126 : decode cX1_waterBeasts 126 = .ok (.putfield 31, 3) := by decide +kernel
theorem dX1_waterBeasts_129 : decode cX1_waterBeasts 129 = .ok (.iload 4, 2) := by decide +kernel
theorem dX1_waterBeasts_131 : decode cX1_waterBeasts 131 = .ok (.iload 8, 2) := by decide +kernel
theorem dX1_waterBeasts_133 : decode cX1_waterBeasts 133 = .ok (.iadd, 1) := by decide +kernel
theorem dX1_waterBeasts_134 : decode cX1_waterBeasts 134 = .ok (.istore 4, 2) := by decide +kernel
theorem dX1_waterBeasts_136 : decode cX1_waterBeasts 136 = .ok (.aload_n 0, 1) := by decide +kernel
theorem dX1_waterBeasts_137 : decode cX1_waterBeasts 137 = .ok (.aload_n 1, 1) := by decide +kernel
theorem dX1_waterBeasts_138 : decode cX1_waterBeasts 138 = .ok (.getfield 113, 3) := by decide +kernel
theorem dX1_waterBeasts_141 : decode cX1_waterBeasts 141 = .ok (.iload 6, 2) := by decide +kernel
theorem dX1_waterBeasts_143 : decode cX1_waterBeasts 143 = .ok (.iaload, 1) := by decide +kernel
theorem dX1_waterBeasts_144 : decode cX1_waterBeasts 144 = .ok (.iload 6, 2) := by decide +kernel
theorem dX1_waterBeasts_146 : decode cX1_waterBeasts 146 = .ok (.iload 8, 2) := by decide +kernel
theorem dX1_waterBeasts_148 : decode cX1_waterBeasts 148 = .ok (.invokevirtual 120, 3) := by decide +kernel
theorem dX1_waterBeasts_151 : decode cX1_waterBeasts 151 = .ok (.iinc 5 1, 3) := by decide +kernel
theorem dX1_waterBeasts_154 : decode cX1_waterBeasts 154 = .ok (.goto (-143), 3) := by decide +kernel
theorem dX1_waterBeasts_157 : decode cX1_waterBeasts 157 = .ok (.iload 4, 2) := by decide +kernel
theorem dX1_waterBeasts_159 : decode cX1_waterBeasts 159 = .ok (.ireturn, 1) := by decide +kernel
theorem dX1_swell_0 : decode cX1_swell 0 = .ok (.aload_n 0, 1) := by decide +kernel
theorem dX1_swell_1 : decode cX1_swell 1 = .ok (.getfield 25, 3) := by decide +kernel
theorem dX1_swell_4 : decode cX1_swell 4 = .ok (.iload_n 2, 1) := by decide +kernel
theorem dX1_swell_5 : decode cX1_swell 5 = .ok (.iaload, 1) := by decide +kernel
theorem dX1_swell_6 : decode cX1_swell 6 = .ok (.ifCond .le 13, 3) := by decide +kernel
theorem dX1_swell_9 : decode cX1_swell 9 = .ok (.aload_n 0, 1) := by decide +kernel
theorem dX1_swell_10 : decode cX1_swell 10 = .ok (.getfield 25, 3) := by decide +kernel
theorem dX1_swell_13 : decode cX1_swell 13 = .ok (.iload_n 2, 1) := by decide +kernel
theorem dX1_swell_14 : decode cX1_swell 14 = .ok (.dup2, 1) := by decide +kernel
theorem dX1_swell_15 : decode cX1_swell 15 = .ok (.iaload, 1) := by decide +kernel
theorem dX1_swell_16 : decode cX1_swell 16 = .ok (.iconst 1, 1) := by decide +kernel
theorem dX1_swell_17 : decode cX1_swell 17 = .ok (.isub, 1) := by decide +kernel
theorem dX1_swell_18 : decode cX1_swell 18 = .ok (.iastore, 1) := by decide +kernel
theorem dX1_swell_19 : decode cX1_swell 19 = .ok (.aload_n 0, 1) := by decide +kernel
theorem dX1_swell_20 : decode cX1_swell 20 = .ok (.getfield 28, 3) := by decide +kernel
theorem dX1_swell_23 : decode cX1_swell 23 = .ok (.iload_n 2, 1) := by decide +kernel
theorem dX1_swell_24 : decode cX1_swell 24 = .ok (.iload_n 3, 1) := by decide +kernel
theorem dX1_swell_25 : decode cX1_swell 25 = .ok (.ifCond .le 14, 3) := by decide +kernel
theorem dX1_swell_28 : decode cX1_swell 28 = .ok (.aload_n 0, 1) := by decide +kernel
theorem dX1_swell_29 : decode cX1_swell 29 = .ok (.getfield 28, 3) := by decide +kernel
theorem dX1_swell_32 : decode cX1_swell 32 = .ok (.iload_n 2, 1) := by decide +kernel
theorem dX1_swell_33 : decode cX1_swell 33 = .ok (.iaload, 1) := by decide +kernel
theorem dX1_swell_34 : decode cX1_swell 34 = .ok (.iload_n 3, 1) := by decide +kernel
theorem dX1_swell_35 : decode cX1_swell 35 = .ok (.iadd, 1) := by decide +kernel
theorem dX1_swell_36 : decode cX1_swell 36 = .ok (.goto 4, 3) := by decide +kernel
theorem dX1_swell_39 : decode cX1_swell 39 = .ok (.iconst 0, 1) := by decide +kernel
theorem dX1_swell_40 : decode cX1_swell 40 = .ok (.iastore, 1) := by decide +kernel
theorem dX1_swell_41 : decode cX1_swell 41 = .ok (.iload_n 1, 1) := by decide +kernel
theorem dX1_swell_42 : decode cX1_swell 42 = .ok (.iconst 3, 1) := by decide +kernel
theorem dX1_swell_43 : decode cX1_swell 43 = .ok (.if_icmp .ne 28, 3) := by decide +kernel
theorem dX1_swell_46 : decode cX1_swell 46 = .ok (.aload_n 0, 1) := by decide +kernel
theorem dX1_swell_47 : decode cX1_swell 47 = .ok (.getfield 28, 3) := by decide +kernel
theorem dX1_swell_50 : decode cX1_swell 50 = .ok (.iload_n 2, 1) := by decide +kernel
theorem dX1_swell_51 : decode cX1_swell 51 = .ok (.iaload, 1) := by decide +kernel
theorem dX1_swell_52 : decode cX1_swell 52 = .ok (.bipush 12, 2) := by decide +kernel
theorem dX1_swell_54 : decode cX1_swell 54 = .ok (.if_icmp .lt 17, 3) := by decide +kernel
theorem dX1_swell_57 : decode cX1_swell 57 = .ok (.aload_n 0, 1) := by decide +kernel
theorem dX1_swell_58 : decode cX1_swell 58 = .ok (.getfield 25, 3) := by decide +kernel
theorem dX1_swell_61 : decode cX1_swell 61 = .ok (.iload_n 2, 1) := by decide +kernel
theorem dX1_swell_62 : decode cX1_swell 62 = .ok (.iconst 5, 1) := by decide +kernel
theorem dX1_swell_63 : decode cX1_swell 63 = .ok (.iastore, 1) := by decide +kernel
theorem dX1_swell_64 : decode cX1_swell 64 = .ok (.aload_n 0, 1) := by decide +kernel
theorem dX1_swell_65 : decode cX1_swell 65 = .ok (.getfield 28, 3) := by decide +kernel
theorem dX1_swell_68 : decode cX1_swell 68 = .ok (.iload_n 2, 1) := by decide +kernel
theorem dX1_swell_69 : decode cX1_swell 69 = .ok (.iconst 0, 1) := by decide +kernel
theorem dX1_swell_70 : decode cX1_swell 70 = .ok (.iastore, 1) := by decide +kernel
theorem dX1_swell_71 : decode cX1_swell 71 = .ok (.return_, 1) := by decide +kernel
theorem dX1_ropeBreaks_0 : decode cX1_ropeBreaks 0 = .ok (.aload_n 0, 1) := by decide +kernel
theorem dX1_ropeBreaks_1 : decode cX1_ropeBreaks 1 = .ok (.aload_n 0, 1) := by decide +kernel
theorem dX1_ropeBreaks_2 : decode cX1_ropeBreaks 2 = .ok (.getfield 15, 3) := by decide +kernel
theorem dX1_ropeBreaks_5 : decode cX1_ropeBreaks 5 = .ok (.ldc 124, 2) := by decide +kernel
theorem dX1_ropeBreaks_7 : decode cX1_ropeBreaks 7 = .ok (.imul, 1) := by decide +kernel
theorem dX1_ropeBreaks_8 : decode cX1_ropeBreaks 8 = .ok (.sipush 12345, 3) := by decide +kernel
theorem dX1_ropeBreaks_11 : decode cX1_ropeBreaks 11 = .ok (.iadd, 1) := by decide +kernel
theorem dX1_ropeBreaks_12 : decode cX1_ropeBreaks 12 = .ok (.ldc 125, 2) := by decide +kernel
theorem dX1_ropeBreaks_14 : decode cX1_ropeBreaks 14 = .ok (.iand, 1) := by decide +kernel
theorem dX1_ropeBreaks_15 : decode cX1_ropeBreaks 15 = .ok (.putfield 15, 3) := by decide +kernel
theorem dX1_ropeBreaks_18 : decode cX1_ropeBreaks 18 = .ok (.aload_n 0, 1) := by decide +kernel
theorem dX1_ropeBreaks_19 : decode cX1_ropeBreaks 19 = .ok (.getfield 15, 3) := by decide +kernel
theorem dX1_ropeBreaks_22 : decode cX1_ropeBreaks 22 = .ok (.ldc 126, 2) := by decide +kernel
theorem dX1_ropeBreaks_24 : decode cX1_ropeBreaks 24 = .ok (.idiv, 1) := by decide +kernel
theorem dX1_ropeBreaks_25 : decode cX1_ropeBreaks 25 = .ok (.bipush 100, 2) := by decide +kernel
theorem dX1_ropeBreaks_27 : decode cX1_ropeBreaks 27 = .ok (.irem, 1) := by decide +kernel
theorem dX1_ropeBreaks_28 : decode cX1_ropeBreaks 28 = .ok (.aload_n 0, 1) := by decide +kernel
theorem dX1_ropeBreaks_29 : decode cX1_ropeBreaks 29 = .ok (.getfield 34, 3) := by decide +kernel
theorem dX1_ropeBreaks_32 : decode cX1_ropeBreaks 32 = .ok (.bipush 10, 2) := by decide +kernel
theorem dX1_ropeBreaks_34 : decode cX1_ropeBreaks 34 = .ok (.idiv, 1) := by decide +kernel
theorem dX1_ropeBreaks_35 : decode cX1_ropeBreaks 35 = .ok (.if_icmp .lt 5, 3) := by decide +kernel
theorem dX1_ropeBreaks_38 : decode cX1_ropeBreaks 38 = .ok (.iconst 0, 1) := by decide +kernel
theorem dX1_ropeBreaks_39 : decode cX1_ropeBreaks 39 = .ok (.ireturn, 1) := by decide +kernel
theorem dX1_ropeBreaks_40 : decode cX1_ropeBreaks 40 = .ok (.aload_n 0, 1) := by decide +kernel
theorem dX1_ropeBreaks_41 : decode cX1_ropeBreaks 41 = .ok (.iconst 3, 1) := by decide +kernel
theorem dX1_ropeBreaks_42 : decode cX1_ropeBreaks 42 = .ok (.putfield 37, 3) := by decide +kernel
theorem dX1_ropeBreaks_45 : decode cX1_ropeBreaks 45 = .ok (.aload_n 0, 1) := by decide +kernel
theorem dX1_ropeBreaks_46 : decode cX1_ropeBreaks 46 = .ok (.iconst 0, 1) := by decide +kernel
theorem dX1_ropeBreaks_47 : decode cX1_ropeBreaks 47 = .ok (.putfield 34, 3) := by decide +kernel
theorem dX1_ropeBreaks_50 : decode cX1_ropeBreaks 50 = .ok (.iconst 1, 1) := by decide +kernel
theorem dX1_ropeBreaks_51 : decode cX1_ropeBreaks 51 = .ok (.ireturn, 1) := by decide +kernel
theorem dX2_init_0 : decode cX2_init 0 = .ok (.aload_n 0, 1) := by decide +kernel
theorem dX2_init_1 : decode cX2_init 1 = .ok (.invokespecial 3, 3) := by decide +kernel
theorem dX2_init_4 : decode cX2_init 4 = .ok (.aload_n 0, 1) := by decide +kernel
theorem dX2_init_5 : decode cX2_init 5 = .ok (.bipush 8, 2) := by decide +kernel
theorem dX2_init_7 : decode cX2_init 7 = .ok (.anewarray 9, 3) := by decide +kernel
theorem dX2_init_10 : decode cX2_init 10 = .ok (.putfield 11, 3) := by decide +kernel
theorem dX2_init_13 : decode cX2_init 13 = .ok (.iconst 0, 1) := by decide +kernel
theorem dX2_init_14 : decode cX2_init 14 = .ok (.istore_n 1, 1) := by decide +kernel
theorem dX2_init_15 : decode cX2_init 15 = .ok (.iload_n 1, 1) := by decide +kernel
theorem dX2_init_16 : decode cX2_init 16 = .ok (.bipush 8, 2) := by decide +kernel
theorem dX2_init_18 : decode cX2_init 18 = .ok (.if_icmp .ge 22, 3) := by decide +kernel
theorem dX2_init_21 : decode cX2_init 21 = .ok (.aload_n 0, 1) := by decide +kernel
theorem dX2_init_22 : decode cX2_init 22 = .ok (.getfield 11, 3) := by decide +kernel
theorem dX2_init_25 : decode cX2_init 25 = .ok (.iload_n 1, 1) := by decide +kernel
theorem dX2_init_26 : decode cX2_init 26 = .ok (.new 9, 3) := by decide +kernel
theorem dX2_init_29 : decode cX2_init 29 = .ok (.dup, 1) := by decide +kernel
theorem dX2_init_30 : decode cX2_init 30 = .ok (.invokespecial 17, 3) := by decide +kernel
theorem dX2_init_33 : decode cX2_init 33 = .ok (.aastore, 1) := by decide +kernel
theorem dX2_init_34 : decode cX2_init 34 = .ok (.iinc 1 1, 3) := by decide +kernel
theorem dX2_init_37 : decode cX2_init 37 = .ok (.goto (-22), 3) := by decide +kernel
theorem dX2_init_40 : decode cX2_init 40 = .ok (.return_, 1) := by decide +kernel
theorem dX2_takeFrom_0 : decode cX2_takeFrom 0 = .ok (.iconst 0, 1) := by decide +kernel
theorem dX2_takeFrom_1 : decode cX2_takeFrom 1 = .ok (.istore_n 2, 1) := by decide +kernel
theorem dX2_takeFrom_2 : decode cX2_takeFrom 2 = .ok (.iload_n 2, 1) := by decide +kernel
theorem dX2_takeFrom_3 : decode cX2_takeFrom 3 = .ok (.bipush 8, 2) := by decide +kernel
theorem dX2_takeFrom_5 : decode cX2_takeFrom 5 = .ok (.if_icmp .ge 24, 3) := by decide +kernel
theorem dX2_takeFrom_8 : decode cX2_takeFrom 8 = .ok (.aload_n 0, 1) := by decide +kernel
theorem dX2_takeFrom_9 : decode cX2_takeFrom 9 = .ok (.getfield 11, 3) := by decide +kernel
theorem dX2_takeFrom_12 : decode cX2_takeFrom 12 = .ok (.iload_n 2, 1) := by decide +kernel
theorem dX2_takeFrom_13 : decode cX2_takeFrom 13 = .ok (.aaload, 1) := by decide +kernel
theorem dX2_takeFrom_14 : decode cX2_takeFrom 14 = .ok (.aload_n 1, 1) := by decide +kernel
theorem dX2_takeFrom_15 : decode cX2_takeFrom 15 = .ok (.getfield 11, 3) := by decide +kernel
theorem dX2_takeFrom_18 : decode cX2_takeFrom 18 = .ok (.iload_n 2, 1) := by decide +kernel
theorem dX2_takeFrom_19 : decode cX2_takeFrom 19 = .ok (.aaload, 1) := by decide +kernel
theorem dX2_takeFrom_20 : decode cX2_takeFrom 20 = .ok (.invokevirtual 18, 3) := by decide +kernel
theorem dX2_takeFrom_23 : decode cX2_takeFrom 23 = .ok (.iinc 2 1, 3) := by decide +kernel
theorem dX2_takeFrom_26 : decode cX2_takeFrom 26 = .ok (.goto (-24), 3) := by decide +kernel
theorem dX2_takeFrom_29 : decode cX2_takeFrom 29 = .ok (.aload_n 0, 1) := by decide +kernel
theorem dX2_takeFrom_30 : decode cX2_takeFrom 30 = .ok (.aload_n 1, 1) := by decide +kernel
theorem dX2_takeFrom_31 : decode cX2_takeFrom 31 = .ok (.getfield 22, 3) := by decide +kernel
theorem dX2_takeFrom_34 : decode cX2_takeFrom 34 = .ok (.putfield 22, 3) := by decide +kernel
theorem dX2_takeFrom_37 : decode cX2_takeFrom 37 = .ok (.aload_n 0, 1) := by decide +kernel
theorem dX2_takeFrom_38 : decode cX2_takeFrom 38 = .ok (.aload_n 1, 1) := by decide +kernel
theorem dX2_takeFrom_39 : decode cX2_takeFrom 39 = .ok (.getfield 26, 3) := by decide +kernel
theorem dX2_takeFrom_42 : decode cX2_takeFrom 42 = .ok (.putfield 26, 3) := by decide +kernel
theorem dX2_takeFrom_45 : decode cX2_takeFrom 45 = .ok (.return_, 1) := by decide +kernel
theorem dX2_forget_0 : decode cX2_forget 0 = .ok (.aload_n 0, 1) := by decide +kernel
theorem dX2_forget_1 : decode cX2_forget 1 = .ok (.iconst 0, 1) := by decide +kernel
theorem dX2_forget_2 : decode cX2_forget 2 = .ok (.putfield 26, 3) := by decide +kernel
theorem dX2_forget_5 : decode cX2_forget 5 = .ok (.return_, 1) := by decide +kernel
theorem dX2_keep_0 : decode cX2_keep 0 = .ok (.aload_n 0, 1) := by decide +kernel
theorem dX2_keep_1 : decode cX2_keep 1 = .ok (.getfield 11, 3) := by decide +kernel
theorem dX2_keep_4 : decode cX2_keep 4 = .ok (.aload_n 0, 1) := by decide +kernel
theorem dX2_keep_5 : decode cX2_keep 5 = .ok (.getfield 22, 3) := by decide +kernel
theorem dX2_keep_8 : decode cX2_keep 8 = .ok (.aaload, 1) := by decide +kernel
theorem dX2_keep_9 : decode cX2_keep 9 = .ok (.aload_n 1, 1) := by decide +kernel
theorem dX2_keep_10 : decode cX2_keep 10 = .ok (.invokevirtual 18, 3) := by decide +kernel
theorem dX2_keep_13 : decode cX2_keep 13 = .ok (.aload_n 0, 1) := by decide +kernel
theorem dX2_keep_14 : decode cX2_keep 14 = .ok (.aload_n 0, 1) := by decide +kernel
theorem dX2_keep_15 : decode cX2_keep 15 = .ok (.getfield 22, 3) := by decide +kernel
theorem dX2_keep_18 : decode cX2_keep 18 = .ok (.iconst 1, 1) := by decide +kernel
theorem dX2_keep_19 : decode cX2_keep 19 = .ok (.iadd, 1) := by decide +kernel
theorem dX2_keep_20 : decode cX2_keep 20 = .ok (.bipush 8, 2) := by decide +kernel
theorem dX2_keep_22 : decode cX2_keep 22 = .ok (.irem, 1) := by decide +kernel
theorem dX2_keep_23 : decode cX2_keep 23 = .ok (.putfield 22, 3) := by decide +kernel
theorem dX2_keep_26 : decode cX2_keep 26 = .ok (.aload_n 0, 1) := by decide +kernel
theorem dX2_keep_27 : decode cX2_keep 27 = .ok (.bipush 8, 2) := by decide +kernel
theorem dX2_keep_29 : decode cX2_keep 29 = .ok (.aload_n 0, 1) := by decide +kernel
theorem dX2_keep_30 : decode cX2_keep 30 = .ok (.getfield 26, 3) := by decide +kernel
theorem dX2_keep_33 : decode cX2_keep 33 = .ok (.iconst 1, 1) := by decide +kernel
theorem dX2_keep_34 : decode cX2_keep 34 = .ok (.iadd, 1) := by decide +kernel
theorem dX2_keep_35 : decode cX2_keep 35 = .ok (.invokestatic 29, 3) := by decide +kernel
theorem dX2_keep_38 : decode cX2_keep 38 = .ok (.putfield 26, 3) := by decide +kernel
theorem dX2_keep_41 : decode cX2_keep 41 = .ok (.return_, 1) := by decide +kernel
theorem dX2_giveBack_0 : decode cX2_giveBack 0 = .ok (.aload_n 0, 1) := by decide +kernel
theorem dX2_giveBack_1 : decode cX2_giveBack 1 = .ok (.getfield 26, 3) := by decide +kernel
theorem dX2_giveBack_4 : decode cX2_giveBack 4 = .ok (.ifCond .ne 5, 3) := by decide +kernel
theorem dX2_giveBack_7 : decode cX2_giveBack 7 = .ok (.iconst 0, 1) := by decide +kernel
theorem dX2_giveBack_8 : decode cX2_giveBack 8 = .ok (.ireturn, 1) := by decide +kernel
theorem dX2_giveBack_9 : decode cX2_giveBack 9 = .ok (.aload_n 0, 1) := by decide +kernel
theorem dX2_giveBack_10 : decode cX2_giveBack 10 = .ok (.aload_n 0, 1) := by decide +kernel
theorem dX2_giveBack_11 : decode cX2_giveBack 11 = .ok (.getfield 22, 3) := by decide +kernel
theorem dX2_giveBack_14 : decode cX2_giveBack 14 = .ok (.bipush 8, 2) := by decide +kernel
theorem dX2_giveBack_16 : decode cX2_giveBack 16 = .ok (.iadd, 1) := by decide +kernel
theorem dX2_giveBack_17 : decode cX2_giveBack 17 = .ok (.iconst 1, 1) := by decide +kernel
theorem dX2_giveBack_18 : decode cX2_giveBack 18 = .ok (.isub, 1) := by decide +kernel
theorem dX2_giveBack_19 : decode cX2_giveBack 19 = .ok (.bipush 8, 2) := by decide +kernel
theorem dX2_giveBack_21 : decode cX2_giveBack 21 = .ok (.irem, 1) := by decide +kernel
theorem dX2_giveBack_22 : decode cX2_giveBack 22 = .ok (.putfield 22, 3) := by decide +kernel
theorem dX2_giveBack_25 : decode cX2_giveBack 25 = .ok (.aload_n 0, 1) := by decide +kernel
theorem dX2_giveBack_26 : decode cX2_giveBack 26 = .ok (.dup, 1) := by decide +kernel
theorem dX2_giveBack_27 : decode cX2_giveBack 27 = .ok (.getfield 26, 3) := by decide +kernel
theorem dX2_giveBack_30 : decode cX2_giveBack 30 = .ok (.iconst 1, 1) := by decide +kernel
theorem dX2_giveBack_31 : decode cX2_giveBack 31 = .ok (.isub, 1) := by decide +kernel
theorem dX2_giveBack_32 : decode cX2_giveBack 32 = .ok (.putfield 26, 3) := by decide +kernel
theorem dX2_giveBack_35 : decode cX2_giveBack 35 = .ok (.aload_n 1, 1) := by decide +kernel
theorem dX2_giveBack_36 : decode cX2_giveBack 36 = .ok (.aload_n 0, 1) := by decide +kernel
theorem dX2_giveBack_37 : decode cX2_giveBack 37 = .ok (.getfield 11, 3) := by decide +kernel
theorem dX2_giveBack_40 : decode cX2_giveBack 40 = .ok (.aload_n 0, 1) := by decide +kernel
theorem dX2_giveBack_41 : decode cX2_giveBack 41 = .ok (.getfield 22, 3) := by decide +kernel
theorem dX2_giveBack_44 : decode cX2_giveBack 44 = .ok (.aaload, 1) := by decide +kernel
theorem dX2_giveBack_45 : decode cX2_giveBack 45 = .ok (.invokevirtual 18, 3) := by decide +kernel
theorem dX2_giveBack_48 : decode cX2_giveBack 48 = .ok (.iconst 1, 1) := by decide +kernel
theorem dX2_giveBack_49 : decode cX2_giveBack 49 = .ok (.ireturn, 1) := by decide +kernel
theorem dX3_init_0 : decode cX3_init 0 = .ok (.aload_n 0, 1) := by decide +kernel
theorem dX3_init_1 : decode cX3_init 1 = .ok (.invokespecial 3, 3) := by decide +kernel
theorem dX3_init_4 : decode cX3_init 4 = .ok (.aload_n 0, 1) := by decide +kernel
theorem dX3_init_5 : decode cX3_init 5 = .ok (.iconst (-1), 1) := by decide +kernel
theorem dX3_init_6 : decode cX3_init 6 = .ok (.putfield 9, 3) := by decide +kernel
theorem dX3_init_9 : decode cX3_init 9 = .ok (.aload_n 0, 1) := by decide +kernel
theorem dX3_init_10 : decode cX3_init 10 = .ok (.bipush 24, 2) := by decide +kernel
theorem dX3_init_12 : decode cX3_init 12 = .ok (.newarray .long, 2) := by decide +kernel
theorem dX3_init_14 : decode cX3_init 14 = .ok (.putfield 15, 3) := by decide +kernel
theorem dX3_init_17 : decode cX3_init 17 = .ok (.return_, 1) := by decide +kernel
theorem dX3_renew_0 : decode cX3_renew 0 = .ok (.aload_n 0, 1) := by decide +kernel
theorem dX3_renew_1 : decode cX3_renew 1 = .ok (.iload_n 1, 1) := by decide +kernel
theorem dX3_renew_2 : decode cX3_renew 2 = .ok (.putfield 9, 3) := by decide +kernel
theorem dX3_renew_5 : decode cX3_renew 5 = .ok (.aload_n 0, 1) := by decide +kernel
theorem dX3_renew_6 : decode cX3_renew 6 = .ok (.iload_n 2, 1) := by decide +kernel
theorem dX3_renew_7 : decode cX3_renew 7 = .ok (.putfield 19, 3) := by decide +kernel
theorem dX3_renew_10 : decode cX3_renew 10 = .ok (.iconst 0, 1) := by decide +kernel
theorem dX3_renew_11 : decode cX3_renew 11 = .ok (.istore_n 3, 1) := by decide +kernel
theorem dX3_renew_12 : decode cX3_renew 12 = .ok (.iload_n 3, 1) := by decide +kernel
theorem dX3_renew_13 : decode cX3_renew 13 = .ok (.bipush 24, 2) := by decide +kernel
theorem dX3_renew_15 : decode cX3_renew 15 = .ok (.if_icmp .ge 16, 3) := by decide +kernel
theorem dX3_renew_18 : decode cX3_renew 18 = .ok (.aload_n 0, 1) := by decide +kernel
theorem dX3_renew_19 : decode cX3_renew 19 = .ok (.getfield 15, 3) := by decide +kernel
theorem dX3_renew_22 : decode cX3_renew 22 = .ok (.iload_n 3, 1) := by decide +kernel
theorem dX3_renew_23 : decode cX3_renew 23 = .ok (.lconst 0, 1) := by decide +kernel
theorem dX3_renew_24 : decode cX3_renew 24 = .ok (.lastore, 1) := by decide +kernel
theorem dX3_renew_25 : decode cX3_renew 25 = .ok (.iinc 3 1, 3) := by decide +kernel
theorem dX3_renew_28 : decode cX3_renew 28 = .ok (.goto (-16), 3) := by decide +kernel
theorem dX3_renew_31 : decode cX3_renew 31 = .ok (.return_, 1) := by decide +kernel
theorem dX3_lacks_0 : decode cX3_lacks 0 = .ok (.iload_n 1, 1) := by decide +kernel
theorem dX3_lacks_1 : decode cX3_lacks 1 = .ok (.ifCond .lt 17, 3) := by decide +kernel
theorem dX3_lacks_4 : decode cX3_lacks 4 = .ok (.iload_n 2, 1) := by decide +kernel
theorem dX3_lacks_5 : decode cX3_lacks 5 = .ok (.ifCond .lt 13, 3) := by decide +kernel
theorem dX3_lacks_8 : decode cX3_lacks 8 = .ok (.iload_n 1, 1) := by decide +kernel
theorem dX3_lacks_9 : decode cX3_lacks 9 = .ok (.aload_n 0, 1) := by decide +kernel
theorem dX3_lacks_10 : decode cX3_lacks 10 = .ok (.getfield 19, 3) := by decide +kernel
theorem dX3_lacks_13 : decode cX3_lacks 13 = .ok (.iload_n 2, 1) := by decide +kernel
theorem dX3_lacks_14 : decode cX3_lacks 14 = .ok (.isub, 1) := by decide +kernel
theorem dX3_lacks_15 : decode cX3_lacks 15 = .ok (.if_icmp .le 7, 3) := by decide +kernel
theorem dX3_lacks_18 : decode cX3_lacks 18 = .ok (.iconst 1, 1) := by decide +kernel
theorem dX3_lacks_19 : decode cX3_lacks 19 = .ok (.goto 4, 3) := by decide +kernel
theorem dX3_lacks_22 : decode cX3_lacks 22 = .ok (.iconst 0, 1) := by decide +kernel
theorem dX3_lacks_23 : decode cX3_lacks 23 = .ok (.ireturn, 1) := by decide +kernel
theorem dX3_refusal_0 : decode cX3_refusal 0 = .ok (.aload_n 0, 1) := by decide +kernel
theorem dX3_refusal_1 : decode cX3_refusal 1 = .ok (.getfield 9, 3) := by decide +kernel
theorem dX3_refusal_4 : decode cX3_refusal 4 = .ok (.iconst (-1), 1) := by decide +kernel
theorem dX3_refusal_5 : decode cX3_refusal 5 = .ok (.if_icmp .ne 6, 3) := by decide +kernel
theorem dX3_refusal_8 : decode cX3_refusal 8 = .ok (.bipush (-11), 2) := by decide +kernel
theorem dX3_refusal_10 : decode cX3_refusal 10 = .ok (.ireturn, 1) := by decide +kernel
theorem dX3_refusal_11 : decode cX3_refusal 11 = .ok (.aload_n 0, 1) := by decide +kernel
theorem dX3_refusal_12 : decode cX3_refusal 12 = .ok (.getfield 9, 3) := by decide +kernel
theorem dX3_refusal_15 : decode cX3_refusal 15 = .ok (.iload_n 1, 1) := by decide +kernel
theorem dX3_refusal_16 : decode cX3_refusal 16 = .ok (.if_icmp .eq 6, 3) := by decide +kernel
theorem dX3_refusal_19 : decode cX3_refusal 19 = .ok (.bipush (-12), 2) := by decide +kernel
theorem dX3_refusal_21 : decode cX3_refusal 21 = .ok (.ireturn, 1) := by decide +kernel
theorem dX3_refusal_22 : decode cX3_refusal 22 = .ok (.aload_n 0, 1) := by decide +kernel
theorem dX3_refusal_23 : decode cX3_refusal 23 = .ok (.iload_n 2, 1) := by decide +kernel
theorem dX3_refusal_24 : decode cX3_refusal 24 = .ok (.iload_n 3, 1) := by decide +kernel
theorem dX3_refusal_25 : decode cX3_refusal 25 = .ok (.invokevirtual 22, 3) := by decide +kernel
theorem dX3_refusal_28 : decode cX3_refusal 28 = .ok (.ifCond .eq 8, 3) := by decide +kernel
theorem dX3_refusal_31 : decode cX3_refusal 31 = .ok (.bipush (-13), 2) := by decide +kernel
theorem dX3_refusal_33 : decode cX3_refusal 33 = .ok (.goto 4, 3) := by decide +kernel
theorem dX3_refusal_36 : decode cX3_refusal 36 = .ok (.iconst 0, 1) := by decide +kernel
theorem dX3_refusal_37 : decode cX3_refusal 37 = .ok (.ireturn, 1) := by decide +kernel
theorem dX3_put_0 : decode cX3_put 0 = .ok (.aload_n 0, 1) := by decide +kernel
theorem dX3_put_1 : decode cX3_put 1 = .ok (.getfield 9, 3) := by decide +kernel
theorem dX3_put_4 : decode cX3_put 4 = .ok (.tableswitch 66 0 2 #[28, 41, 54], 28) := by decide +kernel
theorem dX3_put_32 : decode cX3_put 32 = .ok (.aload_n 0, 1) := by decide +kernel
theorem dX3_put_33 : decode cX3_put 33 = .ok (.getfield 15, 3) := by decide +kernel
theorem dX3_put_36 : decode cX3_put 36 = .ok (.iload_n 1, 1) := by decide +kernel
theorem dX3_put_37 : decode cX3_put 37 = .ok (.lload_n 2, 1) := by decide +kernel
theorem dX3_put_38 : decode cX3_put 38 = .ok (.l2i, 1) := by decide +kernel
theorem dX3_put_39 : decode cX3_put 39 = .ok (.i2b, 1) := by decide +kernel
theorem dX3_put_40 : decode cX3_put 40 = .ok (.i2l, 1) := by decide +kernel
theorem dX3_put_41 : decode cX3_put 41 = .ok (.lastore, 1) := by decide +kernel
theorem dX3_put_42 : decode cX3_put 42 = .ok (.goto 35, 3) := by decide +kernel
theorem dX3_put_45 : decode cX3_put 45 = .ok (.aload_n 0, 1) := by decide +kernel
theorem dX3_put_46 : decode cX3_put 46 = .ok (.getfield 15, 3) := by decide +kernel
theorem dX3_put_49 : decode cX3_put 49 = .ok (.iload_n 1, 1) := by decide +kernel
theorem dX3_put_50 : decode cX3_put 50 = .ok (.lload_n 2, 1) := by decide +kernel
theorem dX3_put_51 : decode cX3_put 51 = .ok (.l2i, 1) := by decide +kernel
theorem dX3_put_52 : decode cX3_put 52 = .ok (.i2s, 1) := by decide +kernel
theorem dX3_put_53 : decode cX3_put 53 = .ok (.i2l, 1) := by decide +kernel
theorem dX3_put_54 : decode cX3_put 54 = .ok (.lastore, 1) := by decide +kernel
theorem dX3_put_55 : decode cX3_put 55 = .ok (.goto 22, 3) := by decide +kernel
theorem dX3_put_58 : decode cX3_put 58 = .ok (.aload_n 0, 1) := by decide +kernel
theorem dX3_put_59 : decode cX3_put 59 = .ok (.getfield 15, 3) := by decide +kernel
theorem dX3_put_62 : decode cX3_put 62 = .ok (.iload_n 1, 1) := by decide +kernel
theorem dX3_put_63 : decode cX3_put 63 = .ok (.lload_n 2, 1) := by decide +kernel
theorem dX3_put_64 : decode cX3_put 64 = .ok (.l2i, 1) := by decide +kernel
theorem dX3_put_65 : decode cX3_put 65 = .ok (.i2l, 1) := by decide +kernel
theorem dX3_put_66 : decode cX3_put 66 = .ok (.lastore, 1) := by decide +kernel
theorem dX3_put_67 : decode cX3_put 67 = .ok (.goto 10, 3) := by decide +kernel
theorem dX3_put_70 : decode cX3_put 70 = .ok (.aload_n 0, 1) := by decide +kernel
theorem dX3_put_71 : decode cX3_put 71 = .ok (.getfield 15, 3) := by decide +kernel
theorem dX3_put_74 : decode cX3_put 74 = .ok (.iload_n 1, 1) := by decide +kernel
theorem dX3_put_75 : decode cX3_put 75 = .ok (.lload_n 2, 1) := by decide +kernel
theorem dX3_put_76 : decode cX3_put 76 = .ok (.lastore, 1) := by decide +kernel
theorem dX3_put_77 : decode cX3_put 77 = .ok (.return_, 1) := by decide +kernel
theorem dX4_init_0 : decode cX4_init 0 = .ok (.aload_n 0, 1) := by decide +kernel
theorem dX4_init_1 : decode cX4_init 1 = .ok (.invokespecial 3, 3) := by decide +kernel
theorem dX4_init_4 : decode cX4_init 4 = .ok (.aload_n 0, 1) := by decide +kernel
theorem dX4_init_5 : decode cX4_init 5 = .ok (.bipush 60, 2) := by decide +kernel
theorem dX4_init_7 : decode cX4_init 7 = .ok (.newarray .int, 2) := by decide +kernel
theorem dX4_init_9 : decode cX4_init 9 = .ok (.putfield 9, 3) := by decide +kernel
theorem dX4_init_12 : decode cX4_init 12 = .ok (.return_, 1) := by decide +kernel
theorem dX4_put_0 : decode cX4_put 0 = .ok (.aload_n 0, 1) := by decide +kernel
theorem dX4_put_1 : decode cX4_put 1 = .ok (.getfield 15, 3) := by decide +kernel
theorem dX4_put_4 : decode cX4_put 4 = .ok (.bipush 60, 2) := by decide +kernel
theorem dX4_put_6 : decode cX4_put 6 = .ok (.if_icmp .lt 5, 3) := by decide +kernel
theorem dX4_put_9 : decode cX4_put 9 = .ok (.iconst 0, 1) := by decide +kernel
theorem dX4_put_10 : decode cX4_put 10 = .ok (.ireturn, 1) := by decide +kernel
theorem dX4_put_11 : decode cX4_put 11 = .ok (.aload_n 0, 1) := by decide +kernel
theorem dX4_put_12 : decode cX4_put 12 = .ok (.getfield 9, 3) := by decide +kernel
theorem dX4_put_15 : decode cX4_put 15 = .ok (.aload_n 0, 1) := by decide +kernel
theorem dX4_put_16 : decode cX4_put 16 = .ok (.getfield 15, 3) := by decide +kernel
theorem dX4_put_19 : decode cX4_put 19 = .ok (.iload_n 1, 1) := by decide +kernel
theorem dX4_put_20 : decode cX4_put 20 = .ok (.iastore, 1) := by decide +kernel
theorem dX4_put_21 : decode cX4_put 21 = .ok (.aload_n 0, 1) := by decide +kernel
theorem dX4_put_22 : decode cX4_put 22 = .ok (.dup, 1) := by decide +kernel
theorem dX4_put_23 : decode cX4_put 23 = .ok (.getfield 15, 3) := by decide +kernel
theorem dX4_put_26 : decode cX4_put 26 = .ok (.iconst 1, 1) := by decide +kernel
theorem dX4_put_27 : decode cX4_put 27 = .ok (.iadd, 1) := by decide +kernel
theorem dX4_put_28 : decode cX4_put 28 = .ok (.putfield 15, 3) := by decide +kernel
theorem dX4_put_31 : decode cX4_put 31 = .ok (.iconst 1, 1) := by decide +kernel
theorem dX4_put_32 : decode cX4_put 32 = .ok (.ireturn, 1) := by decide +kernel
theorem dX4_readInto_0 : decode cX4_readInto 0 = .ok (.aload_n 0, 1) := by decide +kernel
theorem dX4_readInto_1 : decode cX4_readInto 1 = .ok (.iconst 0, 1) := by decide +kernel
theorem dX4_readInto_2 : decode cX4_readInto 2 = .ok (.putfield 19, 3) := by decide +kernel
theorem dX4_readInto_5 : decode cX4_readInto 5 = .ok (.aload_n 1, 1) := by decide +kernel
theorem dX4_readInto_6 : decode cX4_readInto 6 = .ok (.iconst 0, 1) := by decide +kernel
theorem dX4_readInto_7 : decode cX4_readInto 7 = .ok (.putfield 22, 3) := by decide +kernel
theorem dX4_readInto_10 : decode cX4_readInto 10 = .ok (.aload_n 1, 1) := by decide +kernel
theorem dX4_readInto_11 : decode cX4_readInto 11 = .ok (.bipush (-4), 2) := by decide +kernel
theorem dX4_readInto_13 : decode cX4_readInto 13 = .ok (.putfield 27, 3) := by decide +kernel
theorem dX4_readInto_16 : decode cX4_readInto 16 = .ok (.aload_n 0, 1) := by decide +kernel
theorem dX4_readInto_17 : decode cX4_readInto 17 = .ok (.aload_n 1, 1) := by decide +kernel
theorem dX4_readInto_18 : decode cX4_readInto 18 = .ok (.invokevirtual 30, 3) := by decide +kernel
theorem dX4_readInto_21 : decode cX4_readInto 21 = .ok (.ifCond .eq 18, 3) := by decide +kernel
theorem dX4_readInto_24 : decode cX4_readInto 24 = .ok (.aload_n 0, 1) := by decide +kernel
theorem dX4_readInto_25 : decode cX4_readInto 25 = .ok (.aload_n 1, 1) := by decide +kernel
theorem dX4_readInto_26 : decode cX4_readInto 26 = .ok (.invokevirtual 34, 3) := by decide +kernel
theorem dX4_readInto_29 : decode cX4_readInto 29 = .ok (.ifCond .eq 10, 3) := by decide +kernel
theorem dX4_readInto_32 : decode cX4_readInto 32 = .ok (.aload_n 1, 1) := by decide +kernel
theorem dX4_readInto_33 : decode cX4_readInto 33 = .ok (.getfield 22, 3) := by decide +kernel
theorem dX4_readInto_36 : decode cX4_readInto 36 = .ok (.goto 10, 3) := by decide +kernel
theorem dX4_readInto_39 : decode cX4_readInto 39 = .ok (.bipush (-20), 2) := by decide +kernel
theorem dX4_readInto_41 : decode cX4_readInto 41 = .ok (.aload_n 0, 1) := by decide +kernel
theorem dX4_readInto_42 : decode cX4_readInto 42 = .ok (.getfield 19, 3) := by decide +kernel
theorem dX4_readInto_45 : decode cX4_readInto 45 = .ok (.isub, 1) := by decide +kernel
theorem dX4_readInto_46 : decode cX4_readInto 46 = .ok (.ireturn, 1) := by decide +kernel
theorem dX4_readWell_0 : decode cX4_readWell 0 = .ok (.aload_n 0, 1) := by decide +kernel
theorem dX4_readWell_1 : decode cX4_readWell 1 = .ok (.aload_n 0, 1) := by decide +kernel
theorem dX4_readWell_2 : decode cX4_readWell 2 = .ok (.bipush 60, 2) := by decide +kernel
theorem dX4_readWell_4 : decode cX4_readWell 4 = .ok (.invokevirtual 37, 3) := by decide +kernel
theorem dX4_readWell_7 : decode cX4_readWell 7 = .ok (.putfield 41, 3) := by decide +kernel
theorem dX4_readWell_10 : decode cX4_readWell 10 = .ok (.aload_n 0, 1) := by decide +kernel
theorem dX4_readWell_11 : decode cX4_readWell 11 = .ok (.getfield 41, 3) := by decide +kernel
theorem dX4_readWell_14 : decode cX4_readWell 14 = .ok (.ifCond .lt 12, 3) := by decide +kernel
theorem dX4_readWell_17 : decode cX4_readWell 17 = .ok (.aload_n 0, 1) := by decide +kernel
theorem dX4_readWell_18 : decode cX4_readWell 18 = .ok (.bipush 44, 2) := by decide +kernel
theorem dX4_readWell_20 : decode cX4_readWell 20 = .ok (.invokevirtual 44, 3) := by decide +kernel
theorem dX4_readWell_23 : decode cX4_readWell 23 = .ok (.ifCond .ne 5, 3) := by decide +kernel
theorem dX4_readWell_26 : decode cX4_readWell 26 = .ok (.iconst 0, 1) := by decide +kernel
theorem dX4_readWell_27 : decode cX4_readWell 27 = .ok (.ireturn, 1) := by decide +kernel
theorem dX4_readWell_28 : decode cX4_readWell 28 = .ok (.aload_n 1, 1) := by decide +kernel
theorem dX4_readWell_29 : decode cX4_readWell 29 = .ok (.aload_n 0, 1) := by decide +kernel
theorem dX4_readWell_30 : decode cX4_readWell 30 = .ok (.bipush 20, 2) := by decide +kernel
theorem dX4_readWell_32 : decode cX4_readWell 32 = .ok (.invokevirtual 37, 3) := by decide +kernel
theorem dX4_readWell_35 : decode cX4_readWell 35 = .ok (.putfield 48, 3) := by decide +kernel
theorem dX4_readWell_38 : decode cX4_readWell 38 = .ok (.aload_n 1, 1) := by decide +kernel
theorem dX4_readWell_39 : decode cX4_readWell 39 = .ok (.getfield 48, 3) := by decide +kernel
theorem dX4_readWell_42 : decode cX4_readWell 42 = .ok (.ifCond .lt 16, 3) := by decide +kernel
theorem dX4_readWell_45 : decode cX4_readWell 45 = .ok (.aload_n 0, 1) := by decide +kernel
theorem dX4_readWell_46 : decode cX4_readWell 46 = .ok (.bipush 59, 2) := by decide +kernel
theorem dX4_readWell_48 : decode cX4_readWell 48 = .ok (.invokevirtual 44, 3) := by decide +kernel
theorem dX4_readWell_51 : decode cX4_readWell 51 = .ok (.ifCond .eq 7, 3) := by decide +kernel
theorem dX4_readWell_54 : decode cX4_readWell 54 = .ok (.iconst 1, 1) := by decide +kernel
theorem dX4_readWell_55 : decode cX4_readWell 55 = .ok (.goto 4, 3) := by decide +kernel
theorem dX4_readWell_58 : decode cX4_readWell 58 = .ok (.iconst 0, 1) := by decide +kernel
theorem dX4_readWell_59 : decode cX4_readWell 59 = .ok (.ireturn, 1) := by decide +kernel
theorem dX4_readBeasts_0 : decode cX4_readBeasts 0 = .ok (.iconst 1, 1) := by decide +kernel
theorem dX4_readBeasts_1 : decode cX4_readBeasts 1 = .ok (.istore_n 2, 1) := by decide +kernel
theorem dX4_readBeasts_2 : decode cX4_readBeasts 2 = .ok (.iconst 0, 1) := by decide +kernel
theorem dX4_readBeasts_3 : decode cX4_readBeasts 3 = .ok (.istore_n 3, 1) := by decide +kernel
theorem dX4_readBeasts_4 : decode cX4_readBeasts 4 = .ok (.iload_n 3, 1) := by decide +kernel
theorem dX4_readBeasts_5 : decode cX4_readBeasts 5 = .ok (.bipush 7, 2) := by decide +kernel
theorem dX4_readBeasts_7 : decode cX4_readBeasts 7 = .ok (.if_icmp .ge 44, 3) := by decide +kernel
theorem dX4_readBeasts_10 : decode cX4_readBeasts 10 = .ok (.iload_n 2, 1) := by decide +kernel
theorem dX4_readBeasts_11 : decode cX4_readBeasts 11 = .ok (.ifCond .eq 40, 3) := by decide +kernel
theorem dX4_readBeasts_14 : decode cX4_readBeasts 14 = .ok (.aload_n 0, 1) := by decide +kernel
theorem dX4_readBeasts_15 : decode cX4_readBeasts 15 = .ok (.aload_n 1, 1) := by decide +kernel
theorem dX4_readBeasts_16 : decode cX4_readBeasts 16 = .ok (.invokevirtual 51, 3) := by decide +kernel
theorem dX4_readBeasts_19 : decode cX4_readBeasts 19 = .ok (.ifCond .ne 5, 3) := by decide +kernel
theorem dX4_readBeasts_22 : decode cX4_readBeasts 22 = .ok (.iconst 0, 1) := by decide +kernel
theorem dX4_readBeasts_23 : decode cX4_readBeasts 23 = .ok (.ireturn, 1) := by decide +kernel
theorem dX4_readBeasts_24 : decode cX4_readBeasts 24 = .ok (.iload_n 3, 1) := by decide +kernel
theorem dX4_readBeasts_25 : decode cX4_readBeasts 25 = .ok (.bipush 6, 2) := by decide +kernel
theorem dX4_readBeasts_27 : decode cX4_readBeasts 27 = .ok (.if_icmp .ge 16, 3) := by decide +kernel
theorem dX4_readBeasts_30 : decode cX4_readBeasts 30 = .ok (.aload_n 0, 1) := by decide +kernel
theorem dX4_readBeasts_31 : decode cX4_readBeasts 31 = .ok (.bipush 44, 2) := by decide +kernel
theorem dX4_readBeasts_33 : decode cX4_readBeasts 33 = .ok (.invokevirtual 44, 3) := by decide +kernel
theorem dX4_readBeasts_36 : decode cX4_readBeasts 36 = .ok (.ifCond .eq 7, 3) := by decide +kernel
theorem dX4_readBeasts_39 : decode cX4_readBeasts 39 = .ok (.iconst 1, 1) := by decide +kernel
theorem dX4_readBeasts_40 : decode cX4_readBeasts 40 = .ok (.goto 4, 3) := by decide +kernel
theorem dX4_readBeasts_43 : decode cX4_readBeasts 43 = .ok (.iconst 0, 1) := by decide +kernel
theorem dX4_readBeasts_44 : decode cX4_readBeasts 44 = .ok (.istore_n 2, 1) := by decide +kernel
theorem dX4_readBeasts_45 : decode cX4_readBeasts 45 = .ok (.iinc 3 1, 3) := by decide +kernel
theorem dX4_readBeasts_48 : decode cX4_readBeasts 48 = .ok (.goto (-44), 3) := by decide +kernel
theorem dX4_readBeasts_51 : decode cX4_readBeasts 51 = .ok (.aload_n 0, 1) := by decide +kernel
theorem dX4_readBeasts_52 : decode cX4_readBeasts 52 = .ok (.invokevirtual 54, 3) := by decide +kernel
theorem dX4_readBeasts_55 : decode cX4_readBeasts 55 = .ok (.iconst (-1), 1) := by decide +kernel
theorem dX4_readBeasts_56 : decode cX4_readBeasts 56 = .ok (.if_icmp .ne 7, 3) := by decide +kernel
end
section
theorem dX4_readBeasts_59 : decode cX4_readBeasts 59 = .ok (.iconst 1, 1) := by decide +kernel
theorem dX4_readBeasts_60 : decode cX4_readBeasts 60 = .ok (.goto 4, 3) := by decide +kernel
theorem dX4_readBeasts_63 : decode cX4_readBeasts 63 = .ok (.iconst 0, 1) := by decide +kernel
theorem dX4_readBeasts_64 : decode cX4_readBeasts 64 = .ok (.ireturn, 1) := by decide +kernel
theorem dX4_readBeast_0 : decode cX4_readBeast 0 = .ok (.aload_n 0, 1) := by decide +kernel
theorem dX4_readBeast_1 : decode cX4_readBeast 1 = .ok (.aload_n 0, 1) := by decide +kernel
theorem dX4_readBeast_2 : decode cX4_readBeast 2 = .ok (.invokevirtual 54, 3) := by decide +kernel
theorem dX4_readBeast_5 : decode cX4_readBeast 5 = .ok (.invokevirtual 58, 3) := by decide +kernel
theorem dX4_readBeast_8 : decode cX4_readBeast 8 = .ok (.istore_n 2, 1) := by decide +kernel
theorem dX4_readBeast_9 : decode cX4_readBeast 9 = .ok (.iload_n 2, 1) := by decide +kernel
theorem dX4_readBeast_10 : decode cX4_readBeast 10 = .ok (.bipush (-4), 2) := by decide +kernel
theorem dX4_readBeast_12 : decode cX4_readBeast 12 = .ok (.if_icmp .ne 5, 3) := by decide +kernel
theorem dX4_readBeast_15 : decode cX4_readBeast 15 = .ok (.iconst 0, 1) := by decide +kernel
theorem dX4_readBeast_16 : decode cX4_readBeast 16 = .ok (.ireturn, 1) := by decide +kernel
theorem dX4_readBeast_17 : decode cX4_readBeast 17 = .ok (.aload_n 0, 1) := by decide +kernel
theorem dX4_readBeast_18 : decode cX4_readBeast 18 = .ok (.dup, 1) := by decide +kernel
theorem dX4_readBeast_19 : decode cX4_readBeast 19 = .ok (.getfield 19, 3) := by decide +kernel
theorem dX4_readBeast_22 : decode cX4_readBeast 22 = .ok (.iconst 1, 1) := by decide +kernel
theorem dX4_readBeast_23 : decode cX4_readBeast 23 = .ok (.iadd, 1) := by decide +kernel
theorem dX4_readBeast_24 : decode cX4_readBeast 24 = .ok (.putfield 19, 3) := by decide +kernel
theorem dX4_readBeast_27 : decode cX4_readBeast 27 = .ok (.aload_n 0, 1) := by decide +kernel
theorem dX4_readBeast_28 : decode cX4_readBeast 28 = .ok (.invokevirtual 54, 3) := by decide +kernel
theorem dX4_readBeast_31 : decode cX4_readBeast 31 = .ok (.bipush 48, 2) := by decide +kernel
theorem dX4_readBeast_33 : decode cX4_readBeast 33 = .ok (.isub, 1) := by decide +kernel
theorem dX4_readBeast_34 : decode cX4_readBeast 34 = .ok (.istore_n 3, 1) := by decide +kernel
theorem dX4_readBeast_35 : decode cX4_readBeast 35 = .ok (.iload_n 3, 1) := by decide +kernel
theorem dX4_readBeast_36 : decode cX4_readBeast 36 = .ok (.iconst 1, 1) := by decide +kernel
theorem dX4_readBeast_37 : decode cX4_readBeast 37 = .ok (.bipush 9, 2) := by decide +kernel
theorem dX4_readBeast_39 : decode cX4_readBeast 39 = .ok (.invokestatic 61, 3) := by decide +kernel
theorem dX4_readBeast_42 : decode cX4_readBeast 42 = .ok (.ifCond .eq 5, 3) := by decide +kernel
theorem dX4_readBeast_45 : decode cX4_readBeast 45 = .ok (.iconst 0, 1) := by decide +kernel
theorem dX4_readBeast_46 : decode cX4_readBeast 46 = .ok (.ireturn, 1) := by decide +kernel
theorem dX4_readBeast_47 : decode cX4_readBeast 47 = .ok (.aload_n 0, 1) := by decide +kernel
theorem dX4_readBeast_48 : decode cX4_readBeast 48 = .ok (.dup, 1) := by decide +kernel
theorem dX4_readBeast_49 : decode cX4_readBeast 49 = .ok (.getfield 19, 3) := by decide +kernel
theorem dX4_readBeast_52 : decode cX4_readBeast 52 = .ok (.iconst 1, 1) := by decide +kernel
theorem dX4_readBeast_53 : decode cX4_readBeast 53 = .ok (.iadd, 1) := by decide +kernel
theorem dX4_readBeast_54 : decode cX4_readBeast 54 = .ok (.putfield 19, 3) := by decide +kernel
theorem dX4_readBeast_57 : decode cX4_readBeast 57 = .ok (.aload_n 1, 1) := by decide +kernel
theorem dX4_readBeast_58 : decode cX4_readBeast 58 = .ok (.iload_n 2, 1) := by decide +kernel
theorem dX4_readBeast_59 : decode cX4_readBeast 59 = .ok (.iload_n 3, 1) := by decide +kernel
theorem dX4_readBeast_60 : decode cX4_readBeast 60 = .ok (.aload_n 0, 1) := by decide +kernel
theorem dX4_readBeast_61 : decode cX4_readBeast 61 = .ok (.bipush 98, 2) := by decide +kernel
theorem dX4_readBeast_63 : decode cX4_readBeast 63 = .ok (.invokevirtual 44, 3) := by decide +kernel
theorem dX4_readBeast_66 : decode cX4_readBeast 66 = .ok (.ifCond .eq 7, 3) := by decide +kernel
theorem dX4_readBeast_69 : decode cX4_readBeast 69 = .ok (.iconst 1, 1) := by decide +kernel
theorem dX4_readBeast_70 : decode cX4_readBeast 70 = .ok (.goto 4, 3) := by decide +kernel
theorem dX4_readBeast_73 : decode cX4_readBeast 73 = .ok (.iconst 0, 1) := by decide +kernel
theorem dX4_readBeast_74 : decode cX4_readBeast 74 = .ok (.invokevirtual 65, 3) := by decide +kernel
theorem dX4_readBeast_77 : decode cX4_readBeast 77 = .ok (.iconst 1, 1) := by decide +kernel
theorem dX4_readBeast_78 : decode cX4_readBeast 78 = .ok (.ireturn, 1) := by decide +kernel
theorem dX4_kindOf_0 : decode cX4_kindOf 0 = .ok (.iload_n 1, 1) := by decide +kernel
theorem dX4_kindOf_1 : decode cX4_kindOf 1 = .ok (.lookupswitch 51 #[(103, 49), (109, 45), (112, 43), (121, 47)], 43) := by decide +kernel
theorem dX4_kindOf_44 : decode cX4_kindOf 44 = .ok (.iconst 0, 1) := by decide +kernel
theorem dX4_kindOf_45 : decode cX4_kindOf 45 = .ok (.ireturn, 1) := by decide +kernel
theorem dX4_kindOf_46 : decode cX4_kindOf 46 = .ok (.iconst 1, 1) := by decide +kernel
theorem dX4_kindOf_47 : decode cX4_kindOf 47 = .ok (.ireturn, 1) := by decide +kernel
theorem dX4_kindOf_48 : decode cX4_kindOf 48 = .ok (.iconst 2, 1) := by decide +kernel
theorem dX4_kindOf_49 : decode cX4_kindOf 49 = .ok (.ireturn, 1) := by decide +kernel
theorem dX4_kindOf_50 : decode cX4_kindOf 50 = .ok (.iconst 3, 1) := by decide +kernel
theorem dX4_kindOf_51 : decode cX4_kindOf 51 = .ok (.ireturn, 1) := by decide +kernel
theorem dX4_kindOf_52 : decode cX4_kindOf 52 = .ok (.bipush (-4), 2) := by decide +kernel
theorem dX4_kindOf_54 : decode cX4_kindOf 54 = .ok (.ireturn, 1) := by decide +kernel
theorem dX4_readNumber_0 : decode cX4_readNumber 0 = .ok (.aload_n 0, 1) := by decide +kernel
theorem dX4_readNumber_1 : decode cX4_readNumber 1 = .ok (.aload_n 0, 1) := by decide +kernel
theorem dX4_readNumber_2 : decode cX4_readNumber 2 = .ok (.invokevirtual 54, 3) := by decide +kernel
theorem dX4_readNumber_5 : decode cX4_readNumber 5 = .ok (.invokevirtual 69, 3) := by decide +kernel
theorem dX4_readNumber_8 : decode cX4_readNumber 8 = .ok (.ifCond .ne 6, 3) := by decide +kernel
theorem dX4_readNumber_11 : decode cX4_readNumber 11 = .ok (.bipush (-4), 2) := by decide +kernel
theorem dX4_readNumber_13 : decode cX4_readNumber 13 = .ok (.ireturn, 1) := by decide +kernel
theorem dX4_readNumber_14 : decode cX4_readNumber 14 = .ok (.aload_n 0, 1) := by decide +kernel
theorem dX4_readNumber_15 : decode cX4_readNumber 15 = .ok (.getfield 19, 3) := by decide +kernel
theorem dX4_readNumber_18 : decode cX4_readNumber 18 = .ok (.istore_n 2, 1) := by decide +kernel
theorem dX4_readNumber_19 : decode cX4_readNumber 19 = .ok (.aload_n 0, 1) := by decide +kernel
theorem dX4_readNumber_20 : decode cX4_readNumber 20 = .ok (.getfield 9, 3) := by decide +kernel
theorem dX4_readNumber_23 : decode cX4_readNumber 23 = .ok (.aload_n 0, 1) := by decide +kernel
theorem dX4_readNumber_24 : decode cX4_readNumber 24 = .ok (.getfield 19, 3) := by decide +kernel
theorem dX4_readNumber_27 : decode cX4_readNumber 27 = .ok (.iaload, 1) := by decide +kernel
theorem dX4_readNumber_28 : decode cX4_readNumber 28 = .ok (.bipush 48, 2) := by decide +kernel
theorem dX4_readNumber_30 : decode cX4_readNumber 30 = .ok (.isub, 1) := by decide +kernel
theorem dX4_readNumber_31 : decode cX4_readNumber 31 = .ok (.istore_n 3, 1) := by decide +kernel
theorem dX4_readNumber_32 : decode cX4_readNumber 32 = .ok (.aload_n 0, 1) := by decide +kernel
theorem dX4_readNumber_33 : decode cX4_readNumber 33 = .ok (.dup, 1) := by decide +kernel
theorem dX4_readNumber_34 : decode cX4_readNumber 34 = .ok (.getfield 19, 3) := by decide +kernel
theorem dX4_readNumber_37 : decode cX4_readNumber 37 = .ok (.iconst 1, 1) := by decide +kernel
theorem dX4_readNumber_38 : decode cX4_readNumber 38 = .ok (.iadd, 1) := by decide +kernel
theorem dX4_readNumber_39 : decode cX4_readNumber 39 = .ok (.putfield 19, 3) := by decide +kernel
theorem dX4_readNumber_42 : decode cX4_readNumber 42 = .ok (.aload_n 0, 1) := by decide +kernel
theorem dX4_readNumber_43 : decode cX4_readNumber 43 = .ok (.getfield 19, 3) := by decide +kernel
theorem dX4_readNumber_46 : decode cX4_readNumber 46 = .ok (.aload_n 0, 1) := by decide +kernel
theorem dX4_readNumber_47 : decode cX4_readNumber 47 = .ok (.getfield 15, 3) := by decide +kernel
theorem dX4_readNumber_50 : decode cX4_readNumber 50 = .ok (.if_icmp .ge 47, 3) := by decide +kernel
theorem dX4_readNumber_53 : decode cX4_readNumber 53 = .ok (.aload_n 0, 1) := by decide +kernel
theorem dX4_readNumber_54 : decode cX4_readNumber 54 = .ok (.aload_n 0, 1) := by decide +kernel
theorem dX4_readNumber_55 : decode cX4_readNumber 55 = .ok (.getfield 9, 3) := by decide +kernel
theorem dX4_readNumber_58 : decode cX4_readNumber 58 = .ok (.aload_n 0, 1) := by decide +kernel
theorem dX4_readNumber_59 : decode cX4_readNumber 59 = .ok (.getfield 19, 3) := by decide +kernel
theorem dX4_readNumber_62 : decode cX4_readNumber 62 = .ok (.iaload, 1) := by decide +kernel
theorem dX4_readNumber_63 : decode cX4_readNumber 63 = .ok (.invokevirtual 69, 3) := by decide +kernel
theorem dX4_readNumber_66 : decode cX4_readNumber 66 = .ok (.ifCond .eq 31, 3) := by decide +kernel
theorem dX4_readNumber_69 : decode cX4_readNumber 69 = .ok (.bipush 10, 2) := by decide +kernel
theorem dX4_readNumber_71 : decode cX4_readNumber 71 = .ok (.iload_n 3, 1) := by decide +kernel
theorem dX4_readNumber_72 : decode cX4_readNumber 72 = .ok (.imul, 1) := by decide +kernel
theorem dX4_readNumber_73 : decode cX4_readNumber 73 = .ok (.aload_n 0, 1) := by decide +kernel
theorem dX4_readNumber_74 : decode cX4_readNumber 74 = .ok (.getfield 9, 3) := by decide +kernel
theorem dX4_readNumber_77 : decode cX4_readNumber 77 = .ok (.aload_n 0, 1) := by decide +kernel
theorem dX4_readNumber_78 : decode cX4_readNumber 78 = .ok (.getfield 19, 3) := by decide +kernel
theorem dX4_readNumber_81 : decode cX4_readNumber 81 = .ok (.iaload, 1) := by decide +kernel
theorem dX4_readNumber_82 : decode cX4_readNumber 82 = .ok (.iadd, 1) := by decide +kernel
theorem dX4_readNumber_83 : decode cX4_readNumber 83 = .ok (.bipush 48, 2) := by decide +kernel
theorem dX4_readNumber_85 : decode cX4_readNumber 85 = .ok (.isub, 1) := by decide +kernel
theorem dX4_readNumber_86 : decode cX4_readNumber 86 = .ok (.istore_n 3, 1) := by decide +kernel
theorem dX4_readNumber_87 : decode cX4_readNumber 87 = .ok (.aload_n 0, 1) := by decide +kernel
theorem dX4_readNumber_88 : decode cX4_readNumber 88 = .ok (.dup, 1) := by decide +kernel
theorem dX4_readNumber_89 : decode cX4_readNumber 89 = .ok (.getfield 19, 3) := by decide +kernel
theorem dX4_readNumber_92 : decode cX4_readNumber 92 = .ok (.iconst 1, 1) := by decide +kernel
theorem dX4_readNumber_93 : decode cX4_readNumber 93 = .ok (.iadd, 1) := by decide +kernel
theorem dX4_readNumber_94 : decode cX4_readNumber 94 = .ok (.putfield 19, 3) := by decide +kernel
theorem dX4_readNumber_97 : decode cX4_readNumber 97 = .ok (.iload_n 3, 1) := by decide +kernel
theorem dX4_readNumber_98 : decode cX4_readNumber 98 = .ok (.iload_n 1, 1) := by decide +kernel
theorem dX4_readNumber_99 : decode cX4_readNumber 99 = .ok (.if_icmp .le 11, 3) := by decide +kernel
theorem dX4_readNumber_102 : decode cX4_readNumber 102 = .ok (.aload_n 0, 1) := by decide +kernel
theorem dX4_readNumber_103 : decode cX4_readNumber 103 = .ok (.iload_n 2, 1) := by decide +kernel
theorem dX4_readNumber_104 : decode cX4_readNumber 104 = .ok (.putfield 19, 3) := by decide +kernel
theorem dX4_readNumber_107 : decode cX4_readNumber 107 = .ok (.bipush (-4), 2) := by decide +kernel
theorem dX4_readNumber_109 : decode cX4_readNumber 109 = .ok (.ireturn, 1) := by decide +kernel
theorem dX4_readNumber_110 : decode cX4_readNumber 110 = .ok (.iload_n 3, 1) := by decide +kernel
theorem dX4_readNumber_111 : decode cX4_readNumber 111 = .ok (.ireturn, 1) := by decide +kernel
theorem dX4_digit_0 : decode cX4_digit 0 = .ok (.iload_n 1, 1) := by decide +kernel
theorem dX4_digit_1 : decode cX4_digit 1 = .ok (.bipush 48, 2) := by decide +kernel
theorem dX4_digit_3 : decode cX4_digit 3 = .ok (.if_icmp .lt 13, 3) := by decide +kernel
theorem dX4_digit_6 : decode cX4_digit 6 = .ok (.iload_n 1, 1) := by decide +kernel
theorem dX4_digit_7 : decode cX4_digit 7 = .ok (.bipush 57, 2) := by decide +kernel
theorem dX4_digit_9 : decode cX4_digit 9 = .ok (.if_icmp .gt 7, 3) := by decide +kernel
theorem dX4_digit_12 : decode cX4_digit 12 = .ok (.iconst 1, 1) := by decide +kernel
theorem dX4_digit_13 : decode cX4_digit 13 = .ok (.goto 4, 3) := by decide +kernel
theorem dX4_digit_16 : decode cX4_digit 16 = .ok (.iconst 0, 1) := by decide +kernel
theorem dX4_digit_17 : decode cX4_digit 17 = .ok (.ireturn, 1) := by decide +kernel
theorem dX4_pass_0 : decode cX4_pass 0 = .ok (.aload_n 0, 1) := by decide +kernel
theorem dX4_pass_1 : decode cX4_pass 1 = .ok (.invokevirtual 54, 3) := by decide +kernel
theorem dX4_pass_4 : decode cX4_pass 4 = .ok (.iload_n 1, 1) := by decide +kernel
theorem dX4_pass_5 : decode cX4_pass 5 = .ok (.if_icmp .eq 5, 3) := by decide +kernel
theorem dX4_pass_8 : decode cX4_pass 8 = .ok (.iconst 0, 1) := by decide +kernel
theorem dX4_pass_9 : decode cX4_pass 9 = .ok (.ireturn, 1) := by decide +kernel
theorem dX4_pass_10 : decode cX4_pass 10 = .ok (.aload_n 0, 1) := by decide +kernel
theorem dX4_pass_11 : decode cX4_pass 11 = .ok (.dup, 1) := by decide +kernel
theorem dX4_pass_12 : decode cX4_pass 12 = .ok (.getfield 19, 3) := by decide +kernel
theorem dX4_pass_15 : decode cX4_pass 15 = .ok (.iconst 1, 1) := by decide +kernel
theorem dX4_pass_16 : decode cX4_pass 16 = .ok (.iadd, 1) := by decide +kernel
theorem dX4_pass_17 : decode cX4_pass 17 = .ok (.putfield 19, 3) := by decide +kernel
theorem dX4_pass_20 : decode cX4_pass 20 = .ok (.iconst 1, 1) := by decide +kernel
theorem dX4_pass_21 : decode cX4_pass 21 = .ok (.ireturn, 1) := by decide +kernel
theorem dX4_ahead_0 : decode cX4_ahead 0 = .ok (.aload_n 0, 1) := by decide +kernel
theorem dX4_ahead_1 : decode cX4_ahead 1 = .ok (.getfield 19, 3) := by decide +kernel
theorem dX4_ahead_4 : decode cX4_ahead 4 = .ok (.aload_n 0, 1) := by decide +kernel
theorem dX4_ahead_5 : decode cX4_ahead 5 = .ok (.getfield 15, 3) := by decide +kernel
theorem dX4_ahead_8 : decode cX4_ahead 8 = .ok (.if_icmp .ge 30, 3) := by decide +kernel
theorem dX4_ahead_11 : decode cX4_ahead 11 = .ok (.aload_n 0, 1) := by decide +kernel
theorem dX4_ahead_12 : decode cX4_ahead 12 = .ok (.getfield 9, 3) := by decide +kernel
theorem dX4_ahead_15 : decode cX4_ahead 15 = .ok (.aload_n 0, 1) := by decide +kernel
theorem dX4_ahead_16 : decode cX4_ahead 16 = .ok (.getfield 19, 3) := by decide +kernel
theorem dX4_ahead_19 : decode cX4_ahead 19 = .ok (.iaload, 1) := by decide +kernel
theorem dX4_ahead_20 : decode cX4_ahead 20 = .ok (.bipush 32, 2) := by decide +kernel
theorem dX4_ahead_22 : decode cX4_ahead 22 = .ok (.if_icmp .ne 16, 3) := by decide +kernel
theorem dX4_ahead_25 : decode cX4_ahead 25 = .ok (.aload_n 0, 1) := by decide +kernel
theorem dX4_ahead_26 : decode cX4_ahead 26 = .ok (.dup, 1) := by decide +kernel
theorem dX4_ahead_27 : decode cX4_ahead 27 = .ok (.getfield 19, 3) := by decide +kernel
theorem dX4_ahead_30 : decode cX4_ahead 30 = .ok (.iconst 1, 1) := by decide +kernel
theorem dX4_ahead_31 : decode cX4_ahead 31 = .ok (.iadd, 1) := by decide +kernel
theorem dX4_ahead_32 : decode cX4_ahead 32 = .ok (.putfield 19, 3) := by decide +kernel
theorem dX4_ahead_35 : decode cX4_ahead 35 = .ok (.goto (-35), 3) := by decide +kernel
theorem dX4_ahead_38 : decode cX4_ahead 38 = .ok (.aload_n 0, 1) := by decide +kernel
theorem dX4_ahead_39 : decode cX4_ahead 39 = .ok (.getfield 19, 3) := by decide +kernel
theorem dX4_ahead_42 : decode cX4_ahead 42 = .ok (.aload_n 0, 1) := by decide +kernel
theorem dX4_ahead_43 : decode cX4_ahead 43 = .ok (.getfield 15, 3) := by decide +kernel
theorem dX4_ahead_46 : decode cX4_ahead 46 = .ok (.if_icmp .ge 15, 3) := by decide +kernel
theorem dX4_ahead_49 : decode cX4_ahead 49 = .ok (.aload_n 0, 1) := by decide +kernel
theorem dX4_ahead_50 : decode cX4_ahead 50 = .ok (.getfield 9, 3) := by decide +kernel
theorem dX4_ahead_53 : decode cX4_ahead 53 = .ok (.aload_n 0, 1) := by decide +kernel
theorem dX4_ahead_54 : decode cX4_ahead 54 = .ok (.getfield 19, 3) := by decide +kernel
theorem dX4_ahead_57 : decode cX4_ahead 57 = .ok (.iaload, 1) := by decide +kernel
theorem dX4_ahead_58 : decode cX4_ahead 58 = .ok (.goto 4, 3) := by decide +kernel
theorem dX4_ahead_61 : decode cX4_ahead 61 = .ok (.iconst (-1), 1) := by decide +kernel
theorem dX4_ahead_62 : decode cX4_ahead 62 = .ok (.ireturn, 1) := by decide +kernel
theorem dX5_init_0 : decode cX5_init 0 = .ok (.aload_n 0, 1) := by decide +kernel
theorem dX5_init_1 : decode cX5_init 1 = .ok (.invokespecial 1, 3) := by decide +kernel
theorem dX5_init_4 : decode cX5_init 4 = .ok (.aload_n 0, 1) := by decide +kernel
theorem dX5_init_5 : decode cX5_init 5 = .ok (.new 7, 3) := by decide +kernel
theorem dX5_init_8 : decode cX5_init 8 = .ok (.dup, 1) := by decide +kernel
theorem dX5_init_9 : decode cX5_init 9 = .ok (.invokespecial 9, 3) := by decide +kernel
theorem dX5_init_12 : decode cX5_init 12 = .ok (.putfield 10, 3) := by decide +kernel
theorem dX5_init_15 : decode cX5_init 15 = .ok (.aload_n 0, 1) := by decide +kernel
theorem dX5_init_16 : decode cX5_init 16 = .ok (.new 16, 3) := by decide +kernel
theorem dX5_init_19 : decode cX5_init 19 = .ok (.dup, 1) := by decide +kernel
theorem dX5_init_20 : decode cX5_init 20 = .ok (.invokespecial 18, 3) := by decide +kernel
theorem dX5_init_23 : decode cX5_init 23 = .ok (.putfield 19, 3) := by decide +kernel
theorem dX5_init_26 : decode cX5_init 26 = .ok (.aload_n 0, 1) := by decide +kernel
theorem dX5_init_27 : decode cX5_init 27 = .ok (.new 23, 3) := by decide +kernel
theorem dX5_init_30 : decode cX5_init 30 = .ok (.dup, 1) := by decide +kernel
theorem dX5_init_31 : decode cX5_init 31 = .ok (.invokespecial 25, 3) := by decide +kernel
theorem dX5_init_34 : decode cX5_init 34 = .ok (.putfield 26, 3) := by decide +kernel
theorem dX5_init_37 : decode cX5_init 37 = .ok (.aload_n 0, 1) := by decide +kernel
theorem dX5_init_38 : decode cX5_init 38 = .ok (.new 7, 3) := by decide +kernel
theorem dX5_init_41 : decode cX5_init 41 = .ok (.dup, 1) := by decide +kernel
theorem dX5_init_42 : decode cX5_init 42 = .ok (.invokespecial 9, 3) := by decide +kernel
theorem dX5_init_45 : decode cX5_init 45 = .ok (.putfield 30, 3) := by decide +kernel
theorem dX5_init_48 : decode cX5_init 48 = .ok (.aload_n 0, 1) := by decide +kernel
theorem dX5_init_49 : decode cX5_init 49 = .ok (.new 16, 3) := by decide +kernel
theorem dX5_init_52 : decode cX5_init 52 = .ok (.dup, 1) := by decide +kernel
theorem dX5_init_53 : decode cX5_init 53 = .ok (.invokespecial 18, 3) := by decide +kernel
theorem dX5_init_56 : decode cX5_init 56 = .ok (.putfield 33, 3) := by decide +kernel
theorem dX5_init_59 : decode cX5_init 59 = .ok (.aload_n 0, 1) := by decide +kernel
theorem dX5_init_60 : decode cX5_init 60 = .ok (.new 23, 3) := by decide +kernel
theorem dX5_init_63 : decode cX5_init 63 = .ok (.dup, 1) := by decide +kernel
theorem dX5_init_64 : decode cX5_init 64 = .ok (.invokespecial 25, 3) := by decide +kernel
theorem dX5_init_67 : decode cX5_init 67 = .ok (.putfield 36, 3) := by decide +kernel
theorem dX5_init_70 : decode cX5_init 70 = .ok (.aload_n 0, 1) := by decide +kernel
theorem dX5_init_71 : decode cX5_init 71 = .ok (.new 7, 3) := by decide +kernel
theorem dX5_init_74 : decode cX5_init 74 = .ok (.dup, 1) := by decide +kernel
theorem dX5_init_75 : decode cX5_init 75 = .ok (.invokespecial 9, 3) := by decide +kernel
theorem dX5_init_78 : decode cX5_init 78 = .ok (.putfield 39, 3) := by decide +kernel
theorem dX5_init_81 : decode cX5_init 81 = .ok (.aload_n 0, 1) := by decide +kernel
theorem dX5_init_82 : decode cX5_init 82 = .ok (.new 16, 3) := by decide +kernel
theorem dX5_init_85 : decode cX5_init 85 = .ok (.dup, 1) := by decide +kernel
theorem dX5_init_86 : decode cX5_init 86 = .ok (.invokespecial 18, 3) := by decide +kernel
theorem dX5_init_89 : decode cX5_init 89 = .ok (.putfield 42, 3) := by decide +kernel
theorem dX5_init_92 : decode cX5_init 92 = .ok (.aload_n 0, 1) := by decide +kernel
theorem dX5_init_93 : decode cX5_init 93 = .ok (.bipush 7, 2) := by decide +kernel
theorem dX5_init_95 : decode cX5_init 95 = .ok (.newarray .int, 2) := by decide +kernel
theorem dX5_init_97 : decode cX5_init 97 = .ok (.putfield 45, 3) := by decide +kernel
theorem dX5_init_100 : decode cX5_init 100 = .ok (.aload_n 0, 1) := by decide +kernel
theorem dX5_init_101 : decode cX5_init 101 = .ok (.bipush 8, 2) := by decide +kernel
theorem dX5_init_103 : decode cX5_init 103 = .ok (.newarray .int, 2) := by decide +kernel
theorem dX5_init_105 : decode cX5_init 105 = .ok (.putfield 49, 3) := by decide +kernel
theorem dX5_init_108 : decode cX5_init 108 = .ok (.aload_n 0, 1) := by decide +kernel
theorem dX5_init_109 : decode cX5_init 109 = .ok (.bipush 8, 2) := by decide +kernel
theorem dX5_init_111 : decode cX5_init 111 = .ok (.newarray .int, 2) := by decide +kernel
theorem dX5_init_113 : decode cX5_init 113 = .ok (.putfield 52, 3) := by decide +kernel
theorem dX5_init_116 : decode cX5_init 116 = .ok (.aload_n 0, 1) := by decide +kernel
theorem dX5_init_117 : decode cX5_init 117 = .ok (.new 55, 3) := by decide +kernel
theorem dX5_init_120 : decode cX5_init 120 = .ok (.dup, 1) := by decide +kernel
theorem dX5_init_121 : decode cX5_init 121 = .ok (.invokespecial 57, 3) := by decide +kernel
theorem dX5_init_124 : decode cX5_init 124 = .ok (.putfield 58, 3) := by decide +kernel
theorem dX5_init_127 : decode cX5_init 127 = .ok (.aload_n 0, 1) := by decide +kernel
theorem dX5_init_128 : decode cX5_init 128 = .ok (.iconst 4, 1) := by decide +kernel
theorem dX5_init_129 : decode cX5_init 129 = .ok (.anewarray 62, 3) := by decide +kernel
theorem dX5_init_132 : decode cX5_init 132 = .ok (.putfield 64, 3) := by decide +kernel
theorem dX5_init_135 : decode cX5_init 135 = .ok (.iconst 0, 1) := by decide +kernel
theorem dX5_init_136 : decode cX5_init 136 = .ok (.istore_n 1, 1) := by decide +kernel
theorem dX5_init_137 : decode cX5_init 137 = .ok (.iload_n 1, 1) := by decide +kernel
theorem dX5_init_138 : decode cX5_init 138 = .ok (.iconst 4, 1) := by decide +kernel
theorem dX5_init_139 : decode cX5_init 139 = .ok (.if_icmp .ge 22, 3) := by decide +kernel
theorem dX5_init_142 : decode cX5_init 142 = .ok (.aload_n 0, 1) := by decide +kernel
theorem dX5_init_143 : decode cX5_init 143 = .ok (.getfield 64, 3) := by decide +kernel
theorem dX5_init_146 : decode cX5_init 146 = .ok (.iload_n 1, 1) := by decide +kernel
theorem dX5_init_147 : decode cX5_init 147 = .ok (.new 62, 3) := by decide +kernel
theorem dX5_init_150 : decode cX5_init 150 = .ok (.dup, 1) := by decide +kernel
theorem dX5_init_151 : decode cX5_init 151 = .ok (.invokespecial 68, 3) := by decide +kernel
theorem dX5_init_154 : decode cX5_init 154 = .ok (.aastore, 1) := by decide +kernel
theorem dX5_init_155 : decode cX5_init 155 = .ok (.iinc 1 1, 3) := by decide +kernel
theorem dX5_init_158 : decode cX5_init 158 = .ok (.goto (-21), 3) := by decide +kernel
theorem dX5_init_161 : decode cX5_init 161 = .ok (.return_, 1) := by decide +kernel
theorem dX5_beast_0 : decode cX5_beast 0 = .ok (.iload_n 1, 1) := by decide +kernel
theorem dX5_beast_1 : decode cX5_beast 1 = .ok (.iconst 0, 1) := by decide +kernel
theorem dX5_beast_2 : decode cX5_beast 2 = .ok (.iconst 3, 1) := by decide +kernel
theorem dX5_beast_3 : decode cX5_beast 3 = .ok (.invokestatic 69, 3) := by decide +kernel
theorem dX5_beast_6 : decode cX5_beast 6 = .ok (.ifCond .ne 22, 3) := by decide +kernel
theorem dX5_beast_9 : decode cX5_beast 9 = .ok (.iload_n 2, 1) := by decide +kernel
theorem dX5_beast_10 : decode cX5_beast 10 = .ok (.iconst 1, 1) := by decide +kernel
theorem dX5_beast_11 : decode cX5_beast 11 = .ok (.bipush 9, 2) := by decide +kernel
theorem dX5_beast_13 : decode cX5_beast 13 = .ok (.invokestatic 69, 3) := by decide +kernel
theorem dX5_beast_16 : decode cX5_beast 16 = .ok (.ifCond .ne 12, 3) := by decide +kernel
theorem dX5_beast_19 : decode cX5_beast 19 = .ok (.iload_n 3, 1) := by decide +kernel
theorem dX5_beast_20 : decode cX5_beast 20 = .ok (.iconst 0, 1) := by decide +kernel
theorem dX5_beast_21 : decode cX5_beast 21 = .ok (.iconst 1, 1) := by decide +kernel
theorem dX5_beast_22 : decode cX5_beast 22 = .ok (.invokestatic 69, 3) := by decide +kernel
theorem dX5_beast_25 : decode cX5_beast 25 = .ok (.ifCond .eq 5, 3) := by decide +kernel
theorem dX5_beast_28 : decode cX5_beast 28 = .ok (.iconst (-1), 1) := by decide +kernel
theorem dX5_beast_29 : decode cX5_beast 29 = .ok (.ireturn, 1) := by decide +kernel
theorem dX5_beast_30 : decode cX5_beast 30 = .ok (.aload_n 0, 1) := by decide +kernel
theorem dX5_beast_31 : decode cX5_beast 31 = .ok (.getfield 10, 3) := by decide +kernel
theorem dX5_beast_34 : decode cX5_beast 34 = .ok (.getfield 73, 3) := by decide +kernel
theorem dX5_beast_37 : decode cX5_beast 37 = .ok (.bipush 7, 2) := by decide +kernel
theorem dX5_beast_39 : decode cX5_beast 39 = .ok (.if_icmp .lt 6, 3) := by decide +kernel
theorem dX5_beast_42 : decode cX5_beast 42 = .ok (.bipush (-3), 2) := by decide +kernel
theorem dX5_beast_44 : decode cX5_beast 44 = .ok (.ireturn, 1) := by decide +kernel
theorem dX5_beast_45 : decode cX5_beast 45 = .ok (.aload_n 0, 1) := by decide +kernel
theorem dX5_beast_46 : decode cX5_beast 46 = .ok (.getfield 26, 3) := by decide +kernel
theorem dX5_beast_49 : decode cX5_beast 49 = .ok (.invokevirtual 77, 3) := by decide +kernel
theorem dX5_beast_52 : decode cX5_beast 52 = .ok (.aload_n 0, 1) := by decide +kernel
theorem dX5_beast_53 : decode cX5_beast 53 = .ok (.getfield 10, 3) := by decide +kernel
theorem dX5_beast_56 : decode cX5_beast 56 = .ok (.iload_n 1, 1) := by decide +kernel
theorem dX5_beast_57 : decode cX5_beast 57 = .ok (.iload_n 2, 1) := by decide +kernel
theorem dX5_beast_58 : decode cX5_beast 58 = .ok (.iload_n 3, 1) := by decide +kernel
theorem dX5_beast_59 : decode cX5_beast 59 = .ok (.invokevirtual 80, 3) := by decide +kernel
theorem dX5_beast_62 : decode cX5_beast 62 = .ok (.aload_n 0, 1) := by decide +kernel
theorem dX5_beast_63 : decode cX5_beast 63 = .ok (.getfield 10, 3) := by decide +kernel
theorem dX5_beast_66 : decode cX5_beast 66 = .ok (.getfield 73, 3) := by decide +kernel
theorem dX5_beast_69 : decode cX5_beast 69 = .ok (.iconst 1, 1) := by decide +kernel
theorem dX5_beast_70 : decode cX5_beast 70 = .ok (.isub, 1) := by decide +kernel
theorem dX5_beast_71 : decode cX5_beast 71 = .ok (.ireturn, 1) := by decide +kernel
theorem dX5_of_0 : decode cX5_of 0 = .ok (.aload_n 0, 1) := by decide +kernel
theorem dX5_of_1 : decode cX5_of 1 = .ok (.getfield 10, 3) := by decide +kernel
theorem dX5_of_4 : decode cX5_of 4 = .ok (.iload_n 1, 1) := by decide +kernel
theorem dX5_of_5 : decode cX5_of 5 = .ok (.invokevirtual 84, 3) := by decide +kernel
theorem dX5_of_8 : decode cX5_of 8 = .ok (.ifCond .eq 5, 3) := by decide +kernel
theorem dX5_of_11 : decode cX5_of 11 = .ok (.iconst (-1), 1) := by decide +kernel
theorem dX5_of_12 : decode cX5_of 12 = .ok (.ireturn, 1) := by decide +kernel
theorem dX5_of_13 : decode cX5_of 13 = .ok (.iload_n 2, 1) := by decide +kernel
theorem dX5_of_14 : decode cX5_of 14 = .ok (.tableswitch 157 0 8 #[50, 60, 70, 80, 93, 103, 113, 134, 144], 50) := by decide +kernel
theorem dX5_of_64 : decode cX5_of 64 = .ok (.aload_n 0, 1) := by decide +kernel
theorem dX5_of_65 : decode cX5_of 65 = .ok (.getfield 10, 3) := by decide +kernel
theorem dX5_of_68 : decode cX5_of 68 = .ok (.getfield 88, 3) := by decide +kernel
theorem dX5_of_71 : decode cX5_of 71 = .ok (.iload_n 1, 1) := by decide +kernel
theorem dX5_of_72 : decode cX5_of 72 = .ok (.iaload, 1) := by decide +kernel
theorem dX5_of_73 : decode cX5_of 73 = .ok (.ireturn, 1) := by decide +kernel
theorem dX5_of_74 : decode cX5_of 74 = .ok (.aload_n 0, 1) := by decide +kernel
theorem dX5_of_75 : decode cX5_of 75 = .ok (.getfield 10, 3) := by decide +kernel
theorem dX5_of_78 : decode cX5_of 78 = .ok (.getfield 91, 3) := by decide +kernel
theorem dX5_of_81 : decode cX5_of 81 = .ok (.iload_n 1, 1) := by decide +kernel
theorem dX5_of_82 : decode cX5_of 82 = .ok (.iaload, 1) := by decide +kernel
theorem dX5_of_83 : decode cX5_of 83 = .ok (.ireturn, 1) := by decide +kernel
theorem dX5_of_84 : decode cX5_of 84 = .ok (.aload_n 0, 1) := by decide +kernel
theorem dX5_of_85 : decode cX5_of 85 = .ok (.getfield 10, 3) := by decide +kernel
theorem dX5_of_88 : decode cX5_of 88 = .ok (.getfield 94, 3) := by decide +kernel
theorem dX5_of_91 : decode cX5_of 91 = .ok (.iload_n 1, 1) := by decide +kernel
theorem dX5_of_92 : decode cX5_of 92 = .ok (.iaload, 1) := by decide +kernel
theorem dX5_of_93 : decode cX5_of 93 = .ok (.ireturn, 1) := by decide +kernel
theorem dX5_of_94 : decode cX5_of 94 = .ok (.aload_n 0, 1) := by decide +kernel
theorem dX5_of_95 : decode cX5_of 95 = .ok (.getfield 19, 3) := by decide +kernel
theorem dX5_of_98 : decode cX5_of 98 = .ok (.aload_n 0, 1) := by decide +kernel
theorem dX5_of_99 : decode cX5_of 99 = .ok (.getfield 10, 3) := by decide +kernel
theorem dX5_of_102 : decode cX5_of 102 = .ok (.iload_n 1, 1) := by decide +kernel
theorem dX5_of_103 : decode cX5_of 103 = .ok (.invokevirtual 97, 3) := by decide +kernel
theorem dX5_of_106 : decode cX5_of 106 = .ok (.ireturn, 1) := by decide +kernel
theorem dX5_of_107 : decode cX5_of 107 = .ok (.aload_n 0, 1) := by decide +kernel
theorem dX5_of_108 : decode cX5_of 108 = .ok (.getfield 19, 3) := by decide +kernel
theorem dX5_of_111 : decode cX5_of 111 = .ok (.getfield 101, 3) := by decide +kernel
theorem dX5_of_114 : decode cX5_of 114 = .ok (.iload_n 1, 1) := by decide +kernel
theorem dX5_of_115 : decode cX5_of 115 = .ok (.iaload, 1) := by decide +kernel
theorem dX5_of_116 : decode cX5_of 116 = .ok (.ireturn, 1) := by decide +kernel
theorem dX5_of_117 : decode cX5_of 117 = .ok (.aload_n 0, 1) := by decide +kernel
theorem dX5_of_118 : decode cX5_of 118 = .ok (.getfield 19, 3) := by decide +kernel
theorem dX5_of_121 : decode cX5_of 121 = .ok (.getfield 104, 3) := by decide +kernel
theorem dX5_of_124 : decode cX5_of 124 = .ok (.iload_n 1, 1) := by decide +kernel
theorem dX5_of_125 : decode cX5_of 125 = .ok (.iaload, 1) := by decide +kernel
theorem dX5_of_126 : decode cX5_of 126 = .ok (.ireturn, 1) := by decide +kernel
theorem dX5_of_127 : decode cX5_of 127 = .ok (.aload_n 0, 1) := by decide +kernel
theorem dX5_of_128 : decode cX5_of 128 = .ok (.getfield 19, 3) := by decide +kernel
theorem dX5_of_131 : decode cX5_of 131 = .ok (.aload_n 0, 1) := by decide +kernel
theorem dX5_of_132 : decode cX5_of 132 = .ok (.getfield 10, 3) := by decide +kernel
theorem dX5_of_135 : decode cX5_of 135 = .ok (.iload_n 1, 1) := by decide +kernel
theorem dX5_of_136 : decode cX5_of 136 = .ok (.invokevirtual 107, 3) := by decide +kernel
theorem dX5_of_139 : decode cX5_of 139 = .ok (.ifCond .eq 7, 3) := by decide +kernel
theorem dX5_of_142 : decode cX5_of 142 = .ok (.iconst 1, 1) := by decide +kernel
theorem dX5_of_143 : decode cX5_of 143 = .ok (.goto 4, 3) := by decide +kernel
theorem dX5_of_146 : decode cX5_of 146 = .ok (.iconst 0, 1) := by decide +kernel
theorem dX5_of_147 : decode cX5_of 147 = .ok (.ireturn, 1) := by decide +kernel
theorem dX5_of_148 : decode cX5_of 148 = .ok (.aload_n 0, 1) := by decide +kernel
theorem dX5_of_149 : decode cX5_of 149 = .ok (.getfield 19, 3) := by decide +kernel
theorem dX5_of_152 : decode cX5_of 152 = .ok (.getfield 111, 3) := by decide +kernel
theorem dX5_of_155 : decode cX5_of 155 = .ok (.iload_n 1, 1) := by decide +kernel
theorem dX5_of_156 : decode cX5_of 156 = .ok (.iaload, 1) := by decide +kernel
theorem dX5_of_157 : decode cX5_of 157 = .ok (.ireturn, 1) := by decide +kernel
theorem dX5_of_158 : decode cX5_of 158 = .ok (.aload_n 0, 1) := by decide +kernel
theorem dX5_of_159 : decode cX5_of 159 = .ok (.getfield 10, 3) := by decide +kernel
theorem dX5_of_162 : decode cX5_of 162 = .ok (.getfield 88, 3) := by decide +kernel
theorem dX5_of_165 : decode cX5_of 165 = .ok (.iload_n 1, 1) := by decide +kernel
theorem dX5_of_166 : decode cX5_of 166 = .ok (.iaload, 1) := by decide +kernel
theorem dX5_of_167 : decode cX5_of 167 = .ok (.invokestatic 114, 3) := by decide +kernel
theorem dX5_of_170 : decode cX5_of 170 = .ok (.ireturn, 1) := by decide +kernel
theorem dX5_of_171 : decode cX5_of 171 = .ok (.iconst (-1), 1) := by decide +kernel
theorem dX5_of_172 : decode cX5_of 172 = .ok (.ireturn, 1) := by decide +kernel
theorem dX5_well_0 : decode cX5_well 0 = .ok (.iload_n 1, 1) := by decide +kernel
theorem dX5_well_1 : decode cX5_well 1 = .ok (.iconst 0, 1) := by decide +kernel
theorem dX5_well_2 : decode cX5_well 2 = .ok (.getstatic 118, 3) := by decide +kernel
theorem dX5_well_5 : decode cX5_well 5 = .ok (.arraylength, 1) := by decide +kernel
theorem dX5_well_6 : decode cX5_well 6 = .ok (.iconst 1, 1) := by decide +kernel
theorem dX5_well_7 : decode cX5_well 7 = .ok (.isub, 1) := by decide +kernel
theorem dX5_well_8 : decode cX5_well 8 = .ok (.invokestatic 69, 3) := by decide +kernel
theorem dX5_well_11 : decode cX5_well 11 = .ok (.ifCond .ne 20, 3) := by decide +kernel
theorem dX5_well_14 : decode cX5_well 14 = .ok (.iload_n 2, 1) := by decide +kernel
theorem dX5_well_15 : decode cX5_well 15 = .ok (.getstatic 118, 3) := by decide +kernel
theorem dX5_well_18 : decode cX5_well 18 = .ok (.iload_n 1, 1) := by decide +kernel
theorem dX5_well_19 : decode cX5_well 19 = .ok (.iaload, 1) := by decide +kernel
theorem dX5_well_20 : decode cX5_well 20 = .ok (.getstatic 121, 3) := by decide +kernel
theorem dX5_well_23 : decode cX5_well 23 = .ok (.iload_n 1, 1) := by decide +kernel
theorem dX5_well_24 : decode cX5_well 24 = .ok (.iaload, 1) := by decide +kernel
theorem dX5_well_25 : decode cX5_well 25 = .ok (.invokestatic 69, 3) := by decide +kernel
theorem dX5_well_28 : decode cX5_well 28 = .ok (.ifCond .eq 5, 3) := by decide +kernel
theorem dX5_well_31 : decode cX5_well 31 = .ok (.iconst (-1), 1) := by decide +kernel
theorem dX5_well_32 : decode cX5_well 32 = .ok (.ireturn, 1) := by decide +kernel
theorem dX5_well_33 : decode cX5_well 33 = .ok (.aload_n 0, 1) := by decide +kernel
theorem dX5_well_34 : decode cX5_well 34 = .ok (.iload_n 1, 1) := by decide +kernel
theorem dX5_well_35 : decode cX5_well 35 = .ok (.invokevirtual 124, 3) := by decide +kernel
theorem dX5_well_38 : decode cX5_well 38 = .ok (.istore_n 3, 1) := by decide +kernel
theorem dX5_well_39 : decode cX5_well 39 = .ok (.iload_n 1, 1) := by decide +kernel
theorem dX5_well_40 : decode cX5_well 40 = .ok (.tableswitch 106 0 5 #[40, 51, 62, 73, 84, 95], 40) := by decide +kernel
theorem dX5_well_80 : decode cX5_well 80 = .ok (.aload_n 0, 1) := by decide +kernel
theorem dX5_well_81 : decode cX5_well 81 = .ok (.getfield 19, 3) := by decide +kernel
theorem dX5_well_84 : decode cX5_well 84 = .ok (.iload_n 2, 1) := by decide +kernel
theorem dX5_well_85 : decode cX5_well 85 = .ok (.putfield 127, 3) := by decide +kernel
theorem dX5_well_88 : decode cX5_well 88 = .ok (.goto 66, 3) := by decide +kernel
theorem dX5_well_91 : decode cX5_well 91 = .ok (.aload_n 0, 1) := by decide +kernel
theorem dX5_well_92 : decode cX5_well 92 = .ok (.getfield 10, 3) := by decide +kernel
theorem dX5_well_95 : decode cX5_well 95 = .ok (.iload_n 2, 1) := by decide +kernel
theorem dX5_well_96 : decode cX5_well 96 = .ok (.putfield 130, 3) := by decide +kernel
theorem dX5_well_99 : decode cX5_well 99 = .ok (.goto 55, 3) := by decide +kernel
theorem dX5_well_102 : decode cX5_well 102 = .ok (.aload_n 0, 1) := by decide +kernel
theorem dX5_well_103 : decode cX5_well 103 = .ok (.getfield 10, 3) := by decide +kernel
theorem dX5_well_106 : decode cX5_well 106 = .ok (.iload_n 2, 1) := by decide +kernel
theorem dX5_well_107 : decode cX5_well 107 = .ok (.putfield 133, 3) := by decide +kernel
theorem dX5_well_110 : decode cX5_well 110 = .ok (.goto 44, 3) := by decide +kernel
theorem dX5_well_113 : decode cX5_well 113 = .ok (.aload_n 0, 1) := by decide +kernel
theorem dX5_well_114 : decode cX5_well 114 = .ok (.getfield 10, 3) := by decide +kernel
theorem dX5_well_117 : decode cX5_well 117 = .ok (.iload_n 2, 1) := by decide +kernel
theorem dX5_well_118 : decode cX5_well 118 = .ok (.putfield 136, 3) := by decide +kernel
theorem dX5_well_121 : decode cX5_well 121 = .ok (.goto 33, 3) := by decide +kernel
theorem dX5_well_124 : decode cX5_well 124 = .ok (.aload_n 0, 1) := by decide +kernel
theorem dX5_well_125 : decode cX5_well 125 = .ok (.getfield 10, 3) := by decide +kernel
theorem dX5_well_128 : decode cX5_well 128 = .ok (.iload_n 2, 1) := by decide +kernel
theorem dX5_well_129 : decode cX5_well 129 = .ok (.putfield 139, 3) := by decide +kernel
theorem dX5_well_132 : decode cX5_well 132 = .ok (.goto 22, 3) := by decide +kernel
theorem dX5_well_135 : decode cX5_well 135 = .ok (.aload_n 0, 1) := by decide +kernel
theorem dX5_well_136 : decode cX5_well 136 = .ok (.getfield 10, 3) := by decide +kernel
theorem dX5_well_139 : decode cX5_well 139 = .ok (.iload_n 2, 1) := by decide +kernel
theorem dX5_well_140 : decode cX5_well 140 = .ok (.putfield 142, 3) := by decide +kernel
theorem dX5_well_143 : decode cX5_well 143 = .ok (.goto 11, 3) := by decide +kernel
theorem dX5_well_146 : decode cX5_well 146 = .ok (.aload_n 0, 1) := by decide +kernel
theorem dX5_well_147 : decode cX5_well 147 = .ok (.getfield 10, 3) := by decide +kernel
theorem dX5_well_150 : decode cX5_well 150 = .ok (.iload_n 2, 1) := by decide +kernel
theorem dX5_well_151 : decode cX5_well 151 = .ok (.putfield 145, 3) := by decide +kernel
theorem dX5_well_154 : decode cX5_well 154 = .ok (.iload_n 3, 1) := by decide +kernel
theorem dX5_well_155 : decode cX5_well 155 = .ok (.ireturn, 1) := by decide +kernel
theorem dX5_pull_0 : decode cX5_pull 0 = .ok (.iload_n 1, 1) := by decide +kernel
theorem dX5_pull_1 : decode cX5_pull 1 = .ok (.bipush (-4), 2) := by decide +kernel
theorem dX5_pull_3 : decode cX5_pull 3 = .ok (.if_icmp .eq 16, 3) := by decide +kernel
theorem dX5_pull_6 : decode cX5_pull 6 = .ok (.aload_n 0, 1) := by decide +kernel
theorem dX5_pull_7 : decode cX5_pull 7 = .ok (.getfield 10, 3) := by decide +kernel
theorem dX5_pull_10 : decode cX5_pull 10 = .ok (.iload_n 1, 1) := by decide +kernel
theorem dX5_pull_11 : decode cX5_pull 11 = .ok (.invokevirtual 84, 3) := by decide +kernel
theorem dX5_pull_14 : decode cX5_pull 14 = .ok (.ifCond .eq 5, 3) := by decide +kernel
theorem dX5_pull_17 : decode cX5_pull 17 = .ok (.iconst (-1), 1) := by decide +kernel
theorem dX5_pull_18 : decode cX5_pull 18 = .ok (.ireturn, 1) := by decide +kernel
theorem dX5_pull_19 : decode cX5_pull 19 = .ok (.aload_n 0, 1) := by decide +kernel
theorem dX5_pull_20 : decode cX5_pull 20 = .ok (.getfield 10, 3) := by decide +kernel
theorem dX5_pull_23 : decode cX5_pull 23 = .ok (.getfield 148, 3) := by decide +kernel
theorem dX5_pull_26 : decode cX5_pull 26 = .ok (.istore_n 2, 1) := by decide +kernel
theorem dX5_pull_27 : decode cX5_pull 27 = .ok (.aload_n 0, 1) := by decide +kernel
theorem dX5_pull_28 : decode cX5_pull 28 = .ok (.getfield 10, 3) := by decide +kernel
theorem dX5_pull_31 : decode cX5_pull 31 = .ok (.iload_n 1, 1) := by decide +kernel
theorem dX5_pull_32 : decode cX5_pull 32 = .ok (.putfield 148, 3) := by decide +kernel
theorem dX5_pull_35 : decode cX5_pull 35 = .ok (.iload_n 2, 1) := by decide +kernel
theorem dX5_pull_36 : decode cX5_pull 36 = .ok (.ireturn, 1) := by decide +kernel
theorem dX5_turn_0 : decode cX5_turn 0 = .ok (.aload_n 0, 1) := by decide +kernel
theorem dX5_turn_1 : decode cX5_turn 1 = .ok (.getfield 10, 3) := by decide +kernel
theorem dX5_turn_4 : decode cX5_turn 4 = .ok (.iload_n 1, 1) := by decide +kernel
theorem dX5_turn_5 : decode cX5_turn 5 = .ok (.invokevirtual 84, 3) := by decide +kernel
theorem dX5_turn_8 : decode cX5_turn 8 = .ok (.ifCond .eq 5, 3) := by decide +kernel
theorem dX5_turn_11 : decode cX5_turn 11 = .ok (.iconst (-1), 1) := by decide +kernel
theorem dX5_turn_12 : decode cX5_turn 12 = .ok (.ireturn, 1) := by decide +kernel
theorem dX5_turn_13 : decode cX5_turn 13 = .ok (.aload_n 0, 1) := by decide +kernel
theorem dX5_turn_14 : decode cX5_turn 14 = .ok (.getfield 10, 3) := by decide +kernel
theorem dX5_turn_17 : decode cX5_turn 17 = .ok (.invokevirtual 151, 3) := by decide +kernel
theorem dX5_turn_20 : decode cX5_turn 20 = .ok (.aload_n 0, 1) := by decide +kernel
theorem dX5_turn_21 : decode cX5_turn 21 = .ok (.getfield 10, 3) := by decide +kernel
theorem dX5_turn_24 : decode cX5_turn 24 = .ok (.getfield 154, 3) := by decide +kernel
theorem dX5_turn_27 : decode cX5_turn 27 = .ok (.iload_n 1, 1) := by decide +kernel
theorem dX5_turn_28 : decode cX5_turn 28 = .ok (.iaload, 1) := by decide +kernel
theorem dX5_turn_29 : decode cX5_turn 29 = .ok (.ireturn, 1) := by decide +kernel
theorem dX5_type_0 : decode cX5_type 0 = .ok (.iload_n 1, 1) := by decide +kernel
theorem dX5_type_1 : decode cX5_type 1 = .ok (.bipush 32, 2) := by decide +kernel
theorem dX5_type_3 : decode cX5_type 3 = .ok (.bipush 126, 2) := by decide +kernel
theorem dX5_type_5 : decode cX5_type 5 = .ok (.invokestatic 69, 3) := by decide +kernel
theorem dX5_type_8 : decode cX5_type 8 = .ok (.ifCond .eq 5, 3) := by decide +kernel
theorem dX5_type_11 : decode cX5_type 11 = .ok (.iconst (-1), 1) := by decide +kernel
theorem dX5_type_12 : decode cX5_type 12 = .ok (.ireturn, 1) := by decide +kernel
theorem dX5_type_13 : decode cX5_type 13 = .ok (.aload_n 0, 1) := by decide +kernel
theorem dX5_type_14 : decode cX5_type 14 = .ok (.getfield 58, 3) := by decide +kernel
theorem dX5_type_17 : decode cX5_type 17 = .ok (.iload_n 1, 1) := by decide +kernel
theorem dX5_type_18 : decode cX5_type 18 = .ok (.invokevirtual 157, 3) := by decide +kernel
theorem dX5_type_21 : decode cX5_type 21 = .ok (.ifCond .eq 13, 3) := by decide +kernel
theorem dX5_type_24 : decode cX5_type 24 = .ok (.aload_n 0, 1) := by decide +kernel
theorem dX5_type_25 : decode cX5_type 25 = .ok (.getfield 58, 3) := by decide +kernel
theorem dX5_type_28 : decode cX5_type 28 = .ok (.getfield 160, 3) := by decide +kernel
theorem dX5_type_31 : decode cX5_type 31 = .ok (.goto 5, 3) := by decide +kernel
theorem dX5_type_34 : decode cX5_type 34 = .ok (.bipush (-3), 2) := by decide +kernel
theorem dX5_type_36 : decode cX5_type 36 = .ok (.ireturn, 1) := by decide +kernel
theorem dX5_caravan_0 : decode cX5_caravan 0 = .ok (.aload_n 0, 1) := by decide +kernel
theorem dX5_caravan_1 : decode cX5_caravan 1 = .ok (.getfield 39, 3) := by decide +kernel
theorem dX5_caravan_4 : decode cX5_caravan 4 = .ok (.aload_n 0, 1) := by decide +kernel
theorem dX5_caravan_5 : decode cX5_caravan 5 = .ok (.getfield 10, 3) := by decide +kernel
theorem dX5_caravan_8 : decode cX5_caravan 8 = .ok (.invokevirtual 163, 3) := by decide +kernel
theorem dX5_caravan_11 : decode cX5_caravan 11 = .ok (.aload_n 0, 1) := by decide +kernel
theorem dX5_caravan_12 : decode cX5_caravan 12 = .ok (.getfield 58, 3) := by decide +kernel
theorem dX5_caravan_15 : decode cX5_caravan 15 = .ok (.aload_n 0, 1) := by decide +kernel
theorem dX5_caravan_16 : decode cX5_caravan 16 = .ok (.getfield 39, 3) := by decide +kernel
theorem dX5_caravan_19 : decode cX5_caravan 19 = .ok (.invokevirtual 167, 3) := by decide +kernel
theorem dX5_caravan_22 : decode cX5_caravan 22 = .ok (.istore_n 1, 1) := by decide +kernel
theorem dX5_caravan_23 : decode cX5_caravan 23 = .ok (.aload_n 0, 1) := by decide +kernel
theorem dX5_caravan_24 : decode cX5_caravan 24 = .ok (.getfield 58, 3) := by decide +kernel
theorem dX5_caravan_27 : decode cX5_caravan 27 = .ok (.iconst 0, 1) := by decide +kernel
theorem dX5_caravan_28 : decode cX5_caravan 28 = .ok (.putfield 160, 3) := by decide +kernel
theorem dX5_caravan_31 : decode cX5_caravan 31 = .ok (.iload_n 1, 1) := by decide +kernel
theorem dX5_caravan_32 : decode cX5_caravan 32 = .ok (.ifCond .le 35, 3) := by decide +kernel
theorem dX5_caravan_35 : decode cX5_caravan 35 = .ok (.aload_n 0, 1) := by decide +kernel
theorem dX5_caravan_36 : decode cX5_caravan 36 = .ok (.getfield 10, 3) := by decide +kernel
theorem dX5_caravan_39 : decode cX5_caravan 39 = .ok (.aload_n 0, 1) := by decide +kernel
theorem dX5_caravan_40 : decode cX5_caravan 40 = .ok (.getfield 39, 3) := by decide +kernel
theorem dX5_caravan_43 : decode cX5_caravan 43 = .ok (.invokevirtual 163, 3) := by decide +kernel
theorem dX5_caravan_46 : decode cX5_caravan 46 = .ok (.aload_n 0, 1) := by decide +kernel
theorem dX5_caravan_47 : decode cX5_caravan 47 = .ok (.getfield 19, 3) := by decide +kernel
theorem dX5_caravan_50 : decode cX5_caravan 50 = .ok (.aload_n 0, 1) := by decide +kernel
theorem dX5_caravan_51 : decode cX5_caravan 51 = .ok (.getfield 58, 3) := by decide +kernel
theorem dX5_caravan_54 : decode cX5_caravan 54 = .ok (.getfield 171, 3) := by decide +kernel
theorem dX5_caravan_57 : decode cX5_caravan 57 = .ok (.invokevirtual 172, 3) := by decide +kernel
theorem dX5_caravan_60 : decode cX5_caravan 60 = .ok (.aload_n 0, 1) := by decide +kernel
theorem dX5_caravan_61 : decode cX5_caravan 61 = .ok (.getfield 26, 3) := by decide +kernel
theorem dX5_caravan_64 : decode cX5_caravan 64 = .ok (.invokevirtual 77, 3) := by decide +kernel
theorem dX5_caravan_67 : decode cX5_caravan 67 = .ok (.iload_n 1, 1) := by decide +kernel
theorem dX5_caravan_68 : decode cX5_caravan 68 = .ok (.ireturn, 1) := by decide +kernel
theorem dX5_count_0 : decode cX5_count 0 = .ok (.iload_n 1, 1) := by decide +kernel
theorem dX5_count_1 : decode cX5_count 1 = .ok (.tableswitch 172 0 15 #[79, 87, 95, 103, 111, 119, 127, 135, 147, 155, 155, 155, 155, 155, 155, 164], 79) := by decide +kernel
theorem dX5_count_80 : decode cX5_count 80 = .ok (.aload_n 0, 1) := by decide +kernel
theorem dX5_count_81 : decode cX5_count 81 = .ok (.getfield 10, 3) := by decide +kernel
theorem dX5_count_84 : decode cX5_count 84 = .ok (.getfield 73, 3) := by decide +kernel
theorem dX5_count_87 : decode cX5_count 87 = .ok (.ireturn, 1) := by decide +kernel
theorem dX5_count_88 : decode cX5_count 88 = .ok (.aload_n 0, 1) := by decide +kernel
theorem dX5_count_89 : decode cX5_count 89 = .ok (.getfield 19, 3) := by decide +kernel
theorem dX5_count_92 : decode cX5_count 92 = .ok (.getfield 176, 3) := by decide +kernel
theorem dX5_count_95 : decode cX5_count 95 = .ok (.ireturn, 1) := by decide +kernel
theorem dX5_count_96 : decode cX5_count 96 = .ok (.aload_n 0, 1) := by decide +kernel
theorem dX5_count_97 : decode cX5_count 97 = .ok (.getfield 19, 3) := by decide +kernel
theorem dX5_count_100 : decode cX5_count 100 = .ok (.getfield 127, 3) := by decide +kernel
theorem dX5_count_103 : decode cX5_count 103 = .ok (.ireturn, 1) := by decide +kernel
theorem dX5_count_104 : decode cX5_count 104 = .ok (.aload_n 0, 1) := by decide +kernel
theorem dX5_count_105 : decode cX5_count 105 = .ok (.getfield 19, 3) := by decide +kernel
theorem dX5_count_108 : decode cX5_count 108 = .ok (.getfield 179, 3) := by decide +kernel
theorem dX5_count_111 : decode cX5_count 111 = .ok (.ireturn, 1) := by decide +kernel
theorem dX5_count_112 : decode cX5_count 112 = .ok (.aload_n 0, 1) := by decide +kernel
theorem dX5_count_113 : decode cX5_count 113 = .ok (.getfield 19, 3) := by decide +kernel
theorem dX5_count_116 : decode cX5_count 116 = .ok (.getfield 182, 3) := by decide +kernel
theorem dX5_count_119 : decode cX5_count 119 = .ok (.ireturn, 1) := by decide +kernel
theorem dX5_count_120 : decode cX5_count 120 = .ok (.aload_n 0, 1) := by decide +kernel
theorem dX5_count_121 : decode cX5_count 121 = .ok (.getfield 19, 3) := by decide +kernel
theorem dX5_count_124 : decode cX5_count 124 = .ok (.getfield 185, 3) := by decide +kernel
theorem dX5_count_127 : decode cX5_count 127 = .ok (.ireturn, 1) := by decide +kernel
theorem dX5_count_128 : decode cX5_count 128 = .ok (.aload_n 0, 1) := by decide +kernel
theorem dX5_count_129 : decode cX5_count 129 = .ok (.getfield 26, 3) := by decide +kernel
theorem dX5_count_132 : decode cX5_count 132 = .ok (.getfield 188, 3) := by decide +kernel
theorem dX5_count_135 : decode cX5_count 135 = .ok (.ireturn, 1) := by decide +kernel
theorem dX5_count_136 : decode cX5_count 136 = .ok (.aload_n 0, 1) := by decide +kernel
theorem dX5_count_137 : decode cX5_count 137 = .ok (.getfield 19, 3) := by decide +kernel
theorem dX5_count_140 : decode cX5_count 140 = .ok (.aload_n 0, 1) := by decide +kernel
theorem dX5_count_141 : decode cX5_count 141 = .ok (.getfield 10, 3) := by decide +kernel
theorem dX5_count_144 : decode cX5_count 144 = .ok (.invokevirtual 191, 3) := by decide +kernel
theorem dX5_count_147 : decode cX5_count 147 = .ok (.ireturn, 1) := by decide +kernel
theorem dX5_count_148 : decode cX5_count 148 = .ok (.aload_n 0, 1) := by decide +kernel
theorem dX5_count_149 : decode cX5_count 149 = .ok (.getfield 19, 3) := by decide +kernel
theorem dX5_count_152 : decode cX5_count 152 = .ok (.invokevirtual 194, 3) := by decide +kernel
theorem dX5_count_155 : decode cX5_count 155 = .ok (.ireturn, 1) := by decide +kernel
theorem dX5_count_156 : decode cX5_count 156 = .ok (.aload_n 0, 1) := by decide +kernel
theorem dX5_count_157 : decode cX5_count 157 = .ok (.iload_n 1, 1) := by decide +kernel
theorem dX5_count_158 : decode cX5_count 158 = .ok (.bipush 8, 2) := by decide +kernel
theorem dX5_count_160 : decode cX5_count 160 = .ok (.isub, 1) := by decide +kernel
theorem dX5_count_161 : decode cX5_count 161 = .ok (.invokevirtual 124, 3) := by decide +kernel
theorem dX5_count_164 : decode cX5_count 164 = .ok (.ireturn, 1) := by decide +kernel
theorem dX5_count_165 : decode cX5_count 165 = .ok (.aload_n 0, 1) := by decide +kernel
theorem dX5_count_166 : decode cX5_count 166 = .ok (.getfield 10, 3) := by decide +kernel
theorem dX5_count_169 : decode cX5_count 169 = .ok (.getfield 148, 3) := by decide +kernel
theorem dX5_count_172 : decode cX5_count 172 = .ok (.ireturn, 1) := by decide +kernel
theorem dX5_count_173 : decode cX5_count 173 = .ok (.iconst (-1), 1) := by decide +kernel
theorem dX5_count_174 : decode cX5_count 174 = .ok (.ireturn, 1) := by decide +kernel
theorem dX5_measure_0 : decode cX5_measure 0 = .ok (.iload_n 1, 1) := by decide +kernel
theorem dX5_measure_1 : decode cX5_measure 1 = .ok (.tableswitch 87 0 5 #[39, 47, 55, 63, 71, 79], 39) := by decide +kernel
theorem dX5_measure_40 : decode cX5_measure 40 = .ok (.aload_n 0, 1) := by decide +kernel
theorem dX5_measure_41 : decode cX5_measure 41 = .ok (.getfield 19, 3) := by decide +kernel
theorem dX5_measure_44 : decode cX5_measure 44 = .ok (.getfield 127, 3) := by decide +kernel
theorem dX5_measure_47 : decode cX5_measure 47 = .ok (.ireturn, 1) := by decide +kernel
theorem dX5_measure_48 : decode cX5_measure 48 = .ok (.aload_n 0, 1) := by decide +kernel
theorem dX5_measure_49 : decode cX5_measure 49 = .ok (.getfield 10, 3) := by decide +kernel
theorem dX5_measure_52 : decode cX5_measure 52 = .ok (.getfield 130, 3) := by decide +kernel
theorem dX5_measure_55 : decode cX5_measure 55 = .ok (.ireturn, 1) := by decide +kernel
theorem dX5_measure_56 : decode cX5_measure 56 = .ok (.aload_n 0, 1) := by decide +kernel
theorem dX5_measure_57 : decode cX5_measure 57 = .ok (.getfield 10, 3) := by decide +kernel
theorem dX5_measure_60 : decode cX5_measure 60 = .ok (.getfield 133, 3) := by decide +kernel
theorem dX5_measure_63 : decode cX5_measure 63 = .ok (.ireturn, 1) := by decide +kernel
theorem dX5_measure_64 : decode cX5_measure 64 = .ok (.aload_n 0, 1) := by decide +kernel
theorem dX5_measure_65 : decode cX5_measure 65 = .ok (.getfield 10, 3) := by decide +kernel
theorem dX5_measure_68 : decode cX5_measure 68 = .ok (.getfield 136, 3) := by decide +kernel
theorem dX5_measure_71 : decode cX5_measure 71 = .ok (.ireturn, 1) := by decide +kernel
theorem dX5_measure_72 : decode cX5_measure 72 = .ok (.aload_n 0, 1) := by decide +kernel
theorem dX5_measure_73 : decode cX5_measure 73 = .ok (.getfield 10, 3) := by decide +kernel
theorem dX5_measure_76 : decode cX5_measure 76 = .ok (.getfield 139, 3) := by decide +kernel
theorem dX5_measure_79 : decode cX5_measure 79 = .ok (.ireturn, 1) := by decide +kernel
theorem dX5_measure_80 : decode cX5_measure 80 = .ok (.aload_n 0, 1) := by decide +kernel
theorem dX5_measure_81 : decode cX5_measure 81 = .ok (.getfield 10, 3) := by decide +kernel
theorem dX5_measure_84 : decode cX5_measure 84 = .ok (.getfield 142, 3) := by decide +kernel
theorem dX5_measure_87 : decode cX5_measure 87 = .ok (.ireturn, 1) := by decide +kernel
theorem dX5_measure_88 : decode cX5_measure 88 = .ok (.aload_n 0, 1) := by decide +kernel
theorem dX5_measure_89 : decode cX5_measure 89 = .ok (.getfield 10, 3) := by decide +kernel
theorem dX5_measure_92 : decode cX5_measure 92 = .ok (.getfield 145, 3) := by decide +kernel
theorem dX5_measure_95 : decode cX5_measure 95 = .ok (.ireturn, 1) := by decide +kernel
theorem dX5_minutes_0 : decode cX5_minutes 0 = .ok (.aload_n 0, 1) := by decide +kernel
theorem dX5_minutes_1 : decode cX5_minutes 1 = .ok (.iload_n 1, 1) := by decide +kernel
theorem dX5_minutes_2 : decode cX5_minutes 2 = .ok (.invokevirtual 198, 3) := by decide +kernel
theorem dX5_minutes_5 : decode cX5_minutes 5 = .ok (.istore_n 2, 1) := by decide +kernel
theorem dX5_minutes_6 : decode cX5_minutes 6 = .ok (.iload_n 2, 1) := by decide +kernel
theorem dX5_minutes_7 : decode cX5_minutes 7 = .ok (.ifCond .eq 5, 3) := by decide +kernel
theorem dX5_minutes_10 : decode cX5_minutes 10 = .ok (.iload_n 2, 1) := by decide +kernel
theorem dX5_minutes_11 : decode cX5_minutes 11 = .ok (.ireturn, 1) := by decide +kernel
theorem dX5_minutes_12 : decode cX5_minutes 12 = .ok (.aload_n 0, 1) := by decide +kernel
theorem dX5_minutes_13 : decode cX5_minutes 13 = .ok (.getfield 10, 3) := by decide +kernel
theorem dX5_minutes_16 : decode cX5_minutes 16 = .ok (.invokevirtual 151, 3) := by decide +kernel
theorem dX5_minutes_19 : decode cX5_minutes 19 = .ok (.aload_n 0, 1) := by decide +kernel
theorem dX5_minutes_20 : decode cX5_minutes 20 = .ok (.getfield 19, 3) := by decide +kernel
theorem dX5_minutes_23 : decode cX5_minutes 23 = .ok (.invokevirtual 194, 3) := by decide +kernel
theorem dX5_minutes_26 : decode cX5_minutes 26 = .ok (.istore_n 3, 1) := by decide +kernel
theorem dX5_minutes_27 : decode cX5_minutes 27 = .ok (.iconst 0, 1) := by decide +kernel
theorem dX5_minutes_28 : decode cX5_minutes 28 = .ok (.istore 4, 2) := by decide +kernel
theorem dX5_minutes_30 : decode cX5_minutes 30 = .ok (.iload 4, 2) := by decide +kernel
theorem dX5_minutes_32 : decode cX5_minutes 32 = .ok (.iload_n 1, 1) := by decide +kernel
theorem dX5_minutes_33 : decode cX5_minutes 33 = .ok (.if_icmp .ge 34, 3) := by decide +kernel
theorem dX5_minutes_36 : decode cX5_minutes 36 = .ok (.aload_n 0, 1) := by decide +kernel
theorem dX5_minutes_37 : decode cX5_minutes 37 = .ok (.getfield 26, 3) := by decide +kernel
theorem dX5_minutes_40 : decode cX5_minutes 40 = .ok (.aload_n 0, 1) := by decide +kernel
theorem dX5_minutes_41 : decode cX5_minutes 41 = .ok (.getfield 19, 3) := by decide +kernel
theorem dX5_minutes_44 : decode cX5_minutes 44 = .ok (.invokevirtual 201, 3) := by decide +kernel
theorem dX5_minutes_47 : decode cX5_minutes 47 = .ok (.aload_n 0, 1) := by decide +kernel
theorem dX5_minutes_48 : decode cX5_minutes 48 = .ok (.getfield 19, 3) := by decide +kernel
theorem dX5_minutes_51 : decode cX5_minutes 51 = .ok (.aload_n 0, 1) := by decide +kernel
theorem dX5_minutes_52 : decode cX5_minutes 52 = .ok (.getfield 10, 3) := by decide +kernel
theorem dX5_minutes_55 : decode cX5_minutes 55 = .ok (.bipush 127, 2) := by decide +kernel
theorem dX5_minutes_57 : decode cX5_minutes 57 = .ok (.invokevirtual 205, 3) := by decide +kernel
theorem dX5_minutes_60 : decode cX5_minutes 60 = .ok (.pop, 1) := by decide +kernel
theorem dX5_minutes_61 : decode cX5_minutes 61 = .ok (.iinc 4 1, 3) := by decide +kernel
theorem dX5_minutes_64 : decode cX5_minutes 64 = .ok (.goto (-34), 3) := by decide +kernel
theorem dX5_minutes_67 : decode cX5_minutes 67 = .ok (.aload_n 0, 1) := by decide +kernel
theorem dX5_minutes_68 : decode cX5_minutes 68 = .ok (.getfield 19, 3) := by decide +kernel
theorem dX5_minutes_71 : decode cX5_minutes 71 = .ok (.invokevirtual 194, 3) := by decide +kernel
theorem dX5_minutes_74 : decode cX5_minutes 74 = .ok (.iload_n 3, 1) := by decide +kernel
theorem dX5_minutes_75 : decode cX5_minutes 75 = .ok (.isub, 1) := by decide +kernel
theorem dX5_minutes_76 : decode cX5_minutes 76 = .ok (.ireturn, 1) := by decide +kernel
theorem dX5_drift_0 : decode cX5_drift 0 = .ok (.aload_n 0, 1) := by decide +kernel
theorem dX5_drift_1 : decode cX5_drift 1 = .ok (.iload_n 1, 1) := by decide +kernel
theorem dX5_drift_2 : decode cX5_drift 2 = .ok (.invokevirtual 198, 3) := by decide +kernel
theorem dX5_drift_5 : decode cX5_drift 5 = .ok (.istore_n 2, 1) := by decide +kernel
theorem dX5_drift_6 : decode cX5_drift 6 = .ok (.iload_n 2, 1) := by decide +kernel
theorem dX5_drift_7 : decode cX5_drift 7 = .ok (.ifCond .eq 5, 3) := by decide +kernel
theorem dX5_drift_10 : decode cX5_drift 10 = .ok (.iload_n 2, 1) := by decide +kernel
theorem dX5_drift_11 : decode cX5_drift 11 = .ok (.ireturn, 1) := by decide +kernel
theorem dX5_drift_12 : decode cX5_drift 12 = .ok (.aload_n 0, 1) := by decide +kernel
theorem dX5_drift_13 : decode cX5_drift 13 = .ok (.getfield 10, 3) := by decide +kernel
theorem dX5_drift_16 : decode cX5_drift 16 = .ok (.invokevirtual 151, 3) := by decide +kernel
theorem dX5_drift_19 : decode cX5_drift 19 = .ok (.iconst 0, 1) := by decide +kernel
theorem dX5_drift_20 : decode cX5_drift 20 = .ok (.istore_n 3, 1) := by decide +kernel
theorem dX5_drift_21 : decode cX5_drift 21 = .ok (.iconst 0, 1) := by decide +kernel
theorem dX5_drift_22 : decode cX5_drift 22 = .ok (.istore 4, 2) := by decide +kernel
theorem dX5_drift_24 : decode cX5_drift 24 = .ok (.iload 4, 2) := by decide +kernel
theorem dX5_drift_26 : decode cX5_drift 26 = .ok (.iload_n 1, 1) := by decide +kernel
theorem dX5_drift_27 : decode cX5_drift 27 = .ok (.if_icmp .ge 68, 3) := by decide +kernel
theorem dX5_drift_30 : decode cX5_drift 30 = .ok (.aload_n 0, 1) := by decide +kernel
theorem dX5_drift_31 : decode cX5_drift 31 = .ok (.getfield 26, 3) := by decide +kernel
theorem dX5_drift_34 : decode cX5_drift 34 = .ok (.aload_n 0, 1) := by decide +kernel
theorem dX5_drift_35 : decode cX5_drift 35 = .ok (.getfield 19, 3) := by decide +kernel
theorem dX5_drift_38 : decode cX5_drift 38 = .ok (.invokevirtual 201, 3) := by decide +kernel
theorem dX5_drift_41 : decode cX5_drift 41 = .ok (.aload_n 0, 1) := by decide +kernel
theorem dX5_drift_42 : decode cX5_drift 42 = .ok (.getfield 19, 3) := by decide +kernel
theorem dX5_drift_45 : decode cX5_drift 45 = .ok (.getfield 182, 3) := by decide +kernel
theorem dX5_drift_48 : decode cX5_drift 48 = .ok (.istore 5, 2) := by decide +kernel
theorem dX5_drift_50 : decode cX5_drift 50 = .ok (.aload_n 0, 1) := by decide +kernel
theorem dX5_drift_51 : decode cX5_drift 51 = .ok (.getfield 19, 3) := by decide +kernel
theorem dX5_drift_54 : decode cX5_drift 54 = .ok (.aload_n 0, 1) := by decide +kernel
theorem dX5_drift_55 : decode cX5_drift 55 = .ok (.getfield 10, 3) := by decide +kernel
theorem dX5_drift_58 : decode cX5_drift 58 = .ok (.bipush 127, 2) := by decide +kernel
theorem dX5_drift_60 : decode cX5_drift 60 = .ok (.invokevirtual 205, 3) := by decide +kernel
theorem dX5_drift_63 : decode cX5_drift 63 = .ok (.pop, 1) := by decide +kernel
theorem dX5_drift_64 : decode cX5_drift 64 = .ok (.aload_n 0, 1) := by decide +kernel
theorem dX5_drift_65 : decode cX5_drift 65 = .ok (.getfield 19, 3) := by decide +kernel
theorem dX5_drift_68 : decode cX5_drift 68 = .ok (.getfield 182, 3) := by decide +kernel
theorem dX5_drift_71 : decode cX5_drift 71 = .ok (.iload 5, 2) := by decide +kernel
theorem dX5_drift_73 : decode cX5_drift 73 = .ok (.if_icmp .le 16, 3) := by decide +kernel
theorem dX5_drift_76 : decode cX5_drift 76 = .ok (.aload_n 0, 1) := by decide +kernel
theorem dX5_drift_77 : decode cX5_drift 77 = .ok (.getfield 19, 3) := by decide +kernel
theorem dX5_drift_80 : decode cX5_drift 80 = .ok (.invokevirtual 208, 3) := by decide +kernel
theorem dX5_drift_83 : decode cX5_drift 83 = .ok (.ifCond .eq 6, 3) := by decide +kernel
theorem dX5_drift_86 : decode cX5_drift 86 = .ok (.iinc 3 1, 3) := by decide +kernel
theorem dX5_drift_89 : decode cX5_drift 89 = .ok (.iinc 4 1, 3) := by decide +kernel
theorem dX5_drift_92 : decode cX5_drift 92 = .ok (.goto (-68), 3) := by decide +kernel
theorem dX5_drift_95 : decode cX5_drift 95 = .ok (.iload_n 3, 1) := by decide +kernel
theorem dX5_drift_96 : decode cX5_drift 96 = .ok (.ireturn, 1) := by decide +kernel
theorem dX5_refusal_0 : decode cX5_refusal 0 = .ok (.iload_n 1, 1) := by decide +kernel
theorem dX5_refusal_1 : decode cX5_refusal 1 = .ok (.iconst 1, 1) := by decide +kernel
theorem dX5_refusal_2 : decode cX5_refusal 2 = .ok (.bipush 60, 2) := by decide +kernel
theorem dX5_refusal_4 : decode cX5_refusal 4 = .ok (.invokestatic 69, 3) := by decide +kernel
theorem dX5_refusal_7 : decode cX5_refusal 7 = .ok (.ifCond .eq 5, 3) := by decide +kernel
theorem dX5_refusal_10 : decode cX5_refusal 10 = .ok (.iconst (-1), 1) := by decide +kernel
theorem dX5_refusal_11 : decode cX5_refusal 11 = .ok (.ireturn, 1) := by decide +kernel
theorem dX5_refusal_12 : decode cX5_refusal 12 = .ok (.aload_n 0, 1) := by decide +kernel
theorem dX5_refusal_13 : decode cX5_refusal 13 = .ok (.getfield 19, 3) := by decide +kernel
theorem dX5_refusal_16 : decode cX5_refusal 16 = .ok (.getfield 176, 3) := by decide +kernel
theorem dX5_refusal_19 : decode cX5_refusal 19 = .ok (.iload_n 1, 1) := by decide +kernel
theorem dX5_refusal_20 : decode cX5_refusal 20 = .ok (.iadd, 1) := by decide +kernel
theorem dX5_refusal_21 : decode cX5_refusal 21 = .ok (.sipush 9999, 3) := by decide +kernel
theorem dX5_refusal_24 : decode cX5_refusal 24 = .ok (.if_icmp .le 8, 3) := by decide +kernel
theorem dX5_refusal_27 : decode cX5_refusal 27 = .ok (.bipush (-3), 2) := by decide +kernel
theorem dX5_refusal_29 : decode cX5_refusal 29 = .ok (.goto 4, 3) := by decide +kernel
theorem dX5_refusal_32 : decode cX5_refusal 32 = .ok (.iconst 0, 1) := by decide +kernel
theorem dX5_refusal_33 : decode cX5_refusal 33 = .ok (.ireturn, 1) := by decide +kernel
theorem dX5_undo_0 : decode cX5_undo 0 = .ok (.aload_n 0, 1) := by decide +kernel
theorem dX5_undo_1 : decode cX5_undo 1 = .ok (.getfield 26, 3) := by decide +kernel
theorem dX5_undo_4 : decode cX5_undo 4 = .ok (.aload_n 0, 1) := by decide +kernel
theorem dX5_undo_5 : decode cX5_undo 5 = .ok (.getfield 19, 3) := by decide +kernel
theorem dX5_undo_8 : decode cX5_undo 8 = .ok (.invokevirtual 212, 3) := by decide +kernel
theorem dX5_undo_11 : decode cX5_undo 11 = .ok (.ifCond .eq 13, 3) := by decide +kernel
theorem dX5_undo_14 : decode cX5_undo 14 = .ok (.aload_n 0, 1) := by decide +kernel
theorem dX5_undo_15 : decode cX5_undo 15 = .ok (.getfield 26, 3) := by decide +kernel
theorem dX5_undo_18 : decode cX5_undo 18 = .ok (.getfield 188, 3) := by decide +kernel
theorem dX5_undo_21 : decode cX5_undo 21 = .ok (.goto 5, 3) := by decide +kernel
theorem dX5_undo_24 : decode cX5_undo 24 = .ok (.bipush (-4), 2) := by decide +kernel
theorem dX5_undo_26 : decode cX5_undo 26 = .ok (.ireturn, 1) := by decide +kernel
theorem dX5_seed_0 : decode cX5_seed 0 = .ok (.iload_n 1, 1) := by decide +kernel
theorem dX5_seed_1 : decode cX5_seed 1 = .ok (.ifCond .ge 5, 3) := by decide +kernel
theorem dX5_seed_4 : decode cX5_seed 4 = .ok (.iconst (-1), 1) := by decide +kernel
theorem dX5_seed_5 : decode cX5_seed 5 = .ok (.ireturn, 1) := by decide +kernel
theorem dX5_seed_6 : decode cX5_seed 6 = .ok (.aload_n 0, 1) := by decide +kernel
theorem dX5_seed_7 : decode cX5_seed 7 = .ok (.getfield 19, 3) := by decide +kernel
theorem dX5_seed_10 : decode cX5_seed 10 = .ok (.getfield 216, 3) := by decide +kernel
theorem dX5_seed_13 : decode cX5_seed 13 = .ok (.istore_n 2, 1) := by decide +kernel
theorem dX5_seed_14 : decode cX5_seed 14 = .ok (.aload_n 0, 1) := by decide +kernel
theorem dX5_seed_15 : decode cX5_seed 15 = .ok (.getfield 19, 3) := by decide +kernel
theorem dX5_seed_18 : decode cX5_seed 18 = .ok (.iload_n 1, 1) := by decide +kernel
theorem dX5_seed_19 : decode cX5_seed 19 = .ok (.putfield 216, 3) := by decide +kernel
theorem dX5_seed_22 : decode cX5_seed 22 = .ok (.iload_n 2, 1) := by decide +kernel
theorem dX5_seed_23 : decode cX5_seed 23 = .ok (.ireturn, 1) := by decide +kernel
theorem dX5_water_0 : decode cX5_water 0 = .ok (.iload_n 1, 1) := by decide +kernel
theorem dX5_water_1 : decode cX5_water 1 = .ok (.iconst 0, 1) := by decide +kernel
theorem dX5_water_2 : decode cX5_water 2 = .ok (.sipush 240, 3) := by decide +kernel
theorem dX5_water_5 : decode cX5_water 5 = .ok (.invokestatic 69, 3) := by decide +kernel
theorem dX5_water_8 : decode cX5_water 8 = .ok (.ifCond .eq 5, 3) := by decide +kernel
theorem dX5_water_11 : decode cX5_water 11 = .ok (.iconst (-1), 1) := by decide +kernel
theorem dX5_water_12 : decode cX5_water 12 = .ok (.ireturn, 1) := by decide +kernel
theorem dX5_water_13 : decode cX5_water 13 = .ok (.aload_n 0, 1) := by decide +kernel
theorem dX5_water_14 : decode cX5_water 14 = .ok (.invokevirtual 219, 3) := by decide +kernel
theorem dX5_water_17 : decode cX5_water 17 = .ok (.aload_n 0, 1) := by decide +kernel
theorem dX5_water_18 : decode cX5_water 18 = .ok (.iload_n 1, 1) := by decide +kernel
theorem dX5_water_19 : decode cX5_water 19 = .ok (.bipush 127, 2) := by decide +kernel
theorem dX5_water_21 : decode cX5_water 21 = .ok (.invokevirtual 222, 3) := by decide +kernel
theorem dX5_water_24 : decode cX5_water 24 = .ok (.aload_n 0, 1) := by decide +kernel
theorem dX5_water_25 : decode cX5_water 25 = .ok (.getfield 42, 3) := by decide +kernel
theorem dX5_water_28 : decode cX5_water 28 = .ok (.getfield 127, 3) := by decide +kernel
theorem dX5_water_31 : decode cX5_water 31 = .ok (.ireturn, 1) := by decide +kernel
theorem dX5_done_0 : decode cX5_done 0 = .ok (.aload_n 0, 1) := by decide +kernel
theorem dX5_done_1 : decode cX5_done 1 = .ok (.getfield 10, 3) := by decide +kernel
theorem dX5_done_4 : decode cX5_done 4 = .ok (.iload_n 1, 1) := by decide +kernel
theorem dX5_done_5 : decode cX5_done 5 = .ok (.invokevirtual 84, 3) := by decide +kernel
theorem dX5_done_8 : decode cX5_done 8 = .ok (.ifCond .eq 5, 3) := by decide +kernel
theorem dX5_done_11 : decode cX5_done 11 = .ok (.iconst (-1), 1) := by decide +kernel
theorem dX5_done_12 : decode cX5_done 12 = .ok (.ireturn, 1) := by decide +kernel
theorem dX5_done_13 : decode cX5_done 13 = .ok (.aload_n 0, 1) := by decide +kernel
theorem dX5_done_14 : decode cX5_done 14 = .ok (.aload_n 0, 1) := by decide +kernel
theorem dX5_done_15 : decode cX5_done 15 = .ok (.getfield 10, 3) := by decide +kernel
theorem dX5_done_18 : decode cX5_done 18 = .ok (.getfield 145, 3) := by decide +kernel
theorem dX5_done_21 : decode cX5_done 21 = .ok (.invokevirtual 226, 3) := by decide +kernel
theorem dX5_done_24 : decode cX5_done 24 = .ok (.aload_n 0, 1) := by decide +kernel
theorem dX5_done_25 : decode cX5_done 25 = .ok (.getfield 45, 3) := by decide +kernel
theorem dX5_done_28 : decode cX5_done 28 = .ok (.iload_n 1, 1) := by decide +kernel
theorem dX5_done_29 : decode cX5_done 29 = .ok (.iaload, 1) := by decide +kernel
theorem dX5_done_30 : decode cX5_done 30 = .ok (.ireturn, 1) := by decide +kernel
theorem dX5_all_0 : decode cX5_all 0 = .ok (.aload_n 0, 1) := by decide +kernel
theorem dX5_all_1 : decode cX5_all 1 = .ok (.getfield 39, 3) := by decide +kernel
theorem dX5_all_4 : decode cX5_all 4 = .ok (.aload_n 0, 1) := by decide +kernel
theorem dX5_all_5 : decode cX5_all 5 = .ok (.getfield 10, 3) := by decide +kernel
theorem dX5_all_8 : decode cX5_all 8 = .ok (.invokevirtual 163, 3) := by decide +kernel
theorem dX5_all_11 : decode cX5_all 11 = .ok (.aload_n 0, 1) := by decide +kernel
theorem dX5_all_12 : decode cX5_all 12 = .ok (.sipush 240, 3) := by decide +kernel
theorem dX5_all_15 : decode cX5_all 15 = .ok (.invokevirtual 229, 3) := by decide +kernel
theorem dX5_all_18 : decode cX5_all 18 = .ok (.ireturn, 1) := by decide +kernel
theorem dX5_height_0 : decode cX5_height 0 = .ok (.iload_n 1, 1) := by decide +kernel
theorem dX5_height_1 : decode cX5_height 1 = .ok (.iconst 0, 1) := by decide +kernel
theorem dX5_height_2 : decode cX5_height 2 = .ok (.iconst 1, 1) := by decide +kernel
theorem dX5_height_3 : decode cX5_height 3 = .ok (.invokestatic 69, 3) := by decide +kernel
theorem dX5_height_6 : decode cX5_height 6 = .ok (.ifCond .eq 5, 3) := by decide +kernel
theorem dX5_height_9 : decode cX5_height 9 = .ok (.iconst (-1), 1) := by decide +kernel
theorem dX5_height_10 : decode cX5_height 10 = .ok (.ireturn, 1) := by decide +kernel
theorem dX5_height_11 : decode cX5_height 11 = .ok (.aload_n 0, 1) := by decide +kernel
theorem dX5_height_12 : decode cX5_height 12 = .ok (.getfield 39, 3) := by decide +kernel
theorem dX5_height_15 : decode cX5_height 15 = .ok (.aload_n 0, 1) := by decide +kernel
theorem dX5_height_16 : decode cX5_height 16 = .ok (.getfield 10, 3) := by decide +kernel
theorem dX5_height_19 : decode cX5_height 19 = .ok (.invokevirtual 163, 3) := by decide +kernel
theorem dX5_height_22 : decode cX5_height 22 = .ok (.bipush (-4), 2) := by decide +kernel
theorem dX5_height_24 : decode cX5_height 24 = .ok (.istore_n 2, 1) := by decide +kernel
theorem dX5_height_25 : decode cX5_height 25 = .ok (.sipush 241, 3) := by decide +kernel
theorem dX5_height_28 : decode cX5_height 28 = .ok (.istore_n 3, 1) := by decide +kernel
theorem dX5_height_29 : decode cX5_height 29 = .ok (.iconst 0, 1) := by decide +kernel
theorem dX5_height_30 : decode cX5_height 30 = .ok (.istore 4, 2) := by decide +kernel
theorem dX5_height_32 : decode cX5_height 32 = .ok (.iload 4, 2) := by decide +kernel
theorem dX5_height_34 : decode cX5_height 34 = .ok (.bipush 60, 2) := by decide +kernel
theorem dX5_height_36 : decode cX5_height 36 = .ok (.if_icmp .gt 40, 3) := by decide +kernel
theorem dX5_height_39 : decode cX5_height 39 = .ok (.aload_n 0, 1) := by decide +kernel
theorem dX5_height_40 : decode cX5_height 40 = .ok (.getfield 39, 3) := by decide +kernel
theorem dX5_height_43 : decode cX5_height 43 = .ok (.iload 4, 2) := by decide +kernel
theorem dX5_height_45 : decode cX5_height 45 = .ok (.putfield 142, 3) := by decide +kernel
theorem dX5_height_48 : decode cX5_height 48 = .ok (.aload_n 0, 1) := by decide +kernel
theorem dX5_height_49 : decode cX5_height 49 = .ok (.iload_n 3, 1) := by decide +kernel
theorem dX5_height_50 : decode cX5_height 50 = .ok (.iconst 1, 1) := by decide +kernel
theorem dX5_height_51 : decode cX5_height 51 = .ok (.isub, 1) := by decide +kernel
theorem dX5_height_52 : decode cX5_height 52 = .ok (.invokevirtual 229, 3) := by decide +kernel
theorem dX5_height_55 : decode cX5_height 55 = .ok (.istore 5, 2) := by decide +kernel
theorem dX5_height_57 : decode cX5_height 57 = .ok (.iload 5, 2) := by decide +kernel
theorem dX5_height_59 : decode cX5_height 59 = .ok (.bipush (-4), 2) := by decide +kernel
theorem dX5_height_61 : decode cX5_height 61 = .ok (.if_icmp .eq 9, 3) := by decide +kernel
theorem dX5_height_64 : decode cX5_height 64 = .ok (.iload 4, 2) := by decide +kernel
theorem dX5_height_66 : decode cX5_height 66 = .ok (.istore_n 2, 1) := by decide +kernel
theorem dX5_height_67 : decode cX5_height 67 = .ok (.iload 5, 2) := by decide +kernel
theorem dX5_height_69 : decode cX5_height 69 = .ok (.istore_n 3, 1) := by decide +kernel
theorem dX5_height_70 : decode cX5_height 70 = .ok (.iinc 4 1, 3) := by decide +kernel
theorem dX5_height_73 : decode cX5_height 73 = .ok (.goto (-41), 3) := by decide +kernel
theorem dX5_height_76 : decode cX5_height 76 = .ok (.iload_n 2, 1) := by decide +kernel
theorem dX5_height_77 : decode cX5_height 77 = .ok (.bipush (-4), 2) := by decide +kernel
theorem dX5_height_79 : decode cX5_height 79 = .ok (.if_icmp .ne 6, 3) := by decide +kernel
theorem dX5_height_82 : decode cX5_height 82 = .ok (.bipush (-4), 2) := by decide +kernel
theorem dX5_height_84 : decode cX5_height 84 = .ok (.ireturn, 1) := by decide +kernel
theorem dX5_height_85 : decode cX5_height 85 = .ok (.iload_n 1, 1) := by decide +kernel
theorem dX5_height_86 : decode cX5_height 86 = .ok (.ifCond .ne 7, 3) := by decide +kernel
theorem dX5_height_89 : decode cX5_height 89 = .ok (.iload_n 2, 1) := by decide +kernel
theorem dX5_height_90 : decode cX5_height 90 = .ok (.goto 4, 3) := by decide +kernel
theorem dX5_height_93 : decode cX5_height 93 = .ok (.iload_n 3, 1) := by decide +kernel
theorem dX5_height_94 : decode cX5_height 94 = .ok (.ireturn, 1) := by decide +kernel
theorem dX5_pulls_0 : decode cX5_pulls 0 = .ok (.iload_n 1, 1) := by decide +kernel
theorem dX5_pulls_1 : decode cX5_pulls 1 = .ok (.iconst 0, 1) := by decide +kernel
theorem dX5_pulls_2 : decode cX5_pulls 2 = .ok (.iconst 1, 1) := by decide +kernel
theorem dX5_pulls_3 : decode cX5_pulls 3 = .ok (.invokestatic 69, 3) := by decide +kernel
theorem dX5_pulls_6 : decode cX5_pulls 6 = .ok (.ifCond .eq 5, 3) := by decide +kernel
theorem dX5_pulls_9 : decode cX5_pulls 9 = .ok (.iconst (-1), 1) := by decide +kernel
theorem dX5_pulls_10 : decode cX5_pulls 10 = .ok (.ireturn, 1) := by decide +kernel
theorem dX5_pulls_11 : decode cX5_pulls 11 = .ok (.aload_n 0, 1) := by decide +kernel
theorem dX5_pulls_12 : decode cX5_pulls 12 = .ok (.getfield 39, 3) := by decide +kernel
theorem dX5_pulls_15 : decode cX5_pulls 15 = .ok (.aload_n 0, 1) := by decide +kernel
theorem dX5_pulls_16 : decode cX5_pulls 16 = .ok (.getfield 10, 3) := by decide +kernel
theorem dX5_pulls_19 : decode cX5_pulls 19 = .ok (.invokevirtual 163, 3) := by decide +kernel
theorem dX5_pulls_22 : decode cX5_pulls 22 = .ok (.bipush (-4), 2) := by decide +kernel
theorem dX5_pulls_24 : decode cX5_pulls 24 = .ok (.istore_n 2, 1) := by decide +kernel
theorem dX5_pulls_25 : decode cX5_pulls 25 = .ok (.sipush 241, 3) := by decide +kernel
theorem dX5_pulls_28 : decode cX5_pulls 28 = .ok (.istore_n 3, 1) := by decide +kernel
theorem dX5_pulls_29 : decode cX5_pulls 29 = .ok (.iconst (-1), 1) := by decide +kernel
theorem dX5_pulls_30 : decode cX5_pulls 30 = .ok (.istore 4, 2) := by decide +kernel
theorem dX5_pulls_32 : decode cX5_pulls 32 = .ok (.iload 4, 2) := by decide +kernel
theorem dX5_pulls_34 : decode cX5_pulls 34 = .ok (.aload_n 0, 1) := by decide +kernel
theorem dX5_pulls_35 : decode cX5_pulls 35 = .ok (.getfield 10, 3) := by decide +kernel
theorem dX5_pulls_38 : decode cX5_pulls 38 = .ok (.getfield 73, 3) := by decide +kernel
theorem dX5_pulls_41 : decode cX5_pulls 41 = .ok (.if_icmp .ge 60, 3) := by decide +kernel
theorem dX5_pulls_44 : decode cX5_pulls 44 = .ok (.aload_n 0, 1) := by decide +kernel
theorem dX5_pulls_45 : decode cX5_pulls 45 = .ok (.getfield 39, 3) := by decide +kernel
theorem dX5_pulls_48 : decode cX5_pulls 48 = .ok (.iload 4, 2) := by decide +kernel
theorem dX5_pulls_50 : decode cX5_pulls 50 = .ok (.ifCond .ge 8, 3) := by decide +kernel
theorem dX5_pulls_53 : decode cX5_pulls 53 = .ok (.bipush (-4), 2) := by decide +kernel
theorem dX5_pulls_55 : decode cX5_pulls 55 = .ok (.goto 5, 3) := by decide +kernel
theorem dX5_pulls_58 : decode cX5_pulls 58 = .ok (.iload 4, 2) := by decide +kernel
theorem dX5_pulls_60 : decode cX5_pulls 60 = .ok (.putfield 148, 3) := by decide +kernel
theorem dX5_pulls_63 : decode cX5_pulls 63 = .ok (.aload_n 0, 1) := by decide +kernel
theorem dX5_pulls_64 : decode cX5_pulls 64 = .ok (.iload_n 3, 1) := by decide +kernel
theorem dX5_pulls_65 : decode cX5_pulls 65 = .ok (.iconst 1, 1) := by decide +kernel
theorem dX5_pulls_66 : decode cX5_pulls 66 = .ok (.isub, 1) := by decide +kernel
theorem dX5_pulls_67 : decode cX5_pulls 67 = .ok (.invokevirtual 229, 3) := by decide +kernel
theorem dX5_pulls_70 : decode cX5_pulls 70 = .ok (.istore 5, 2) := by decide +kernel
theorem dX5_pulls_72 : decode cX5_pulls 72 = .ok (.iload 5, 2) := by decide +kernel
theorem dX5_pulls_74 : decode cX5_pulls 74 = .ok (.bipush (-4), 2) := by decide +kernel
theorem dX5_pulls_76 : decode cX5_pulls 76 = .ok (.if_icmp .eq 19, 3) := by decide +kernel
theorem dX5_pulls_79 : decode cX5_pulls 79 = .ok (.iload 4, 2) := by decide +kernel
theorem dX5_pulls_81 : decode cX5_pulls 81 = .ok (.ifCond .ge 8, 3) := by decide +kernel
theorem dX5_pulls_84 : decode cX5_pulls 84 = .ok (.bipush 7, 2) := by decide +kernel
theorem dX5_pulls_86 : decode cX5_pulls 86 = .ok (.goto 5, 3) := by decide +kernel
theorem dX5_pulls_89 : decode cX5_pulls 89 = .ok (.iload 4, 2) := by decide +kernel
theorem dX5_pulls_91 : decode cX5_pulls 91 = .ok (.istore_n 2, 1) := by decide +kernel
theorem dX5_pulls_92 : decode cX5_pulls 92 = .ok (.iload 5, 2) := by decide +kernel
theorem dX5_pulls_94 : decode cX5_pulls 94 = .ok (.istore_n 3, 1) := by decide +kernel
theorem dX5_pulls_95 : decode cX5_pulls 95 = .ok (.iinc 4 1, 3) := by decide +kernel
theorem dX5_pulls_98 : decode cX5_pulls 98 = .ok (.goto (-66), 3) := by decide +kernel
theorem dX5_pulls_101 : decode cX5_pulls 101 = .ok (.iload_n 2, 1) := by decide +kernel
theorem dX5_pulls_102 : decode cX5_pulls 102 = .ok (.bipush (-4), 2) := by decide +kernel
theorem dX5_pulls_104 : decode cX5_pulls 104 = .ok (.if_icmp .ne 6, 3) := by decide +kernel
theorem dX5_pulls_107 : decode cX5_pulls 107 = .ok (.bipush (-4), 2) := by decide +kernel
theorem dX5_pulls_109 : decode cX5_pulls 109 = .ok (.ireturn, 1) := by decide +kernel
theorem dX5_pulls_110 : decode cX5_pulls 110 = .ok (.iload_n 1, 1) := by decide +kernel
theorem dX5_pulls_111 : decode cX5_pulls 111 = .ok (.ifCond .ne 7, 3) := by decide +kernel
theorem dX5_pulls_114 : decode cX5_pulls 114 = .ok (.iload_n 2, 1) := by decide +kernel
theorem dX5_pulls_115 : decode cX5_pulls 115 = .ok (.goto 4, 3) := by decide +kernel
theorem dX5_pulls_118 : decode cX5_pulls 118 = .ok (.iload_n 3, 1) := by decide +kernel
theorem dX5_pulls_119 : decode cX5_pulls 119 = .ok (.ireturn, 1) := by decide +kernel
theorem dX5_waits_0 : decode cX5_waits 0 = .ok (.iload_n 1, 1) := by decide +kernel
theorem dX5_waits_1 : decode cX5_waits 1 = .ok (.iconst 0, 1) := by decide +kernel
theorem dX5_waits_2 : decode cX5_waits 2 = .ok (.iconst 1, 1) := by decide +kernel
theorem dX5_waits_3 : decode cX5_waits 3 = .ok (.invokestatic 69, 3) := by decide +kernel
theorem dX5_waits_6 : decode cX5_waits 6 = .ok (.ifCond .ne 12, 3) := by decide +kernel
theorem dX5_waits_9 : decode cX5_waits 9 = .ok (.iload_n 2, 1) := by decide +kernel
theorem dX5_waits_10 : decode cX5_waits 10 = .ok (.iconst 0, 1) := by decide +kernel
theorem dX5_waits_11 : decode cX5_waits 11 = .ok (.iconst 3, 1) := by decide +kernel
theorem dX5_waits_12 : decode cX5_waits 12 = .ok (.invokestatic 69, 3) := by decide +kernel
theorem dX5_waits_15 : decode cX5_waits 15 = .ok (.ifCond .eq 5, 3) := by decide +kernel
theorem dX5_waits_18 : decode cX5_waits 18 = .ok (.iconst (-1), 1) := by decide +kernel
theorem dX5_waits_19 : decode cX5_waits 19 = .ok (.ireturn, 1) := by decide +kernel
theorem dX5_waits_20 : decode cX5_waits 20 = .ok (.aload_n 0, 1) := by decide +kernel
theorem dX5_waits_21 : decode cX5_waits 21 = .ok (.iload_n 2, 1) := by decide +kernel
theorem dX5_waits_22 : decode cX5_waits 22 = .ok (.invokevirtual 226, 3) := by decide +kernel
theorem dX5_waits_25 : decode cX5_waits 25 = .ok (.aload_n 0, 1) := by decide +kernel
theorem dX5_waits_26 : decode cX5_waits 26 = .ok (.iload_n 1, 1) := by decide +kernel
theorem dX5_waits_27 : decode cX5_waits 27 = .ok (.invokevirtual 232, 3) := by decide +kernel
theorem dX5_waits_30 : decode cX5_waits 30 = .ok (.ireturn, 1) := by decide +kernel
theorem dX5_least_0 : decode cX5_least 0 = .ok (.aload_n 0, 1) := by decide +kernel
theorem dX5_least_1 : decode cX5_least 1 = .ok (.iload_n 1, 1) := by decide +kernel
theorem dX5_least_2 : decode cX5_least 2 = .ok (.iconst 0, 1) := by decide +kernel
theorem dX5_least_3 : decode cX5_least 3 = .ok (.invokevirtual 235, 3) := by decide +kernel
theorem dX5_least_6 : decode cX5_least 6 = .ok (.ireturn, 1) := by decide +kernel
theorem dX5_both_0 : decode cX5_both 0 = .ok (.aload_n 0, 1) := by decide +kernel
theorem dX5_both_1 : decode cX5_both 1 = .ok (.iload_n 1, 1) := by decide +kernel
theorem dX5_both_2 : decode cX5_both 2 = .ok (.iconst 1, 1) := by decide +kernel
theorem dX5_both_3 : decode cX5_both 3 = .ok (.invokevirtual 235, 3) := by decide +kernel
theorem dX5_both_6 : decode cX5_both 6 = .ok (.ireturn, 1) := by decide +kernel
theorem dX5_wholly_0 : decode cX5_wholly 0 = .ok (.iload_n 1, 1) := by decide +kernel
theorem dX5_wholly_1 : decode cX5_wholly 1 = .ok (.iconst 0, 1) := by decide +kernel
theorem dX5_wholly_2 : decode cX5_wholly 2 = .ok (.sipush 240, 3) := by decide +kernel
theorem dX5_wholly_5 : decode cX5_wholly 5 = .ok (.invokestatic 69, 3) := by decide +kernel
theorem dX5_wholly_8 : decode cX5_wholly 8 = .ok (.ifCond .ne 12, 3) := by decide +kernel
theorem dX5_wholly_11 : decode cX5_wholly 11 = .ok (.iload_n 2, 1) := by decide +kernel
theorem dX5_wholly_12 : decode cX5_wholly 12 = .ok (.iconst 0, 1) := by decide +kernel
theorem dX5_wholly_13 : decode cX5_wholly 13 = .ok (.iconst 1, 1) := by decide +kernel
theorem dX5_wholly_14 : decode cX5_wholly 14 = .ok (.invokestatic 69, 3) := by decide +kernel
theorem dX5_wholly_17 : decode cX5_wholly 17 = .ok (.ifCond .eq 5, 3) := by decide +kernel
theorem dX5_wholly_20 : decode cX5_wholly 20 = .ok (.iconst (-1), 1) := by decide +kernel
theorem dX5_wholly_21 : decode cX5_wholly 21 = .ok (.ireturn, 1) := by decide +kernel
theorem dX5_wholly_22 : decode cX5_wholly 22 = .ok (.aload_n 0, 1) := by decide +kernel
theorem dX5_wholly_23 : decode cX5_wholly 23 = .ok (.getfield 10, 3) := by decide +kernel
theorem dX5_wholly_26 : decode cX5_wholly 26 = .ok (.getfield 148, 3) := by decide +kernel
theorem dX5_wholly_29 : decode cX5_wholly 29 = .ok (.bipush (-4), 2) := by decide +kernel
theorem dX5_wholly_31 : decode cX5_wholly 31 = .ok (.if_icmp .ne 7, 3) := by decide +kernel
theorem dX5_wholly_34 : decode cX5_wholly 34 = .ok (.iconst 0, 1) := by decide +kernel
theorem dX5_wholly_35 : decode cX5_wholly 35 = .ok (.goto 12, 3) := by decide +kernel
theorem dX5_wholly_38 : decode cX5_wholly 38 = .ok (.iconst 1, 1) := by decide +kernel
theorem dX5_wholly_39 : decode cX5_wholly 39 = .ok (.aload_n 0, 1) := by decide +kernel
theorem dX5_wholly_40 : decode cX5_wholly 40 = .ok (.getfield 10, 3) := by decide +kernel
theorem dX5_wholly_43 : decode cX5_wholly 43 = .ok (.getfield 148, 3) := by decide +kernel
theorem dX5_wholly_46 : decode cX5_wholly 46 = .ok (.ishl, 1) := by decide +kernel
theorem dX5_wholly_47 : decode cX5_wholly 47 = .ok (.istore_n 3, 1) := by decide +kernel
theorem dX5_wholly_48 : decode cX5_wholly 48 = .ok (.iconst 0, 1) := by decide +kernel
theorem dX5_wholly_49 : decode cX5_wholly 49 = .ok (.istore 4, 2) := by decide +kernel
theorem dX5_wholly_51 : decode cX5_wholly 51 = .ok (.iconst (-1), 1) := by decide +kernel
theorem dX5_wholly_52 : decode cX5_wholly 52 = .ok (.istore 5, 2) := by decide +kernel
theorem dX5_wholly_54 : decode cX5_wholly 54 = .ok (.aload_n 0, 1) := by decide +kernel
theorem dX5_wholly_55 : decode cX5_wholly 55 = .ok (.invokevirtual 219, 3) := by decide +kernel
theorem dX5_wholly_58 : decode cX5_wholly 58 = .ok (.iconst 0, 1) := by decide +kernel
theorem dX5_wholly_59 : decode cX5_wholly 59 = .ok (.istore 6, 2) := by decide +kernel
theorem dX5_wholly_61 : decode cX5_wholly 61 = .ok (.iload 6, 2) := by decide +kernel
theorem dX5_wholly_63 : decode cX5_wholly 63 = .ok (.iconst 1, 1) := by decide +kernel
theorem dX5_wholly_64 : decode cX5_wholly 64 = .ok (.aload_n 0, 1) := by decide +kernel
theorem dX5_wholly_65 : decode cX5_wholly 65 = .ok (.getfield 10, 3) := by decide +kernel
theorem dX5_wholly_68 : decode cX5_wholly 68 = .ok (.getfield 73, 3) := by decide +kernel
theorem dX5_wholly_71 : decode cX5_wholly 71 = .ok (.ishl, 1) := by decide +kernel
theorem dX5_wholly_72 : decode cX5_wholly 72 = .ok (.if_icmp .ge 77, 3) := by decide +kernel
theorem dX5_wholly_75 : decode cX5_wholly 75 = .ok (.iload 5, 2) := by decide +kernel
theorem dX5_wholly_77 : decode cX5_wholly 77 = .ok (.aload_n 0, 1) := by decide +kernel
theorem dX5_wholly_78 : decode cX5_wholly 78 = .ok (.getfield 10, 3) := by decide +kernel
theorem dX5_wholly_81 : decode cX5_wholly 81 = .ok (.getfield 73, 3) := by decide +kernel
theorem dX5_wholly_84 : decode cX5_wholly 84 = .ok (.if_icmp .ge 65, 3) := by decide +kernel
theorem dX5_wholly_87 : decode cX5_wholly 87 = .ok (.iload 6, 2) := by decide +kernel
theorem dX5_wholly_89 : decode cX5_wholly 89 = .ok (.iload_n 3, 1) := by decide +kernel
theorem dX5_wholly_90 : decode cX5_wholly 90 = .ok (.iand, 1) := by decide +kernel
theorem dX5_wholly_91 : decode cX5_wholly 91 = .ok (.ifCond .ne 52, 3) := by decide +kernel
theorem dX5_wholly_94 : decode cX5_wholly 94 = .ok (.aload_n 0, 1) := by decide +kernel
theorem dX5_wholly_95 : decode cX5_wholly 95 = .ok (.getfield 42, 3) := by decide +kernel
theorem dX5_wholly_98 : decode cX5_wholly 98 = .ok (.aload_n 0, 1) := by decide +kernel
theorem dX5_wholly_99 : decode cX5_wholly 99 = .ok (.getfield 19, 3) := by decide +kernel
theorem dX5_wholly_102 : decode cX5_wholly 102 = .ok (.invokevirtual 239, 3) := by decide +kernel
theorem dX5_wholly_105 : decode cX5_wholly 105 = .ok (.aload_n 0, 1) := by decide +kernel
theorem dX5_wholly_106 : decode cX5_wholly 106 = .ok (.iload_n 1, 1) := by decide +kernel
theorem dX5_wholly_107 : decode cX5_wholly 107 = .ok (.iload 6, 2) := by decide +kernel
theorem dX5_wholly_109 : decode cX5_wholly 109 = .ok (.invokevirtual 222, 3) := by decide +kernel
theorem dX5_wholly_112 : decode cX5_wholly 112 = .ok (.aload_n 0, 1) := by decide +kernel
theorem dX5_wholly_113 : decode cX5_wholly 113 = .ok (.getfield 42, 3) := by decide +kernel
theorem dX5_wholly_116 : decode cX5_wholly 116 = .ok (.aload_n 0, 1) := by decide +kernel
theorem dX5_wholly_117 : decode cX5_wholly 117 = .ok (.getfield 39, 3) := by decide +kernel
theorem dX5_wholly_120 : decode cX5_wholly 120 = .ok (.invokevirtual 191, 3) := by decide +kernel
theorem dX5_wholly_123 : decode cX5_wholly 123 = .ok (.invokestatic 241, 3) := by decide +kernel
theorem dX5_wholly_126 : decode cX5_wholly 126 = .ok (.istore 7, 2) := by decide +kernel
theorem dX5_wholly_128 : decode cX5_wholly 128 = .ok (.iload 7, 2) := by decide +kernel
theorem dX5_wholly_130 : decode cX5_wholly 130 = .ok (.iload 5, 2) := by decide +kernel
theorem dX5_wholly_132 : decode cX5_wholly 132 = .ok (.if_icmp .le 11, 3) := by decide +kernel
theorem dX5_wholly_135 : decode cX5_wholly 135 = .ok (.iload 7, 2) := by decide +kernel
theorem dX5_wholly_137 : decode cX5_wholly 137 = .ok (.istore 5, 2) := by decide +kernel
theorem dX5_wholly_139 : decode cX5_wholly 139 = .ok (.iload 6, 2) := by decide +kernel
theorem dX5_wholly_141 : decode cX5_wholly 141 = .ok (.istore 4, 2) := by decide +kernel
theorem dX5_wholly_143 : decode cX5_wholly 143 = .ok (.iinc 6 1, 3) := by decide +kernel
theorem dX5_wholly_146 : decode cX5_wholly 146 = .ok (.goto (-85), 3) := by decide +kernel
theorem dX5_wholly_149 : decode cX5_wholly 149 = .ok (.iload_n 2, 1) := by decide +kernel
theorem dX5_wholly_150 : decode cX5_wholly 150 = .ok (.ifCond .ne 8, 3) := by decide +kernel
theorem dX5_wholly_153 : decode cX5_wholly 153 = .ok (.iload 4, 2) := by decide +kernel
theorem dX5_wholly_155 : decode cX5_wholly 155 = .ok (.goto 5, 3) := by decide +kernel
theorem dX5_wholly_158 : decode cX5_wholly 158 = .ok (.iload 5, 2) := by decide +kernel
theorem dX5_wholly_160 : decode cX5_wholly 160 = .ok (.ireturn, 1) := by decide +kernel
theorem dX5_drank_0 : decode cX5_drank 0 = .ok (.iload_n 1, 1) := by decide +kernel
theorem dX5_drank_1 : decode cX5_drank 1 = .ok (.iconst 0, 1) := by decide +kernel
theorem dX5_drank_2 : decode cX5_drank 2 = .ok (.sipush 999, 3) := by decide +kernel
theorem dX5_drank_5 : decode cX5_drank 5 = .ok (.invokestatic 69, 3) := by decide +kernel
theorem dX5_drank_8 : decode cX5_drank 8 = .ok (.ifCond .ne 12, 3) := by decide +kernel
theorem dX5_drank_11 : decode cX5_drank 11 = .ok (.iload_n 2, 1) := by decide +kernel
theorem dX5_drank_12 : decode cX5_drank 12 = .ok (.iconst 0, 1) := by decide +kernel
theorem dX5_drank_13 : decode cX5_drank 13 = .ok (.iconst 1, 1) := by decide +kernel
theorem dX5_drank_14 : decode cX5_drank 14 = .ok (.invokestatic 69, 3) := by decide +kernel
theorem dX5_drank_17 : decode cX5_drank 17 = .ok (.ifCond .eq 5, 3) := by decide +kernel
theorem dX5_drank_20 : decode cX5_drank 20 = .ok (.iconst (-1), 1) := by decide +kernel
theorem dX5_drank_21 : decode cX5_drank 21 = .ok (.ireturn, 1) := by decide +kernel
theorem dX5_drank_22 : decode cX5_drank 22 = .ok (.iconst 0, 1) := by decide +kernel
theorem dX5_drank_23 : decode cX5_drank 23 = .ok (.istore_n 3, 1) := by decide +kernel
theorem dX5_drank_24 : decode cX5_drank 24 = .ok (.bipush (-4), 2) := by decide +kernel
theorem dX5_drank_26 : decode cX5_drank 26 = .ok (.istore 4, 2) := by decide +kernel
theorem dX5_drank_28 : decode cX5_drank 28 = .ok (.iconst 0, 1) := by decide +kernel
theorem dX5_drank_29 : decode cX5_drank 29 = .ok (.istore 5, 2) := by decide +kernel
theorem dX5_drank_31 : decode cX5_drank 31 = .ok (.iload 5, 2) := by decide +kernel
theorem dX5_drank_33 : decode cX5_drank 33 = .ok (.iconst 1, 1) := by decide +kernel
theorem dX5_drank_34 : decode cX5_drank 34 = .ok (.aload_n 0, 1) := by decide +kernel
theorem dX5_drank_35 : decode cX5_drank 35 = .ok (.getfield 10, 3) := by decide +kernel
theorem dX5_drank_38 : decode cX5_drank 38 = .ok (.getfield 73, 3) := by decide +kernel
theorem dX5_drank_41 : decode cX5_drank 41 = .ok (.ishl, 1) := by decide +kernel
theorem dX5_drank_42 : decode cX5_drank 42 = .ok (.if_icmp .ge 42, 3) := by decide +kernel
theorem dX5_drank_45 : decode cX5_drank 45 = .ok (.aload_n 0, 1) := by decide +kernel
theorem dX5_drank_46 : decode cX5_drank 46 = .ok (.getfield 19, 3) := by decide +kernel
theorem dX5_drank_49 : decode cX5_drank 49 = .ok (.aload_n 0, 1) := by decide +kernel
theorem dX5_drank_50 : decode cX5_drank 50 = .ok (.getfield 10, 3) := by decide +kernel
theorem dX5_drank_53 : decode cX5_drank 53 = .ok (.iload 5, 2) := by decide +kernel
theorem dX5_drank_55 : decode cX5_drank 55 = .ok (.invokevirtual 246, 3) := by decide +kernel
theorem dX5_drank_58 : decode cX5_drank 58 = .ok (.iload_n 1, 1) := by decide +kernel
theorem dX5_drank_59 : decode cX5_drank 59 = .ok (.if_icmp .ne 19, 3) := by decide +kernel
theorem dX5_drank_62 : decode cX5_drank 62 = .ok (.iload_n 3, 1) := by decide +kernel
theorem dX5_drank_63 : decode cX5_drank 63 = .ok (.ifCond .ne 8, 3) := by decide +kernel
theorem dX5_drank_66 : decode cX5_drank 66 = .ok (.iload 5, 2) := by decide +kernel
theorem dX5_drank_68 : decode cX5_drank 68 = .ok (.goto 5, 3) := by decide +kernel
theorem dX5_drank_71 : decode cX5_drank 71 = .ok (.iload 4, 2) := by decide +kernel
theorem dX5_drank_73 : decode cX5_drank 73 = .ok (.istore 4, 2) := by decide +kernel
theorem dX5_drank_75 : decode cX5_drank 75 = .ok (.iinc 3 1, 3) := by decide +kernel
theorem dX5_drank_78 : decode cX5_drank 78 = .ok (.iinc 5 1, 3) := by decide +kernel
theorem dX5_drank_81 : decode cX5_drank 81 = .ok (.goto (-50), 3) := by decide +kernel
theorem dX5_drank_84 : decode cX5_drank 84 = .ok (.iload_n 2, 1) := by decide +kernel
theorem dX5_drank_85 : decode cX5_drank 85 = .ok (.ifCond .ne 7, 3) := by decide +kernel
theorem dX5_drank_88 : decode cX5_drank 88 = .ok (.iload_n 3, 1) := by decide +kernel
theorem dX5_drank_89 : decode cX5_drank 89 = .ok (.goto 5, 3) := by decide +kernel
theorem dX5_drank_92 : decode cX5_drank 92 = .ok (.iload 4, 2) := by decide +kernel
theorem dX5_drank_94 : decode cX5_drank 94 = .ok (.ireturn, 1) := by decide +kernel
theorem dX5_holds_0 : decode cX5_holds 0 = .ok (.iload_n 1, 1) := by decide +kernel
theorem dX5_holds_1 : decode cX5_holds 1 = .ok (.iconst 0, 1) := by decide +kernel
theorem dX5_holds_2 : decode cX5_holds 2 = .ok (.sipush 240, 3) := by decide +kernel
theorem dX5_holds_5 : decode cX5_holds 5 = .ok (.invokestatic 69, 3) := by decide +kernel
theorem dX5_holds_8 : decode cX5_holds 8 = .ok (.ifCond .eq 5, 3) := by decide +kernel
theorem dX5_holds_11 : decode cX5_holds 11 = .ok (.iconst (-1), 1) := by decide +kernel
theorem dX5_holds_12 : decode cX5_holds 12 = .ok (.ireturn, 1) := by decide +kernel
theorem dX5_holds_13 : decode cX5_holds 13 = .ok (.ldc 249, 2) := by decide +kernel
theorem dX5_holds_15 : decode cX5_holds 15 = .ok (.istore_n 2, 1) := by decide +kernel
theorem dX5_holds_16 : decode cX5_holds 16 = .ok (.iconst 1, 1) := by decide +kernel
theorem dX5_holds_17 : decode cX5_holds 17 = .ok (.istore_n 3, 1) := by decide +kernel
theorem dX5_holds_18 : decode cX5_holds 18 = .ok (.iload_n 3, 1) := by decide +kernel
theorem dX5_holds_19 : decode cX5_holds 19 = .ok (.iload_n 1, 1) := by decide +kernel
theorem dX5_holds_20 : decode cX5_holds 20 = .ok (.if_icmp .gt 39, 3) := by decide +kernel
theorem dX5_holds_23 : decode cX5_holds 23 = .ok (.bipush 100, 2) := by decide +kernel
theorem dX5_holds_25 : decode cX5_holds 25 = .ok (.aload_n 0, 1) := by decide +kernel
theorem dX5_holds_26 : decode cX5_holds 26 = .ok (.getfield 19, 3) := by decide +kernel
theorem dX5_holds_29 : decode cX5_holds 29 = .ok (.getfield 182, 3) := by decide +kernel
theorem dX5_holds_32 : decode cX5_holds 32 = .ok (.iload_n 3, 1) := by decide +kernel
theorem dX5_holds_33 : decode cX5_holds 33 = .ok (.iadd, 1) := by decide +kernel
theorem dX5_holds_34 : decode cX5_holds 34 = .ok (.bipush 10, 2) := by decide +kernel
theorem dX5_holds_36 : decode cX5_holds 36 = .ok (.idiv, 1) := by decide +kernel
theorem dX5_holds_37 : decode cX5_holds 37 = .ok (.invokestatic 250, 3) := by decide +kernel
theorem dX5_holds_40 : decode cX5_holds 40 = .ok (.istore 4, 2) := by decide +kernel
theorem dX5_holds_42 : decode cX5_holds 42 = .ok (.iload_n 2, 1) := by decide +kernel
theorem dX5_holds_43 : decode cX5_holds 43 = .ok (.bipush 100, 2) := by decide +kernel
theorem dX5_holds_45 : decode cX5_holds 45 = .ok (.iload 4, 2) := by decide +kernel
theorem dX5_holds_47 : decode cX5_holds 47 = .ok (.isub, 1) := by decide +kernel
theorem dX5_holds_48 : decode cX5_holds 48 = .ok (.imul, 1) := by decide +kernel
theorem dX5_holds_49 : decode cX5_holds 49 = .ok (.bipush 100, 2) := by decide +kernel
theorem dX5_holds_51 : decode cX5_holds 51 = .ok (.idiv, 1) := by decide +kernel
theorem dX5_holds_52 : decode cX5_holds 52 = .ok (.istore_n 2, 1) := by decide +kernel
theorem dX5_holds_53 : decode cX5_holds 53 = .ok (.iinc 3 1, 3) := by decide +kernel
theorem dX5_holds_56 : decode cX5_holds 56 = .ok (.goto (-38), 3) := by decide +kernel
theorem dX5_holds_59 : decode cX5_holds 59 = .ok (.iload_n 2, 1) := by decide +kernel
theorem dX5_holds_60 : decode cX5_holds 60 = .ok (.ireturn, 1) := by decide +kernel
theorem dX5_image_0 : decode cX5_image 0 = .ok (.aload_n 0, 1) := by decide +kernel
theorem dX5_image_1 : decode cX5_image 1 = .ok (.getfield 30, 3) := by decide +kernel
theorem dX5_image_4 : decode cX5_image 4 = .ok (.aload_n 0, 1) := by decide +kernel
theorem dX5_image_5 : decode cX5_image 5 = .ok (.getfield 10, 3) := by decide +kernel
theorem dX5_image_8 : decode cX5_image 8 = .ok (.invokevirtual 163, 3) := by decide +kernel
theorem dX5_image_11 : decode cX5_image 11 = .ok (.aload_n 0, 1) := by decide +kernel
theorem dX5_image_12 : decode cX5_image 12 = .ok (.getfield 33, 3) := by decide +kernel
theorem dX5_image_15 : decode cX5_image 15 = .ok (.aload_n 0, 1) := by decide +kernel
theorem dX5_image_16 : decode cX5_image 16 = .ok (.getfield 19, 3) := by decide +kernel
theorem dX5_image_19 : decode cX5_image 19 = .ok (.invokevirtual 239, 3) := by decide +kernel
theorem dX5_image_22 : decode cX5_image 22 = .ok (.aload_n 0, 1) := by decide +kernel
theorem dX5_image_23 : decode cX5_image 23 = .ok (.getfield 36, 3) := by decide +kernel
theorem dX5_image_26 : decode cX5_image 26 = .ok (.aload_n 0, 1) := by decide +kernel
theorem dX5_image_27 : decode cX5_image 27 = .ok (.getfield 26, 3) := by decide +kernel
theorem dX5_image_30 : decode cX5_image 30 = .ok (.invokevirtual 256, 3) := by decide +kernel
theorem dX5_image_33 : decode cX5_image 33 = .ok (.aload_n 0, 1) := by decide +kernel
theorem dX5_image_34 : decode cX5_image 34 = .ok (.iconst 1, 1) := by decide +kernel
theorem dX5_image_35 : decode cX5_image 35 = .ok (.putfield 259, 3) := by decide +kernel
theorem dX5_image_38 : decode cX5_image 38 = .ok (.iconst 1, 1) := by decide +kernel
theorem dX5_image_39 : decode cX5_image 39 = .ok (.ireturn, 1) := by decide +kernel
theorem dX5_restore_0 : decode cX5_restore 0 = .ok (.aload_n 0, 1) := by decide +kernel
theorem dX5_restore_1 : decode cX5_restore 1 = .ok (.getfield 259, 3) := by decide +kernel
theorem dX5_restore_4 : decode cX5_restore 4 = .ok (.ifCond .ne 6, 3) := by decide +kernel
theorem dX5_restore_7 : decode cX5_restore 7 = .ok (.bipush (-4), 2) := by decide +kernel
theorem dX5_restore_9 : decode cX5_restore 9 = .ok (.ireturn, 1) := by decide +kernel
theorem dX5_restore_10 : decode cX5_restore 10 = .ok (.aload_n 0, 1) := by decide +kernel
theorem dX5_restore_11 : decode cX5_restore 11 = .ok (.getfield 10, 3) := by decide +kernel
theorem dX5_restore_14 : decode cX5_restore 14 = .ok (.aload_n 0, 1) := by decide +kernel
theorem dX5_restore_15 : decode cX5_restore 15 = .ok (.getfield 30, 3) := by decide +kernel
theorem dX5_restore_18 : decode cX5_restore 18 = .ok (.invokevirtual 163, 3) := by decide +kernel
theorem dX5_restore_21 : decode cX5_restore 21 = .ok (.aload_n 0, 1) := by decide +kernel
theorem dX5_restore_22 : decode cX5_restore 22 = .ok (.getfield 19, 3) := by decide +kernel
theorem dX5_restore_25 : decode cX5_restore 25 = .ok (.aload_n 0, 1) := by decide +kernel
theorem dX5_restore_26 : decode cX5_restore 26 = .ok (.getfield 33, 3) := by decide +kernel
theorem dX5_restore_29 : decode cX5_restore 29 = .ok (.invokevirtual 239, 3) := by decide +kernel
theorem dX5_restore_32 : decode cX5_restore 32 = .ok (.aload_n 0, 1) := by decide +kernel
theorem dX5_restore_33 : decode cX5_restore 33 = .ok (.getfield 26, 3) := by decide +kernel
theorem dX5_restore_36 : decode cX5_restore 36 = .ok (.aload_n 0, 1) := by decide +kernel
theorem dX5_restore_37 : decode cX5_restore 37 = .ok (.getfield 36, 3) := by decide +kernel
theorem dX5_restore_40 : decode cX5_restore 40 = .ok (.invokevirtual 256, 3) := by decide +kernel
theorem dX5_restore_43 : decode cX5_restore 43 = .ok (.iconst 1, 1) := by decide +kernel
theorem dX5_restore_44 : decode cX5_restore 44 = .ok (.ireturn, 1) := by decide +kernel
theorem dX5_foretell_0 : decode cX5_foretell 0 = .ok (.aload_n 0, 1) := by decide +kernel
theorem dX5_foretell_1 : decode cX5_foretell 1 = .ok (.getfield 39, 3) := by decide +kernel
theorem dX5_foretell_4 : decode cX5_foretell 4 = .ok (.aload_n 0, 1) := by decide +kernel
theorem dX5_foretell_5 : decode cX5_foretell 5 = .ok (.getfield 10, 3) := by decide +kernel
theorem dX5_foretell_8 : decode cX5_foretell 8 = .ok (.invokevirtual 163, 3) := by decide +kernel
theorem dX5_foretell_11 : decode cX5_foretell 11 = .ok (.aload_n 0, 1) := by decide +kernel
theorem dX5_foretell_12 : decode cX5_foretell 12 = .ok (.getfield 39, 3) := by decide +kernel
theorem dX5_foretell_15 : decode cX5_foretell 15 = .ok (.invokevirtual 151, 3) := by decide +kernel
theorem dX5_foretell_18 : decode cX5_foretell 18 = .ok (.aload_n 0, 1) := by decide +kernel
theorem dX5_foretell_19 : decode cX5_foretell 19 = .ok (.getfield 42, 3) := by decide +kernel
theorem dX5_foretell_22 : decode cX5_foretell 22 = .ok (.aload_n 0, 1) := by decide +kernel
theorem dX5_foretell_23 : decode cX5_foretell 23 = .ok (.getfield 19, 3) := by decide +kernel
theorem dX5_foretell_26 : decode cX5_foretell 26 = .ok (.invokevirtual 239, 3) := by decide +kernel
theorem dX5_foretell_29 : decode cX5_foretell 29 = .ok (.return_, 1) := by decide +kernel
theorem dX5_play_0 : decode cX5_play 0 = .ok (.iconst 1, 1) := by decide +kernel
theorem dX5_play_1 : decode cX5_play 1 = .ok (.istore_n 3, 1) := by decide +kernel
theorem dX5_play_2 : decode cX5_play 2 = .ok (.iconst 0, 1) := by decide +kernel
theorem dX5_play_3 : decode cX5_play 3 = .ok (.istore 4, 2) := by decide +kernel
theorem dX5_play_5 : decode cX5_play 5 = .ok (.iload 4, 2) := by decide +kernel
theorem dX5_play_7 : decode cX5_play 7 = .ok (.iload_n 1, 1) := by decide +kernel
theorem dX5_play_8 : decode cX5_play 8 = .ok (.if_icmp .ge 26, 3) := by decide +kernel
theorem dX5_play_11 : decode cX5_play 11 = .ok (.iload_n 3, 1) := by decide +kernel
theorem dX5_play_12 : decode cX5_play 12 = .ok (.ifCond .eq 22, 3) := by decide +kernel
theorem dX5_play_15 : decode cX5_play 15 = .ok (.aload_n 0, 1) := by decide +kernel
theorem dX5_play_16 : decode cX5_play 16 = .ok (.getfield 42, 3) := by decide +kernel
theorem dX5_play_19 : decode cX5_play 19 = .ok (.aload_n 0, 1) := by decide +kernel
theorem dX5_play_20 : decode cX5_play 20 = .ok (.getfield 39, 3) := by decide +kernel
theorem dX5_play_23 : decode cX5_play 23 = .ok (.iload_n 2, 1) := by decide +kernel
theorem dX5_play_24 : decode cX5_play 24 = .ok (.invokevirtual 205, 3) := by decide +kernel
theorem dX5_play_27 : decode cX5_play 27 = .ok (.istore_n 3, 1) := by decide +kernel
theorem dX5_play_28 : decode cX5_play 28 = .ok (.iinc 4 1, 3) := by decide +kernel
theorem dX5_play_31 : decode cX5_play 31 = .ok (.goto (-26), 3) := by decide +kernel
theorem dX5_play_34 : decode cX5_play 34 = .ok (.return_, 1) := by decide +kernel
theorem dX5_soonestAll_0 : decode cX5_soonestAll 0 = .ok (.aload_n 0, 1) := by decide +kernel
theorem dX5_soonestAll_1 : decode cX5_soonestAll 1 = .ok (.getfield 39, 3) := by decide +kernel
theorem dX5_soonestAll_4 : decode cX5_soonestAll 4 = .ok (.invokevirtual 151, 3) := by decide +kernel
theorem dX5_soonestAll_7 : decode cX5_soonestAll 7 = .ok (.aload_n 0, 1) := by decide +kernel
theorem dX5_soonestAll_8 : decode cX5_soonestAll 8 = .ok (.getfield 42, 3) := by decide +kernel
theorem dX5_soonestAll_11 : decode cX5_soonestAll 11 = .ok (.aload_n 0, 1) := by decide +kernel
theorem dX5_soonestAll_12 : decode cX5_soonestAll 12 = .ok (.getfield 19, 3) := by decide +kernel
theorem dX5_soonestAll_15 : decode cX5_soonestAll 15 = .ok (.invokevirtual 239, 3) := by decide +kernel
theorem dX5_soonestAll_18 : decode cX5_soonestAll 18 = .ok (.iconst 1, 1) := by decide +kernel
theorem dX5_soonestAll_19 : decode cX5_soonestAll 19 = .ok (.istore_n 2, 1) := by decide +kernel
theorem dX5_soonestAll_20 : decode cX5_soonestAll 20 = .ok (.iconst 0, 1) := by decide +kernel
theorem dX5_soonestAll_21 : decode cX5_soonestAll 21 = .ok (.istore_n 3, 1) := by decide +kernel
theorem dX5_soonestAll_22 : decode cX5_soonestAll 22 = .ok (.iload_n 3, 1) := by decide +kernel
theorem dX5_soonestAll_23 : decode cX5_soonestAll 23 = .ok (.iload_n 1, 1) := by decide +kernel
theorem dX5_soonestAll_24 : decode cX5_soonestAll 24 = .ok (.if_icmp .gt 43, 3) := by decide +kernel
theorem dX5_soonestAll_27 : decode cX5_soonestAll 27 = .ok (.iload_n 2, 1) := by decide +kernel
theorem dX5_soonestAll_28 : decode cX5_soonestAll 28 = .ok (.ifCond .eq 39, 3) := by decide +kernel
theorem dX5_soonestAll_31 : decode cX5_soonestAll 31 = .ok (.aload_n 0, 1) := by decide +kernel
theorem dX5_soonestAll_32 : decode cX5_soonestAll 32 = .ok (.getfield 42, 3) := by decide +kernel
theorem dX5_soonestAll_35 : decode cX5_soonestAll 35 = .ok (.aload_n 0, 1) := by decide +kernel
theorem dX5_soonestAll_36 : decode cX5_soonestAll 36 = .ok (.getfield 39, 3) := by decide +kernel
theorem dX5_soonestAll_39 : decode cX5_soonestAll 39 = .ok (.invokevirtual 263, 3) := by decide +kernel
theorem dX5_soonestAll_42 : decode cX5_soonestAll 42 = .ok (.ifCond .eq 5, 3) := by decide +kernel
theorem dX5_soonestAll_45 : decode cX5_soonestAll 45 = .ok (.iload_n 3, 1) := by decide +kernel
theorem dX5_soonestAll_46 : decode cX5_soonestAll 46 = .ok (.ireturn, 1) := by decide +kernel
theorem dX5_soonestAll_47 : decode cX5_soonestAll 47 = .ok (.aload_n 0, 1) := by decide +kernel
theorem dX5_soonestAll_48 : decode cX5_soonestAll 48 = .ok (.getfield 42, 3) := by decide +kernel
theorem dX5_soonestAll_51 : decode cX5_soonestAll 51 = .ok (.aload_n 0, 1) := by decide +kernel
theorem dX5_soonestAll_52 : decode cX5_soonestAll 52 = .ok (.getfield 39, 3) := by decide +kernel
theorem dX5_soonestAll_55 : decode cX5_soonestAll 55 = .ok (.bipush 127, 2) := by decide +kernel
theorem dX5_soonestAll_57 : decode cX5_soonestAll 57 = .ok (.invokevirtual 205, 3) := by decide +kernel
theorem dX5_soonestAll_60 : decode cX5_soonestAll 60 = .ok (.istore_n 2, 1) := by decide +kernel
theorem dX5_soonestAll_61 : decode cX5_soonestAll 61 = .ok (.iinc 3 1, 3) := by decide +kernel
theorem dX5_soonestAll_64 : decode cX5_soonestAll 64 = .ok (.goto (-42), 3) := by decide +kernel
theorem dX5_soonestAll_67 : decode cX5_soonestAll 67 = .ok (.bipush (-4), 2) := by decide +kernel
theorem dX5_soonestAll_69 : decode cX5_soonestAll 69 = .ok (.ireturn, 1) := by decide +kernel
theorem dX5_foretellDone_0 : decode cX5_foretellDone 0 = .ok (.aload_n 0, 1) := by decide +kernel
theorem dX5_foretellDone_1 : decode cX5_foretellDone 1 = .ok (.getfield 39, 3) := by decide +kernel
theorem dX5_foretellDone_4 : decode cX5_foretellDone 4 = .ok (.aload_n 0, 1) := by decide +kernel
theorem dX5_foretellDone_5 : decode cX5_foretellDone 5 = .ok (.getfield 10, 3) := by decide +kernel
theorem dX5_foretellDone_8 : decode cX5_foretellDone 8 = .ok (.invokevirtual 163, 3) := by decide +kernel
theorem dX5_foretellDone_11 : decode cX5_foretellDone 11 = .ok (.aload_n 0, 1) := by decide +kernel
end
section
theorem dX5_foretellDone_12 : decode cX5_foretellDone 12 = .ok (.getfield 39, 3) := by decide +kernel
theorem dX5_foretellDone_15 : decode cX5_foretellDone 15 = .ok (.iload_n 1, 1) := by decide +kernel
theorem dX5_foretellDone_16 : decode cX5_foretellDone 16 = .ok (.putfield 145, 3) := by decide +kernel
theorem dX5_foretellDone_19 : decode cX5_foretellDone 19 = .ok (.aload_n 0, 1) := by decide +kernel
theorem dX5_foretellDone_20 : decode cX5_foretellDone 20 = .ok (.getfield 39, 3) := by decide +kernel
theorem dX5_foretellDone_23 : decode cX5_foretellDone 23 = .ok (.invokevirtual 151, 3) := by decide +kernel
theorem dX5_foretellDone_26 : decode cX5_foretellDone 26 = .ok (.aload_n 0, 1) := by decide +kernel
theorem dX5_foretellDone_27 : decode cX5_foretellDone 27 = .ok (.getfield 42, 3) := by decide +kernel
theorem dX5_foretellDone_30 : decode cX5_foretellDone 30 = .ok (.aload_n 0, 1) := by decide +kernel
theorem dX5_foretellDone_31 : decode cX5_foretellDone 31 = .ok (.getfield 19, 3) := by decide +kernel
theorem dX5_foretellDone_34 : decode cX5_foretellDone 34 = .ok (.invokevirtual 239, 3) := by decide +kernel
theorem dX5_foretellDone_37 : decode cX5_foretellDone 37 = .ok (.iconst 0, 1) := by decide +kernel
theorem dX5_foretellDone_38 : decode cX5_foretellDone 38 = .ok (.istore_n 2, 1) := by decide +kernel
theorem dX5_foretellDone_39 : decode cX5_foretellDone 39 = .ok (.iload_n 2, 1) := by decide +kernel
theorem dX5_foretellDone_40 : decode cX5_foretellDone 40 = .ok (.bipush 7, 2) := by decide +kernel
theorem dX5_foretellDone_42 : decode cX5_foretellDone 42 = .ok (.if_icmp .ge 17, 3) := by decide +kernel
theorem dX5_foretellDone_45 : decode cX5_foretellDone 45 = .ok (.aload_n 0, 1) := by decide +kernel
theorem dX5_foretellDone_46 : decode cX5_foretellDone 46 = .ok (.getfield 45, 3) := by decide +kernel
theorem dX5_foretellDone_49 : decode cX5_foretellDone 49 = .ok (.iload_n 2, 1) := by decide +kernel
theorem dX5_foretellDone_50 : decode cX5_foretellDone 50 = .ok (.bipush (-4), 2) := by decide +kernel
theorem dX5_foretellDone_52 : decode cX5_foretellDone 52 = .ok (.iastore, 1) := by decide +kernel
theorem dX5_foretellDone_53 : decode cX5_foretellDone 53 = .ok (.iinc 2 1, 3) := by decide +kernel
theorem dX5_foretellDone_56 : decode cX5_foretellDone 56 = .ok (.goto (-17), 3) := by decide +kernel
theorem dX5_foretellDone_59 : decode cX5_foretellDone 59 = .ok (.iconst 1, 1) := by decide +kernel
theorem dX5_foretellDone_60 : decode cX5_foretellDone 60 = .ok (.istore_n 2, 1) := by decide +kernel
theorem dX5_foretellDone_61 : decode cX5_foretellDone 61 = .ok (.iconst 0, 1) := by decide +kernel
theorem dX5_foretellDone_62 : decode cX5_foretellDone 62 = .ok (.istore_n 3, 1) := by decide +kernel
theorem dX5_foretellDone_63 : decode cX5_foretellDone 63 = .ok (.iload_n 3, 1) := by decide +kernel
theorem dX5_foretellDone_64 : decode cX5_foretellDone 64 = .ok (.sipush 240, 3) := by decide +kernel
theorem dX5_foretellDone_67 : decode cX5_foretellDone 67 = .ok (.if_icmp .gt 32, 3) := by decide +kernel
theorem dX5_foretellDone_70 : decode cX5_foretellDone 70 = .ok (.iload_n 2, 1) := by decide +kernel
theorem dX5_foretellDone_71 : decode cX5_foretellDone 71 = .ok (.ifCond .eq 28, 3) := by decide +kernel
theorem dX5_foretellDone_74 : decode cX5_foretellDone 74 = .ok (.aload_n 0, 1) := by decide +kernel
theorem dX5_foretellDone_75 : decode cX5_foretellDone 75 = .ok (.iload_n 3, 1) := by decide +kernel
theorem dX5_foretellDone_76 : decode cX5_foretellDone 76 = .ok (.invokevirtual 267, 3) := by decide +kernel
theorem dX5_foretellDone_79 : decode cX5_foretellDone 79 = .ok (.aload_n 0, 1) := by decide +kernel
theorem dX5_foretellDone_80 : decode cX5_foretellDone 80 = .ok (.getfield 42, 3) := by decide +kernel
theorem dX5_foretellDone_83 : decode cX5_foretellDone 83 = .ok (.aload_n 0, 1) := by decide +kernel
theorem dX5_foretellDone_84 : decode cX5_foretellDone 84 = .ok (.getfield 39, 3) := by decide +kernel
theorem dX5_foretellDone_87 : decode cX5_foretellDone 87 = .ok (.bipush 127, 2) := by decide +kernel
theorem dX5_foretellDone_89 : decode cX5_foretellDone 89 = .ok (.invokevirtual 205, 3) := by decide +kernel
theorem dX5_foretellDone_92 : decode cX5_foretellDone 92 = .ok (.istore_n 2, 1) := by decide +kernel
theorem dX5_foretellDone_93 : decode cX5_foretellDone 93 = .ok (.iinc 3 1, 3) := by decide +kernel
theorem dX5_foretellDone_96 : decode cX5_foretellDone 96 = .ok (.goto (-33), 3) := by decide +kernel
theorem dX5_foretellDone_99 : decode cX5_foretellDone 99 = .ok (.return_, 1) := by decide +kernel
theorem dX5_markDone_0 : decode cX5_markDone 0 = .ok (.iconst 0, 1) := by decide +kernel
theorem dX5_markDone_1 : decode cX5_markDone 1 = .ok (.istore_n 2, 1) := by decide +kernel
theorem dX5_markDone_2 : decode cX5_markDone 2 = .ok (.iload_n 2, 1) := by decide +kernel
theorem dX5_markDone_3 : decode cX5_markDone 3 = .ok (.aload_n 0, 1) := by decide +kernel
theorem dX5_markDone_4 : decode cX5_markDone 4 = .ok (.getfield 39, 3) := by decide +kernel
theorem dX5_markDone_7 : decode cX5_markDone 7 = .ok (.getfield 73, 3) := by decide +kernel
theorem dX5_markDone_10 : decode cX5_markDone 10 = .ok (.if_icmp .ge 42, 3) := by decide +kernel
theorem dX5_markDone_13 : decode cX5_markDone 13 = .ok (.aload_n 0, 1) := by decide +kernel
theorem dX5_markDone_14 : decode cX5_markDone 14 = .ok (.getfield 45, 3) := by decide +kernel
theorem dX5_markDone_17 : decode cX5_markDone 17 = .ok (.iload_n 2, 1) := by decide +kernel
theorem dX5_markDone_18 : decode cX5_markDone 18 = .ok (.iaload, 1) := by decide +kernel
theorem dX5_markDone_19 : decode cX5_markDone 19 = .ok (.bipush (-4), 2) := by decide +kernel
theorem dX5_markDone_21 : decode cX5_markDone 21 = .ok (.if_icmp .ne 25, 3) := by decide +kernel
theorem dX5_markDone_24 : decode cX5_markDone 24 = .ok (.aload_n 0, 1) := by decide +kernel
theorem dX5_markDone_25 : decode cX5_markDone 25 = .ok (.getfield 42, 3) := by decide +kernel
theorem dX5_markDone_28 : decode cX5_markDone 28 = .ok (.aload_n 0, 1) := by decide +kernel
theorem dX5_markDone_29 : decode cX5_markDone 29 = .ok (.getfield 39, 3) := by decide +kernel
theorem dX5_markDone_32 : decode cX5_markDone 32 = .ok (.iload_n 2, 1) := by decide +kernel
theorem dX5_markDone_33 : decode cX5_markDone 33 = .ok (.invokevirtual 107, 3) := by decide +kernel
theorem dX5_markDone_36 : decode cX5_markDone 36 = .ok (.ifCond .eq 10, 3) := by decide +kernel
theorem dX5_markDone_39 : decode cX5_markDone 39 = .ok (.aload_n 0, 1) := by decide +kernel
theorem dX5_markDone_40 : decode cX5_markDone 40 = .ok (.getfield 45, 3) := by decide +kernel
theorem dX5_markDone_43 : decode cX5_markDone 43 = .ok (.iload_n 2, 1) := by decide +kernel
theorem dX5_markDone_44 : decode cX5_markDone 44 = .ok (.iload_n 1, 1) := by decide +kernel
theorem dX5_markDone_45 : decode cX5_markDone 45 = .ok (.iastore, 1) := by decide +kernel
theorem dX5_markDone_46 : decode cX5_markDone 46 = .ok (.iinc 2 1, 3) := by decide +kernel
theorem dX5_markDone_49 : decode cX5_markDone 49 = .ok (.goto (-47), 3) := by decide +kernel
theorem dX5_markDone_52 : decode cX5_markDone 52 = .ok (.return_, 1) := by decide +kernel
theorem dX5_herdWaits_0 : decode cX5_herdWaits 0 = .ok (.iconst 0, 1) := by decide +kernel
theorem dX5_herdWaits_1 : decode cX5_herdWaits 1 = .ok (.istore_n 2, 1) := by decide +kernel
theorem dX5_herdWaits_2 : decode cX5_herdWaits 2 = .ok (.iconst 0, 1) := by decide +kernel
theorem dX5_herdWaits_3 : decode cX5_herdWaits 3 = .ok (.istore_n 3, 1) := by decide +kernel
theorem dX5_herdWaits_4 : decode cX5_herdWaits 4 = .ok (.iload_n 3, 1) := by decide +kernel
theorem dX5_herdWaits_5 : decode cX5_herdWaits 5 = .ok (.aload_n 0, 1) := by decide +kernel
theorem dX5_herdWaits_6 : decode cX5_herdWaits 6 = .ok (.getfield 10, 3) := by decide +kernel
theorem dX5_herdWaits_9 : decode cX5_herdWaits 9 = .ok (.getfield 73, 3) := by decide +kernel
theorem dX5_herdWaits_12 : decode cX5_herdWaits 12 = .ok (.if_icmp .ge 59, 3) := by decide +kernel
theorem dX5_herdWaits_15 : decode cX5_herdWaits 15 = .ok (.aload_n 0, 1) := by decide +kernel
theorem dX5_herdWaits_16 : decode cX5_herdWaits 16 = .ok (.getfield 10, 3) := by decide +kernel
theorem dX5_herdWaits_19 : decode cX5_herdWaits 19 = .ok (.getfield 94, 3) := by decide +kernel
theorem dX5_herdWaits_22 : decode cX5_herdWaits 22 = .ok (.iload_n 3, 1) := by decide +kernel
theorem dX5_herdWaits_23 : decode cX5_herdWaits 23 = .ok (.iaload, 1) := by decide +kernel
theorem dX5_herdWaits_24 : decode cX5_herdWaits 24 = .ok (.iload_n 1, 1) := by decide +kernel
theorem dX5_herdWaits_25 : decode cX5_herdWaits 25 = .ok (.if_icmp .ne 40, 3) := by decide +kernel
theorem dX5_herdWaits_28 : decode cX5_herdWaits 28 = .ok (.iload_n 3, 1) := by decide +kernel
theorem dX5_herdWaits_29 : decode cX5_herdWaits 29 = .ok (.aload_n 0, 1) := by decide +kernel
theorem dX5_herdWaits_30 : decode cX5_herdWaits 30 = .ok (.getfield 10, 3) := by decide +kernel
theorem dX5_herdWaits_33 : decode cX5_herdWaits 33 = .ok (.getfield 148, 3) := by decide +kernel
theorem dX5_herdWaits_36 : decode cX5_herdWaits 36 = .ok (.if_icmp .eq 29, 3) := by decide +kernel
theorem dX5_herdWaits_39 : decode cX5_herdWaits 39 = .ok (.iload_n 2, 1) := by decide +kernel
theorem dX5_herdWaits_40 : decode cX5_herdWaits 40 = .ok (.aload_n 0, 1) := by decide +kernel
theorem dX5_herdWaits_41 : decode cX5_herdWaits 41 = .ok (.getfield 45, 3) := by decide +kernel
theorem dX5_herdWaits_44 : decode cX5_herdWaits 44 = .ok (.iload_n 3, 1) := by decide +kernel
theorem dX5_herdWaits_45 : decode cX5_herdWaits 45 = .ok (.iaload, 1) := by decide +kernel
theorem dX5_herdWaits_46 : decode cX5_herdWaits 46 = .ok (.bipush (-4), 2) := by decide +kernel
theorem dX5_herdWaits_48 : decode cX5_herdWaits 48 = .ok (.if_icmp .ne 9, 3) := by decide +kernel
theorem dX5_herdWaits_51 : decode cX5_herdWaits 51 = .ok (.sipush 240, 3) := by decide +kernel
theorem dX5_herdWaits_54 : decode cX5_herdWaits 54 = .ok (.goto 9, 3) := by decide +kernel
theorem dX5_herdWaits_57 : decode cX5_herdWaits 57 = .ok (.aload_n 0, 1) := by decide +kernel
theorem dX5_herdWaits_58 : decode cX5_herdWaits 58 = .ok (.getfield 45, 3) := by decide +kernel
theorem dX5_herdWaits_61 : decode cX5_herdWaits 61 = .ok (.iload_n 3, 1) := by decide +kernel
theorem dX5_herdWaits_62 : decode cX5_herdWaits 62 = .ok (.iaload, 1) := by decide +kernel
theorem dX5_herdWaits_63 : decode cX5_herdWaits 63 = .ok (.iadd, 1) := by decide +kernel
theorem dX5_herdWaits_64 : decode cX5_herdWaits 64 = .ok (.istore_n 2, 1) := by decide +kernel
theorem dX5_herdWaits_65 : decode cX5_herdWaits 65 = .ok (.iinc 3 1, 3) := by decide +kernel
theorem dX5_herdWaits_68 : decode cX5_herdWaits 68 = .ok (.goto (-64), 3) := by decide +kernel
theorem dX5_herdWaits_71 : decode cX5_herdWaits 71 = .ok (.iload_n 2, 1) := by decide +kernel
theorem dX5_herdWaits_72 : decode cX5_herdWaits 72 = .ok (.ireturn, 1) := by decide +kernel
theorem dX5_bestLaw_0 : decode cX5_bestLaw 0 = .ok (.iload_n 1, 1) := by decide +kernel
theorem dX5_bestLaw_1 : decode cX5_bestLaw 1 = .ok (.iconst 0, 1) := by decide +kernel
theorem dX5_bestLaw_2 : decode cX5_bestLaw 2 = .ok (.iconst 1, 1) := by decide +kernel
theorem dX5_bestLaw_3 : decode cX5_bestLaw 3 = .ok (.invokestatic 69, 3) := by decide +kernel
theorem dX5_bestLaw_6 : decode cX5_bestLaw 6 = .ok (.ifCond .eq 5, 3) := by decide +kernel
theorem dX5_bestLaw_9 : decode cX5_bestLaw 9 = .ok (.iconst (-1), 1) := by decide +kernel
theorem dX5_bestLaw_10 : decode cX5_bestLaw 10 = .ok (.ireturn, 1) := by decide +kernel
theorem dX5_bestLaw_11 : decode cX5_bestLaw 11 = .ok (.iconst 0, 1) := by decide +kernel
theorem dX5_bestLaw_12 : decode cX5_bestLaw 12 = .ok (.istore_n 3, 1) := by decide +kernel
theorem dX5_bestLaw_13 : decode cX5_bestLaw 13 = .ok (.sipush 1681, 3) := by decide +kernel
theorem dX5_bestLaw_16 : decode cX5_bestLaw 16 = .ok (.istore 4, 2) := by decide +kernel
theorem dX5_bestLaw_18 : decode cX5_bestLaw 18 = .ok (.iconst 0, 1) := by decide +kernel
theorem dX5_bestLaw_19 : decode cX5_bestLaw 19 = .ok (.istore 5, 2) := by decide +kernel
theorem dX5_bestLaw_21 : decode cX5_bestLaw 21 = .ok (.iload 5, 2) := by decide +kernel
theorem dX5_bestLaw_23 : decode cX5_bestLaw 23 = .ok (.iconst 3, 1) := by decide +kernel
theorem dX5_bestLaw_24 : decode cX5_bestLaw 24 = .ok (.if_icmp .gt 64, 3) := by decide +kernel
theorem dX5_bestLaw_27 : decode cX5_bestLaw 27 = .ok (.aload_n 0, 1) := by decide +kernel
theorem dX5_bestLaw_28 : decode cX5_bestLaw 28 = .ok (.iload 5, 2) := by decide +kernel
theorem dX5_bestLaw_30 : decode cX5_bestLaw 30 = .ok (.invokevirtual 226, 3) := by decide +kernel
theorem dX5_bestLaw_33 : decode cX5_bestLaw 33 = .ok (.aload_n 0, 1) := by decide +kernel
theorem dX5_bestLaw_34 : decode cX5_bestLaw 34 = .ok (.iconst 0, 1) := by decide +kernel
theorem dX5_bestLaw_35 : decode cX5_bestLaw 35 = .ok (.invokevirtual 232, 3) := by decide +kernel
theorem dX5_bestLaw_38 : decode cX5_bestLaw 38 = .ok (.istore 6, 2) := by decide +kernel
theorem dX5_bestLaw_40 : decode cX5_bestLaw 40 = .ok (.aload_n 0, 1) := by decide +kernel
theorem dX5_bestLaw_41 : decode cX5_bestLaw 41 = .ok (.iconst 1, 1) := by decide +kernel
theorem dX5_bestLaw_42 : decode cX5_bestLaw 42 = .ok (.invokevirtual 232, 3) := by decide +kernel
theorem dX5_bestLaw_45 : decode cX5_bestLaw 45 = .ok (.istore 7, 2) := by decide +kernel
theorem dX5_bestLaw_47 : decode cX5_bestLaw 47 = .ok (.iload_n 2, 1) := by decide +kernel
theorem dX5_bestLaw_48 : decode cX5_bestLaw 48 = .ok (.ifCond .eq 13, 3) := by decide +kernel
theorem dX5_bestLaw_51 : decode cX5_bestLaw 51 = .ok (.iload 6, 2) := by decide +kernel
theorem dX5_bestLaw_53 : decode cX5_bestLaw 53 = .ok (.iload 7, 2) := by decide +kernel
theorem dX5_bestLaw_55 : decode cX5_bestLaw 55 = .ok (.invokestatic 270, 3) := by decide +kernel
theorem dX5_bestLaw_58 : decode cX5_bestLaw 58 = .ok (.goto 8, 3) := by decide +kernel
theorem dX5_bestLaw_61 : decode cX5_bestLaw 61 = .ok (.iload 6, 2) := by decide +kernel
theorem dX5_bestLaw_63 : decode cX5_bestLaw 63 = .ok (.iload 7, 2) := by decide +kernel
theorem dX5_bestLaw_65 : decode cX5_bestLaw 65 = .ok (.iadd, 1) := by decide +kernel
theorem dX5_bestLaw_66 : decode cX5_bestLaw 66 = .ok (.istore 8, 2) := by decide +kernel
theorem dX5_bestLaw_68 : decode cX5_bestLaw 68 = .ok (.iload 8, 2) := by decide +kernel
theorem dX5_bestLaw_70 : decode cX5_bestLaw 70 = .ok (.iload 4, 2) := by decide +kernel
theorem dX5_bestLaw_72 : decode cX5_bestLaw 72 = .ok (.if_icmp .ge 10, 3) := by decide +kernel
theorem dX5_bestLaw_75 : decode cX5_bestLaw 75 = .ok (.iload 5, 2) := by decide +kernel
theorem dX5_bestLaw_77 : decode cX5_bestLaw 77 = .ok (.istore_n 3, 1) := by decide +kernel
theorem dX5_bestLaw_78 : decode cX5_bestLaw 78 = .ok (.iload 8, 2) := by decide +kernel
theorem dX5_bestLaw_80 : decode cX5_bestLaw 80 = .ok (.istore 4, 2) := by decide +kernel
theorem dX5_bestLaw_82 : decode cX5_bestLaw 82 = .ok (.iinc 5 1, 3) := by decide +kernel
theorem dX5_bestLaw_85 : decode cX5_bestLaw 85 = .ok (.goto (-64), 3) := by decide +kernel
theorem dX5_bestLaw_88 : decode cX5_bestLaw 88 = .ok (.iload_n 1, 1) := by decide +kernel
theorem dX5_bestLaw_89 : decode cX5_bestLaw 89 = .ok (.ifCond .ne 7, 3) := by decide +kernel
theorem dX5_bestLaw_92 : decode cX5_bestLaw 92 = .ok (.iload_n 3, 1) := by decide +kernel
theorem dX5_bestLaw_93 : decode cX5_bestLaw 93 = .ok (.goto 5, 3) := by decide +kernel
theorem dX5_bestLaw_96 : decode cX5_bestLaw 96 = .ok (.iload 4, 2) := by decide +kernel
theorem dX5_bestLaw_98 : decode cX5_bestLaw 98 = .ok (.ireturn, 1) := by decide +kernel
theorem dX5_buckets_0 : decode cX5_buckets 0 = .ok (.iload_n 1, 1) := by decide +kernel
theorem dX5_buckets_1 : decode cX5_buckets 1 = .ok (.invokestatic 273, 3) := by decide +kernel
theorem dX5_buckets_4 : decode cX5_buckets 4 = .ok (.ifCond .ne 23, 3) := by decide +kernel
theorem dX5_buckets_7 : decode cX5_buckets 7 = .ok (.iload_n 2, 1) := by decide +kernel
theorem dX5_buckets_8 : decode cX5_buckets 8 = .ok (.iconst 0, 1) := by decide +kernel
theorem dX5_buckets_9 : decode cX5_buckets 9 = .ok (.iconst 3, 1) := by decide +kernel
theorem dX5_buckets_10 : decode cX5_buckets 10 = .ok (.invokestatic 69, 3) := by decide +kernel
theorem dX5_buckets_13 : decode cX5_buckets 13 = .ok (.ifCond .ne 14, 3) := by decide +kernel
theorem dX5_buckets_16 : decode cX5_buckets 16 = .ok (.iload 4, 2) := by decide +kernel
theorem dX5_buckets_18 : decode cX5_buckets 18 = .ok (.iconst 1, 1) := by decide +kernel
theorem dX5_buckets_19 : decode cX5_buckets 19 = .ok (.bipush 8, 2) := by decide +kernel
theorem dX5_buckets_21 : decode cX5_buckets 21 = .ok (.invokestatic 69, 3) := by decide +kernel
theorem dX5_buckets_24 : decode cX5_buckets 24 = .ok (.ifCond .eq 5, 3) := by decide +kernel
theorem dX5_buckets_27 : decode cX5_buckets 27 = .ok (.iconst (-1), 1) := by decide +kernel
theorem dX5_buckets_28 : decode cX5_buckets 28 = .ok (.ireturn, 1) := by decide +kernel
theorem dX5_buckets_29 : decode cX5_buckets 29 = .ok (.aload_n 0, 1) := by decide +kernel
theorem dX5_buckets_30 : decode cX5_buckets 30 = .ok (.getfield 64, 3) := by decide +kernel
theorem dX5_buckets_33 : decode cX5_buckets 33 = .ok (.iload_n 1, 1) := by decide +kernel
theorem dX5_buckets_34 : decode cX5_buckets 34 = .ok (.aaload, 1) := by decide +kernel
theorem dX5_buckets_35 : decode cX5_buckets 35 = .ok (.iload_n 2, 1) := by decide +kernel
theorem dX5_buckets_36 : decode cX5_buckets 36 = .ok (.iload_n 3, 1) := by decide +kernel
theorem dX5_buckets_37 : decode cX5_buckets 37 = .ok (.iconst 2, 1) := by decide +kernel
theorem dX5_buckets_38 : decode cX5_buckets 38 = .ok (.iload 4, 2) := by decide +kernel
theorem dX5_buckets_40 : decode cX5_buckets 40 = .ok (.imul, 1) := by decide +kernel
theorem dX5_buckets_41 : decode cX5_buckets 41 = .ok (.invokevirtual 276, 3) := by decide +kernel
theorem dX5_buckets_44 : decode cX5_buckets 44 = .ok (.istore 5, 2) := by decide +kernel
theorem dX5_buckets_46 : decode cX5_buckets 46 = .ok (.iload 5, 2) := by decide +kernel
theorem dX5_buckets_48 : decode cX5_buckets 48 = .ok (.ifCond .eq 6, 3) := by decide +kernel
theorem dX5_buckets_51 : decode cX5_buckets 51 = .ok (.iload 5, 2) := by decide +kernel
theorem dX5_buckets_53 : decode cX5_buckets 53 = .ok (.ireturn, 1) := by decide +kernel
theorem dX5_buckets_54 : decode cX5_buckets 54 = .ok (.aload_n 0, 1) := by decide +kernel
theorem dX5_buckets_55 : decode cX5_buckets 55 = .ok (.aload_n 0, 1) := by decide +kernel
theorem dX5_buckets_56 : decode cX5_buckets 56 = .ok (.getfield 64, 3) := by decide +kernel
theorem dX5_buckets_59 : decode cX5_buckets 59 = .ok (.iload_n 1, 1) := by decide +kernel
theorem dX5_buckets_60 : decode cX5_buckets 60 = .ok (.aaload, 1) := by decide +kernel
theorem dX5_buckets_61 : decode cX5_buckets 61 = .ok (.iload_n 3, 1) := by decide +kernel
theorem dX5_buckets_62 : decode cX5_buckets 62 = .ok (.iload 4, 2) := by decide +kernel
theorem dX5_buckets_64 : decode cX5_buckets 64 = .ok (.invokevirtual 279, 3) := by decide +kernel
theorem dX5_buckets_67 : decode cX5_buckets 67 = .ok (.ifCond .ne 6, 3) := by decide +kernel
theorem dX5_buckets_70 : decode cX5_buckets 70 = .ok (.bipush (-2), 2) := by decide +kernel
theorem dX5_buckets_72 : decode cX5_buckets 72 = .ok (.ireturn, 1) := by decide +kernel
theorem dX5_buckets_73 : decode cX5_buckets 73 = .ok (.iconst 0, 1) := by decide +kernel
theorem dX5_buckets_74 : decode cX5_buckets 74 = .ok (.istore 6, 2) := by decide +kernel
theorem dX5_buckets_76 : decode cX5_buckets 76 = .ok (.iconst 1, 1) := by decide +kernel
theorem dX5_buckets_77 : decode cX5_buckets 77 = .ok (.istore 7, 2) := by decide +kernel
theorem dX5_buckets_79 : decode cX5_buckets 79 = .ok (.iload 7, 2) := by decide +kernel
theorem dX5_buckets_81 : decode cX5_buckets 81 = .ok (.bipush 9, 2) := by decide +kernel
theorem dX5_buckets_83 : decode cX5_buckets 83 = .ok (.if_icmp .gt 29, 3) := by decide +kernel
theorem dX5_buckets_86 : decode cX5_buckets 86 = .ok (.aload_n 0, 1) := by decide +kernel
theorem dX5_buckets_87 : decode cX5_buckets 87 = .ok (.iload 7, 2) := by decide +kernel
theorem dX5_buckets_89 : decode cX5_buckets 89 = .ok (.iload 4, 2) := by decide +kernel
theorem dX5_buckets_91 : decode cX5_buckets 91 = .ok (.invokevirtual 283, 3) := by decide +kernel
theorem dX5_buckets_94 : decode cX5_buckets 94 = .ok (.ifCond .eq 12, 3) := by decide +kernel
theorem dX5_buckets_97 : decode cX5_buckets 97 = .ok (.iload 6, 2) := by decide +kernel
theorem dX5_buckets_99 : decode cX5_buckets 99 = .ok (.iconst 1, 1) := by decide +kernel
theorem dX5_buckets_100 : decode cX5_buckets 100 = .ok (.iload 7, 2) := by decide +kernel
theorem dX5_buckets_102 : decode cX5_buckets 102 = .ok (.ishl, 1) := by decide +kernel
theorem dX5_buckets_103 : decode cX5_buckets 103 = .ok (.ior, 1) := by decide +kernel
theorem dX5_buckets_104 : decode cX5_buckets 104 = .ok (.istore 6, 2) := by decide +kernel
theorem dX5_buckets_106 : decode cX5_buckets 106 = .ok (.iinc 7 1, 3) := by decide +kernel
theorem dX5_buckets_109 : decode cX5_buckets 109 = .ok (.goto (-30), 3) := by decide +kernel
theorem dX5_buckets_112 : decode cX5_buckets 112 = .ok (.iload 6, 2) := by decide +kernel
theorem dX5_buckets_114 : decode cX5_buckets 114 = .ok (.ireturn, 1) := by decide +kernel
theorem dX5_readSeen_0 : decode cX5_readSeen 0 = .ok (.iconst 0, 1) := by decide +kernel
theorem dX5_readSeen_1 : decode cX5_readSeen 1 = .ok (.istore 4, 2) := by decide +kernel
theorem dX5_readSeen_3 : decode cX5_readSeen 3 = .ok (.iload 4, 2) := by decide +kernel
theorem dX5_readSeen_5 : decode cX5_readSeen 5 = .ok (.iload_n 3, 1) := by decide +kernel
theorem dX5_readSeen_6 : decode cX5_readSeen 6 = .ok (.if_icmp .ge 91, 3) := by decide +kernel
theorem dX5_readSeen_9 : decode cX5_readSeen 9 = .ok (.aload_n 1, 1) := by decide +kernel
theorem dX5_readSeen_10 : decode cX5_readSeen 10 = .ok (.getfield 287, 3) := by decide +kernel
theorem dX5_readSeen_13 : decode cX5_readSeen 13 = .ok (.iload_n 2, 1) := by decide +kernel
theorem dX5_readSeen_14 : decode cX5_readSeen 14 = .ok (.iconst 2, 1) := by decide +kernel
theorem dX5_readSeen_15 : decode cX5_readSeen 15 = .ok (.iload 4, 2) := by decide +kernel
theorem dX5_readSeen_17 : decode cX5_readSeen 17 = .ok (.imul, 1) := by decide +kernel
theorem dX5_readSeen_18 : decode cX5_readSeen 18 = .ok (.iadd, 1) := by decide +kernel
theorem dX5_readSeen_19 : decode cX5_readSeen 19 = .ok (.laload, 1) := by decide +kernel
theorem dX5_readSeen_20 : decode cX5_readSeen 20 = .ok (.lstore 5, 2) := by decide +kernel
theorem dX5_readSeen_22 : decode cX5_readSeen 22 = .ok (.aload_n 1, 1) := by decide +kernel
theorem dX5_readSeen_23 : decode cX5_readSeen 23 = .ok (.getfield 287, 3) := by decide +kernel
theorem dX5_readSeen_26 : decode cX5_readSeen 26 = .ok (.iload_n 2, 1) := by decide +kernel
theorem dX5_readSeen_27 : decode cX5_readSeen 27 = .ok (.iconst 2, 1) := by decide +kernel
theorem dX5_readSeen_28 : decode cX5_readSeen 28 = .ok (.iload 4, 2) := by decide +kernel
theorem dX5_readSeen_30 : decode cX5_readSeen 30 = .ok (.imul, 1) := by decide +kernel
theorem dX5_readSeen_31 : decode cX5_readSeen 31 = .ok (.iadd, 1) := by decide +kernel
theorem dX5_readSeen_32 : decode cX5_readSeen 32 = .ok (.iconst 1, 1) := by decide +kernel
theorem dX5_readSeen_33 : decode cX5_readSeen 33 = .ok (.iadd, 1) := by decide +kernel
theorem dX5_readSeen_34 : decode cX5_readSeen 34 = .ok (.laload, 1) := by decide +kernel
theorem dX5_readSeen_35 : decode cX5_readSeen 35 = .ok (.lstore 7, 2) := by decide +kernel
theorem dX5_readSeen_37 : decode cX5_readSeen 37 = .ok (.lload 5, 2) := by decide +kernel
theorem dX5_readSeen_39 : decode cX5_readSeen 39 = .ok (.lconst 0, 1) := by decide +kernel
theorem dX5_readSeen_40 : decode cX5_readSeen 40 = .ok (.lcmp, 1) := by decide +kernel
theorem dX5_readSeen_41 : decode cX5_readSeen 41 = .ok (.ifCond .lt 28, 3) := by decide +kernel
theorem dX5_readSeen_44 : decode cX5_readSeen 44 = .ok (.lload 5, 2) := by decide +kernel
theorem dX5_readSeen_46 : decode cX5_readSeen 46 = .ok (.ldc2_w 291, 3) := by decide +kernel
theorem dX5_readSeen_49 : decode cX5_readSeen 49 = .ok (.lcmp, 1) := by decide +kernel
theorem dX5_readSeen_50 : decode cX5_readSeen 50 = .ok (.ifCond .gt 19, 3) := by decide +kernel
theorem dX5_readSeen_53 : decode cX5_readSeen 53 = .ok (.lload 7, 2) := by decide +kernel
theorem dX5_readSeen_55 : decode cX5_readSeen 55 = .ok (.lconst 0, 1) := by decide +kernel
theorem dX5_readSeen_56 : decode cX5_readSeen 56 = .ok (.lcmp, 1) := by decide +kernel
theorem dX5_readSeen_57 : decode cX5_readSeen 57 = .ok (.ifCond .lt 12, 3) := by decide +kernel
theorem dX5_readSeen_60 : decode cX5_readSeen 60 = .ok (.lload 7, 2) := by decide +kernel
theorem dX5_readSeen_62 : decode cX5_readSeen 62 = .ok (.ldc2_w 293, 3) := by decide +kernel
theorem dX5_readSeen_65 : decode cX5_readSeen 65 = .ok (.lcmp, 1) := by decide +kernel
theorem dX5_readSeen_66 : decode cX5_readSeen 66 = .ok (.ifCond .le 5, 3) := by decide +kernel
theorem dX5_readSeen_69 : decode cX5_readSeen 69 = .ok (.iconst 0, 1) := by decide +kernel
theorem dX5_readSeen_70 : decode cX5_readSeen 70 = .ok (.ireturn, 1) := by decide +kernel
theorem dX5_readSeen_71 : decode cX5_readSeen 71 = .ok (.aload_n 0, 1) := by decide +kernel
theorem dX5_readSeen_72 : decode cX5_readSeen 72 = .ok (.getfield 49, 3) := by decide +kernel
theorem dX5_readSeen_75 : decode cX5_readSeen 75 = .ok (.iload 4, 2) := by decide +kernel
theorem dX5_readSeen_77 : decode cX5_readSeen 77 = .ok (.lload 5, 2) := by decide +kernel
theorem dX5_readSeen_79 : decode cX5_readSeen 79 = .ok (.l2i, 1) := by decide +kernel
theorem dX5_readSeen_80 : decode cX5_readSeen 80 = .ok (.iastore, 1) := by decide +kernel
theorem dX5_readSeen_81 : decode cX5_readSeen 81 = .ok (.aload_n 0, 1) := by decide +kernel
theorem dX5_readSeen_82 : decode cX5_readSeen 82 = .ok (.getfield 52, 3) := by decide +kernel
theorem dX5_readSeen_85 : decode cX5_readSeen 85 = .ok (.iload 4, 2) := by decide +kernel
theorem dX5_readSeen_87 : decode cX5_readSeen 87 = .ok (.lload 7, 2) := by decide +kernel
theorem dX5_readSeen_89 : decode cX5_readSeen 89 = .ok (.l2i, 1) := by decide +kernel
theorem dX5_readSeen_90 : decode cX5_readSeen 90 = .ok (.iastore, 1) := by decide +kernel
theorem dX5_readSeen_91 : decode cX5_readSeen 91 = .ok (.iinc 4 1, 3) := by decide +kernel
theorem dX5_readSeen_94 : decode cX5_readSeen 94 = .ok (.goto (-91), 3) := by decide +kernel
theorem dX5_readSeen_97 : decode cX5_readSeen 97 = .ok (.iconst 1, 1) := by decide +kernel
theorem dX5_readSeen_98 : decode cX5_readSeen 98 = .ok (.ireturn, 1) := by decide +kernel
theorem dX5_wouldBeSeen_0 : decode cX5_wouldBeSeen 0 = .ok (.aload_n 0, 1) := by decide +kernel
theorem dX5_wouldBeSeen_1 : decode cX5_wouldBeSeen 1 = .ok (.invokevirtual 219, 3) := by decide +kernel
theorem dX5_wouldBeSeen_4 : decode cX5_wouldBeSeen 4 = .ok (.aload_n 0, 1) := by decide +kernel
theorem dX5_wouldBeSeen_5 : decode cX5_wouldBeSeen 5 = .ok (.getfield 39, 3) := by decide +kernel
theorem dX5_wouldBeSeen_8 : decode cX5_wouldBeSeen 8 = .ok (.iload_n 1, 1) := by decide +kernel
theorem dX5_wouldBeSeen_9 : decode cX5_wouldBeSeen 9 = .ok (.putfield 136, 3) := by decide +kernel
theorem dX5_wouldBeSeen_12 : decode cX5_wouldBeSeen 12 = .ok (.iconst 0, 1) := by decide +kernel
theorem dX5_wouldBeSeen_13 : decode cX5_wouldBeSeen 13 = .ok (.istore_n 3, 1) := by decide +kernel
theorem dX5_wouldBeSeen_14 : decode cX5_wouldBeSeen 14 = .ok (.iconst 0, 1) := by decide +kernel
theorem dX5_wouldBeSeen_15 : decode cX5_wouldBeSeen 15 = .ok (.istore 4, 2) := by decide +kernel
theorem dX5_wouldBeSeen_17 : decode cX5_wouldBeSeen 17 = .ok (.iload 4, 2) := by decide +kernel
theorem dX5_wouldBeSeen_19 : decode cX5_wouldBeSeen 19 = .ok (.iload_n 2, 1) := by decide +kernel
theorem dX5_wouldBeSeen_20 : decode cX5_wouldBeSeen 20 = .ok (.if_icmp .ge 21, 3) := by decide +kernel
theorem dX5_wouldBeSeen_23 : decode cX5_wouldBeSeen 23 = .ok (.iload_n 3, 1) := by decide +kernel
theorem dX5_wouldBeSeen_24 : decode cX5_wouldBeSeen 24 = .ok (.aload_n 0, 1) := by decide +kernel
theorem dX5_wouldBeSeen_25 : decode cX5_wouldBeSeen 25 = .ok (.getfield 49, 3) := by decide +kernel
theorem dX5_wouldBeSeen_28 : decode cX5_wouldBeSeen 28 = .ok (.iload 4, 2) := by decide +kernel
theorem dX5_wouldBeSeen_30 : decode cX5_wouldBeSeen 30 = .ok (.iaload, 1) := by decide +kernel
theorem dX5_wouldBeSeen_31 : decode cX5_wouldBeSeen 31 = .ok (.invokestatic 270, 3) := by decide +kernel
theorem dX5_wouldBeSeen_34 : decode cX5_wouldBeSeen 34 = .ok (.istore_n 3, 1) := by decide +kernel
theorem dX5_wouldBeSeen_35 : decode cX5_wouldBeSeen 35 = .ok (.iinc 4 1, 3) := by decide +kernel
theorem dX5_wouldBeSeen_38 : decode cX5_wouldBeSeen 38 = .ok (.goto (-21), 3) := by decide +kernel
theorem dX5_wouldBeSeen_41 : decode cX5_wouldBeSeen 41 = .ok (.iconst 0, 1) := by decide +kernel
theorem dX5_wouldBeSeen_42 : decode cX5_wouldBeSeen 42 = .ok (.istore 4, 2) := by decide +kernel
theorem dX5_wouldBeSeen_44 : decode cX5_wouldBeSeen 44 = .ok (.iload 4, 2) := by decide +kernel
theorem dX5_wouldBeSeen_46 : decode cX5_wouldBeSeen 46 = .ok (.iload_n 3, 1) := by decide +kernel
theorem dX5_wouldBeSeen_47 : decode cX5_wouldBeSeen 47 = .ok (.if_icmp .gt 69, 3) := by decide +kernel
theorem dX5_wouldBeSeen_50 : decode cX5_wouldBeSeen 50 = .ok (.iconst 0, 1) := by decide +kernel
theorem dX5_wouldBeSeen_51 : decode cX5_wouldBeSeen 51 = .ok (.istore 5, 2) := by decide +kernel
theorem dX5_wouldBeSeen_53 : decode cX5_wouldBeSeen 53 = .ok (.iload 5, 2) := by decide +kernel
theorem dX5_wouldBeSeen_55 : decode cX5_wouldBeSeen 55 = .ok (.iload_n 2, 1) := by decide +kernel
theorem dX5_wouldBeSeen_56 : decode cX5_wouldBeSeen 56 = .ok (.if_icmp .ge 40, 3) := by decide +kernel
theorem dX5_wouldBeSeen_59 : decode cX5_wouldBeSeen 59 = .ok (.aload_n 0, 1) := by decide +kernel
theorem dX5_wouldBeSeen_60 : decode cX5_wouldBeSeen 60 = .ok (.getfield 49, 3) := by decide +kernel
theorem dX5_wouldBeSeen_63 : decode cX5_wouldBeSeen 63 = .ok (.iload 5, 2) := by decide +kernel
theorem dX5_wouldBeSeen_65 : decode cX5_wouldBeSeen 65 = .ok (.iaload, 1) := by decide +kernel
theorem dX5_wouldBeSeen_66 : decode cX5_wouldBeSeen 66 = .ok (.iload 4, 2) := by decide +kernel
theorem dX5_wouldBeSeen_68 : decode cX5_wouldBeSeen 68 = .ok (.if_icmp .ne 22, 3) := by decide +kernel
theorem dX5_wouldBeSeen_71 : decode cX5_wouldBeSeen 71 = .ok (.aload_n 0, 1) := by decide +kernel
theorem dX5_wouldBeSeen_72 : decode cX5_wouldBeSeen 72 = .ok (.getfield 52, 3) := by decide +kernel
theorem dX5_wouldBeSeen_75 : decode cX5_wouldBeSeen 75 = .ok (.iload 5, 2) := by decide +kernel
theorem dX5_wouldBeSeen_77 : decode cX5_wouldBeSeen 77 = .ok (.iaload, 1) := by decide +kernel
theorem dX5_wouldBeSeen_78 : decode cX5_wouldBeSeen 78 = .ok (.aload_n 0, 1) := by decide +kernel
theorem dX5_wouldBeSeen_79 : decode cX5_wouldBeSeen 79 = .ok (.getfield 42, 3) := by decide +kernel
theorem dX5_wouldBeSeen_82 : decode cX5_wouldBeSeen 82 = .ok (.getfield 127, 3) := by decide +kernel
theorem dX5_wouldBeSeen_85 : decode cX5_wouldBeSeen 85 = .ok (.if_icmp .eq 5, 3) := by decide +kernel
theorem dX5_wouldBeSeen_88 : decode cX5_wouldBeSeen 88 = .ok (.iconst 0, 1) := by decide +kernel
theorem dX5_wouldBeSeen_89 : decode cX5_wouldBeSeen 89 = .ok (.ireturn, 1) := by decide +kernel
theorem dX5_wouldBeSeen_90 : decode cX5_wouldBeSeen 90 = .ok (.iinc 5 1, 3) := by decide +kernel
theorem dX5_wouldBeSeen_93 : decode cX5_wouldBeSeen 93 = .ok (.goto (-40), 3) := by decide +kernel
theorem dX5_wouldBeSeen_96 : decode cX5_wouldBeSeen 96 = .ok (.aload_n 0, 1) := by decide +kernel
theorem dX5_wouldBeSeen_97 : decode cX5_wouldBeSeen 97 = .ok (.getfield 42, 3) := by decide +kernel
theorem dX5_wouldBeSeen_100 : decode cX5_wouldBeSeen 100 = .ok (.aload_n 0, 1) := by decide +kernel
theorem dX5_wouldBeSeen_101 : decode cX5_wouldBeSeen 101 = .ok (.getfield 39, 3) := by decide +kernel
theorem dX5_wouldBeSeen_104 : decode cX5_wouldBeSeen 104 = .ok (.bipush 127, 2) := by decide +kernel
theorem dX5_wouldBeSeen_106 : decode cX5_wouldBeSeen 106 = .ok (.invokevirtual 205, 3) := by decide +kernel
theorem dX5_wouldBeSeen_109 : decode cX5_wouldBeSeen 109 = .ok (.pop, 1) := by decide +kernel
theorem dX5_wouldBeSeen_110 : decode cX5_wouldBeSeen 110 = .ok (.iinc 4 1, 3) := by decide +kernel
theorem dX5_wouldBeSeen_113 : decode cX5_wouldBeSeen 113 = .ok (.goto (-69), 3) := by decide +kernel
theorem dX5_wouldBeSeen_116 : decode cX5_wouldBeSeen 116 = .ok (.iconst 1, 1) := by decide +kernel
theorem dX5_wouldBeSeen_117 : decode cX5_wouldBeSeen 117 = .ok (.ireturn, 1) := by decide +kernel
theorem dX5_film_0 : decode cX5_film 0 = .ok (.iload_n 1, 1) := by decide +kernel
theorem dX5_film_1 : decode cX5_film 1 = .ok (.iconst 1, 1) := by decide +kernel
theorem dX5_film_2 : decode cX5_film 2 = .ok (.bipush 24, 2) := by decide +kernel
theorem dX5_film_4 : decode cX5_film 4 = .ok (.invokestatic 69, 3) := by decide +kernel
theorem dX5_film_7 : decode cX5_film 7 = .ok (.ifCond .ne 19, 3) := by decide +kernel
theorem dX5_film_10 : decode cX5_film 10 = .ok (.iload_n 2, 1) := by decide +kernel
theorem dX5_film_11 : decode cX5_film 11 = .ok (.invokestatic 273, 3) := by decide +kernel
theorem dX5_film_14 : decode cX5_film 14 = .ok (.ifCond .ne 12, 3) := by decide +kernel
theorem dX5_film_17 : decode cX5_film 17 = .ok (.iload_n 3, 1) := by decide +kernel
theorem dX5_film_18 : decode cX5_film 18 = .ok (.iconst 0, 1) := by decide +kernel
theorem dX5_film_19 : decode cX5_film 19 = .ok (.iconst 3, 1) := by decide +kernel
theorem dX5_film_20 : decode cX5_film 20 = .ok (.invokestatic 69, 3) := by decide +kernel
theorem dX5_film_23 : decode cX5_film 23 = .ok (.ifCond .eq 5, 3) := by decide +kernel
theorem dX5_film_26 : decode cX5_film 26 = .ok (.iconst (-1), 1) := by decide +kernel
theorem dX5_film_27 : decode cX5_film 27 = .ok (.ireturn, 1) := by decide +kernel
theorem dX5_film_28 : decode cX5_film 28 = .ok (.aload_n 0, 1) := by decide +kernel
theorem dX5_film_29 : decode cX5_film 29 = .ok (.getfield 64, 3) := by decide +kernel
theorem dX5_film_32 : decode cX5_film 32 = .ok (.iload_n 2, 1) := by decide +kernel
theorem dX5_film_33 : decode cX5_film 33 = .ok (.aaload, 1) := by decide +kernel
theorem dX5_film_34 : decode cX5_film 34 = .ok (.iload_n 3, 1) := by decide +kernel
theorem dX5_film_35 : decode cX5_film 35 = .ok (.iload 4, 2) := by decide +kernel
theorem dX5_film_37 : decode cX5_film 37 = .ok (.iload_n 1, 1) := by decide +kernel
theorem dX5_film_38 : decode cX5_film 38 = .ok (.invokevirtual 276, 3) := by decide +kernel
theorem dX5_film_41 : decode cX5_film 41 = .ok (.istore 5, 2) := by decide +kernel
theorem dX5_film_43 : decode cX5_film 43 = .ok (.iload 5, 2) := by decide +kernel
theorem dX5_film_45 : decode cX5_film 45 = .ok (.ifCond .eq 6, 3) := by decide +kernel
theorem dX5_film_48 : decode cX5_film 48 = .ok (.iload 5, 2) := by decide +kernel
theorem dX5_film_50 : decode cX5_film 50 = .ok (.ireturn, 1) := by decide +kernel
theorem dX5_film_51 : decode cX5_film 51 = .ok (.aload_n 0, 1) := by decide +kernel
theorem dX5_film_52 : decode cX5_film 52 = .ok (.invokevirtual 219, 3) := by decide +kernel
theorem dX5_film_55 : decode cX5_film 55 = .ok (.iconst 0, 1) := by decide +kernel
theorem dX5_film_56 : decode cX5_film 56 = .ok (.istore 6, 2) := by decide +kernel
theorem dX5_film_58 : decode cX5_film 58 = .ok (.iload 6, 2) := by decide +kernel
theorem dX5_film_60 : decode cX5_film 60 = .ok (.iload_n 1, 1) := by decide +kernel
theorem dX5_film_61 : decode cX5_film 61 = .ok (.if_icmp .ge 45, 3) := by decide +kernel
theorem dX5_film_64 : decode cX5_film 64 = .ok (.aload_n 0, 1) := by decide +kernel
theorem dX5_film_65 : decode cX5_film 65 = .ok (.getfield 42, 3) := by decide +kernel
theorem dX5_film_68 : decode cX5_film 68 = .ok (.aload_n 0, 1) := by decide +kernel
theorem dX5_film_69 : decode cX5_film 69 = .ok (.getfield 39, 3) := by decide +kernel
theorem dX5_film_72 : decode cX5_film 72 = .ok (.bipush 127, 2) := by decide +kernel
theorem dX5_film_74 : decode cX5_film 74 = .ok (.invokevirtual 205, 3) := by decide +kernel
theorem dX5_film_77 : decode cX5_film 77 = .ok (.pop, 1) := by decide +kernel
theorem dX5_film_78 : decode cX5_film 78 = .ok (.aload_n 0, 1) := by decide +kernel
theorem dX5_film_79 : decode cX5_film 79 = .ok (.getfield 64, 3) := by decide +kernel
theorem dX5_film_82 : decode cX5_film 82 = .ok (.iload_n 2, 1) := by decide +kernel
theorem dX5_film_83 : decode cX5_film 83 = .ok (.aaload, 1) := by decide +kernel
theorem dX5_film_84 : decode cX5_film 84 = .ok (.iload 4, 2) := by decide +kernel
theorem dX5_film_86 : decode cX5_film 86 = .ok (.iload 6, 2) := by decide +kernel
theorem dX5_film_88 : decode cX5_film 88 = .ok (.iadd, 1) := by decide +kernel
theorem dX5_film_89 : decode cX5_film 89 = .ok (.aload_n 0, 1) := by decide +kernel
theorem dX5_film_90 : decode cX5_film 90 = .ok (.getfield 42, 3) := by decide +kernel
theorem dX5_film_93 : decode cX5_film 93 = .ok (.getfield 127, 3) := by decide +kernel
theorem dX5_film_96 : decode cX5_film 96 = .ok (.i2l, 1) := by decide +kernel
theorem dX5_film_97 : decode cX5_film 97 = .ok (.invokevirtual 295, 3) := by decide +kernel
theorem dX5_film_100 : decode cX5_film 100 = .ok (.iinc 6 1, 3) := by decide +kernel
theorem dX5_film_103 : decode cX5_film 103 = .ok (.goto (-45), 3) := by decide +kernel
theorem dX5_film_106 : decode cX5_film 106 = .ok (.iload_n 1, 1) := by decide +kernel
theorem dX5_film_107 : decode cX5_film 107 = .ok (.ireturn, 1) := by decide +kernel
theorem dX5_sheet_0 : decode cX5_sheet 0 = .ok (.iload_n 1, 1) := by decide +kernel
theorem dX5_sheet_1 : decode cX5_sheet 1 = .ok (.invokestatic 273, 3) := by decide +kernel
theorem dX5_sheet_4 : decode cX5_sheet 4 = .ok (.ifCond .ne 18, 3) := by decide +kernel
theorem dX5_sheet_7 : decode cX5_sheet 7 = .ok (.iload_n 2, 1) := by decide +kernel
theorem dX5_sheet_8 : decode cX5_sheet 8 = .ok (.iconst 0, 1) := by decide +kernel
theorem dX5_sheet_9 : decode cX5_sheet 9 = .ok (.iconst 3, 1) := by decide +kernel
theorem dX5_sheet_10 : decode cX5_sheet 10 = .ok (.invokestatic 69, 3) := by decide +kernel
theorem dX5_sheet_13 : decode cX5_sheet 13 = .ok (.ifCond .ne 9, 3) := by decide +kernel
theorem dX5_sheet_16 : decode cX5_sheet 16 = .ok (.iload_n 3, 1) := by decide +kernel
theorem dX5_sheet_17 : decode cX5_sheet 17 = .ok (.bipush 24, 2) := by decide +kernel
theorem dX5_sheet_19 : decode cX5_sheet 19 = .ok (.if_icmp .le 5, 3) := by decide +kernel
theorem dX5_sheet_22 : decode cX5_sheet 22 = .ok (.iconst (-1), 1) := by decide +kernel
theorem dX5_sheet_23 : decode cX5_sheet 23 = .ok (.ireturn, 1) := by decide +kernel
theorem dX5_sheet_24 : decode cX5_sheet 24 = .ok (.iload_n 3, 1) := by decide +kernel
theorem dX5_sheet_25 : decode cX5_sheet 25 = .ok (.ifCond .ge 6, 3) := by decide +kernel
theorem dX5_sheet_28 : decode cX5_sheet 28 = .ok (.bipush (-14), 2) := by decide +kernel
theorem dX5_sheet_30 : decode cX5_sheet 30 = .ok (.ireturn, 1) := by decide +kernel
theorem dX5_sheet_31 : decode cX5_sheet 31 = .ok (.aload_n 0, 1) := by decide +kernel
theorem dX5_sheet_32 : decode cX5_sheet 32 = .ok (.getfield 64, 3) := by decide +kernel
theorem dX5_sheet_35 : decode cX5_sheet 35 = .ok (.iload_n 1, 1) := by decide +kernel
theorem dX5_sheet_36 : decode cX5_sheet 36 = .ok (.aaload, 1) := by decide +kernel
theorem dX5_sheet_37 : decode cX5_sheet 37 = .ok (.iload_n 2, 1) := by decide +kernel
theorem dX5_sheet_38 : decode cX5_sheet 38 = .ok (.iload_n 3, 1) := by decide +kernel
theorem dX5_sheet_39 : decode cX5_sheet 39 = .ok (.invokevirtual 298, 3) := by decide +kernel
theorem dX5_sheet_42 : decode cX5_sheet 42 = .ok (.iload_n 3, 1) := by decide +kernel
theorem dX5_sheet_43 : decode cX5_sheet 43 = .ok (.ireturn, 1) := by decide +kernel
theorem dX5_drop_0 : decode cX5_drop 0 = .ok (.iload_n 1, 1) := by decide +kernel
theorem dX5_drop_1 : decode cX5_drop 1 = .ok (.invokestatic 273, 3) := by decide +kernel
theorem dX5_drop_4 : decode cX5_drop 4 = .ok (.ifCond .eq 5, 3) := by decide +kernel
theorem dX5_drop_7 : decode cX5_drop 7 = .ok (.iconst (-1), 1) := by decide +kernel
theorem dX5_drop_8 : decode cX5_drop 8 = .ok (.ireturn, 1) := by decide +kernel
theorem dX5_drop_9 : decode cX5_drop 9 = .ok (.aload_n 0, 1) := by decide +kernel
theorem dX5_drop_10 : decode cX5_drop 10 = .ok (.getfield 64, 3) := by decide +kernel
theorem dX5_drop_13 : decode cX5_drop 13 = .ok (.iload_n 1, 1) := by decide +kernel
theorem dX5_drop_14 : decode cX5_drop 14 = .ok (.aaload, 1) := by decide +kernel
theorem dX5_drop_15 : decode cX5_drop 15 = .ok (.getfield 301, 3) := by decide +kernel
theorem dX5_drop_18 : decode cX5_drop 18 = .ok (.iconst (-1), 1) := by decide +kernel
theorem dX5_drop_19 : decode cX5_drop 19 = .ok (.if_icmp .ne 6, 3) := by decide +kernel
theorem dX5_drop_22 : decode cX5_drop 22 = .ok (.bipush (-11), 2) := by decide +kernel
theorem dX5_drop_24 : decode cX5_drop 24 = .ok (.ireturn, 1) := by decide +kernel
theorem dX5_drop_25 : decode cX5_drop 25 = .ok (.aload_n 0, 1) := by decide +kernel
theorem dX5_drop_26 : decode cX5_drop 26 = .ok (.getfield 64, 3) := by decide +kernel
theorem dX5_drop_29 : decode cX5_drop 29 = .ok (.iload_n 1, 1) := by decide +kernel
theorem dX5_drop_30 : decode cX5_drop 30 = .ok (.aaload, 1) := by decide +kernel
theorem dX5_drop_31 : decode cX5_drop 31 = .ok (.getfield 304, 3) := by decide +kernel
theorem dX5_drop_34 : decode cX5_drop 34 = .ok (.istore_n 2, 1) := by decide +kernel
theorem dX5_drop_35 : decode cX5_drop 35 = .ok (.aload_n 0, 1) := by decide +kernel
theorem dX5_drop_36 : decode cX5_drop 36 = .ok (.getfield 64, 3) := by decide +kernel
theorem dX5_drop_39 : decode cX5_drop 39 = .ok (.iload_n 1, 1) := by decide +kernel
theorem dX5_drop_40 : decode cX5_drop 40 = .ok (.aaload, 1) := by decide +kernel
theorem dX5_drop_41 : decode cX5_drop 41 = .ok (.iconst (-1), 1) := by decide +kernel
theorem dX5_drop_42 : decode cX5_drop 42 = .ok (.iconst 0, 1) := by decide +kernel
theorem dX5_drop_43 : decode cX5_drop 43 = .ok (.invokevirtual 298, 3) := by decide +kernel
theorem dX5_drop_46 : decode cX5_drop 46 = .ok (.iload_n 2, 1) := by decide +kernel
theorem dX5_drop_47 : decode cX5_drop 47 = .ok (.ireturn, 1) := by decide +kernel
theorem dX5_item_0 : decode cX5_item 0 = .ok (.iload_n 1, 1) := by decide +kernel
theorem dX5_item_1 : decode cX5_item 1 = .ok (.invokestatic 273, 3) := by decide +kernel
theorem dX5_item_4 : decode cX5_item 4 = .ok (.ifCond .ne 12, 3) := by decide +kernel
theorem dX5_item_7 : decode cX5_item 7 = .ok (.iload_n 2, 1) := by decide +kernel
theorem dX5_item_8 : decode cX5_item 8 = .ok (.iconst 0, 1) := by decide +kernel
theorem dX5_item_9 : decode cX5_item 9 = .ok (.iconst 3, 1) := by decide +kernel
theorem dX5_item_10 : decode cX5_item 10 = .ok (.invokestatic 69, 3) := by decide +kernel
theorem dX5_item_13 : decode cX5_item 13 = .ok (.ifCond .eq 5, 3) := by decide +kernel
theorem dX5_item_16 : decode cX5_item 16 = .ok (.iconst (-1), 1) := by decide +kernel
theorem dX5_item_17 : decode cX5_item 17 = .ok (.ireturn, 1) := by decide +kernel
theorem dX5_item_18 : decode cX5_item 18 = .ok (.aload_n 0, 1) := by decide +kernel
theorem dX5_item_19 : decode cX5_item 19 = .ok (.getfield 64, 3) := by decide +kernel
theorem dX5_item_22 : decode cX5_item 22 = .ok (.iload_n 1, 1) := by decide +kernel
theorem dX5_item_23 : decode cX5_item 23 = .ok (.aaload, 1) := by decide +kernel
theorem dX5_item_24 : decode cX5_item 24 = .ok (.iload_n 2, 1) := by decide +kernel
theorem dX5_item_25 : decode cX5_item 25 = .ok (.iload_n 3, 1) := by decide +kernel
theorem dX5_item_26 : decode cX5_item 26 = .ok (.iconst 1, 1) := by decide +kernel
theorem dX5_item_27 : decode cX5_item 27 = .ok (.invokevirtual 276, 3) := by decide +kernel
theorem dX5_item_30 : decode cX5_item 30 = .ok (.istore 6, 2) := by decide +kernel
theorem dX5_item_32 : decode cX5_item 32 = .ok (.iload 6, 2) := by decide +kernel
theorem dX5_item_34 : decode cX5_item 34 = .ok (.ifCond .eq 6, 3) := by decide +kernel
theorem dX5_item_37 : decode cX5_item 37 = .ok (.iload 6, 2) := by decide +kernel
theorem dX5_item_39 : decode cX5_item 39 = .ok (.ireturn, 1) := by decide +kernel
theorem dX5_item_40 : decode cX5_item 40 = .ok (.aload_n 0, 1) := by decide +kernel
theorem dX5_item_41 : decode cX5_item 41 = .ok (.getfield 64, 3) := by decide +kernel
theorem dX5_item_44 : decode cX5_item 44 = .ok (.iload_n 1, 1) := by decide +kernel
theorem dX5_item_45 : decode cX5_item 45 = .ok (.aaload, 1) := by decide +kernel
theorem dX5_item_46 : decode cX5_item 46 = .ok (.iload_n 3, 1) := by decide +kernel
theorem dX5_item_47 : decode cX5_item 47 = .ok (.lload 4, 2) := by decide +kernel
theorem dX5_item_49 : decode cX5_item 49 = .ok (.invokevirtual 295, 3) := by decide +kernel
theorem dX5_item_52 : decode cX5_item 52 = .ok (.iconst 1, 1) := by decide +kernel
theorem dX5_item_53 : decode cX5_item 53 = .ok (.ireturn, 1) := by decide +kernel
theorem dX5_copy_0 : decode cX5_copy 0 = .ok (.iload_n 1, 1) := by decide +kernel
theorem dX5_copy_1 : decode cX5_copy 1 = .ok (.invokestatic 273, 3) := by decide +kernel
theorem dX5_copy_4 : decode cX5_copy 4 = .ok (.ifCond .ne 10, 3) := by decide +kernel
theorem dX5_copy_7 : decode cX5_copy 7 = .ok (.iload_n 3, 1) := by decide +kernel
theorem dX5_copy_8 : decode cX5_copy 8 = .ok (.invokestatic 273, 3) := by decide +kernel
theorem dX5_copy_11 : decode cX5_copy 11 = .ok (.ifCond .eq 5, 3) := by decide +kernel
theorem dX5_copy_14 : decode cX5_copy 14 = .ok (.iconst (-1), 1) := by decide +kernel
theorem dX5_copy_15 : decode cX5_copy 15 = .ok (.ireturn, 1) := by decide +kernel
theorem dX5_copy_16 : decode cX5_copy 16 = .ok (.aload_n 0, 1) := by decide +kernel
theorem dX5_copy_17 : decode cX5_copy 17 = .ok (.getfield 64, 3) := by decide +kernel
theorem dX5_copy_20 : decode cX5_copy 20 = .ok (.iload_n 1, 1) := by decide +kernel
theorem dX5_copy_21 : decode cX5_copy 21 = .ok (.aaload, 1) := by decide +kernel
theorem dX5_copy_22 : decode cX5_copy 22 = .ok (.astore 6, 2) := by decide +kernel
theorem dX5_copy_24 : decode cX5_copy 24 = .ok (.aload_n 0, 1) := by decide +kernel
theorem dX5_copy_25 : decode cX5_copy 25 = .ok (.getfield 64, 3) := by decide +kernel
theorem dX5_copy_28 : decode cX5_copy 28 = .ok (.iload_n 3, 1) := by decide +kernel
theorem dX5_copy_29 : decode cX5_copy 29 = .ok (.aaload, 1) := by decide +kernel
theorem dX5_copy_30 : decode cX5_copy 30 = .ok (.astore 7, 2) := by decide +kernel
theorem dX5_copy_32 : decode cX5_copy 32 = .ok (.aload 6, 2) := by decide +kernel
theorem dX5_copy_34 : decode cX5_copy 34 = .ok (.getfield 301, 3) := by decide +kernel
theorem dX5_copy_37 : decode cX5_copy 37 = .ok (.iconst (-1), 1) := by decide +kernel
theorem dX5_copy_38 : decode cX5_copy 38 = .ok (.if_icmp .eq 12, 3) := by decide +kernel
theorem dX5_copy_41 : decode cX5_copy 41 = .ok (.aload 7, 2) := by decide +kernel
theorem dX5_copy_43 : decode cX5_copy 43 = .ok (.getfield 301, 3) := by decide +kernel
theorem dX5_copy_46 : decode cX5_copy 46 = .ok (.iconst (-1), 1) := by decide +kernel
theorem dX5_copy_47 : decode cX5_copy 47 = .ok (.if_icmp .ne 6, 3) := by decide +kernel
theorem dX5_copy_50 : decode cX5_copy 50 = .ok (.bipush (-11), 2) := by decide +kernel
theorem dX5_copy_52 : decode cX5_copy 52 = .ok (.ireturn, 1) := by decide +kernel
theorem dX5_copy_53 : decode cX5_copy 53 = .ok (.aload 6, 2) := by decide +kernel
theorem dX5_copy_55 : decode cX5_copy 55 = .ok (.getfield 301, 3) := by decide +kernel
theorem dX5_copy_58 : decode cX5_copy 58 = .ok (.aload 7, 2) := by decide +kernel
theorem dX5_copy_60 : decode cX5_copy 60 = .ok (.getfield 301, 3) := by decide +kernel
theorem dX5_copy_63 : decode cX5_copy 63 = .ok (.if_icmp .eq 6, 3) := by decide +kernel
theorem dX5_copy_66 : decode cX5_copy 66 = .ok (.bipush (-12), 2) := by decide +kernel
theorem dX5_copy_68 : decode cX5_copy 68 = .ok (.ireturn, 1) := by decide +kernel
theorem dX5_copy_69 : decode cX5_copy 69 = .ok (.aload 6, 2) := by decide +kernel
theorem dX5_copy_71 : decode cX5_copy 71 = .ok (.iload_n 2, 1) := by decide +kernel
theorem dX5_copy_72 : decode cX5_copy 72 = .ok (.iload 5, 2) := by decide +kernel
theorem dX5_copy_74 : decode cX5_copy 74 = .ok (.invokevirtual 307, 3) := by decide +kernel
theorem dX5_copy_77 : decode cX5_copy 77 = .ok (.ifCond .ne 15, 3) := by decide +kernel
theorem dX5_copy_80 : decode cX5_copy 80 = .ok (.aload 7, 2) := by decide +kernel
theorem dX5_copy_82 : decode cX5_copy 82 = .ok (.iload 4, 2) := by decide +kernel
theorem dX5_copy_84 : decode cX5_copy 84 = .ok (.iload 5, 2) := by decide +kernel
theorem dX5_copy_86 : decode cX5_copy 86 = .ok (.invokevirtual 307, 3) := by decide +kernel
theorem dX5_copy_89 : decode cX5_copy 89 = .ok (.ifCond .eq 6, 3) := by decide +kernel
theorem dX5_copy_92 : decode cX5_copy 92 = .ok (.bipush (-13), 2) := by decide +kernel
theorem dX5_copy_94 : decode cX5_copy 94 = .ok (.ireturn, 1) := by decide +kernel
theorem dX5_copy_95 : decode cX5_copy 95 = .ok (.aload 6, 2) := by decide +kernel
theorem dX5_copy_97 : decode cX5_copy 97 = .ok (.getfield 287, 3) := by decide +kernel
theorem dX5_copy_100 : decode cX5_copy 100 = .ok (.iload_n 2, 1) := by decide +kernel
theorem dX5_copy_101 : decode cX5_copy 101 = .ok (.aload 7, 2) := by decide +kernel
theorem dX5_copy_103 : decode cX5_copy 103 = .ok (.getfield 287, 3) := by decide +kernel
theorem dX5_copy_106 : decode cX5_copy 106 = .ok (.iload 4, 2) := by decide +kernel
theorem dX5_copy_108 : decode cX5_copy 108 = .ok (.iload 5, 2) := by decide +kernel
theorem dX5_copy_110 : decode cX5_copy 110 = .ok (.invokestatic 309, 3) := by decide +kernel
theorem dX5_copy_113 : decode cX5_copy 113 = .ok (.iload 5, 2) := by decide +kernel
theorem dX5_copy_115 : decode cX5_copy 115 = .ok (.ireturn, 1) := by decide +kernel
theorem dX5_noSheet_0 : decode cX5_noSheet 0 = .ok (.iload_n 0, 1) := by decide +kernel
theorem dX5_noSheet_1 : decode cX5_noSheet 1 = .ok (.iconst 0, 1) := by decide +kernel
theorem dX5_noSheet_2 : decode cX5_noSheet 2 = .ok (.iconst 3, 1) := by decide +kernel
theorem dX5_noSheet_3 : decode cX5_noSheet 3 = .ok (.invokestatic 69, 3) := by decide +kernel
theorem dX5_noSheet_6 : decode cX5_noSheet 6 = .ok (.ireturn, 1) := by decide +kernel
theorem dX5_outside_0 : decode cX5_outside 0 = .ok (.iload_n 0, 1) := by decide +kernel
theorem dX5_outside_1 : decode cX5_outside 1 = .ok (.iload_n 1, 1) := by decide +kernel
theorem dX5_outside_2 : decode cX5_outside 2 = .ok (.if_icmp .lt 8, 3) := by decide +kernel
theorem dX5_outside_5 : decode cX5_outside 5 = .ok (.iload_n 0, 1) := by decide +kernel
theorem dX5_outside_6 : decode cX5_outside 6 = .ok (.iload_n 2, 1) := by decide +kernel
theorem dX5_outside_7 : decode cX5_outside 7 = .ok (.if_icmp .le 7, 3) := by decide +kernel
theorem dX5_outside_10 : decode cX5_outside 10 = .ok (.iconst 1, 1) := by decide +kernel
theorem dX5_outside_11 : decode cX5_outside 11 = .ok (.goto 4, 3) := by decide +kernel
theorem dX5_outside_14 : decode cX5_outside 14 = .ok (.iconst 0, 1) := by decide +kernel
theorem dX5_outside_15 : decode cX5_outside 15 = .ok (.ireturn, 1) := by decide +kernel
theorem dX5_milky_0 : decode cX5_milky 0 = .ok (.iload_n 0, 1) := by decide +kernel
theorem dX5_milky_1 : decode cX5_milky 1 = .ok (.iconst 1, 1) := by decide +kernel
theorem dX5_milky_2 : decode cX5_milky 2 = .ok (.if_icmp .eq 8, 3) := by decide +kernel
theorem dX5_milky_5 : decode cX5_milky 5 = .ok (.iload_n 0, 1) := by decide +kernel
theorem dX5_milky_6 : decode cX5_milky 6 = .ok (.iconst 3, 1) := by decide +kernel
theorem dX5_milky_7 : decode cX5_milky 7 = .ok (.if_icmp .ne 7, 3) := by decide +kernel
theorem dX5_milky_10 : decode cX5_milky 10 = .ok (.iconst 1, 1) := by decide +kernel
theorem dX5_milky_11 : decode cX5_milky 11 = .ok (.goto 4, 3) := by decide +kernel
theorem dX5_milky_14 : decode cX5_milky 14 = .ok (.iconst 0, 1) := by decide +kernel
theorem dX5_milky_15 : decode cX5_milky 15 = .ok (.ireturn, 1) := by decide +kernel
theorem dX5_gulp_0 : decode cX5_gulp 0 = .ok (.iload_n 0, 1) := by decide +kernel
theorem dX5_gulp_1 : decode cX5_gulp 1 = .ok (.lookupswitch 32 #[(2, 27), (3, 29)], 27) := by decide +kernel
theorem dX5_gulp_28 : decode cX5_gulp 28 = .ok (.iconst 2, 1) := by decide +kernel
theorem dX5_gulp_29 : decode cX5_gulp 29 = .ok (.ireturn, 1) := by decide +kernel
theorem dX5_gulp_30 : decode cX5_gulp 30 = .ok (.bipush 8, 2) := by decide +kernel
theorem dX5_gulp_32 : decode cX5_gulp 32 = .ok (.ireturn, 1) := by decide +kernel
theorem dX5_gulp_33 : decode cX5_gulp 33 = .ok (.iconst 4, 1) := by decide +kernel
theorem dX5_gulp_34 : decode cX5_gulp 34 = .ok (.ireturn, 1) := by decide +kernel
theorem dX6_in_0 : decode cX6_in 0 = .ok (.lload_n 0, 1) := by decide +kernel
theorem dX6_in_1 : decode cX6_in 1 = .ok (.lload_n 2, 1) := by decide +kernel
theorem dX6_in_2 : decode cX6_in 2 = .ok (.lcmp, 1) := by decide +kernel
theorem dX6_in_3 : decode cX6_in 3 = .ok (.ifCond .lt 14, 3) := by decide +kernel
theorem dX6_in_6 : decode cX6_in 6 = .ok (.lload_n 0, 1) := by decide +kernel
theorem dX6_in_7 : decode cX6_in 7 = .ok (.lload 4, 2) := by decide +kernel
theorem dX6_in_9 : decode cX6_in 9 = .ok (.lcmp, 1) := by decide +kernel
theorem dX6_in_10 : decode cX6_in 10 = .ok (.ifCond .gt 7, 3) := by decide +kernel
theorem dX6_in_13 : decode cX6_in 13 = .ok (.iconst 1, 1) := by decide +kernel
theorem dX6_in_14 : decode cX6_in 14 = .ok (.goto 4, 3) := by decide +kernel
theorem dX6_in_17 : decode cX6_in 17 = .ok (.iconst 0, 1) := by decide +kernel
theorem dX6_in_18 : decode cX6_in 18 = .ok (.ireturn, 1) := by decide +kernel
theorem dX6_init_0 : decode cX6_init 0 = .ok (.aload_n 0, 1) := by decide +kernel
theorem dX6_init_1 : decode cX6_init 1 = .ok (.invokespecial 1, 3) := by decide +kernel
theorem dX6_init_4 : decode cX6_init 4 = .ok (.aload_n 0, 1) := by decide +kernel
theorem dX6_init_5 : decode cX6_init 5 = .ok (.bipush 63, 2) := by decide +kernel
theorem dX6_init_7 : decode cX6_init 7 = .ok (.newarray .int, 2) := by decide +kernel
theorem dX6_init_9 : decode cX6_init 9 = .ok (.putfield 7, 3) := by decide +kernel
theorem dX6_init_12 : decode cX6_init 12 = .ok (.aload_n 0, 1) := by decide +kernel
theorem dX6_init_13 : decode cX6_init 13 = .ok (.bipush 7, 2) := by decide +kernel
theorem dX6_init_15 : decode cX6_init 15 = .ok (.newarray .int, 2) := by decide +kernel
theorem dX6_init_17 : decode cX6_init 17 = .ok (.putfield 13, 3) := by decide +kernel
theorem dX6_init_20 : decode cX6_init 20 = .ok (.aload_n 0, 1) := by decide +kernel
theorem dX6_init_21 : decode cX6_init 21 = .ok (.iconst (-1), 1) := by decide +kernel
theorem dX6_init_22 : decode cX6_init 22 = .ok (.putfield 16, 3) := by decide +kernel
theorem dX6_init_25 : decode cX6_init 25 = .ok (.aload_n 0, 1) := by decide +kernel
theorem dX6_init_26 : decode cX6_init 26 = .ok (.sipush 504, 3) := by decide +kernel
theorem dX6_init_29 : decode cX6_init 29 = .ok (.newarray .int, 2) := by decide +kernel
theorem dX6_init_31 : decode cX6_init 31 = .ok (.putfield 20, 3) := by decide +kernel
theorem dX6_init_34 : decode cX6_init 34 = .ok (.aload_n 0, 1) := by decide +kernel
theorem dX6_init_35 : decode cX6_init 35 = .ok (.bipush 63, 2) := by decide +kernel
theorem dX6_init_37 : decode cX6_init 37 = .ok (.newarray .int, 2) := by decide +kernel
theorem dX6_init_39 : decode cX6_init 39 = .ok (.putfield 23, 3) := by decide +kernel
theorem dX6_init_42 : decode cX6_init 42 = .ok (.aload_n 0, 1) := by decide +kernel
theorem dX6_init_43 : decode cX6_init 43 = .ok (.bipush 7, 2) := by decide +kernel
theorem dX6_init_45 : decode cX6_init 45 = .ok (.newarray .int, 2) := by decide +kernel
theorem dX6_init_47 : decode cX6_init 47 = .ok (.putfield 26, 3) := by decide +kernel
theorem dX6_init_50 : decode cX6_init 50 = .ok (.aload_n 0, 1) := by decide +kernel
theorem dX6_init_51 : decode cX6_init 51 = .ok (.bipush 60, 2) := by decide +kernel
theorem dX6_init_53 : decode cX6_init 53 = .ok (.newarray .int, 2) := by decide +kernel
theorem dX6_init_55 : decode cX6_init 55 = .ok (.putfield 29, 3) := by decide +kernel
theorem dX6_init_58 : decode cX6_init 58 = .ok (.aload_n 0, 1) := by decide +kernel
theorem dX6_init_59 : decode cX6_init 59 = .ok (.bipush 21, 2) := by decide +kernel
theorem dX6_init_61 : decode cX6_init 61 = .ok (.newarray .int, 2) := by decide +kernel
theorem dX6_init_63 : decode cX6_init 63 = .ok (.putfield 32, 3) := by decide +kernel
theorem dX6_init_66 : decode cX6_init 66 = .ok (.aload_n 0, 1) := by decide +kernel
theorem dX6_init_67 : decode cX6_init 67 = .ok (.sipush 567, 3) := by decide +kernel
theorem dX6_init_70 : decode cX6_init 70 = .ok (.newarray .int, 2) := by decide +kernel
theorem dX6_init_72 : decode cX6_init 72 = .ok (.putfield 35, 3) := by decide +kernel
theorem dX6_init_75 : decode cX6_init 75 = .ok (.aload_n 0, 1) := by decide +kernel
theorem dX6_init_76 : decode cX6_init 76 = .ok (.iconst 4, 1) := by decide +kernel
theorem dX6_init_77 : decode cX6_init 77 = .ok (.newarray .int, 2) := by decide +kernel
theorem dX6_init_79 : decode cX6_init 79 = .ok (.putfield 38, 3) := by decide +kernel
theorem dX6_init_82 : decode cX6_init 82 = .ok (.aload_n 0, 1) := by decide +kernel
theorem dX6_init_83 : decode cX6_init 83 = .ok (.iconst 4, 1) := by decide +kernel
theorem dX6_init_84 : decode cX6_init 84 = .ok (.newarray .int, 2) := by decide +kernel
theorem dX6_init_86 : decode cX6_init 86 = .ok (.putfield 41, 3) := by decide +kernel
theorem dX6_init_89 : decode cX6_init 89 = .ok (.aload_n 0, 1) := by decide +kernel
theorem dX6_init_90 : decode cX6_init 90 = .ok (.bipush 96, 2) := by decide +kernel
theorem dX6_init_92 : decode cX6_init 92 = .ok (.newarray .long, 2) := by decide +kernel
theorem dX6_init_94 : decode cX6_init 94 = .ok (.putfield 44, 3) := by decide +kernel
theorem dX6_init_97 : decode cX6_init 97 = .ok (.aload_n 0, 1) := by decide +kernel
theorem dX6_init_98 : decode cX6_init 98 = .ok (.bipush 24, 2) := by decide +kernel
theorem dX6_init_100 : decode cX6_init 100 = .ok (.newarray .long, 2) := by decide +kernel
theorem dX6_init_102 : decode cX6_init 102 = .ok (.putfield 48, 3) := by decide +kernel
theorem dX6_init_105 : decode cX6_init 105 = .ok (.aload_n 0, 1) := by decide +kernel
theorem dX6_init_106 : decode cX6_init 106 = .ok (.getfield 7, 3) := by decide +kernel
theorem dX6_init_109 : decode cX6_init 109 = .ok (.iconst 0, 1) := by decide +kernel
theorem dX6_init_110 : decode cX6_init 110 = .ok (.bipush 30, 2) := by decide +kernel
theorem dX6_init_112 : decode cX6_init 112 = .ok (.iastore, 1) := by decide +kernel
theorem dX6_init_113 : decode cX6_init 113 = .ok (.aload_n 0, 1) := by decide +kernel
theorem dX6_init_114 : decode cX6_init 114 = .ok (.getfield 7, 3) := by decide +kernel
theorem dX6_init_117 : decode cX6_init 117 = .ok (.iconst 1, 1) := by decide +kernel
theorem dX6_init_118 : decode cX6_init 118 = .ok (.iconst 4, 1) := by decide +kernel
theorem dX6_init_119 : decode cX6_init 119 = .ok (.iastore, 1) := by decide +kernel
theorem dX6_init_120 : decode cX6_init 120 = .ok (.aload_n 0, 1) := by decide +kernel
theorem dX6_init_121 : decode cX6_init 121 = .ok (.getfield 7, 3) := by decide +kernel
theorem dX6_init_124 : decode cX6_init 124 = .ok (.iconst 2, 1) := by decide +kernel
theorem dX6_init_125 : decode cX6_init 125 = .ok (.bipush 10, 2) := by decide +kernel
theorem dX6_init_127 : decode cX6_init 127 = .ok (.iastore, 1) := by decide +kernel
theorem dX6_init_128 : decode cX6_init 128 = .ok (.aload_n 0, 1) := by decide +kernel
theorem dX6_init_129 : decode cX6_init 129 = .ok (.getfield 7, 3) := by decide +kernel
theorem dX6_init_132 : decode cX6_init 132 = .ok (.iconst 3, 1) := by decide +kernel
theorem dX6_init_133 : decode cX6_init 133 = .ok (.iconst 4, 1) := by decide +kernel
theorem dX6_init_134 : decode cX6_init 134 = .ok (.iastore, 1) := by decide +kernel
theorem dX6_init_135 : decode cX6_init 135 = .ok (.aload_n 0, 1) := by decide +kernel
theorem dX6_init_136 : decode cX6_init 136 = .ok (.getfield 7, 3) := by decide +kernel
theorem dX6_init_139 : decode cX6_init 139 = .ok (.iconst 4, 1) := by decide +kernel
theorem dX6_init_140 : decode cX6_init 140 = .ok (.iconst 3, 1) := by decide +kernel
theorem dX6_init_141 : decode cX6_init 141 = .ok (.iastore, 1) := by decide +kernel
theorem dX6_init_142 : decode cX6_init 142 = .ok (.aload_n 0, 1) := by decide +kernel
theorem dX6_init_143 : decode cX6_init 143 = .ok (.getfield 7, 3) := by decide +kernel
theorem dX6_init_146 : decode cX6_init 146 = .ok (.bipush 10, 2) := by decide +kernel
theorem dX6_init_148 : decode cX6_init 148 = .ok (.bipush (-4), 2) := by decide +kernel
theorem dX6_init_150 : decode cX6_init 150 = .ok (.iastore, 1) := by decide +kernel
theorem dX6_init_151 : decode cX6_init 151 = .ok (.aload_n 0, 1) := by decide +kernel
theorem dX6_init_152 : decode cX6_init 152 = .ok (.getfield 7, 3) := by decide +kernel
theorem dX6_init_155 : decode cX6_init 155 = .ok (.bipush 13, 2) := by decide +kernel
theorem dX6_init_157 : decode cX6_init 157 = .ok (.iconst 1, 1) := by decide +kernel
theorem dX6_init_158 : decode cX6_init 158 = .ok (.iastore, 1) := by decide +kernel
theorem dX6_init_159 : decode cX6_init 159 = .ok (.iconst 0, 1) := by decide +kernel
theorem dX6_init_160 : decode cX6_init 160 = .ok (.istore_n 1, 1) := by decide +kernel
theorem dX6_init_161 : decode cX6_init 161 = .ok (.iload_n 1, 1) := by decide +kernel
theorem dX6_init_162 : decode cX6_init 162 = .ok (.iconst 4, 1) := by decide +kernel
theorem dX6_init_163 : decode cX6_init 163 = .ok (.if_icmp .ge 16, 3) := by decide +kernel
theorem dX6_init_166 : decode cX6_init 166 = .ok (.aload_n 0, 1) := by decide +kernel
theorem dX6_init_167 : decode cX6_init 167 = .ok (.getfield 38, 3) := by decide +kernel
theorem dX6_init_170 : decode cX6_init 170 = .ok (.iload_n 1, 1) := by decide +kernel
theorem dX6_init_171 : decode cX6_init 171 = .ok (.iconst (-1), 1) := by decide +kernel
theorem dX6_init_172 : decode cX6_init 172 = .ok (.iastore, 1) := by decide +kernel
theorem dX6_init_173 : decode cX6_init 173 = .ok (.iinc 1 1, 3) := by decide +kernel
theorem dX6_init_176 : decode cX6_init 176 = .ok (.goto (-15), 3) := by decide +kernel
theorem dX6_init_179 : decode cX6_init 179 = .ok (.return_, 1) := by decide +kernel
theorem dX6_isBeast_0 : decode cX6_isBeast 0 = .ok (.iload_n 1, 1) := by decide +kernel
theorem dX6_isBeast_1 : decode cX6_isBeast 1 = .ok (.i2l, 1) := by decide +kernel
theorem dX6_isBeast_2 : decode cX6_isBeast 2 = .ok (.lconst 0, 1) := by decide +kernel
theorem dX6_isBeast_3 : decode cX6_isBeast 3 = .ok (.aload_n 0, 1) := by decide +kernel
theorem dX6_isBeast_4 : decode cX6_isBeast 4 = .ok (.getfield 7, 3) := by decide +kernel
theorem dX6_isBeast_7 : decode cX6_isBeast 7 = .ok (.bipush 12, 2) := by decide +kernel
theorem dX6_isBeast_9 : decode cX6_isBeast 9 = .ok (.iaload, 1) := by decide +kernel
theorem dX6_isBeast_10 : decode cX6_isBeast 10 = .ok (.iconst 1, 1) := by decide +kernel
theorem dX6_isBeast_11 : decode cX6_isBeast 11 = .ok (.isub, 1) := by decide +kernel
theorem dX6_isBeast_12 : decode cX6_isBeast 12 = .ok (.i2l, 1) := by decide +kernel
theorem dX6_isBeast_13 : decode cX6_isBeast 13 = .ok (.invokestatic 51, 3) := by decide +kernel
theorem dX6_isBeast_16 : decode cX6_isBeast 16 = .ok (.ireturn, 1) := by decide +kernel
theorem dX6_at_0 : decode cX6_at 0 = .ok (.aload_n 0, 1) := by decide +kernel
theorem dX6_at_1 : decode cX6_at 1 = .ok (.getfield 7, 3) := by decide +kernel
theorem dX6_at_4 : decode cX6_at 4 = .ok (.bipush 14, 2) := by decide +kernel
theorem dX6_at_6 : decode cX6_at 6 = .ok (.bipush 7, 2) := by decide +kernel
theorem dX6_at_8 : decode cX6_at 8 = .ok (.iload_n 1, 1) := by decide +kernel
theorem dX6_at_9 : decode cX6_at 9 = .ok (.imul, 1) := by decide +kernel
theorem dX6_at_10 : decode cX6_at 10 = .ok (.iadd, 1) := by decide +kernel
theorem dX6_at_11 : decode cX6_at 11 = .ok (.iload_n 2, 1) := by decide +kernel
theorem dX6_at_12 : decode cX6_at 12 = .ok (.iadd, 1) := by decide +kernel
theorem dX6_at_13 : decode cX6_at 13 = .ok (.iaload, 1) := by decide +kernel
theorem dX6_at_14 : decode cX6_at 14 = .ok (.ireturn, 1) := by decide +kernel
theorem dX6_isMilk_0 : decode cX6_isMilk 0 = .ok (.aload_n 0, 1) := by decide +kernel
theorem dX6_isMilk_1 : decode cX6_isMilk 1 = .ok (.iload_n 1, 1) := by decide +kernel
theorem dX6_isMilk_2 : decode cX6_isMilk 2 = .ok (.iconst 0, 1) := by decide +kernel
theorem dX6_isMilk_3 : decode cX6_isMilk 3 = .ok (.invokevirtual 55, 3) := by decide +kernel
theorem dX6_isMilk_6 : decode cX6_isMilk 6 = .ok (.iconst 1, 1) := by decide +kernel
theorem dX6_isMilk_7 : decode cX6_isMilk 7 = .ok (.if_icmp .eq 13, 3) := by decide +kernel
theorem dX6_isMilk_10 : decode cX6_isMilk 10 = .ok (.aload_n 0, 1) := by decide +kernel
theorem dX6_isMilk_11 : decode cX6_isMilk 11 = .ok (.iload_n 1, 1) := by decide +kernel
theorem dX6_isMilk_12 : decode cX6_isMilk 12 = .ok (.iconst 0, 1) := by decide +kernel
theorem dX6_isMilk_13 : decode cX6_isMilk 13 = .ok (.invokevirtual 55, 3) := by decide +kernel
theorem dX6_isMilk_16 : decode cX6_isMilk 16 = .ok (.iconst 3, 1) := by decide +kernel
theorem dX6_isMilk_17 : decode cX6_isMilk 17 = .ok (.if_icmp .ne 7, 3) := by decide +kernel
theorem dX6_isMilk_20 : decode cX6_isMilk 20 = .ok (.iconst 1, 1) := by decide +kernel
theorem dX6_isMilk_21 : decode cX6_isMilk 21 = .ok (.goto 4, 3) := by decide +kernel
theorem dX6_isMilk_24 : decode cX6_isMilk 24 = .ok (.iconst 0, 1) := by decide +kernel
theorem dX6_isMilk_25 : decode cX6_isMilk 25 = .ok (.ireturn, 1) := by decide +kernel
theorem dX6_needs_0 : decode cX6_needs 0 = .ok (.iconst 3, 1) := by decide +kernel
theorem dX6_needs_1 : decode cX6_needs 1 = .ok (.aload_n 0, 1) := by decide +kernel
theorem dX6_needs_2 : decode cX6_needs 2 = .ok (.iload_n 1, 1) := by decide +kernel
theorem dX6_needs_3 : decode cX6_needs 3 = .ok (.iconst 1, 1) := by decide +kernel
theorem dX6_needs_4 : decode cX6_needs 4 = .ok (.invokevirtual 55, 3) := by decide +kernel
theorem dX6_needs_7 : decode cX6_needs 7 = .ok (.imul, 1) := by decide +kernel
theorem dX6_needs_8 : decode cX6_needs 8 = .ok (.aload_n 0, 1) := by decide +kernel
theorem dX6_needs_9 : decode cX6_needs 9 = .ok (.iload_n 1, 1) := by decide +kernel
theorem dX6_needs_10 : decode cX6_needs 10 = .ok (.iconst 4, 1) := by decide +kernel
theorem dX6_needs_11 : decode cX6_needs 11 = .ok (.invokevirtual 55, 3) := by decide +kernel
theorem dX6_needs_14 : decode cX6_needs 14 = .ok (.iconst 3, 1) := by decide +kernel
theorem dX6_needs_15 : decode cX6_needs 15 = .ok (.idiv, 1) := by decide +kernel
theorem dX6_needs_16 : decode cX6_needs 16 = .ok (.iadd, 1) := by decide +kernel
theorem dX6_needs_17 : decode cX6_needs 17 = .ok (.aload_n 0, 1) := by decide +kernel
theorem dX6_needs_18 : decode cX6_needs 18 = .ok (.iload_n 1, 1) := by decide +kernel
theorem dX6_needs_19 : decode cX6_needs 19 = .ok (.invokevirtual 59, 3) := by decide +kernel
theorem dX6_needs_22 : decode cX6_needs 22 = .ok (.ifCond .eq 7, 3) := by decide +kernel
theorem dX6_needs_25 : decode cX6_needs 25 = .ok (.iconst 5, 1) := by decide +kernel
theorem dX6_needs_26 : decode cX6_needs 26 = .ok (.goto 4, 3) := by decide +kernel
theorem dX6_needs_29 : decode cX6_needs 29 = .ok (.iconst 0, 1) := by decide +kernel
theorem dX6_needs_30 : decode cX6_needs 30 = .ok (.iadd, 1) := by decide +kernel
theorem dX6_needs_31 : decode cX6_needs 31 = .ok (.ireturn, 1) := by decide +kernel
theorem dX6_drinks_0 : decode cX6_drinks 0 = .ok (.aload_n 0, 1) := by decide +kernel
theorem dX6_drinks_1 : decode cX6_drinks 1 = .ok (.iload_n 1, 1) := by decide +kernel
theorem dX6_drinks_2 : decode cX6_drinks 2 = .ok (.iconst 0, 1) := by decide +kernel
theorem dX6_drinks_3 : decode cX6_drinks 3 = .ok (.invokevirtual 55, 3) := by decide +kernel
theorem dX6_drinks_6 : decode cX6_drinks 6 = .ok (.iconst 2, 1) := by decide +kernel
theorem dX6_drinks_7 : decode cX6_drinks 7 = .ok (.if_icmp .ne 7, 3) := by decide +kernel
theorem dX6_drinks_10 : decode cX6_drinks 10 = .ok (.iconst 2, 1) := by decide +kernel
theorem dX6_drinks_11 : decode cX6_drinks 11 = .ok (.goto 19, 3) := by decide +kernel
theorem dX6_drinks_14 : decode cX6_drinks 14 = .ok (.aload_n 0, 1) := by decide +kernel
theorem dX6_drinks_15 : decode cX6_drinks 15 = .ok (.iload_n 1, 1) := by decide +kernel
theorem dX6_drinks_16 : decode cX6_drinks 16 = .ok (.iconst 0, 1) := by decide +kernel
theorem dX6_drinks_17 : decode cX6_drinks 17 = .ok (.invokevirtual 55, 3) := by decide +kernel
theorem dX6_drinks_20 : decode cX6_drinks 20 = .ok (.iconst 3, 1) := by decide +kernel
theorem dX6_drinks_21 : decode cX6_drinks 21 = .ok (.if_icmp .ne 8, 3) := by decide +kernel
theorem dX6_drinks_24 : decode cX6_drinks 24 = .ok (.bipush 8, 2) := by decide +kernel
theorem dX6_drinks_26 : decode cX6_drinks 26 = .ok (.goto 4, 3) := by decide +kernel
theorem dX6_drinks_29 : decode cX6_drinks 29 = .ok (.iconst 4, 1) := by decide +kernel
theorem dX6_drinks_30 : decode cX6_drinks 30 = .ok (.ireturn, 1) := by decide +kernel
theorem dX6_isSated_0 : decode cX6_isSated 0 = .ok (.aload_n 0, 1) := by decide +kernel
theorem dX6_isSated_1 : decode cX6_isSated 1 = .ok (.iload_n 1, 1) := by decide +kernel
theorem dX6_isSated_2 : decode cX6_isSated 2 = .ok (.iconst 3, 1) := by decide +kernel
theorem dX6_isSated_3 : decode cX6_isSated 3 = .ok (.invokevirtual 55, 3) := by decide +kernel
theorem dX6_isSated_6 : decode cX6_isSated 6 = .ok (.aload_n 0, 1) := by decide +kernel
theorem dX6_isSated_7 : decode cX6_isSated 7 = .ok (.iload_n 1, 1) := by decide +kernel
theorem dX6_isSated_8 : decode cX6_isSated 8 = .ok (.invokevirtual 63, 3) := by decide +kernel
theorem dX6_isSated_11 : decode cX6_isSated 11 = .ok (.if_icmp .lt 7, 3) := by decide +kernel
theorem dX6_isSated_14 : decode cX6_isSated 14 = .ok (.iconst 1, 1) := by decide +kernel
theorem dX6_isSated_15 : decode cX6_isSated 15 = .ok (.goto 4, 3) := by decide +kernel
theorem dX6_isSated_18 : decode cX6_isSated 18 = .ok (.iconst 0, 1) := by decide +kernel
theorem dX6_isSated_19 : decode cX6_isSated 19 = .ok (.ireturn, 1) := by decide +kernel
theorem dX6_sated_0 : decode cX6_sated 0 = .ok (.iconst 0, 1) := by decide +kernel
theorem dX6_sated_1 : decode cX6_sated 1 = .ok (.istore_n 1, 1) := by decide +kernel
theorem dX6_sated_2 : decode cX6_sated 2 = .ok (.iconst 0, 1) := by decide +kernel
theorem dX6_sated_3 : decode cX6_sated 3 = .ok (.istore_n 2, 1) := by decide +kernel
theorem dX6_sated_4 : decode cX6_sated 4 = .ok (.iload_n 2, 1) := by decide +kernel
theorem dX6_sated_5 : decode cX6_sated 5 = .ok (.aload_n 0, 1) := by decide +kernel
theorem dX6_sated_6 : decode cX6_sated 6 = .ok (.getfield 7, 3) := by decide +kernel
theorem dX6_sated_9 : decode cX6_sated 9 = .ok (.bipush 12, 2) := by decide +kernel
theorem dX6_sated_11 : decode cX6_sated 11 = .ok (.iaload, 1) := by decide +kernel
theorem dX6_sated_12 : decode cX6_sated 12 = .ok (.if_icmp .ge 27, 3) := by decide +kernel
theorem dX6_sated_15 : decode cX6_sated 15 = .ok (.iload_n 1, 1) := by decide +kernel
theorem dX6_sated_16 : decode cX6_sated 16 = .ok (.aload_n 0, 1) := by decide +kernel
theorem dX6_sated_17 : decode cX6_sated 17 = .ok (.iload_n 2, 1) := by decide +kernel
theorem dX6_sated_18 : decode cX6_sated 18 = .ok (.invokevirtual 67, 3) := by decide +kernel
theorem dX6_sated_21 : decode cX6_sated 21 = .ok (.ifCond .eq 9, 3) := by decide +kernel
theorem dX6_sated_24 : decode cX6_sated 24 = .ok (.iconst 1, 1) := by decide +kernel
theorem dX6_sated_25 : decode cX6_sated 25 = .ok (.iload_n 2, 1) := by decide +kernel
theorem dX6_sated_26 : decode cX6_sated 26 = .ok (.ishl, 1) := by decide +kernel
theorem dX6_sated_27 : decode cX6_sated 27 = .ok (.goto 4, 3) := by decide +kernel
theorem dX6_sated_30 : decode cX6_sated 30 = .ok (.iconst 0, 1) := by decide +kernel
theorem dX6_sated_31 : decode cX6_sated 31 = .ok (.ior, 1) := by decide +kernel
theorem dX6_sated_32 : decode cX6_sated 32 = .ok (.istore_n 1, 1) := by decide +kernel
theorem dX6_sated_33 : decode cX6_sated 33 = .ok (.iinc 2 1, 3) := by decide +kernel
theorem dX6_sated_36 : decode cX6_sated 36 = .ok (.goto (-32), 3) := by decide +kernel
theorem dX6_sated_39 : decode cX6_sated 39 = .ok (.iload_n 1, 1) := by decide +kernel
theorem dX6_sated_40 : decode cX6_sated 40 = .ok (.ireturn, 1) := by decide +kernel
theorem dX6_beast_0 : decode cX6_beast 0 = .ok (.iload_n 1, 1) := by decide +kernel
theorem dX6_beast_1 : decode cX6_beast 1 = .ok (.i2l, 1) := by decide +kernel
theorem dX6_beast_2 : decode cX6_beast 2 = .ok (.lconst 0, 1) := by decide +kernel
theorem dX6_beast_3 : decode cX6_beast 3 = .ok (.ldc2_w 70, 3) := by decide +kernel
theorem dX6_beast_6 : decode cX6_beast 6 = .ok (.invokestatic 51, 3) := by decide +kernel
theorem dX6_beast_9 : decode cX6_beast 9 = .ok (.ifCond .eq 25, 3) := by decide +kernel
theorem dX6_beast_12 : decode cX6_beast 12 = .ok (.iload_n 2, 1) := by decide +kernel
theorem dX6_beast_13 : decode cX6_beast 13 = .ok (.i2l, 1) := by decide +kernel
theorem dX6_beast_14 : decode cX6_beast 14 = .ok (.lconst 1, 1) := by decide +kernel
theorem dX6_beast_15 : decode cX6_beast 15 = .ok (.ldc2_w 72, 3) := by decide +kernel
theorem dX6_beast_18 : decode cX6_beast 18 = .ok (.invokestatic 51, 3) := by decide +kernel
theorem dX6_beast_21 : decode cX6_beast 21 = .ok (.ifCond .eq 13, 3) := by decide +kernel
theorem dX6_beast_24 : decode cX6_beast 24 = .ok (.iload_n 3, 1) := by decide +kernel
theorem dX6_beast_25 : decode cX6_beast 25 = .ok (.i2l, 1) := by decide +kernel
theorem dX6_beast_26 : decode cX6_beast 26 = .ok (.lconst 0, 1) := by decide +kernel
theorem dX6_beast_27 : decode cX6_beast 27 = .ok (.lconst 1, 1) := by decide +kernel
theorem dX6_beast_28 : decode cX6_beast 28 = .ok (.invokestatic 51, 3) := by decide +kernel
theorem dX6_beast_31 : decode cX6_beast 31 = .ok (.ifCond .ne 5, 3) := by decide +kernel
theorem dX6_beast_34 : decode cX6_beast 34 = .ok (.iconst (-1), 1) := by decide +kernel
theorem dX6_beast_35 : decode cX6_beast 35 = .ok (.ireturn, 1) := by decide +kernel
theorem dX6_beast_36 : decode cX6_beast 36 = .ok (.aload_n 0, 1) := by decide +kernel
theorem dX6_beast_37 : decode cX6_beast 37 = .ok (.getfield 7, 3) := by decide +kernel
theorem dX6_beast_40 : decode cX6_beast 40 = .ok (.bipush 12, 2) := by decide +kernel
theorem dX6_beast_42 : decode cX6_beast 42 = .ok (.iaload, 1) := by decide +kernel
theorem dX6_beast_43 : decode cX6_beast 43 = .ok (.bipush 7, 2) := by decide +kernel
theorem dX6_beast_45 : decode cX6_beast 45 = .ok (.if_icmp .ne 6, 3) := by decide +kernel
theorem dX6_beast_48 : decode cX6_beast 48 = .ok (.bipush (-3), 2) := by decide +kernel
theorem dX6_beast_50 : decode cX6_beast 50 = .ok (.ireturn, 1) := by decide +kernel
theorem dX6_beast_51 : decode cX6_beast 51 = .ok (.bipush 14, 2) := by decide +kernel
theorem dX6_beast_53 : decode cX6_beast 53 = .ok (.bipush 7, 2) := by decide +kernel
theorem dX6_beast_55 : decode cX6_beast 55 = .ok (.aload_n 0, 1) := by decide +kernel
theorem dX6_beast_56 : decode cX6_beast 56 = .ok (.getfield 7, 3) := by decide +kernel
theorem dX6_beast_59 : decode cX6_beast 59 = .ok (.bipush 12, 2) := by decide +kernel
theorem dX6_beast_61 : decode cX6_beast 61 = .ok (.iaload, 1) := by decide +kernel
theorem dX6_beast_62 : decode cX6_beast 62 = .ok (.imul, 1) := by decide +kernel
theorem dX6_beast_63 : decode cX6_beast 63 = .ok (.iadd, 1) := by decide +kernel
theorem dX6_beast_64 : decode cX6_beast 64 = .ok (.istore 4, 2) := by decide +kernel
theorem dX6_beast_66 : decode cX6_beast 66 = .ok (.aload_n 0, 1) := by decide +kernel
theorem dX6_beast_67 : decode cX6_beast 67 = .ok (.getfield 7, 3) := by decide +kernel
theorem dX6_beast_70 : decode cX6_beast 70 = .ok (.iload 4, 2) := by decide +kernel
theorem dX6_beast_72 : decode cX6_beast 72 = .ok (.iload_n 1, 1) := by decide +kernel
theorem dX6_beast_73 : decode cX6_beast 73 = .ok (.iastore, 1) := by decide +kernel
theorem dX6_beast_74 : decode cX6_beast 74 = .ok (.aload_n 0, 1) := by decide +kernel
theorem dX6_beast_75 : decode cX6_beast 75 = .ok (.getfield 7, 3) := by decide +kernel
theorem dX6_beast_78 : decode cX6_beast 78 = .ok (.iload 4, 2) := by decide +kernel
theorem dX6_beast_80 : decode cX6_beast 80 = .ok (.iconst 1, 1) := by decide +kernel
theorem dX6_beast_81 : decode cX6_beast 81 = .ok (.iadd, 1) := by decide +kernel
theorem dX6_beast_82 : decode cX6_beast 82 = .ok (.iload_n 2, 1) := by decide +kernel
theorem dX6_beast_83 : decode cX6_beast 83 = .ok (.iastore, 1) := by decide +kernel
theorem dX6_beast_84 : decode cX6_beast 84 = .ok (.aload_n 0, 1) := by decide +kernel
theorem dX6_beast_85 : decode cX6_beast 85 = .ok (.getfield 7, 3) := by decide +kernel
theorem dX6_beast_88 : decode cX6_beast 88 = .ok (.iload 4, 2) := by decide +kernel
theorem dX6_beast_90 : decode cX6_beast 90 = .ok (.iconst 2, 1) := by decide +kernel
theorem dX6_beast_91 : decode cX6_beast 91 = .ok (.iadd, 1) := by decide +kernel
theorem dX6_beast_92 : decode cX6_beast 92 = .ok (.iload_n 3, 1) := by decide +kernel
theorem dX6_beast_93 : decode cX6_beast 93 = .ok (.iastore, 1) := by decide +kernel
theorem dX6_beast_94 : decode cX6_beast 94 = .ok (.iconst 3, 1) := by decide +kernel
theorem dX6_beast_95 : decode cX6_beast 95 = .ok (.istore 5, 2) := by decide +kernel
theorem dX6_beast_97 : decode cX6_beast 97 = .ok (.iload 5, 2) := by decide +kernel
theorem dX6_beast_99 : decode cX6_beast 99 = .ok (.bipush 7, 2) := by decide +kernel
theorem dX6_beast_101 : decode cX6_beast 101 = .ok (.if_icmp .ge 20, 3) := by decide +kernel
theorem dX6_beast_104 : decode cX6_beast 104 = .ok (.aload_n 0, 1) := by decide +kernel
theorem dX6_beast_105 : decode cX6_beast 105 = .ok (.getfield 7, 3) := by decide +kernel
theorem dX6_beast_108 : decode cX6_beast 108 = .ok (.iload 4, 2) := by decide +kernel
theorem dX6_beast_110 : decode cX6_beast 110 = .ok (.iload 5, 2) := by decide +kernel
theorem dX6_beast_112 : decode cX6_beast 112 = .ok (.iadd, 1) := by decide +kernel
theorem dX6_beast_113 : decode cX6_beast 113 = .ok (.iconst 0, 1) := by decide +kernel
theorem dX6_beast_114 : decode cX6_beast 114 = .ok (.iastore, 1) := by decide +kernel
theorem dX6_beast_115 : decode cX6_beast 115 = .ok (.iinc 5 1, 3) := by decide +kernel
theorem dX6_beast_118 : decode cX6_beast 118 = .ok (.goto (-21), 3) := by decide +kernel
theorem dX6_beast_121 : decode cX6_beast 121 = .ok (.aload_n 0, 1) := by decide +kernel
theorem dX6_beast_122 : decode cX6_beast 122 = .ok (.iconst 0, 1) := by decide +kernel
theorem dX6_beast_123 : decode cX6_beast 123 = .ok (.putfield 74, 3) := by decide +kernel
theorem dX6_beast_126 : decode cX6_beast 126 = .ok (.aload_n 0, 1) := by decide +kernel
theorem dX6_beast_127 : decode cX6_beast 127 = .ok (.iconst (-1), 1) := by decide +kernel
theorem dX6_beast_128 : decode cX6_beast 128 = .ok (.putfield 16, 3) := by decide +kernel
theorem dX6_beast_131 : decode cX6_beast 131 = .ok (.aload_n 0, 1) := by decide +kernel
theorem dX6_beast_132 : decode cX6_beast 132 = .ok (.getfield 7, 3) := by decide +kernel
theorem dX6_beast_135 : decode cX6_beast 135 = .ok (.bipush 12, 2) := by decide +kernel
theorem dX6_beast_137 : decode cX6_beast 137 = .ok (.dup2, 1) := by decide +kernel
theorem dX6_beast_138 : decode cX6_beast 138 = .ok (.iaload, 1) := by decide +kernel
theorem dX6_beast_139 : decode cX6_beast 139 = .ok (.iconst 1, 1) := by decide +kernel
theorem dX6_beast_140 : decode cX6_beast 140 = .ok (.iadd, 1) := by decide +kernel
theorem dX6_beast_141 : decode cX6_beast 141 = .ok (.iastore, 1) := by decide +kernel
theorem dX6_beast_142 : decode cX6_beast 142 = .ok (.aload_n 0, 1) := by decide +kernel
theorem dX6_beast_143 : decode cX6_beast 143 = .ok (.getfield 7, 3) := by decide +kernel
theorem dX6_beast_146 : decode cX6_beast 146 = .ok (.bipush 12, 2) := by decide +kernel
theorem dX6_beast_148 : decode cX6_beast 148 = .ok (.iaload, 1) := by decide +kernel
theorem dX6_beast_149 : decode cX6_beast 149 = .ok (.iconst 1, 1) := by decide +kernel
theorem dX6_beast_150 : decode cX6_beast 150 = .ok (.isub, 1) := by decide +kernel
theorem dX6_beast_151 : decode cX6_beast 151 = .ok (.ireturn, 1) := by decide +kernel
theorem dX6_of_0 : decode cX6_of 0 = .ok (.aload_n 0, 1) := by decide +kernel
theorem dX6_of_1 : decode cX6_of 1 = .ok (.iload_n 1, 1) := by decide +kernel
theorem dX6_of_2 : decode cX6_of 2 = .ok (.invokevirtual 77, 3) := by decide +kernel
theorem dX6_of_5 : decode cX6_of 5 = .ok (.ifCond .eq 15, 3) := by decide +kernel
theorem dX6_of_8 : decode cX6_of 8 = .ok (.iload_n 2, 1) := by decide +kernel
theorem dX6_of_9 : decode cX6_of 9 = .ok (.i2l, 1) := by decide +kernel
theorem dX6_of_10 : decode cX6_of 10 = .ok (.lconst 0, 1) := by decide +kernel
theorem dX6_of_11 : decode cX6_of 11 = .ok (.ldc2_w 80, 3) := by decide +kernel
theorem dX6_of_14 : decode cX6_of 14 = .ok (.invokestatic 51, 3) := by decide +kernel
theorem dX6_of_17 : decode cX6_of 17 = .ok (.ifCond .ne 5, 3) := by decide +kernel
theorem dX6_of_20 : decode cX6_of 20 = .ok (.iconst (-1), 1) := by decide +kernel
theorem dX6_of_21 : decode cX6_of 21 = .ok (.ireturn, 1) := by decide +kernel
theorem dX6_of_22 : decode cX6_of 22 = .ok (.iload_n 2, 1) := by decide +kernel
theorem dX6_of_23 : decode cX6_of 23 = .ok (.tableswitch 89 0 7 #[45, 45, 45, 52, 58, 58, 67, 81], 45) := by decide +kernel
theorem dX6_of_68 : decode cX6_of 68 = .ok (.aload_n 0, 1) := by decide +kernel
theorem dX6_of_69 : decode cX6_of 69 = .ok (.iload_n 1, 1) := by decide +kernel
theorem dX6_of_70 : decode cX6_of 70 = .ok (.iload_n 2, 1) := by decide +kernel
theorem dX6_of_71 : decode cX6_of 71 = .ok (.invokevirtual 55, 3) := by decide +kernel
theorem dX6_of_74 : decode cX6_of 74 = .ok (.ireturn, 1) := by decide +kernel
theorem dX6_of_75 : decode cX6_of 75 = .ok (.aload_n 0, 1) := by decide +kernel
theorem dX6_of_76 : decode cX6_of 76 = .ok (.iload_n 1, 1) := by decide +kernel
theorem dX6_of_77 : decode cX6_of 77 = .ok (.invokevirtual 63, 3) := by decide +kernel
theorem dX6_of_80 : decode cX6_of 80 = .ok (.ireturn, 1) := by decide +kernel
theorem dX6_of_81 : decode cX6_of 81 = .ok (.aload_n 0, 1) := by decide +kernel
theorem dX6_of_82 : decode cX6_of 82 = .ok (.iload_n 1, 1) := by decide +kernel
theorem dX6_of_83 : decode cX6_of 83 = .ok (.iload_n 2, 1) := by decide +kernel
theorem dX6_of_84 : decode cX6_of 84 = .ok (.iconst 1, 1) := by decide +kernel
theorem dX6_of_85 : decode cX6_of 85 = .ok (.isub, 1) := by decide +kernel
theorem dX6_of_86 : decode cX6_of 86 = .ok (.invokevirtual 55, 3) := by decide +kernel
theorem dX6_of_89 : decode cX6_of 89 = .ok (.ireturn, 1) := by decide +kernel
theorem dX6_of_90 : decode cX6_of 90 = .ok (.aload_n 0, 1) := by decide +kernel
theorem dX6_of_91 : decode cX6_of 91 = .ok (.iload_n 1, 1) := by decide +kernel
theorem dX6_of_92 : decode cX6_of 92 = .ok (.invokevirtual 67, 3) := by decide +kernel
theorem dX6_of_95 : decode cX6_of 95 = .ok (.ifCond .eq 7, 3) := by decide +kernel
theorem dX6_of_98 : decode cX6_of 98 = .ok (.iconst 1, 1) := by decide +kernel
theorem dX6_of_99 : decode cX6_of 99 = .ok (.goto 4, 3) := by decide +kernel
theorem dX6_of_102 : decode cX6_of 102 = .ok (.iconst 0, 1) := by decide +kernel
theorem dX6_of_103 : decode cX6_of 103 = .ok (.ireturn, 1) := by decide +kernel
theorem dX6_of_104 : decode cX6_of 104 = .ok (.aload_n 0, 1) := by decide +kernel
theorem dX6_of_105 : decode cX6_of 105 = .ok (.iload_n 1, 1) := by decide +kernel
theorem dX6_of_106 : decode cX6_of 106 = .ok (.bipush 6, 2) := by decide +kernel
theorem dX6_of_108 : decode cX6_of 108 = .ok (.invokevirtual 55, 3) := by decide +kernel
theorem dX6_of_111 : decode cX6_of 111 = .ok (.ireturn, 1) := by decide +kernel
theorem dX6_of_112 : decode cX6_of 112 = .ok (.aload_n 0, 1) := by decide +kernel
theorem dX6_of_113 : decode cX6_of 113 = .ok (.iload_n 1, 1) := by decide +kernel
theorem dX6_of_114 : decode cX6_of 114 = .ok (.invokevirtual 82, 3) := by decide +kernel
theorem dX6_of_117 : decode cX6_of 117 = .ok (.ireturn, 1) := by decide +kernel
theorem dX6_low_0 : decode cX6_low 0 = .ok (.iload_n 0, 1) := by decide +kernel
theorem dX6_low_1 : decode cX6_low 1 = .ok (.iconst 2, 1) := by decide +kernel
theorem dX6_low_2 : decode cX6_low 2 = .ok (.if_icmp .eq 13, 3) := by decide +kernel
theorem dX6_low_5 : decode cX6_low 5 = .ok (.iload_n 0, 1) := by decide +kernel
theorem dX6_low_6 : decode cX6_low 6 = .ok (.iconst 3, 1) := by decide +kernel
theorem dX6_low_7 : decode cX6_low 7 = .ok (.if_icmp .eq 8, 3) := by decide +kernel
theorem dX6_low_10 : decode cX6_low 10 = .ok (.iload_n 0, 1) := by decide +kernel
theorem dX6_low_11 : decode cX6_low 11 = .ok (.iconst 4, 1) := by decide +kernel
theorem dX6_low_12 : decode cX6_low 12 = .ok (.if_icmp .ne 7, 3) := by decide +kernel
theorem dX6_low_15 : decode cX6_low 15 = .ok (.iconst 1, 1) := by decide +kernel
theorem dX6_low_16 : decode cX6_low 16 = .ok (.goto 4, 3) := by decide +kernel
theorem dX6_low_19 : decode cX6_low 19 = .ok (.iconst 0, 1) := by decide +kernel
theorem dX6_low_20 : decode cX6_low 20 = .ok (.ireturn, 1) := by decide +kernel
theorem dX6_high_0 : decode cX6_high 0 = .ok (.iload_n 0, 1) := by decide +kernel
theorem dX6_high_1 : decode cX6_high 1 = .ok (.tableswitch 53 1 6 #[39, 42, 45, 48, 53, 51], 39) := by decide +kernel
theorem dX6_high_40 : decode cX6_high 40 = .ok (.bipush 20, 2) := by decide +kernel
theorem dX6_high_42 : decode cX6_high 42 = .ok (.ireturn, 1) := by decide +kernel
theorem dX6_high_43 : decode cX6_high 43 = .ok (.bipush 40, 2) := by decide +kernel
theorem dX6_high_45 : decode cX6_high 45 = .ok (.ireturn, 1) := by decide +kernel
theorem dX6_high_46 : decode cX6_high 46 = .ok (.bipush 9, 2) := by decide +kernel
theorem dX6_high_48 : decode cX6_high 48 = .ok (.ireturn, 1) := by decide +kernel
theorem dX6_high_49 : decode cX6_high 49 = .ok (.bipush 7, 2) := by decide +kernel
theorem dX6_high_51 : decode cX6_high 51 = .ok (.ireturn, 1) := by decide +kernel
theorem dX6_high_52 : decode cX6_high 52 = .ok (.iconst 3, 1) := by decide +kernel
theorem dX6_high_53 : decode cX6_high 53 = .ok (.ireturn, 1) := by decide +kernel
theorem dX6_high_54 : decode cX6_high 54 = .ok (.bipush 60, 2) := by decide +kernel
theorem dX6_high_56 : decode cX6_high 56 = .ok (.ireturn, 1) := by decide +kernel
theorem dX6_well_0 : decode cX6_well 0 = .ok (.iload_n 1, 1) := by decide +kernel
theorem dX6_well_1 : decode cX6_well 1 = .ok (.i2l, 1) := by decide +kernel
theorem dX6_well_2 : decode cX6_well 2 = .ok (.lconst 0, 1) := by decide +kernel
theorem dX6_well_3 : decode cX6_well 3 = .ok (.ldc2_w 85, 3) := by decide +kernel
theorem dX6_well_6 : decode cX6_well 6 = .ok (.invokestatic 51, 3) := by decide +kernel
theorem dX6_well_9 : decode cX6_well 9 = .ok (.ifCond .eq 21, 3) := by decide +kernel
theorem dX6_well_12 : decode cX6_well 12 = .ok (.iload_n 2, 1) := by decide +kernel
theorem dX6_well_13 : decode cX6_well 13 = .ok (.i2l, 1) := by decide +kernel
theorem dX6_well_14 : decode cX6_well 14 = .ok (.iload_n 1, 1) := by decide +kernel
theorem dX6_well_15 : decode cX6_well 15 = .ok (.invokestatic 87, 3) := by decide +kernel
theorem dX6_well_18 : decode cX6_well 18 = .ok (.i2l, 1) := by decide +kernel
theorem dX6_well_19 : decode cX6_well 19 = .ok (.iload_n 1, 1) := by decide +kernel
theorem dX6_well_20 : decode cX6_well 20 = .ok (.invokestatic 90, 3) := by decide +kernel
theorem dX6_well_23 : decode cX6_well 23 = .ok (.i2l, 1) := by decide +kernel
theorem dX6_well_24 : decode cX6_well 24 = .ok (.invokestatic 51, 3) := by decide +kernel
theorem dX6_well_27 : decode cX6_well 27 = .ok (.ifCond .ne 5, 3) := by decide +kernel
theorem dX6_well_30 : decode cX6_well 30 = .ok (.iconst (-1), 1) := by decide +kernel
theorem dX6_well_31 : decode cX6_well 31 = .ok (.ireturn, 1) := by decide +kernel
theorem dX6_well_32 : decode cX6_well 32 = .ok (.aload_n 0, 1) := by decide +kernel
theorem dX6_well_33 : decode cX6_well 33 = .ok (.getfield 7, 3) := by decide +kernel
theorem dX6_well_36 : decode cX6_well 36 = .ok (.iload_n 1, 1) := by decide +kernel
theorem dX6_well_37 : decode cX6_well 37 = .ok (.iaload, 1) := by decide +kernel
theorem dX6_well_38 : decode cX6_well 38 = .ok (.istore_n 3, 1) := by decide +kernel
theorem dX6_well_39 : decode cX6_well 39 = .ok (.aload_n 0, 1) := by decide +kernel
theorem dX6_well_40 : decode cX6_well 40 = .ok (.getfield 7, 3) := by decide +kernel
theorem dX6_well_43 : decode cX6_well 43 = .ok (.iload_n 1, 1) := by decide +kernel
theorem dX6_well_44 : decode cX6_well 44 = .ok (.iload_n 2, 1) := by decide +kernel
theorem dX6_well_45 : decode cX6_well 45 = .ok (.iastore, 1) := by decide +kernel
theorem dX6_well_46 : decode cX6_well 46 = .ok (.iload_n 3, 1) := by decide +kernel
theorem dX6_well_47 : decode cX6_well 47 = .ok (.ireturn, 1) := by decide +kernel
theorem dX6_pull_0 : decode cX6_pull 0 = .ok (.iload_n 1, 1) := by decide +kernel
theorem dX6_pull_1 : decode cX6_pull 1 = .ok (.bipush (-4), 2) := by decide +kernel
theorem dX6_pull_3 : decode cX6_pull 3 = .ok (.if_icmp .eq 13, 3) := by decide +kernel
theorem dX6_pull_6 : decode cX6_pull 6 = .ok (.aload_n 0, 1) := by decide +kernel
theorem dX6_pull_7 : decode cX6_pull 7 = .ok (.iload_n 1, 1) := by decide +kernel
theorem dX6_pull_8 : decode cX6_pull 8 = .ok (.invokevirtual 77, 3) := by decide +kernel
theorem dX6_pull_11 : decode cX6_pull 11 = .ok (.ifCond .ne 5, 3) := by decide +kernel
theorem dX6_pull_14 : decode cX6_pull 14 = .ok (.iconst (-1), 1) := by decide +kernel
theorem dX6_pull_15 : decode cX6_pull 15 = .ok (.ireturn, 1) := by decide +kernel
theorem dX6_pull_16 : decode cX6_pull 16 = .ok (.aload_n 0, 1) := by decide +kernel
theorem dX6_pull_17 : decode cX6_pull 17 = .ok (.getfield 7, 3) := by decide +kernel
theorem dX6_pull_20 : decode cX6_pull 20 = .ok (.bipush 10, 2) := by decide +kernel
theorem dX6_pull_22 : decode cX6_pull 22 = .ok (.iaload, 1) := by decide +kernel
theorem dX6_pull_23 : decode cX6_pull 23 = .ok (.istore_n 2, 1) := by decide +kernel
theorem dX6_pull_24 : decode cX6_pull 24 = .ok (.aload_n 0, 1) := by decide +kernel
theorem dX6_pull_25 : decode cX6_pull 25 = .ok (.getfield 7, 3) := by decide +kernel
theorem dX6_pull_28 : decode cX6_pull 28 = .ok (.bipush 10, 2) := by decide +kernel
theorem dX6_pull_30 : decode cX6_pull 30 = .ok (.iload_n 1, 1) := by decide +kernel
theorem dX6_pull_31 : decode cX6_pull 31 = .ok (.iastore, 1) := by decide +kernel
theorem dX6_pull_32 : decode cX6_pull 32 = .ok (.iload_n 2, 1) := by decide +kernel
theorem dX6_pull_33 : decode cX6_pull 33 = .ok (.ireturn, 1) := by decide +kernel
theorem dX6_isAhead_0 : decode cX6_isAhead 0 = .ok (.iload_n 3, 1) := by decide +kernel
theorem dX6_isAhead_1 : decode cX6_isAhead 1 = .ok (.iconst 1, 1) := by decide +kernel
theorem dX6_isAhead_2 : decode cX6_isAhead 2 = .ok (.if_icmp .ne 39, 3) := by decide +kernel
theorem dX6_isAhead_5 : decode cX6_isAhead 5 = .ok (.aload_n 0, 1) := by decide +kernel
theorem dX6_isAhead_6 : decode cX6_isAhead 6 = .ok (.iload_n 1, 1) := by decide +kernel
theorem dX6_isAhead_7 : decode cX6_isAhead 7 = .ok (.iconst 1, 1) := by decide +kernel
theorem dX6_isAhead_8 : decode cX6_isAhead 8 = .ok (.invokevirtual 55, 3) := by decide +kernel
theorem dX6_isAhead_11 : decode cX6_isAhead 11 = .ok (.aload_n 0, 1) := by decide +kernel
theorem dX6_isAhead_12 : decode cX6_isAhead 12 = .ok (.iload_n 2, 1) := by decide +kernel
theorem dX6_isAhead_13 : decode cX6_isAhead 13 = .ok (.iconst 1, 1) := by decide +kernel
theorem dX6_isAhead_14 : decode cX6_isAhead 14 = .ok (.invokevirtual 55, 3) := by decide +kernel
theorem dX6_isAhead_17 : decode cX6_isAhead 17 = .ok (.if_icmp .eq 24, 3) := by decide +kernel
theorem dX6_isAhead_20 : decode cX6_isAhead 20 = .ok (.aload_n 0, 1) := by decide +kernel
theorem dX6_isAhead_21 : decode cX6_isAhead 21 = .ok (.iload_n 1, 1) := by decide +kernel
theorem dX6_isAhead_22 : decode cX6_isAhead 22 = .ok (.iconst 1, 1) := by decide +kernel
theorem dX6_isAhead_23 : decode cX6_isAhead 23 = .ok (.invokevirtual 55, 3) := by decide +kernel
theorem dX6_isAhead_26 : decode cX6_isAhead 26 = .ok (.aload_n 0, 1) := by decide +kernel
theorem dX6_isAhead_27 : decode cX6_isAhead 27 = .ok (.iload_n 2, 1) := by decide +kernel
theorem dX6_isAhead_28 : decode cX6_isAhead 28 = .ok (.iconst 1, 1) := by decide +kernel
theorem dX6_isAhead_29 : decode cX6_isAhead 29 = .ok (.invokevirtual 55, 3) := by decide +kernel
theorem dX6_isAhead_32 : decode cX6_isAhead 32 = .ok (.if_icmp .le 7, 3) := by decide +kernel
theorem dX6_isAhead_35 : decode cX6_isAhead 35 = .ok (.iconst 1, 1) := by decide +kernel
theorem dX6_isAhead_36 : decode cX6_isAhead 36 = .ok (.goto 4, 3) := by decide +kernel
theorem dX6_isAhead_39 : decode cX6_isAhead 39 = .ok (.iconst 0, 1) := by decide +kernel
theorem dX6_isAhead_40 : decode cX6_isAhead 40 = .ok (.ireturn, 1) := by decide +kernel
theorem dX6_isAhead_41 : decode cX6_isAhead 41 = .ok (.iload_n 3, 1) := by decide +kernel
theorem dX6_isAhead_42 : decode cX6_isAhead 42 = .ok (.iconst 2, 1) := by decide +kernel
theorem dX6_isAhead_43 : decode cX6_isAhead 43 = .ok (.if_icmp .ne 22, 3) := by decide +kernel
theorem dX6_isAhead_46 : decode cX6_isAhead 46 = .ok (.aload_n 0, 1) := by decide +kernel
theorem dX6_isAhead_47 : decode cX6_isAhead 47 = .ok (.iload_n 1, 1) := by decide +kernel
theorem dX6_isAhead_48 : decode cX6_isAhead 48 = .ok (.invokevirtual 59, 3) := by decide +kernel
theorem dX6_isAhead_51 : decode cX6_isAhead 51 = .ok (.aload_n 0, 1) := by decide +kernel
theorem dX6_isAhead_52 : decode cX6_isAhead 52 = .ok (.iload_n 2, 1) := by decide +kernel
theorem dX6_isAhead_53 : decode cX6_isAhead 53 = .ok (.invokevirtual 59, 3) := by decide +kernel
theorem dX6_isAhead_56 : decode cX6_isAhead 56 = .ok (.if_icmp .eq 9, 3) := by decide +kernel
theorem dX6_isAhead_59 : decode cX6_isAhead 59 = .ok (.aload_n 0, 1) := by decide +kernel
theorem dX6_isAhead_60 : decode cX6_isAhead 60 = .ok (.iload_n 1, 1) := by decide +kernel
theorem dX6_isAhead_61 : decode cX6_isAhead 61 = .ok (.invokevirtual 59, 3) := by decide +kernel
theorem dX6_isAhead_64 : decode cX6_isAhead 64 = .ok (.ireturn, 1) := by decide +kernel
theorem dX6_isAhead_65 : decode cX6_isAhead 65 = .ok (.iload_n 3, 1) := by decide +kernel
theorem dX6_isAhead_66 : decode cX6_isAhead 66 = .ok (.iconst 3, 1) := by decide +kernel
theorem dX6_isAhead_67 : decode cX6_isAhead 67 = .ok (.if_icmp .ne 52, 3) := by decide +kernel
theorem dX6_isAhead_70 : decode cX6_isAhead 70 = .ok (.aload_n 0, 1) := by decide +kernel
theorem dX6_isAhead_71 : decode cX6_isAhead 71 = .ok (.iload_n 1, 1) := by decide +kernel
theorem dX6_isAhead_72 : decode cX6_isAhead 72 = .ok (.invokevirtual 93, 3) := by decide +kernel
theorem dX6_isAhead_75 : decode cX6_isAhead 75 = .ok (.istore 4, 2) := by decide +kernel
theorem dX6_isAhead_77 : decode cX6_isAhead 77 = .ok (.aload_n 0, 1) := by decide +kernel
theorem dX6_isAhead_78 : decode cX6_isAhead 78 = .ok (.iload_n 2, 1) := by decide +kernel
theorem dX6_isAhead_79 : decode cX6_isAhead 79 = .ok (.invokevirtual 93, 3) := by decide +kernel
theorem dX6_isAhead_82 : decode cX6_isAhead 82 = .ok (.istore 5, 2) := by decide +kernel
theorem dX6_isAhead_84 : decode cX6_isAhead 84 = .ok (.iload 4, 2) := by decide +kernel
theorem dX6_isAhead_86 : decode cX6_isAhead 86 = .ok (.iload 5, 2) := by decide +kernel
theorem dX6_isAhead_88 : decode cX6_isAhead 88 = .ok (.if_icmp .lt 25, 3) := by decide +kernel
theorem dX6_isAhead_91 : decode cX6_isAhead 91 = .ok (.iload 4, 2) := by decide +kernel
theorem dX6_isAhead_93 : decode cX6_isAhead 93 = .ok (.iload 5, 2) := by decide +kernel
theorem dX6_isAhead_95 : decode cX6_isAhead 95 = .ok (.if_icmp .ne 22, 3) := by decide +kernel
theorem dX6_isAhead_98 : decode cX6_isAhead 98 = .ok (.aload_n 0, 1) := by decide +kernel
theorem dX6_isAhead_99 : decode cX6_isAhead 99 = .ok (.iload_n 1, 1) := by decide +kernel
theorem dX6_isAhead_100 : decode cX6_isAhead 100 = .ok (.iconst 2, 1) := by decide +kernel
theorem dX6_isAhead_101 : decode cX6_isAhead 101 = .ok (.invokevirtual 55, 3) := by decide +kernel
theorem dX6_isAhead_104 : decode cX6_isAhead 104 = .ok (.aload_n 0, 1) := by decide +kernel
theorem dX6_isAhead_105 : decode cX6_isAhead 105 = .ok (.iload_n 2, 1) := by decide +kernel
theorem dX6_isAhead_106 : decode cX6_isAhead 106 = .ok (.iconst 2, 1) := by decide +kernel
theorem dX6_isAhead_107 : decode cX6_isAhead 107 = .ok (.invokevirtual 55, 3) := by decide +kernel
theorem dX6_isAhead_110 : decode cX6_isAhead 110 = .ok (.if_icmp .ge 7, 3) := by decide +kernel
theorem dX6_isAhead_113 : decode cX6_isAhead 113 = .ok (.iconst 1, 1) := by decide +kernel
theorem dX6_isAhead_114 : decode cX6_isAhead 114 = .ok (.goto 4, 3) := by decide +kernel
theorem dX6_isAhead_117 : decode cX6_isAhead 117 = .ok (.iconst 0, 1) := by decide +kernel
theorem dX6_isAhead_118 : decode cX6_isAhead 118 = .ok (.ireturn, 1) := by decide +kernel
theorem dX6_isAhead_119 : decode cX6_isAhead 119 = .ok (.iload_n 1, 1) := by decide +kernel
theorem dX6_isAhead_120 : decode cX6_isAhead 120 = .ok (.iload_n 2, 1) := by decide +kernel
theorem dX6_isAhead_121 : decode cX6_isAhead 121 = .ok (.if_icmp .ge 7, 3) := by decide +kernel
theorem dX6_isAhead_124 : decode cX6_isAhead 124 = .ok (.iconst 1, 1) := by decide +kernel
theorem dX6_isAhead_125 : decode cX6_isAhead 125 = .ok (.goto 4, 3) := by decide +kernel
theorem dX6_isAhead_128 : decode cX6_isAhead 128 = .ok (.iconst 0, 1) := by decide +kernel
theorem dX6_isAhead_129 : decode cX6_isAhead 129 = .ok (.ireturn, 1) := by decide +kernel
theorem dX6_among_0 : decode cX6_among 0 = .ok (.iconst 0, 1) := by decide +kernel
theorem dX6_among_1 : decode cX6_among 1 = .ok (.istore_n 2, 1) := by decide +kernel
theorem dX6_among_2 : decode cX6_among 2 = .ok (.iconst 0, 1) := by decide +kernel
theorem dX6_among_3 : decode cX6_among 3 = .ok (.istore_n 3, 1) := by decide +kernel
theorem dX6_among_4 : decode cX6_among 4 = .ok (.iload_n 3, 1) := by decide +kernel
theorem dX6_among_5 : decode cX6_among 5 = .ok (.iload_n 1, 1) := by decide +kernel
theorem dX6_among_6 : decode cX6_among 6 = .ok (.if_icmp .ge 32, 3) := by decide +kernel
theorem dX6_among_9 : decode cX6_among 9 = .ok (.iload_n 2, 1) := by decide +kernel
theorem dX6_among_10 : decode cX6_among 10 = .ok (.aload_n 0, 1) := by decide +kernel
theorem dX6_among_11 : decode cX6_among 11 = .ok (.iload_n 3, 1) := by decide +kernel
theorem dX6_among_12 : decode cX6_among 12 = .ok (.iconst 2, 1) := by decide +kernel
theorem dX6_among_13 : decode cX6_among 13 = .ok (.invokevirtual 55, 3) := by decide +kernel
theorem dX6_among_16 : decode cX6_among 16 = .ok (.aload_n 0, 1) := by decide +kernel
theorem dX6_among_17 : decode cX6_among 17 = .ok (.iload_n 1, 1) := by decide +kernel
theorem dX6_among_18 : decode cX6_among 18 = .ok (.iconst 2, 1) := by decide +kernel
theorem dX6_among_19 : decode cX6_among 19 = .ok (.invokevirtual 55, 3) := by decide +kernel
theorem dX6_among_22 : decode cX6_among 22 = .ok (.if_icmp .ne 7, 3) := by decide +kernel
theorem dX6_among_25 : decode cX6_among 25 = .ok (.iconst 1, 1) := by decide +kernel
theorem dX6_among_26 : decode cX6_among 26 = .ok (.goto 4, 3) := by decide +kernel
theorem dX6_among_29 : decode cX6_among 29 = .ok (.iconst 0, 1) := by decide +kernel
theorem dX6_among_30 : decode cX6_among 30 = .ok (.iadd, 1) := by decide +kernel
theorem dX6_among_31 : decode cX6_among 31 = .ok (.istore_n 2, 1) := by decide +kernel
theorem dX6_among_32 : decode cX6_among 32 = .ok (.iinc 3 1, 3) := by decide +kernel
theorem dX6_among_35 : decode cX6_among 35 = .ok (.goto (-31), 3) := by decide +kernel
theorem dX6_among_38 : decode cX6_among 38 = .ok (.iload_n 2, 1) := by decide +kernel
theorem dX6_among_39 : decode cX6_among 39 = .ok (.ireturn, 1) := by decide +kernel
theorem dX6_orders_0 : decode cX6_orders 0 = .ok (.aload_n 0, 1) := by decide +kernel
theorem dX6_orders_1 : decode cX6_orders 1 = .ok (.iload_n 1, 1) := by decide +kernel
theorem dX6_orders_2 : decode cX6_orders 2 = .ok (.putfield 16, 3) := by decide +kernel
theorem dX6_orders_5 : decode cX6_orders 5 = .ok (.iconst 0, 1) := by decide +kernel
theorem dX6_orders_6 : decode cX6_orders 6 = .ok (.istore_n 2, 1) := by decide +kernel
theorem dX6_orders_7 : decode cX6_orders 7 = .ok (.iload_n 2, 1) := by decide +kernel
theorem dX6_orders_8 : decode cX6_orders 8 = .ok (.aload_n 0, 1) := by decide +kernel
theorem dX6_orders_9 : decode cX6_orders 9 = .ok (.getfield 7, 3) := by decide +kernel
theorem dX6_orders_12 : decode cX6_orders 12 = .ok (.bipush 12, 2) := by decide +kernel
theorem dX6_orders_14 : decode cX6_orders 14 = .ok (.iaload, 1) := by decide +kernel
theorem dX6_orders_15 : decode cX6_orders 15 = .ok (.if_icmp .ge 64, 3) := by decide +kernel
theorem dX6_orders_18 : decode cX6_orders 18 = .ok (.iconst 0, 1) := by decide +kernel
theorem dX6_orders_19 : decode cX6_orders 19 = .ok (.istore_n 3, 1) := by decide +kernel
theorem dX6_orders_20 : decode cX6_orders 20 = .ok (.iconst 0, 1) := by decide +kernel
theorem dX6_orders_21 : decode cX6_orders 21 = .ok (.istore 4, 2) := by decide +kernel
theorem dX6_orders_23 : decode cX6_orders 23 = .ok (.iload 4, 2) := by decide +kernel
theorem dX6_orders_25 : decode cX6_orders 25 = .ok (.aload_n 0, 1) := by decide +kernel
theorem dX6_orders_26 : decode cX6_orders 26 = .ok (.getfield 7, 3) := by decide +kernel
theorem dX6_orders_29 : decode cX6_orders 29 = .ok (.bipush 12, 2) := by decide +kernel
theorem dX6_orders_31 : decode cX6_orders 31 = .ok (.iaload, 1) := by decide +kernel
theorem dX6_orders_32 : decode cX6_orders 32 = .ok (.if_icmp .ge 34, 3) := by decide +kernel
theorem dX6_orders_35 : decode cX6_orders 35 = .ok (.iload_n 3, 1) := by decide +kernel
theorem dX6_orders_36 : decode cX6_orders 36 = .ok (.iload 4, 2) := by decide +kernel
theorem dX6_orders_38 : decode cX6_orders 38 = .ok (.iload_n 2, 1) := by decide +kernel
theorem dX6_orders_39 : decode cX6_orders 39 = .ok (.if_icmp .eq 18, 3) := by decide +kernel
theorem dX6_orders_42 : decode cX6_orders 42 = .ok (.aload_n 0, 1) := by decide +kernel
theorem dX6_orders_43 : decode cX6_orders 43 = .ok (.iload 4, 2) := by decide +kernel
theorem dX6_orders_45 : decode cX6_orders 45 = .ok (.iload_n 2, 1) := by decide +kernel
theorem dX6_orders_46 : decode cX6_orders 46 = .ok (.iload_n 1, 1) := by decide +kernel
theorem dX6_orders_47 : decode cX6_orders 47 = .ok (.invokevirtual 96, 3) := by decide +kernel
theorem dX6_orders_50 : decode cX6_orders 50 = .ok (.ifCond .eq 7, 3) := by decide +kernel
theorem dX6_orders_53 : decode cX6_orders 53 = .ok (.iconst 1, 1) := by decide +kernel
theorem dX6_orders_54 : decode cX6_orders 54 = .ok (.goto 4, 3) := by decide +kernel
theorem dX6_orders_57 : decode cX6_orders 57 = .ok (.iconst 0, 1) := by decide +kernel
theorem dX6_orders_58 : decode cX6_orders 58 = .ok (.iadd, 1) := by decide +kernel
theorem dX6_orders_59 : decode cX6_orders 59 = .ok (.istore_n 3, 1) := by decide +kernel
theorem dX6_orders_60 : decode cX6_orders 60 = .ok (.iinc 4 1, 3) := by decide +kernel
theorem dX6_orders_63 : decode cX6_orders 63 = .ok (.goto (-40), 3) := by decide +kernel
theorem dX6_orders_66 : decode cX6_orders 66 = .ok (.aload_n 0, 1) := by decide +kernel
theorem dX6_orders_67 : decode cX6_orders 67 = .ok (.getfield 13, 3) := by decide +kernel
theorem dX6_orders_70 : decode cX6_orders 70 = .ok (.iload_n 3, 1) := by decide +kernel
theorem dX6_orders_71 : decode cX6_orders 71 = .ok (.iload_n 2, 1) := by decide +kernel
theorem dX6_orders_72 : decode cX6_orders 72 = .ok (.iastore, 1) := by decide +kernel
theorem dX6_orders_73 : decode cX6_orders 73 = .ok (.iinc 2 1, 3) := by decide +kernel
theorem dX6_orders_76 : decode cX6_orders 76 = .ok (.goto (-69), 3) := by decide +kernel
theorem dX6_orders_79 : decode cX6_orders 79 = .ok (.return_, 1) := by decide +kernel
theorem dX6_turn_0 : decode cX6_turn 0 = .ok (.aload_n 0, 1) := by decide +kernel
theorem dX6_turn_1 : decode cX6_turn 1 = .ok (.iload_n 1, 1) := by decide +kernel
theorem dX6_turn_2 : decode cX6_turn 2 = .ok (.invokevirtual 77, 3) := by decide +kernel
theorem dX6_turn_5 : decode cX6_turn 5 = .ok (.ifCond .ne 5, 3) := by decide +kernel
theorem dX6_turn_8 : decode cX6_turn 8 = .ok (.iconst (-1), 1) := by decide +kernel
theorem dX6_turn_9 : decode cX6_turn 9 = .ok (.ireturn, 1) := by decide +kernel
theorem dX6_turn_10 : decode cX6_turn 10 = .ok (.aload_n 0, 1) := by decide +kernel
theorem dX6_turn_11 : decode cX6_turn 11 = .ok (.aload_n 0, 1) := by decide +kernel
theorem dX6_turn_12 : decode cX6_turn 12 = .ok (.getfield 7, 3) := by decide +kernel
theorem dX6_turn_15 : decode cX6_turn 15 = .ok (.bipush 6, 2) := by decide +kernel
theorem dX6_turn_17 : decode cX6_turn 17 = .ok (.iaload, 1) := by decide +kernel
theorem dX6_turn_18 : decode cX6_turn 18 = .ok (.invokevirtual 100, 3) := by decide +kernel
theorem dX6_turn_21 : decode cX6_turn 21 = .ok (.aload_n 0, 1) := by decide +kernel
theorem dX6_turn_22 : decode cX6_turn 22 = .ok (.getfield 13, 3) := by decide +kernel
theorem dX6_turn_25 : decode cX6_turn 25 = .ok (.iload_n 1, 1) := by decide +kernel
theorem dX6_turn_26 : decode cX6_turn 26 = .ok (.iaload, 1) := by decide +kernel
theorem dX6_turn_27 : decode cX6_turn 27 = .ok (.ireturn, 1) := by decide +kernel
theorem dX6_draws_0 : decode cX6_draws 0 = .ok (.aload_n 0, 1) := by decide +kernel
theorem dX6_draws_1 : decode cX6_draws 1 = .ok (.getfield 7, 3) := by decide +kernel
theorem dX6_draws_4 : decode cX6_draws 4 = .ok (.iconst 3, 1) := by decide +kernel
theorem dX6_draws_5 : decode cX6_draws 5 = .ok (.iaload, 1) := by decide +kernel
theorem dX6_draws_6 : decode cX6_draws 6 = .ok (.aload_n 0, 1) := by decide +kernel
theorem dX6_draws_7 : decode cX6_draws 7 = .ok (.getfield 7, 3) := by decide +kernel
end
section
theorem dX6_draws_10 : decode cX6_draws 10 = .ok (.bipush 10, 2) := by decide +kernel
theorem dX6_draws_12 : decode cX6_draws 12 = .ok (.iaload, 1) := by decide +kernel
theorem dX6_draws_13 : decode cX6_draws 13 = .ok (.bipush (-4), 2) := by decide +kernel
theorem dX6_draws_15 : decode cX6_draws 15 = .ok (.if_icmp .ne 7, 3) := by decide +kernel
theorem dX6_draws_18 : decode cX6_draws 18 = .ok (.iconst 2, 1) := by decide +kernel
theorem dX6_draws_19 : decode cX6_draws 19 = .ok (.goto 4, 3) := by decide +kernel
theorem dX6_draws_22 : decode cX6_draws 22 = .ok (.iconst 1, 1) := by decide +kernel
theorem dX6_draws_23 : decode cX6_draws 23 = .ok (.idiv, 1) := by decide +kernel
theorem dX6_draws_24 : decode cX6_draws 24 = .ok (.istore_n 2, 1) := by decide +kernel
theorem dX6_draws_25 : decode cX6_draws 25 = .ok (.aload_n 0, 1) := by decide +kernel
theorem dX6_draws_26 : decode cX6_draws 26 = .ok (.getfield 7, 3) := by decide +kernel
theorem dX6_draws_29 : decode cX6_draws 29 = .ok (.iconst 0, 1) := by decide +kernel
theorem dX6_draws_30 : decode cX6_draws 30 = .ok (.iaload, 1) := by decide +kernel
theorem dX6_draws_31 : decode cX6_draws 31 = .ok (.aload_n 0, 1) := by decide +kernel
theorem dX6_draws_32 : decode cX6_draws 32 = .ok (.getfield 7, 3) := by decide +kernel
theorem dX6_draws_35 : decode cX6_draws 35 = .ok (.iconst 1, 1) := by decide +kernel
theorem dX6_draws_36 : decode cX6_draws 36 = .ok (.iaload, 1) := by decide +kernel
theorem dX6_draws_37 : decode cX6_draws 37 = .ok (.isub, 1) := by decide +kernel
theorem dX6_draws_38 : decode cX6_draws 38 = .ok (.istore_n 3, 1) := by decide +kernel
theorem dX6_draws_39 : decode cX6_draws 39 = .ok (.bipush 24, 2) := by decide +kernel
theorem dX6_draws_41 : decode cX6_draws 41 = .ok (.aload_n 0, 1) := by decide +kernel
theorem dX6_draws_42 : decode cX6_draws 42 = .ok (.getfield 7, 3) := by decide +kernel
theorem dX6_draws_45 : decode cX6_draws 45 = .ok (.bipush 7, 2) := by decide +kernel
theorem dX6_draws_47 : decode cX6_draws 47 = .ok (.iaload, 1) := by decide +kernel
theorem dX6_draws_48 : decode cX6_draws 48 = .ok (.isub, 1) := by decide +kernel
theorem dX6_draws_49 : decode cX6_draws 49 = .ok (.istore 4, 2) := by decide +kernel
theorem dX6_draws_51 : decode cX6_draws 51 = .ok (.iload_n 2, 1) := by decide +kernel
theorem dX6_draws_52 : decode cX6_draws 52 = .ok (.iload_n 3, 1) := by decide +kernel
theorem dX6_draws_53 : decode cX6_draws 53 = .ok (.if_icmp .ge 7, 3) := by decide +kernel
theorem dX6_draws_56 : decode cX6_draws 56 = .ok (.iload_n 2, 1) := by decide +kernel
theorem dX6_draws_57 : decode cX6_draws 57 = .ok (.goto 4, 3) := by decide +kernel
theorem dX6_draws_60 : decode cX6_draws 60 = .ok (.iload_n 3, 1) := by decide +kernel
theorem dX6_draws_61 : decode cX6_draws 61 = .ok (.istore 5, 2) := by decide +kernel
theorem dX6_draws_63 : decode cX6_draws 63 = .ok (.iload 5, 2) := by decide +kernel
theorem dX6_draws_65 : decode cX6_draws 65 = .ok (.iload 4, 2) := by decide +kernel
theorem dX6_draws_67 : decode cX6_draws 67 = .ok (.if_icmp .ge 8, 3) := by decide +kernel
theorem dX6_draws_70 : decode cX6_draws 70 = .ok (.iload 5, 2) := by decide +kernel
theorem dX6_draws_72 : decode cX6_draws 72 = .ok (.goto 5, 3) := by decide +kernel
theorem dX6_draws_75 : decode cX6_draws 75 = .ok (.iload 4, 2) := by decide +kernel
theorem dX6_draws_77 : decode cX6_draws 77 = .ok (.istore 5, 2) := by decide +kernel
theorem dX6_draws_79 : decode cX6_draws 79 = .ok (.iload 5, 2) := by decide +kernel
theorem dX6_draws_81 : decode cX6_draws 81 = .ok (.ifCond .gt 4, 3) := by decide +kernel
theorem dX6_draws_84 : decode cX6_draws 84 = .ok (.return_, 1) := by decide +kernel
theorem dX6_draws_85 : decode cX6_draws 85 = .ok (.aload_n 0, 1) := by decide +kernel
theorem dX6_draws_86 : decode cX6_draws 86 = .ok (.getfield 7, 3) := by decide +kernel
theorem dX6_draws_89 : decode cX6_draws 89 = .ok (.iconst 0, 1) := by decide +kernel
theorem dX6_draws_90 : decode cX6_draws 90 = .ok (.dup2, 1) := by decide +kernel
theorem dX6_draws_91 : decode cX6_draws 91 = .ok (.iaload, 1) := by decide +kernel
theorem dX6_draws_92 : decode cX6_draws 92 = .ok (.iload 5, 2) := by decide +kernel
theorem dX6_draws_94 : decode cX6_draws 94 = .ok (.isub, 1) := by decide +kernel
theorem dX6_draws_95 : decode cX6_draws 95 = .ok (.iastore, 1) := by decide +kernel
theorem dX6_draws_96 : decode cX6_draws 96 = .ok (.aload_n 0, 1) := by decide +kernel
theorem dX6_draws_97 : decode cX6_draws 97 = .ok (.getfield 7, 3) := by decide +kernel
theorem dX6_draws_100 : decode cX6_draws 100 = .ok (.bipush 7, 2) := by decide +kernel
theorem dX6_draws_102 : decode cX6_draws 102 = .ok (.dup2, 1) := by decide +kernel
theorem dX6_draws_103 : decode cX6_draws 103 = .ok (.iaload, 1) := by decide +kernel
theorem dX6_draws_104 : decode cX6_draws 104 = .ok (.iload 5, 2) := by decide +kernel
theorem dX6_draws_106 : decode cX6_draws 106 = .ok (.iadd, 1) := by decide +kernel
theorem dX6_draws_107 : decode cX6_draws 107 = .ok (.iastore, 1) := by decide +kernel
theorem dX6_draws_108 : decode cX6_draws 108 = .ok (.aload_n 0, 1) := by decide +kernel
theorem dX6_draws_109 : decode cX6_draws 109 = .ok (.getfield 7, 3) := by decide +kernel
theorem dX6_draws_112 : decode cX6_draws 112 = .ok (.bipush 8, 2) := by decide +kernel
theorem dX6_draws_114 : decode cX6_draws 114 = .ok (.dup2, 1) := by decide +kernel
theorem dX6_draws_115 : decode cX6_draws 115 = .ok (.iaload, 1) := by decide +kernel
theorem dX6_draws_116 : decode cX6_draws 116 = .ok (.iconst 1, 1) := by decide +kernel
theorem dX6_draws_117 : decode cX6_draws 117 = .ok (.iadd, 1) := by decide +kernel
theorem dX6_draws_118 : decode cX6_draws 118 = .ok (.iastore, 1) := by decide +kernel
theorem dX6_draws_119 : decode cX6_draws 119 = .ok (.aload_n 0, 1) := by decide +kernel
theorem dX6_draws_120 : decode cX6_draws 120 = .ok (.getfield 7, 3) := by decide +kernel
theorem dX6_draws_123 : decode cX6_draws 123 = .ok (.bipush 10, 2) := by decide +kernel
theorem dX6_draws_125 : decode cX6_draws 125 = .ok (.iaload, 1) := by decide +kernel
theorem dX6_draws_126 : decode cX6_draws 126 = .ok (.bipush (-4), 2) := by decide +kernel
theorem dX6_draws_128 : decode cX6_draws 128 = .ok (.if_icmp .eq 27, 3) := by decide +kernel
theorem dX6_draws_131 : decode cX6_draws 131 = .ok (.aload_n 0, 1) := by decide +kernel
theorem dX6_draws_132 : decode cX6_draws 132 = .ok (.getfield 7, 3) := by decide +kernel
theorem dX6_draws_135 : decode cX6_draws 135 = .ok (.bipush 14, 2) := by decide +kernel
theorem dX6_draws_137 : decode cX6_draws 137 = .ok (.bipush 7, 2) := by decide +kernel
theorem dX6_draws_139 : decode cX6_draws 139 = .ok (.aload_n 0, 1) := by decide +kernel
theorem dX6_draws_140 : decode cX6_draws 140 = .ok (.getfield 7, 3) := by decide +kernel
theorem dX6_draws_143 : decode cX6_draws 143 = .ok (.bipush 10, 2) := by decide +kernel
theorem dX6_draws_145 : decode cX6_draws 145 = .ok (.iaload, 1) := by decide +kernel
theorem dX6_draws_146 : decode cX6_draws 146 = .ok (.imul, 1) := by decide +kernel
theorem dX6_draws_147 : decode cX6_draws 147 = .ok (.iadd, 1) := by decide +kernel
theorem dX6_draws_148 : decode cX6_draws 148 = .ok (.iconst 4, 1) := by decide +kernel
theorem dX6_draws_149 : decode cX6_draws 149 = .ok (.iadd, 1) := by decide +kernel
theorem dX6_draws_150 : decode cX6_draws 150 = .ok (.dup2, 1) := by decide +kernel
theorem dX6_draws_151 : decode cX6_draws 151 = .ok (.iaload, 1) := by decide +kernel
theorem dX6_draws_152 : decode cX6_draws 152 = .ok (.iconst 1, 1) := by decide +kernel
theorem dX6_draws_153 : decode cX6_draws 153 = .ok (.iadd, 1) := by decide +kernel
theorem dX6_draws_154 : decode cX6_draws 154 = .ok (.iastore, 1) := by decide +kernel
theorem dX6_draws_155 : decode cX6_draws 155 = .ok (.iload_n 1, 1) := by decide +kernel
theorem dX6_draws_156 : decode cX6_draws 156 = .ok (.ifCond .eq 83, 3) := by decide +kernel
theorem dX6_draws_159 : decode cX6_draws 159 = .ok (.aload_n 0, 1) := by decide +kernel
theorem dX6_draws_160 : decode cX6_draws 160 = .ok (.getfield 7, 3) := by decide +kernel
theorem dX6_draws_163 : decode cX6_draws 163 = .ok (.bipush 13, 2) := by decide +kernel
theorem dX6_draws_165 : decode cX6_draws 165 = .ok (.aload_n 0, 1) := by decide +kernel
theorem dX6_draws_166 : decode cX6_draws 166 = .ok (.getfield 7, 3) := by decide +kernel
theorem dX6_draws_169 : decode cX6_draws 169 = .ok (.bipush 13, 2) := by decide +kernel
theorem dX6_draws_171 : decode cX6_draws 171 = .ok (.iaload, 1) := by decide +kernel
theorem dX6_draws_172 : decode cX6_draws 172 = .ok (.i2l, 1) := by decide +kernel
theorem dX6_draws_173 : decode cX6_draws 173 = .ok (.ldc2_w 104, 3) := by decide +kernel
theorem dX6_draws_176 : decode cX6_draws 176 = .ok (.lmul, 1) := by decide +kernel
theorem dX6_draws_177 : decode cX6_draws 177 = .ok (.ldc2_w 106, 3) := by decide +kernel
theorem dX6_draws_180 : decode cX6_draws 180 = .ok (.ladd, 1) := by decide +kernel
theorem dX6_draws_181 : decode cX6_draws 181 = .ok (.ldc2_w 108, 3) := by decide +kernel
theorem dX6_draws_184 : decode cX6_draws 184 = .ok (.land, 1) := by decide +kernel
theorem dX6_draws_185 : decode cX6_draws 185 = .ok (.l2i, 1) := by decide +kernel
theorem dX6_draws_186 : decode cX6_draws 186 = .ok (.iastore, 1) := by decide +kernel
theorem dX6_draws_187 : decode cX6_draws 187 = .ok (.aload_n 0, 1) := by decide +kernel
theorem dX6_draws_188 : decode cX6_draws 188 = .ok (.getfield 7, 3) := by decide +kernel
theorem dX6_draws_191 : decode cX6_draws 191 = .ok (.bipush 13, 2) := by decide +kernel
theorem dX6_draws_193 : decode cX6_draws 193 = .ok (.iaload, 1) := by decide +kernel
theorem dX6_draws_194 : decode cX6_draws 194 = .ok (.ldc 110, 2) := by decide +kernel
theorem dX6_draws_196 : decode cX6_draws 196 = .ok (.idiv, 1) := by decide +kernel
theorem dX6_draws_197 : decode cX6_draws 197 = .ok (.bipush 100, 2) := by decide +kernel
theorem dX6_draws_199 : decode cX6_draws 199 = .ok (.irem, 1) := by decide +kernel
theorem dX6_draws_200 : decode cX6_draws 200 = .ok (.aload_n 0, 1) := by decide +kernel
theorem dX6_draws_201 : decode cX6_draws 201 = .ok (.getfield 7, 3) := by decide +kernel
theorem dX6_draws_204 : decode cX6_draws 204 = .ok (.bipush 8, 2) := by decide +kernel
theorem dX6_draws_206 : decode cX6_draws 206 = .ok (.iaload, 1) := by decide +kernel
theorem dX6_draws_207 : decode cX6_draws 207 = .ok (.bipush 10, 2) := by decide +kernel
theorem dX6_draws_209 : decode cX6_draws 209 = .ok (.idiv, 1) := by decide +kernel
theorem dX6_draws_210 : decode cX6_draws 210 = .ok (.if_icmp .ge 29, 3) := by decide +kernel
theorem dX6_draws_213 : decode cX6_draws 213 = .ok (.aload_n 0, 1) := by decide +kernel
theorem dX6_draws_214 : decode cX6_draws 214 = .ok (.getfield 7, 3) := by decide +kernel
theorem dX6_draws_217 : decode cX6_draws 217 = .ok (.bipush 8, 2) := by decide +kernel
theorem dX6_draws_219 : decode cX6_draws 219 = .ok (.iconst 0, 1) := by decide +kernel
theorem dX6_draws_220 : decode cX6_draws 220 = .ok (.iastore, 1) := by decide +kernel
theorem dX6_draws_221 : decode cX6_draws 221 = .ok (.aload_n 0, 1) := by decide +kernel
theorem dX6_draws_222 : decode cX6_draws 222 = .ok (.getfield 7, 3) := by decide +kernel
theorem dX6_draws_225 : decode cX6_draws 225 = .ok (.bipush 9, 2) := by decide +kernel
theorem dX6_draws_227 : decode cX6_draws 227 = .ok (.iconst 4, 1) := by decide +kernel
theorem dX6_draws_228 : decode cX6_draws 228 = .ok (.iastore, 1) := by decide +kernel
theorem dX6_draws_229 : decode cX6_draws 229 = .ok (.aload_n 0, 1) := by decide +kernel
theorem dX6_draws_230 : decode cX6_draws 230 = .ok (.dup, 1) := by decide +kernel
theorem dX6_draws_231 : decode cX6_draws 231 = .ok (.getfield 111, 3) := by decide +kernel
theorem dX6_draws_234 : decode cX6_draws 234 = .ok (.iconst 1, 1) := by decide +kernel
theorem dX6_draws_235 : decode cX6_draws 235 = .ok (.iadd, 1) := by decide +kernel
theorem dX6_draws_236 : decode cX6_draws 236 = .ok (.putfield 111, 3) := by decide +kernel
theorem dX6_draws_239 : decode cX6_draws 239 = .ok (.return_, 1) := by decide +kernel
theorem dX6_drinksOf_0 : decode cX6_drinksOf 0 = .ok (.aload_n 0, 1) := by decide +kernel
theorem dX6_drinksOf_1 : decode cX6_drinksOf 1 = .ok (.iload_n 1, 1) := by decide +kernel
theorem dX6_drinksOf_2 : decode cX6_drinksOf 2 = .ok (.invokevirtual 82, 3) := by decide +kernel
theorem dX6_drinksOf_5 : decode cX6_drinksOf 5 = .ok (.istore_n 2, 1) := by decide +kernel
theorem dX6_drinksOf_6 : decode cX6_drinksOf 6 = .ok (.aload_n 0, 1) := by decide +kernel
theorem dX6_drinksOf_7 : decode cX6_drinksOf 7 = .ok (.iload_n 1, 1) := by decide +kernel
theorem dX6_drinksOf_8 : decode cX6_drinksOf 8 = .ok (.invokevirtual 63, 3) := by decide +kernel
theorem dX6_drinksOf_11 : decode cX6_drinksOf 11 = .ok (.aload_n 0, 1) := by decide +kernel
theorem dX6_drinksOf_12 : decode cX6_drinksOf 12 = .ok (.iload_n 1, 1) := by decide +kernel
theorem dX6_drinksOf_13 : decode cX6_drinksOf 13 = .ok (.iconst 3, 1) := by decide +kernel
theorem dX6_drinksOf_14 : decode cX6_drinksOf 14 = .ok (.invokevirtual 55, 3) := by decide +kernel
theorem dX6_drinksOf_17 : decode cX6_drinksOf 17 = .ok (.isub, 1) := by decide +kernel
theorem dX6_drinksOf_18 : decode cX6_drinksOf 18 = .ok (.istore_n 3, 1) := by decide +kernel
theorem dX6_drinksOf_19 : decode cX6_drinksOf 19 = .ok (.iload_n 2, 1) := by decide +kernel
theorem dX6_drinksOf_20 : decode cX6_drinksOf 20 = .ok (.iload_n 3, 1) := by decide +kernel
theorem dX6_drinksOf_21 : decode cX6_drinksOf 21 = .ok (.if_icmp .ge 7, 3) := by decide +kernel
theorem dX6_drinksOf_24 : decode cX6_drinksOf 24 = .ok (.iload_n 2, 1) := by decide +kernel
theorem dX6_drinksOf_25 : decode cX6_drinksOf 25 = .ok (.goto 4, 3) := by decide +kernel
theorem dX6_drinksOf_28 : decode cX6_drinksOf 28 = .ok (.iload_n 3, 1) := by decide +kernel
theorem dX6_drinksOf_29 : decode cX6_drinksOf 29 = .ok (.istore_n 2, 1) := by decide +kernel
theorem dX6_drinksOf_30 : decode cX6_drinksOf 30 = .ok (.iload_n 2, 1) := by decide +kernel
theorem dX6_drinksOf_31 : decode cX6_drinksOf 31 = .ok (.aload_n 0, 1) := by decide +kernel
theorem dX6_drinksOf_32 : decode cX6_drinksOf 32 = .ok (.getfield 7, 3) := by decide +kernel
theorem dX6_drinksOf_35 : decode cX6_drinksOf 35 = .ok (.bipush 7, 2) := by decide +kernel
theorem dX6_drinksOf_37 : decode cX6_drinksOf 37 = .ok (.iaload, 1) := by decide +kernel
theorem dX6_drinksOf_38 : decode cX6_drinksOf 38 = .ok (.if_icmp .ge 7, 3) := by decide +kernel
theorem dX6_drinksOf_41 : decode cX6_drinksOf 41 = .ok (.iload_n 2, 1) := by decide +kernel
theorem dX6_drinksOf_42 : decode cX6_drinksOf 42 = .ok (.goto 10, 3) := by decide +kernel
theorem dX6_drinksOf_45 : decode cX6_drinksOf 45 = .ok (.aload_n 0, 1) := by decide +kernel
theorem dX6_drinksOf_46 : decode cX6_drinksOf 46 = .ok (.getfield 7, 3) := by decide +kernel
theorem dX6_drinksOf_49 : decode cX6_drinksOf 49 = .ok (.bipush 7, 2) := by decide +kernel
theorem dX6_drinksOf_51 : decode cX6_drinksOf 51 = .ok (.iaload, 1) := by decide +kernel
theorem dX6_drinksOf_52 : decode cX6_drinksOf 52 = .ok (.ireturn, 1) := by decide +kernel
theorem dX6_goes_0 : decode cX6_goes 0 = .ok (.aload_n 0, 1) := by decide +kernel
theorem dX6_goes_1 : decode cX6_goes 1 = .ok (.getfield 7, 3) := by decide +kernel
theorem dX6_goes_4 : decode cX6_goes 4 = .ok (.iconst 0, 1) := by decide +kernel
theorem dX6_goes_5 : decode cX6_goes 5 = .ok (.dup2, 1) := by decide +kernel
theorem dX6_goes_6 : decode cX6_goes 6 = .ok (.iaload, 1) := by decide +kernel
theorem dX6_goes_7 : decode cX6_goes 7 = .ok (.bipush 60, 2) := by decide +kernel
theorem dX6_goes_9 : decode cX6_goes 9 = .ok (.aload_n 0, 1) := by decide +kernel
theorem dX6_goes_10 : decode cX6_goes 10 = .ok (.getfield 7, 3) := by decide +kernel
theorem dX6_goes_13 : decode cX6_goes 13 = .ok (.iconst 0, 1) := by decide +kernel
theorem dX6_goes_14 : decode cX6_goes 14 = .ok (.iaload, 1) := by decide +kernel
theorem dX6_goes_15 : decode cX6_goes 15 = .ok (.isub, 1) := by decide +kernel
theorem dX6_goes_16 : decode cX6_goes 16 = .ok (.aload_n 0, 1) := by decide +kernel
theorem dX6_goes_17 : decode cX6_goes 17 = .ok (.getfield 7, 3) := by decide +kernel
theorem dX6_goes_20 : decode cX6_goes 20 = .ok (.iconst 2, 1) := by decide +kernel
theorem dX6_goes_21 : decode cX6_goes 21 = .ok (.iaload, 1) := by decide +kernel
theorem dX6_goes_22 : decode cX6_goes 22 = .ok (.idiv, 1) := by decide +kernel
theorem dX6_goes_23 : decode cX6_goes 23 = .ok (.iadd, 1) := by decide +kernel
theorem dX6_goes_24 : decode cX6_goes 24 = .ok (.iastore, 1) := by decide +kernel
theorem dX6_goes_25 : decode cX6_goes 25 = .ok (.aload_n 0, 1) := by decide +kernel
theorem dX6_goes_26 : decode cX6_goes 26 = .ok (.getfield 7, 3) := by decide +kernel
theorem dX6_goes_29 : decode cX6_goes 29 = .ok (.bipush 9, 2) := by decide +kernel
theorem dX6_goes_31 : decode cX6_goes 31 = .ok (.iaload, 1) := by decide +kernel
theorem dX6_goes_32 : decode cX6_goes 32 = .ok (.ifCond .ne 23, 3) := by decide +kernel
theorem dX6_goes_35 : decode cX6_goes 35 = .ok (.aload_n 0, 1) := by decide +kernel
theorem dX6_goes_36 : decode cX6_goes 36 = .ok (.getfield 7, 3) := by decide +kernel
theorem dX6_goes_39 : decode cX6_goes 39 = .ok (.iconst 0, 1) := by decide +kernel
theorem dX6_goes_40 : decode cX6_goes 40 = .ok (.iaload, 1) := by decide +kernel
theorem dX6_goes_41 : decode cX6_goes 41 = .ok (.aload_n 0, 1) := by decide +kernel
theorem dX6_goes_42 : decode cX6_goes 42 = .ok (.getfield 7, 3) := by decide +kernel
theorem dX6_goes_45 : decode cX6_goes 45 = .ok (.iconst 5, 1) := by decide +kernel
theorem dX6_goes_46 : decode cX6_goes 46 = .ok (.iaload, 1) := by decide +kernel
theorem dX6_goes_47 : decode cX6_goes 47 = .ok (.if_icmp .lt 8, 3) := by decide +kernel
theorem dX6_goes_50 : decode cX6_goes 50 = .ok (.aload_n 0, 1) := by decide +kernel
theorem dX6_goes_51 : decode cX6_goes 51 = .ok (.iload_n 1, 1) := by decide +kernel
theorem dX6_goes_52 : decode cX6_goes 52 = .ok (.invokevirtual 114, 3) := by decide +kernel
theorem dX6_goes_55 : decode cX6_goes 55 = .ok (.aload_n 0, 1) := by decide +kernel
theorem dX6_goes_56 : decode cX6_goes 56 = .ok (.getfield 16, 3) := by decide +kernel
theorem dX6_goes_59 : decode cX6_goes 59 = .ok (.aload_n 0, 1) := by decide +kernel
theorem dX6_goes_60 : decode cX6_goes 60 = .ok (.getfield 7, 3) := by decide +kernel
theorem dX6_goes_63 : decode cX6_goes 63 = .ok (.bipush 6, 2) := by decide +kernel
theorem dX6_goes_65 : decode cX6_goes 65 = .ok (.iaload, 1) := by decide +kernel
theorem dX6_goes_66 : decode cX6_goes 66 = .ok (.if_icmp .eq 14, 3) := by decide +kernel
theorem dX6_goes_69 : decode cX6_goes 69 = .ok (.aload_n 0, 1) := by decide +kernel
theorem dX6_goes_70 : decode cX6_goes 70 = .ok (.aload_n 0, 1) := by decide +kernel
theorem dX6_goes_71 : decode cX6_goes 71 = .ok (.getfield 7, 3) := by decide +kernel
theorem dX6_goes_74 : decode cX6_goes 74 = .ok (.bipush 6, 2) := by decide +kernel
theorem dX6_goes_76 : decode cX6_goes 76 = .ok (.iaload, 1) := by decide +kernel
theorem dX6_goes_77 : decode cX6_goes 77 = .ok (.invokevirtual 100, 3) := by decide +kernel
theorem dX6_goes_80 : decode cX6_goes 80 = .ok (.aload_n 0, 1) := by decide +kernel
theorem dX6_goes_81 : decode cX6_goes 81 = .ok (.getfield 7, 3) := by decide +kernel
theorem dX6_goes_84 : decode cX6_goes 84 = .ok (.iconst 4, 1) := by decide +kernel
theorem dX6_goes_85 : decode cX6_goes 85 = .ok (.iaload, 1) := by decide +kernel
theorem dX6_goes_86 : decode cX6_goes 86 = .ok (.istore_n 3, 1) := by decide +kernel
theorem dX6_goes_87 : decode cX6_goes 87 = .ok (.iconst 0, 1) := by decide +kernel
theorem dX6_goes_88 : decode cX6_goes 88 = .ok (.istore 4, 2) := by decide +kernel
theorem dX6_goes_90 : decode cX6_goes 90 = .ok (.iconst 0, 1) := by decide +kernel
theorem dX6_goes_91 : decode cX6_goes 91 = .ok (.istore 5, 2) := by decide +kernel
theorem dX6_goes_93 : decode cX6_goes 93 = .ok (.iconst 0, 1) := by decide +kernel
theorem dX6_goes_94 : decode cX6_goes 94 = .ok (.istore 6, 2) := by decide +kernel
theorem dX6_goes_96 : decode cX6_goes 96 = .ok (.iload 6, 2) := by decide +kernel
theorem dX6_goes_98 : decode cX6_goes 98 = .ok (.aload_n 0, 1) := by decide +kernel
theorem dX6_goes_99 : decode cX6_goes 99 = .ok (.getfield 7, 3) := by decide +kernel
theorem dX6_goes_102 : decode cX6_goes 102 = .ok (.bipush 12, 2) := by decide +kernel
theorem dX6_goes_104 : decode cX6_goes 104 = .ok (.iaload, 1) := by decide +kernel
theorem dX6_goes_105 : decode cX6_goes 105 = .ok (.if_icmp .ge 169, 3) := by decide +kernel
theorem dX6_goes_108 : decode cX6_goes 108 = .ok (.aload_n 0, 1) := by decide +kernel
theorem dX6_goes_109 : decode cX6_goes 109 = .ok (.getfield 13, 3) := by decide +kernel
theorem dX6_goes_112 : decode cX6_goes 112 = .ok (.iload 6, 2) := by decide +kernel
theorem dX6_goes_114 : decode cX6_goes 114 = .ok (.iaload, 1) := by decide +kernel
theorem dX6_goes_115 : decode cX6_goes 115 = .ok (.istore 7, 2) := by decide +kernel
theorem dX6_goes_117 : decode cX6_goes 117 = .ok (.iconst 0, 1) := by decide +kernel
theorem dX6_goes_118 : decode cX6_goes 118 = .ok (.istore 8, 2) := by decide +kernel
theorem dX6_goes_120 : decode cX6_goes 120 = .ok (.iload_n 3, 1) := by decide +kernel
theorem dX6_goes_121 : decode cX6_goes 121 = .ok (.ifCond .le 95, 3) := by decide +kernel
theorem dX6_goes_124 : decode cX6_goes 124 = .ok (.aload_n 0, 1) := by decide +kernel
theorem dX6_goes_125 : decode cX6_goes 125 = .ok (.iload 7, 2) := by decide +kernel
theorem dX6_goes_127 : decode cX6_goes 127 = .ok (.invokevirtual 67, 3) := by decide +kernel
theorem dX6_goes_130 : decode cX6_goes 130 = .ok (.ifCond .ne 86, 3) := by decide +kernel
theorem dX6_goes_133 : decode cX6_goes 133 = .ok (.aload_n 0, 1) := by decide +kernel
theorem dX6_goes_134 : decode cX6_goes 134 = .ok (.iload 7, 2) := by decide +kernel
theorem dX6_goes_136 : decode cX6_goes 136 = .ok (.bipush 6, 2) := by decide +kernel
theorem dX6_goes_138 : decode cX6_goes 138 = .ok (.invokevirtual 55, 3) := by decide +kernel
theorem dX6_goes_141 : decode cX6_goes 141 = .ok (.ifCond .ne 75, 3) := by decide +kernel
theorem dX6_goes_144 : decode cX6_goes 144 = .ok (.iload 7, 2) := by decide +kernel
theorem dX6_goes_146 : decode cX6_goes 146 = .ok (.aload_n 0, 1) := by decide +kernel
theorem dX6_goes_147 : decode cX6_goes 147 = .ok (.getfield 7, 3) := by decide +kernel
theorem dX6_goes_150 : decode cX6_goes 150 = .ok (.bipush 10, 2) := by decide +kernel
theorem dX6_goes_152 : decode cX6_goes 152 = .ok (.iaload, 1) := by decide +kernel
theorem dX6_goes_153 : decode cX6_goes 153 = .ok (.if_icmp .eq 63, 3) := by decide +kernel
theorem dX6_goes_156 : decode cX6_goes 156 = .ok (.iload_n 2, 1) := by decide +kernel
theorem dX6_goes_157 : decode cX6_goes 157 = .ok (.iload 7, 2) := by decide +kernel
theorem dX6_goes_159 : decode cX6_goes 159 = .ok (.ishr, 1) := by decide +kernel
theorem dX6_goes_160 : decode cX6_goes 160 = .ok (.iconst 1, 1) := by decide +kernel
theorem dX6_goes_161 : decode cX6_goes 161 = .ok (.iand, 1) := by decide +kernel
theorem dX6_goes_162 : decode cX6_goes 162 = .ok (.iconst 1, 1) := by decide +kernel
theorem dX6_goes_163 : decode cX6_goes 163 = .ok (.if_icmp .ne 53, 3) := by decide +kernel
theorem dX6_goes_166 : decode cX6_goes 166 = .ok (.iinc 3 (-1), 3) := by decide +kernel
theorem dX6_goes_169 : decode cX6_goes 169 = .ok (.aload_n 0, 1) := by decide +kernel
theorem dX6_goes_170 : decode cX6_goes 170 = .ok (.iload 7, 2) := by decide +kernel
theorem dX6_goes_172 : decode cX6_goes 172 = .ok (.invokevirtual 118, 3) := by decide +kernel
theorem dX6_goes_175 : decode cX6_goes 175 = .ok (.istore 8, 2) := by decide +kernel
theorem dX6_goes_177 : decode cX6_goes 177 = .ok (.aload_n 0, 1) := by decide +kernel
theorem dX6_goes_178 : decode cX6_goes 178 = .ok (.getfield 7, 3) := by decide +kernel
theorem dX6_goes_181 : decode cX6_goes 181 = .ok (.bipush 7, 2) := by decide +kernel
theorem dX6_goes_183 : decode cX6_goes 183 = .ok (.dup2, 1) := by decide +kernel
theorem dX6_goes_184 : decode cX6_goes 184 = .ok (.iaload, 1) := by decide +kernel
theorem dX6_goes_185 : decode cX6_goes 185 = .ok (.iload 8, 2) := by decide +kernel
theorem dX6_goes_187 : decode cX6_goes 187 = .ok (.isub, 1) := by decide +kernel
theorem dX6_goes_188 : decode cX6_goes 188 = .ok (.iastore, 1) := by decide +kernel
theorem dX6_goes_189 : decode cX6_goes 189 = .ok (.aload_n 0, 1) := by decide +kernel
theorem dX6_goes_190 : decode cX6_goes 190 = .ok (.getfield 7, 3) := by decide +kernel
theorem dX6_goes_193 : decode cX6_goes 193 = .ok (.bipush 14, 2) := by decide +kernel
theorem dX6_goes_195 : decode cX6_goes 195 = .ok (.bipush 7, 2) := by decide +kernel
theorem dX6_goes_197 : decode cX6_goes 197 = .ok (.iload 7, 2) := by decide +kernel
theorem dX6_goes_199 : decode cX6_goes 199 = .ok (.imul, 1) := by decide +kernel
theorem dX6_goes_200 : decode cX6_goes 200 = .ok (.iadd, 1) := by decide +kernel
theorem dX6_goes_201 : decode cX6_goes 201 = .ok (.iconst 3, 1) := by decide +kernel
theorem dX6_goes_202 : decode cX6_goes 202 = .ok (.iadd, 1) := by decide +kernel
theorem dX6_goes_203 : decode cX6_goes 203 = .ok (.dup2, 1) := by decide +kernel
theorem dX6_goes_204 : decode cX6_goes 204 = .ok (.iaload, 1) := by decide +kernel
theorem dX6_goes_205 : decode cX6_goes 205 = .ok (.iload 8, 2) := by decide +kernel
theorem dX6_goes_207 : decode cX6_goes 207 = .ok (.iadd, 1) := by decide +kernel
theorem dX6_goes_208 : decode cX6_goes 208 = .ok (.iastore, 1) := by decide +kernel
theorem dX6_goes_209 : decode cX6_goes 209 = .ok (.iload 4, 2) := by decide +kernel
theorem dX6_goes_211 : decode cX6_goes 211 = .ok (.iload 8, 2) := by decide +kernel
theorem dX6_goes_213 : decode cX6_goes 213 = .ok (.iadd, 1) := by decide +kernel
theorem dX6_goes_214 : decode cX6_goes 214 = .ok (.istore 4, 2) := by decide +kernel
theorem dX6_goes_216 : decode cX6_goes 216 = .ok (.iload 5, 2) := by decide +kernel
theorem dX6_goes_218 : decode cX6_goes 218 = .ok (.iload 8, 2) := by decide +kernel
theorem dX6_goes_220 : decode cX6_goes 220 = .ok (.ifCond .le 10, 3) := by decide +kernel
theorem dX6_goes_223 : decode cX6_goes 223 = .ok (.iconst 1, 1) := by decide +kernel
theorem dX6_goes_224 : decode cX6_goes 224 = .ok (.iload 7, 2) := by decide +kernel
theorem dX6_goes_226 : decode cX6_goes 226 = .ok (.ishl, 1) := by decide +kernel
theorem dX6_goes_227 : decode cX6_goes 227 = .ok (.goto 4, 3) := by decide +kernel
theorem dX6_goes_230 : decode cX6_goes 230 = .ok (.iconst 0, 1) := by decide +kernel
theorem dX6_goes_231 : decode cX6_goes 231 = .ok (.ior, 1) := by decide +kernel
theorem dX6_goes_232 : decode cX6_goes 232 = .ok (.istore 5, 2) := by decide +kernel
theorem dX6_goes_234 : decode cX6_goes 234 = .ok (.aload_n 0, 1) := by decide +kernel
theorem dX6_goes_235 : decode cX6_goes 235 = .ok (.getfield 7, 3) := by decide +kernel
theorem dX6_goes_238 : decode cX6_goes 238 = .ok (.bipush 14, 2) := by decide +kernel
theorem dX6_goes_240 : decode cX6_goes 240 = .ok (.bipush 7, 2) := by decide +kernel
theorem dX6_goes_242 : decode cX6_goes 242 = .ok (.iload 7, 2) := by decide +kernel
theorem dX6_goes_244 : decode cX6_goes 244 = .ok (.imul, 1) := by decide +kernel
theorem dX6_goes_245 : decode cX6_goes 245 = .ok (.iadd, 1) := by decide +kernel
theorem dX6_goes_246 : decode cX6_goes 246 = .ok (.iconst 5, 1) := by decide +kernel
theorem dX6_goes_247 : decode cX6_goes 247 = .ok (.iadd, 1) := by decide +kernel
theorem dX6_goes_248 : decode cX6_goes 248 = .ok (.iload 8, 2) := by decide +kernel
theorem dX6_goes_250 : decode cX6_goes 250 = .ok (.ifCond .le 16, 3) := by decide +kernel
theorem dX6_goes_253 : decode cX6_goes 253 = .ok (.aload_n 0, 1) := by decide +kernel
theorem dX6_goes_254 : decode cX6_goes 254 = .ok (.iload 7, 2) := by decide +kernel
theorem dX6_goes_256 : decode cX6_goes 256 = .ok (.iconst 5, 1) := by decide +kernel
theorem dX6_goes_257 : decode cX6_goes 257 = .ok (.invokevirtual 55, 3) := by decide +kernel
theorem dX6_goes_260 : decode cX6_goes 260 = .ok (.iload 8, 2) := by decide +kernel
theorem dX6_goes_262 : decode cX6_goes 262 = .ok (.iadd, 1) := by decide +kernel
theorem dX6_goes_263 : decode cX6_goes 263 = .ok (.goto 4, 3) := by decide +kernel
theorem dX6_goes_266 : decode cX6_goes 266 = .ok (.iconst 0, 1) := by decide +kernel
theorem dX6_goes_267 : decode cX6_goes 267 = .ok (.iastore, 1) := by decide +kernel
theorem dX6_goes_268 : decode cX6_goes 268 = .ok (.iinc 6 1, 3) := by decide +kernel
theorem dX6_goes_271 : decode cX6_goes 271 = .ok (.goto (-175), 3) := by decide +kernel
theorem dX6_goes_274 : decode cX6_goes 274 = .ok (.iconst 0, 1) := by decide +kernel
theorem dX6_goes_275 : decode cX6_goes 275 = .ok (.istore 6, 2) := by decide +kernel
theorem dX6_goes_277 : decode cX6_goes 277 = .ok (.iload 6, 2) := by decide +kernel
theorem dX6_goes_279 : decode cX6_goes 279 = .ok (.aload_n 0, 1) := by decide +kernel
theorem dX6_goes_280 : decode cX6_goes 280 = .ok (.getfield 7, 3) := by decide +kernel
theorem dX6_goes_283 : decode cX6_goes 283 = .ok (.bipush 12, 2) := by decide +kernel
theorem dX6_goes_285 : decode cX6_goes 285 = .ok (.iaload, 1) := by decide +kernel
theorem dX6_goes_286 : decode cX6_goes 286 = .ok (.if_icmp .ge 96, 3) := by decide +kernel
theorem dX6_goes_289 : decode cX6_goes 289 = .ok (.bipush 14, 2) := by decide +kernel
theorem dX6_goes_291 : decode cX6_goes 291 = .ok (.bipush 7, 2) := by decide +kernel
theorem dX6_goes_293 : decode cX6_goes 293 = .ok (.iload 6, 2) := by decide +kernel
theorem dX6_goes_295 : decode cX6_goes 295 = .ok (.imul, 1) := by decide +kernel
theorem dX6_goes_296 : decode cX6_goes 296 = .ok (.iadd, 1) := by decide +kernel
theorem dX6_goes_297 : decode cX6_goes 297 = .ok (.istore 7, 2) := by decide +kernel
theorem dX6_goes_299 : decode cX6_goes 299 = .ok (.aload_n 0, 1) := by decide +kernel
theorem dX6_goes_300 : decode cX6_goes 300 = .ok (.getfield 7, 3) := by decide +kernel
theorem dX6_goes_303 : decode cX6_goes 303 = .ok (.iload 7, 2) := by decide +kernel
theorem dX6_goes_305 : decode cX6_goes 305 = .ok (.bipush 6, 2) := by decide +kernel
theorem dX6_goes_307 : decode cX6_goes 307 = .ok (.iadd, 1) := by decide +kernel
theorem dX6_goes_308 : decode cX6_goes 308 = .ok (.dup2, 1) := by decide +kernel
theorem dX6_goes_309 : decode cX6_goes 309 = .ok (.iaload, 1) := by decide +kernel
theorem dX6_goes_310 : decode cX6_goes 310 = .ok (.aload_n 0, 1) := by decide +kernel
theorem dX6_goes_311 : decode cX6_goes 311 = .ok (.getfield 7, 3) := by decide +kernel
theorem dX6_goes_314 : decode cX6_goes 314 = .ok (.iload 7, 2) := by decide +kernel
theorem dX6_goes_316 : decode cX6_goes 316 = .ok (.bipush 6, 2) := by decide +kernel
theorem dX6_goes_318 : decode cX6_goes 318 = .ok (.iadd, 1) := by decide +kernel
theorem dX6_goes_319 : decode cX6_goes 319 = .ok (.iaload, 1) := by decide +kernel
theorem dX6_goes_320 : decode cX6_goes 320 = .ok (.ifCond .le 7, 3) := by decide +kernel
theorem dX6_goes_323 : decode cX6_goes 323 = .ok (.iconst 1, 1) := by decide +kernel
theorem dX6_goes_324 : decode cX6_goes 324 = .ok (.goto 4, 3) := by decide +kernel
theorem dX6_goes_327 : decode cX6_goes 327 = .ok (.iconst 0, 1) := by decide +kernel
theorem dX6_goes_328 : decode cX6_goes 328 = .ok (.isub, 1) := by decide +kernel
theorem dX6_goes_329 : decode cX6_goes 329 = .ok (.iastore, 1) := by decide +kernel
theorem dX6_goes_330 : decode cX6_goes 330 = .ok (.aload_n 0, 1) := by decide +kernel
theorem dX6_goes_331 : decode cX6_goes 331 = .ok (.getfield 7, 3) := by decide +kernel
theorem dX6_goes_334 : decode cX6_goes 334 = .ok (.iload 7, 2) := by decide +kernel
theorem dX6_goes_336 : decode cX6_goes 336 = .ok (.iaload, 1) := by decide +kernel
theorem dX6_goes_337 : decode cX6_goes 337 = .ok (.iconst 3, 1) := by decide +kernel
theorem dX6_goes_338 : decode cX6_goes 338 = .ok (.if_icmp .ne 38, 3) := by decide +kernel
theorem dX6_goes_341 : decode cX6_goes 341 = .ok (.aload_n 0, 1) := by decide +kernel
theorem dX6_goes_342 : decode cX6_goes 342 = .ok (.getfield 7, 3) := by decide +kernel
theorem dX6_goes_345 : decode cX6_goes 345 = .ok (.iload 7, 2) := by decide +kernel
theorem dX6_goes_347 : decode cX6_goes 347 = .ok (.iconst 5, 1) := by decide +kernel
theorem dX6_goes_348 : decode cX6_goes 348 = .ok (.iadd, 1) := by decide +kernel
theorem dX6_goes_349 : decode cX6_goes 349 = .ok (.iaload, 1) := by decide +kernel
theorem dX6_goes_350 : decode cX6_goes 350 = .ok (.bipush 12, 2) := by decide +kernel
theorem dX6_goes_352 : decode cX6_goes 352 = .ok (.if_icmp .lt 24, 3) := by decide +kernel
theorem dX6_goes_355 : decode cX6_goes 355 = .ok (.aload_n 0, 1) := by decide +kernel
theorem dX6_goes_356 : decode cX6_goes 356 = .ok (.getfield 7, 3) := by decide +kernel
theorem dX6_goes_359 : decode cX6_goes 359 = .ok (.iload 7, 2) := by decide +kernel
theorem dX6_goes_361 : decode cX6_goes 361 = .ok (.iconst 5, 1) := by decide +kernel
theorem dX6_goes_362 : decode cX6_goes 362 = .ok (.iadd, 1) := by decide +kernel
theorem dX6_goes_363 : decode cX6_goes 363 = .ok (.iconst 0, 1) := by decide +kernel
theorem dX6_goes_364 : decode cX6_goes 364 = .ok (.iastore, 1) := by decide +kernel
theorem dX6_goes_365 : decode cX6_goes 365 = .ok (.aload_n 0, 1) := by decide +kernel
theorem dX6_goes_366 : decode cX6_goes 366 = .ok (.getfield 7, 3) := by decide +kernel
theorem dX6_goes_369 : decode cX6_goes 369 = .ok (.iload 7, 2) := by decide +kernel
theorem dX6_goes_371 : decode cX6_goes 371 = .ok (.bipush 6, 2) := by decide +kernel
theorem dX6_goes_373 : decode cX6_goes 373 = .ok (.iadd, 1) := by decide +kernel
theorem dX6_goes_374 : decode cX6_goes 374 = .ok (.iconst 5, 1) := by decide +kernel
theorem dX6_goes_375 : decode cX6_goes 375 = .ok (.iastore, 1) := by decide +kernel
theorem dX6_goes_376 : decode cX6_goes 376 = .ok (.iinc 6 1, 3) := by decide +kernel
theorem dX6_goes_379 : decode cX6_goes 379 = .ok (.goto (-102), 3) := by decide +kernel
theorem dX6_goes_382 : decode cX6_goes 382 = .ok (.aload_n 0, 1) := by decide +kernel
theorem dX6_goes_383 : decode cX6_goes 383 = .ok (.getfield 7, 3) := by decide +kernel
theorem dX6_goes_386 : decode cX6_goes 386 = .ok (.bipush 9, 2) := by decide +kernel
theorem dX6_goes_388 : decode cX6_goes 388 = .ok (.dup2, 1) := by decide +kernel
theorem dX6_goes_389 : decode cX6_goes 389 = .ok (.iaload, 1) := by decide +kernel
theorem dX6_goes_390 : decode cX6_goes 390 = .ok (.aload_n 0, 1) := by decide +kernel
theorem dX6_goes_391 : decode cX6_goes 391 = .ok (.getfield 7, 3) := by decide +kernel
theorem dX6_goes_394 : decode cX6_goes 394 = .ok (.bipush 9, 2) := by decide +kernel
theorem dX6_goes_396 : decode cX6_goes 396 = .ok (.iaload, 1) := by decide +kernel
theorem dX6_goes_397 : decode cX6_goes 397 = .ok (.ifCond .le 7, 3) := by decide +kernel
theorem dX6_goes_400 : decode cX6_goes 400 = .ok (.iconst 1, 1) := by decide +kernel
theorem dX6_goes_401 : decode cX6_goes 401 = .ok (.goto 4, 3) := by decide +kernel
theorem dX6_goes_404 : decode cX6_goes 404 = .ok (.iconst 0, 1) := by decide +kernel
theorem dX6_goes_405 : decode cX6_goes 405 = .ok (.isub, 1) := by decide +kernel
theorem dX6_goes_406 : decode cX6_goes 406 = .ok (.iastore, 1) := by decide +kernel
theorem dX6_goes_407 : decode cX6_goes 407 = .ok (.aload_n 0, 1) := by decide +kernel
theorem dX6_goes_408 : decode cX6_goes 408 = .ok (.getfield 7, 3) := by decide +kernel
theorem dX6_goes_411 : decode cX6_goes 411 = .ok (.bipush 11, 2) := by decide +kernel
theorem dX6_goes_413 : decode cX6_goes 413 = .ok (.dup2, 1) := by decide +kernel
theorem dX6_goes_414 : decode cX6_goes 414 = .ok (.iaload, 1) := by decide +kernel
theorem dX6_goes_415 : decode cX6_goes 415 = .ok (.iconst 1, 1) := by decide +kernel
theorem dX6_goes_416 : decode cX6_goes 416 = .ok (.iadd, 1) := by decide +kernel
theorem dX6_goes_417 : decode cX6_goes 417 = .ok (.iastore, 1) := by decide +kernel
theorem dX6_goes_418 : decode cX6_goes 418 = .ok (.iload 4, 2) := by decide +kernel
theorem dX6_goes_420 : decode cX6_goes 420 = .ok (.ireturn, 1) := by decide +kernel
theorem dX6_notes_0 : decode cX6_notes 0 = .ok (.aload_n 0, 1) := by decide +kernel
theorem dX6_notes_1 : decode cX6_notes 1 = .ok (.getfield 74, 3) := by decide +kernel
theorem dX6_notes_4 : decode cX6_notes 4 = .ok (.bipush 8, 2) := by decide +kernel
theorem dX6_notes_6 : decode cX6_notes 6 = .ok (.if_icmp .ne 40, 3) := by decide +kernel
theorem dX6_notes_9 : decode cX6_notes 9 = .ok (.bipush 63, 2) := by decide +kernel
theorem dX6_notes_11 : decode cX6_notes 11 = .ok (.istore_n 1, 1) := by decide +kernel
theorem dX6_notes_12 : decode cX6_notes 12 = .ok (.iload_n 1, 1) := by decide +kernel
theorem dX6_notes_13 : decode cX6_notes 13 = .ok (.sipush 504, 3) := by decide +kernel
theorem dX6_notes_16 : decode cX6_notes 16 = .ok (.if_icmp .ge 24, 3) := by decide +kernel
theorem dX6_notes_19 : decode cX6_notes 19 = .ok (.aload_n 0, 1) := by decide +kernel
theorem dX6_notes_20 : decode cX6_notes 20 = .ok (.getfield 20, 3) := by decide +kernel
theorem dX6_notes_23 : decode cX6_notes 23 = .ok (.iload_n 1, 1) := by decide +kernel
theorem dX6_notes_24 : decode cX6_notes 24 = .ok (.bipush 63, 2) := by decide +kernel
theorem dX6_notes_26 : decode cX6_notes 26 = .ok (.isub, 1) := by decide +kernel
theorem dX6_notes_27 : decode cX6_notes 27 = .ok (.aload_n 0, 1) := by decide +kernel
theorem dX6_notes_28 : decode cX6_notes 28 = .ok (.getfield 20, 3) := by decide +kernel
theorem dX6_notes_31 : decode cX6_notes 31 = .ok (.iload_n 1, 1) := by decide +kernel
theorem dX6_notes_32 : decode cX6_notes 32 = .ok (.iaload, 1) := by decide +kernel
theorem dX6_notes_33 : decode cX6_notes 33 = .ok (.iastore, 1) := by decide +kernel
theorem dX6_notes_34 : decode cX6_notes 34 = .ok (.iinc 1 1, 3) := by decide +kernel
theorem dX6_notes_37 : decode cX6_notes 37 = .ok (.goto (-25), 3) := by decide +kernel
theorem dX6_notes_40 : decode cX6_notes 40 = .ok (.aload_n 0, 1) := by decide +kernel
theorem dX6_notes_41 : decode cX6_notes 41 = .ok (.bipush 7, 2) := by decide +kernel
theorem dX6_notes_43 : decode cX6_notes 43 = .ok (.putfield 74, 3) := by decide +kernel
theorem dX6_notes_46 : decode cX6_notes 46 = .ok (.iconst 0, 1) := by decide +kernel
theorem dX6_notes_47 : decode cX6_notes 47 = .ok (.istore_n 1, 1) := by decide +kernel
theorem dX6_notes_48 : decode cX6_notes 48 = .ok (.iload_n 1, 1) := by decide +kernel
theorem dX6_notes_49 : decode cX6_notes 49 = .ok (.bipush 63, 2) := by decide +kernel
theorem dX6_notes_51 : decode cX6_notes 51 = .ok (.if_icmp .ge 29, 3) := by decide +kernel
theorem dX6_notes_54 : decode cX6_notes 54 = .ok (.aload_n 0, 1) := by decide +kernel
theorem dX6_notes_55 : decode cX6_notes 55 = .ok (.getfield 20, 3) := by decide +kernel
theorem dX6_notes_58 : decode cX6_notes 58 = .ok (.bipush 63, 2) := by decide +kernel
theorem dX6_notes_60 : decode cX6_notes 60 = .ok (.aload_n 0, 1) := by decide +kernel
theorem dX6_notes_61 : decode cX6_notes 61 = .ok (.getfield 74, 3) := by decide +kernel
theorem dX6_notes_64 : decode cX6_notes 64 = .ok (.imul, 1) := by decide +kernel
theorem dX6_notes_65 : decode cX6_notes 65 = .ok (.iload_n 1, 1) := by decide +kernel
theorem dX6_notes_66 : decode cX6_notes 66 = .ok (.iadd, 1) := by decide +kernel
theorem dX6_notes_67 : decode cX6_notes 67 = .ok (.aload_n 0, 1) := by decide +kernel
theorem dX6_notes_68 : decode cX6_notes 68 = .ok (.getfield 7, 3) := by decide +kernel
theorem dX6_notes_71 : decode cX6_notes 71 = .ok (.iload_n 1, 1) := by decide +kernel
theorem dX6_notes_72 : decode cX6_notes 72 = .ok (.iaload, 1) := by decide +kernel
theorem dX6_notes_73 : decode cX6_notes 73 = .ok (.iastore, 1) := by decide +kernel
theorem dX6_notes_74 : decode cX6_notes 74 = .ok (.iinc 1 1, 3) := by decide +kernel
theorem dX6_notes_77 : decode cX6_notes 77 = .ok (.goto (-29), 3) := by decide +kernel
theorem dX6_notes_80 : decode cX6_notes 80 = .ok (.aload_n 0, 1) := by decide +kernel
theorem dX6_notes_81 : decode cX6_notes 81 = .ok (.dup, 1) := by decide +kernel
theorem dX6_notes_82 : decode cX6_notes 82 = .ok (.getfield 74, 3) := by decide +kernel
theorem dX6_notes_85 : decode cX6_notes 85 = .ok (.iconst 1, 1) := by decide +kernel
theorem dX6_notes_86 : decode cX6_notes 86 = .ok (.iadd, 1) := by decide +kernel
theorem dX6_notes_87 : decode cX6_notes 87 = .ok (.putfield 74, 3) := by decide +kernel
theorem dX6_notes_90 : decode cX6_notes 90 = .ok (.return_, 1) := by decide +kernel
theorem dX6_gone_0 : decode cX6_gone 0 = .ok (.iconst 0, 1) := by decide +kernel
theorem dX6_gone_1 : decode cX6_gone 1 = .ok (.istore_n 3, 1) := by decide +kernel
theorem dX6_gone_2 : decode cX6_gone 2 = .ok (.iconst 0, 1) := by decide +kernel
theorem dX6_gone_3 : decode cX6_gone 3 = .ok (.istore 4, 2) := by decide +kernel
theorem dX6_gone_5 : decode cX6_gone 5 = .ok (.iload 4, 2) := by decide +kernel
theorem dX6_gone_7 : decode cX6_gone 7 = .ok (.iload_n 1, 1) := by decide +kernel
theorem dX6_gone_8 : decode cX6_gone 8 = .ok (.if_icmp .ge 23, 3) := by decide +kernel
theorem dX6_gone_11 : decode cX6_gone 11 = .ok (.aload_n 0, 1) := by decide +kernel
theorem dX6_gone_12 : decode cX6_gone 12 = .ok (.invokevirtual 121, 3) := by decide +kernel
theorem dX6_gone_15 : decode cX6_gone 15 = .ok (.iload_n 3, 1) := by decide +kernel
theorem dX6_gone_16 : decode cX6_gone 16 = .ok (.aload_n 0, 1) := by decide +kernel
theorem dX6_gone_17 : decode cX6_gone 17 = .ok (.iload_n 2, 1) := by decide +kernel
theorem dX6_gone_18 : decode cX6_gone 18 = .ok (.bipush 127, 2) := by decide +kernel
theorem dX6_gone_20 : decode cX6_gone 20 = .ok (.invokevirtual 124, 3) := by decide +kernel
theorem dX6_gone_23 : decode cX6_gone 23 = .ok (.iadd, 1) := by decide +kernel
theorem dX6_gone_24 : decode cX6_gone 24 = .ok (.istore_n 3, 1) := by decide +kernel
theorem dX6_gone_25 : decode cX6_gone 25 = .ok (.iinc 4 1, 3) := by decide +kernel
theorem dX6_gone_28 : decode cX6_gone 28 = .ok (.goto (-23), 3) := by decide +kernel
theorem dX6_gone_31 : decode cX6_gone 31 = .ok (.iload_n 3, 1) := by decide +kernel
theorem dX6_gone_32 : decode cX6_gone 32 = .ok (.ireturn, 1) := by decide +kernel
theorem dX6_minutes_0 : decode cX6_minutes 0 = .ok (.iload_n 1, 1) := by decide +kernel
theorem dX6_minutes_1 : decode cX6_minutes 1 = .ok (.i2l, 1) := by decide +kernel
theorem dX6_minutes_2 : decode cX6_minutes 2 = .ok (.lconst 1, 1) := by decide +kernel
theorem dX6_minutes_3 : decode cX6_minutes 3 = .ok (.ldc2_w 128, 3) := by decide +kernel
theorem dX6_minutes_6 : decode cX6_minutes 6 = .ok (.invokestatic 51, 3) := by decide +kernel
theorem dX6_minutes_9 : decode cX6_minutes 9 = .ok (.ifCond .ne 5, 3) := by decide +kernel
theorem dX6_minutes_12 : decode cX6_minutes 12 = .ok (.iconst (-1), 1) := by decide +kernel
theorem dX6_minutes_13 : decode cX6_minutes 13 = .ok (.ireturn, 1) := by decide +kernel
theorem dX6_minutes_14 : decode cX6_minutes 14 = .ok (.aload_n 0, 1) := by decide +kernel
theorem dX6_minutes_15 : decode cX6_minutes 15 = .ok (.getfield 7, 3) := by decide +kernel
theorem dX6_minutes_18 : decode cX6_minutes 18 = .ok (.bipush 11, 2) := by decide +kernel
theorem dX6_minutes_20 : decode cX6_minutes 20 = .ok (.iaload, 1) := by decide +kernel
theorem dX6_minutes_21 : decode cX6_minutes 21 = .ok (.iload_n 1, 1) := by decide +kernel
theorem dX6_minutes_22 : decode cX6_minutes 22 = .ok (.iadd, 1) := by decide +kernel
theorem dX6_minutes_23 : decode cX6_minutes 23 = .ok (.sipush 9999, 3) := by decide +kernel
theorem dX6_minutes_26 : decode cX6_minutes 26 = .ok (.if_icmp .le 8, 3) := by decide +kernel
theorem dX6_minutes_29 : decode cX6_minutes 29 = .ok (.bipush (-3), 2) := by decide +kernel
theorem dX6_minutes_31 : decode cX6_minutes 31 = .ok (.goto 9, 3) := by decide +kernel
theorem dX6_minutes_34 : decode cX6_minutes 34 = .ok (.aload_n 0, 1) := by decide +kernel
theorem dX6_minutes_35 : decode cX6_minutes 35 = .ok (.iload_n 1, 1) := by decide +kernel
theorem dX6_minutes_36 : decode cX6_minutes 36 = .ok (.iconst 0, 1) := by decide +kernel
theorem dX6_minutes_37 : decode cX6_minutes 37 = .ok (.invokevirtual 130, 3) := by decide +kernel
theorem dX6_minutes_40 : decode cX6_minutes 40 = .ok (.ireturn, 1) := by decide +kernel
theorem dX6_drift_0 : decode cX6_drift 0 = .ok (.iload_n 1, 1) := by decide +kernel
theorem dX6_drift_1 : decode cX6_drift 1 = .ok (.i2l, 1) := by decide +kernel
theorem dX6_drift_2 : decode cX6_drift 2 = .ok (.lconst 1, 1) := by decide +kernel
theorem dX6_drift_3 : decode cX6_drift 3 = .ok (.ldc2_w 128, 3) := by decide +kernel
theorem dX6_drift_6 : decode cX6_drift 6 = .ok (.invokestatic 51, 3) := by decide +kernel
theorem dX6_drift_9 : decode cX6_drift 9 = .ok (.ifCond .ne 5, 3) := by decide +kernel
theorem dX6_drift_12 : decode cX6_drift 12 = .ok (.iconst (-1), 1) := by decide +kernel
theorem dX6_drift_13 : decode cX6_drift 13 = .ok (.ireturn, 1) := by decide +kernel
theorem dX6_drift_14 : decode cX6_drift 14 = .ok (.aload_n 0, 1) := by decide +kernel
theorem dX6_drift_15 : decode cX6_drift 15 = .ok (.getfield 7, 3) := by decide +kernel
theorem dX6_drift_18 : decode cX6_drift 18 = .ok (.bipush 11, 2) := by decide +kernel
theorem dX6_drift_20 : decode cX6_drift 20 = .ok (.iaload, 1) := by decide +kernel
theorem dX6_drift_21 : decode cX6_drift 21 = .ok (.iload_n 1, 1) := by decide +kernel
theorem dX6_drift_22 : decode cX6_drift 22 = .ok (.iadd, 1) := by decide +kernel
theorem dX6_drift_23 : decode cX6_drift 23 = .ok (.sipush 9999, 3) := by decide +kernel
theorem dX6_drift_26 : decode cX6_drift 26 = .ok (.if_icmp .le 6, 3) := by decide +kernel
theorem dX6_drift_29 : decode cX6_drift 29 = .ok (.bipush (-3), 2) := by decide +kernel
theorem dX6_drift_31 : decode cX6_drift 31 = .ok (.ireturn, 1) := by decide +kernel
theorem dX6_drift_32 : decode cX6_drift 32 = .ok (.aload_n 0, 1) := by decide +kernel
theorem dX6_drift_33 : decode cX6_drift 33 = .ok (.iconst 0, 1) := by decide +kernel
theorem dX6_drift_34 : decode cX6_drift 34 = .ok (.putfield 111, 3) := by decide +kernel
theorem dX6_drift_37 : decode cX6_drift 37 = .ok (.aload_n 0, 1) := by decide +kernel
theorem dX6_drift_38 : decode cX6_drift 38 = .ok (.iload_n 1, 1) := by decide +kernel
theorem dX6_drift_39 : decode cX6_drift 39 = .ok (.iconst 1, 1) := by decide +kernel
theorem dX6_drift_40 : decode cX6_drift 40 = .ok (.invokevirtual 130, 3) := by decide +kernel
theorem dX6_drift_43 : decode cX6_drift 43 = .ok (.pop, 1) := by decide +kernel
theorem dX6_drift_44 : decode cX6_drift 44 = .ok (.aload_n 0, 1) := by decide +kernel
theorem dX6_drift_45 : decode cX6_drift 45 = .ok (.getfield 111, 3) := by decide +kernel
theorem dX6_drift_48 : decode cX6_drift 48 = .ok (.ireturn, 1) := by decide +kernel
theorem dX6_undo_0 : decode cX6_undo 0 = .ok (.aload_n 0, 1) := by decide +kernel
theorem dX6_undo_1 : decode cX6_undo 1 = .ok (.getfield 74, 3) := by decide +kernel
theorem dX6_undo_4 : decode cX6_undo 4 = .ok (.ifCond .ne 6, 3) := by decide +kernel
theorem dX6_undo_7 : decode cX6_undo 7 = .ok (.bipush (-4), 2) := by decide +kernel
theorem dX6_undo_9 : decode cX6_undo 9 = .ok (.ireturn, 1) := by decide +kernel
theorem dX6_undo_10 : decode cX6_undo 10 = .ok (.aload_n 0, 1) := by decide +kernel
theorem dX6_undo_11 : decode cX6_undo 11 = .ok (.dup, 1) := by decide +kernel
theorem dX6_undo_12 : decode cX6_undo 12 = .ok (.getfield 74, 3) := by decide +kernel
theorem dX6_undo_15 : decode cX6_undo 15 = .ok (.iconst 1, 1) := by decide +kernel
theorem dX6_undo_16 : decode cX6_undo 16 = .ok (.isub, 1) := by decide +kernel
theorem dX6_undo_17 : decode cX6_undo 17 = .ok (.putfield 74, 3) := by decide +kernel
theorem dX6_undo_20 : decode cX6_undo 20 = .ok (.bipush 63, 2) := by decide +kernel
theorem dX6_undo_22 : decode cX6_undo 22 = .ok (.aload_n 0, 1) := by decide +kernel
theorem dX6_undo_23 : decode cX6_undo 23 = .ok (.getfield 74, 3) := by decide +kernel
theorem dX6_undo_26 : decode cX6_undo 26 = .ok (.imul, 1) := by decide +kernel
theorem dX6_undo_27 : decode cX6_undo 27 = .ok (.istore_n 1, 1) := by decide +kernel
theorem dX6_undo_28 : decode cX6_undo 28 = .ok (.aload_n 0, 1) := by decide +kernel
theorem dX6_undo_29 : decode cX6_undo 29 = .ok (.getfield 7, 3) := by decide +kernel
theorem dX6_undo_32 : decode cX6_undo 32 = .ok (.iconst 0, 1) := by decide +kernel
theorem dX6_undo_33 : decode cX6_undo 33 = .ok (.aload_n 0, 1) := by decide +kernel
theorem dX6_undo_34 : decode cX6_undo 34 = .ok (.getfield 20, 3) := by decide +kernel
theorem dX6_undo_37 : decode cX6_undo 37 = .ok (.iload_n 1, 1) := by decide +kernel
theorem dX6_undo_38 : decode cX6_undo 38 = .ok (.iconst 0, 1) := by decide +kernel
theorem dX6_undo_39 : decode cX6_undo 39 = .ok (.iadd, 1) := by decide +kernel
theorem dX6_undo_40 : decode cX6_undo 40 = .ok (.iaload, 1) := by decide +kernel
theorem dX6_undo_41 : decode cX6_undo 41 = .ok (.iastore, 1) := by decide +kernel
theorem dX6_undo_42 : decode cX6_undo 42 = .ok (.aload_n 0, 1) := by decide +kernel
theorem dX6_undo_43 : decode cX6_undo 43 = .ok (.getfield 7, 3) := by decide +kernel
theorem dX6_undo_46 : decode cX6_undo 46 = .ok (.bipush 7, 2) := by decide +kernel
theorem dX6_undo_48 : decode cX6_undo 48 = .ok (.aload_n 0, 1) := by decide +kernel
theorem dX6_undo_49 : decode cX6_undo 49 = .ok (.getfield 20, 3) := by decide +kernel
theorem dX6_undo_52 : decode cX6_undo 52 = .ok (.iload_n 1, 1) := by decide +kernel
theorem dX6_undo_53 : decode cX6_undo 53 = .ok (.bipush 7, 2) := by decide +kernel
theorem dX6_undo_55 : decode cX6_undo 55 = .ok (.iadd, 1) := by decide +kernel
theorem dX6_undo_56 : decode cX6_undo 56 = .ok (.iaload, 1) := by decide +kernel
theorem dX6_undo_57 : decode cX6_undo 57 = .ok (.iastore, 1) := by decide +kernel
theorem dX6_undo_58 : decode cX6_undo 58 = .ok (.aload_n 0, 1) := by decide +kernel
theorem dX6_undo_59 : decode cX6_undo 59 = .ok (.getfield 7, 3) := by decide +kernel
theorem dX6_undo_62 : decode cX6_undo 62 = .ok (.bipush 8, 2) := by decide +kernel
theorem dX6_undo_64 : decode cX6_undo 64 = .ok (.aload_n 0, 1) := by decide +kernel
theorem dX6_undo_65 : decode cX6_undo 65 = .ok (.getfield 20, 3) := by decide +kernel
theorem dX6_undo_68 : decode cX6_undo 68 = .ok (.iload_n 1, 1) := by decide +kernel
theorem dX6_undo_69 : decode cX6_undo 69 = .ok (.bipush 8, 2) := by decide +kernel
theorem dX6_undo_71 : decode cX6_undo 71 = .ok (.iadd, 1) := by decide +kernel
theorem dX6_undo_72 : decode cX6_undo 72 = .ok (.iaload, 1) := by decide +kernel
theorem dX6_undo_73 : decode cX6_undo 73 = .ok (.iastore, 1) := by decide +kernel
theorem dX6_undo_74 : decode cX6_undo 74 = .ok (.aload_n 0, 1) := by decide +kernel
theorem dX6_undo_75 : decode cX6_undo 75 = .ok (.getfield 7, 3) := by decide +kernel
theorem dX6_undo_78 : decode cX6_undo 78 = .ok (.bipush 9, 2) := by decide +kernel
theorem dX6_undo_80 : decode cX6_undo 80 = .ok (.aload_n 0, 1) := by decide +kernel
theorem dX6_undo_81 : decode cX6_undo 81 = .ok (.getfield 20, 3) := by decide +kernel
theorem dX6_undo_84 : decode cX6_undo 84 = .ok (.iload_n 1, 1) := by decide +kernel
theorem dX6_undo_85 : decode cX6_undo 85 = .ok (.bipush 9, 2) := by decide +kernel
theorem dX6_undo_87 : decode cX6_undo 87 = .ok (.iadd, 1) := by decide +kernel
theorem dX6_undo_88 : decode cX6_undo 88 = .ok (.iaload, 1) := by decide +kernel
theorem dX6_undo_89 : decode cX6_undo 89 = .ok (.iastore, 1) := by decide +kernel
theorem dX6_undo_90 : decode cX6_undo 90 = .ok (.aload_n 0, 1) := by decide +kernel
theorem dX6_undo_91 : decode cX6_undo 91 = .ok (.getfield 7, 3) := by decide +kernel
theorem dX6_undo_94 : decode cX6_undo 94 = .ok (.bipush 11, 2) := by decide +kernel
theorem dX6_undo_96 : decode cX6_undo 96 = .ok (.aload_n 0, 1) := by decide +kernel
theorem dX6_undo_97 : decode cX6_undo 97 = .ok (.getfield 20, 3) := by decide +kernel
theorem dX6_undo_100 : decode cX6_undo 100 = .ok (.iload_n 1, 1) := by decide +kernel
theorem dX6_undo_101 : decode cX6_undo 101 = .ok (.bipush 11, 2) := by decide +kernel
theorem dX6_undo_103 : decode cX6_undo 103 = .ok (.iadd, 1) := by decide +kernel
theorem dX6_undo_104 : decode cX6_undo 104 = .ok (.iaload, 1) := by decide +kernel
theorem dX6_undo_105 : decode cX6_undo 105 = .ok (.iastore, 1) := by decide +kernel
theorem dX6_undo_106 : decode cX6_undo 106 = .ok (.aload_n 0, 1) := by decide +kernel
theorem dX6_undo_107 : decode cX6_undo 107 = .ok (.getfield 7, 3) := by decide +kernel
theorem dX6_undo_110 : decode cX6_undo 110 = .ok (.bipush 13, 2) := by decide +kernel
theorem dX6_undo_112 : decode cX6_undo 112 = .ok (.aload_n 0, 1) := by decide +kernel
theorem dX6_undo_113 : decode cX6_undo 113 = .ok (.getfield 20, 3) := by decide +kernel
theorem dX6_undo_116 : decode cX6_undo 116 = .ok (.iload_n 1, 1) := by decide +kernel
theorem dX6_undo_117 : decode cX6_undo 117 = .ok (.bipush 13, 2) := by decide +kernel
theorem dX6_undo_119 : decode cX6_undo 119 = .ok (.iadd, 1) := by decide +kernel
theorem dX6_undo_120 : decode cX6_undo 120 = .ok (.iaload, 1) := by decide +kernel
theorem dX6_undo_121 : decode cX6_undo 121 = .ok (.iastore, 1) := by decide +kernel
theorem dX6_undo_122 : decode cX6_undo 122 = .ok (.iconst 0, 1) := by decide +kernel
theorem dX6_undo_123 : decode cX6_undo 123 = .ok (.istore_n 2, 1) := by decide +kernel
theorem dX6_undo_124 : decode cX6_undo 124 = .ok (.iload_n 2, 1) := by decide +kernel
theorem dX6_undo_125 : decode cX6_undo 125 = .ok (.aload_n 0, 1) := by decide +kernel
theorem dX6_undo_126 : decode cX6_undo 126 = .ok (.getfield 7, 3) := by decide +kernel
theorem dX6_undo_129 : decode cX6_undo 129 = .ok (.bipush 12, 2) := by decide +kernel
theorem dX6_undo_131 : decode cX6_undo 131 = .ok (.iaload, 1) := by decide +kernel
theorem dX6_undo_132 : decode cX6_undo 132 = .ok (.if_icmp .ge 53, 3) := by decide +kernel
theorem dX6_undo_135 : decode cX6_undo 135 = .ok (.iconst 3, 1) := by decide +kernel
theorem dX6_undo_136 : decode cX6_undo 136 = .ok (.istore_n 3, 1) := by decide +kernel
theorem dX6_undo_137 : decode cX6_undo 137 = .ok (.iload_n 3, 1) := by decide +kernel
theorem dX6_undo_138 : decode cX6_undo 138 = .ok (.bipush 7, 2) := by decide +kernel
theorem dX6_undo_140 : decode cX6_undo 140 = .ok (.if_icmp .ge 39, 3) := by decide +kernel
theorem dX6_undo_143 : decode cX6_undo 143 = .ok (.aload_n 0, 1) := by decide +kernel
theorem dX6_undo_144 : decode cX6_undo 144 = .ok (.getfield 7, 3) := by decide +kernel
theorem dX6_undo_147 : decode cX6_undo 147 = .ok (.bipush 14, 2) := by decide +kernel
theorem dX6_undo_149 : decode cX6_undo 149 = .ok (.bipush 7, 2) := by decide +kernel
theorem dX6_undo_151 : decode cX6_undo 151 = .ok (.iload_n 2, 1) := by decide +kernel
theorem dX6_undo_152 : decode cX6_undo 152 = .ok (.imul, 1) := by decide +kernel
theorem dX6_undo_153 : decode cX6_undo 153 = .ok (.iadd, 1) := by decide +kernel
theorem dX6_undo_154 : decode cX6_undo 154 = .ok (.iload_n 3, 1) := by decide +kernel
theorem dX6_undo_155 : decode cX6_undo 155 = .ok (.iadd, 1) := by decide +kernel
theorem dX6_undo_156 : decode cX6_undo 156 = .ok (.aload_n 0, 1) := by decide +kernel
theorem dX6_undo_157 : decode cX6_undo 157 = .ok (.getfield 20, 3) := by decide +kernel
theorem dX6_undo_160 : decode cX6_undo 160 = .ok (.iload_n 1, 1) := by decide +kernel
theorem dX6_undo_161 : decode cX6_undo 161 = .ok (.bipush 14, 2) := by decide +kernel
theorem dX6_undo_163 : decode cX6_undo 163 = .ok (.iadd, 1) := by decide +kernel
theorem dX6_undo_164 : decode cX6_undo 164 = .ok (.bipush 7, 2) := by decide +kernel
theorem dX6_undo_166 : decode cX6_undo 166 = .ok (.iload_n 2, 1) := by decide +kernel
theorem dX6_undo_167 : decode cX6_undo 167 = .ok (.imul, 1) := by decide +kernel
theorem dX6_undo_168 : decode cX6_undo 168 = .ok (.iadd, 1) := by decide +kernel
theorem dX6_undo_169 : decode cX6_undo 169 = .ok (.iload_n 3, 1) := by decide +kernel
theorem dX6_undo_170 : decode cX6_undo 170 = .ok (.iadd, 1) := by decide +kernel
theorem dX6_undo_171 : decode cX6_undo 171 = .ok (.iaload, 1) := by decide +kernel
theorem dX6_undo_172 : decode cX6_undo 172 = .ok (.iastore, 1) := by decide +kernel
theorem dX6_undo_173 : decode cX6_undo 173 = .ok (.iinc 3 1, 3) := by decide +kernel
theorem dX6_undo_176 : decode cX6_undo 176 = .ok (.goto (-39), 3) := by decide +kernel
theorem dX6_undo_179 : decode cX6_undo 179 = .ok (.iinc 2 1, 3) := by decide +kernel
theorem dX6_undo_182 : decode cX6_undo 182 = .ok (.goto (-58), 3) := by decide +kernel
theorem dX6_undo_185 : decode cX6_undo 185 = .ok (.aload_n 0, 1) := by decide +kernel
theorem dX6_undo_186 : decode cX6_undo 186 = .ok (.getfield 74, 3) := by decide +kernel
theorem dX6_undo_189 : decode cX6_undo 189 = .ok (.ireturn, 1) := by decide +kernel
theorem dX6_seed_0 : decode cX6_seed 0 = .ok (.iload_n 1, 1) := by decide +kernel
theorem dX6_seed_1 : decode cX6_seed 1 = .ok (.ifCond .ge 5, 3) := by decide +kernel
theorem dX6_seed_4 : decode cX6_seed 4 = .ok (.iconst (-1), 1) := by decide +kernel
theorem dX6_seed_5 : decode cX6_seed 5 = .ok (.ireturn, 1) := by decide +kernel
theorem dX6_seed_6 : decode cX6_seed 6 = .ok (.aload_n 0, 1) := by decide +kernel
theorem dX6_seed_7 : decode cX6_seed 7 = .ok (.getfield 7, 3) := by decide +kernel
theorem dX6_seed_10 : decode cX6_seed 10 = .ok (.bipush 13, 2) := by decide +kernel
theorem dX6_seed_12 : decode cX6_seed 12 = .ok (.iaload, 1) := by decide +kernel
theorem dX6_seed_13 : decode cX6_seed 13 = .ok (.istore_n 2, 1) := by decide +kernel
theorem dX6_seed_14 : decode cX6_seed 14 = .ok (.aload_n 0, 1) := by decide +kernel
theorem dX6_seed_15 : decode cX6_seed 15 = .ok (.getfield 7, 3) := by decide +kernel
theorem dX6_seed_18 : decode cX6_seed 18 = .ok (.bipush 13, 2) := by decide +kernel
theorem dX6_seed_20 : decode cX6_seed 20 = .ok (.iload_n 1, 1) := by decide +kernel
theorem dX6_seed_21 : decode cX6_seed 21 = .ok (.iastore, 1) := by decide +kernel
theorem dX6_seed_22 : decode cX6_seed 22 = .ok (.iload_n 2, 1) := by decide +kernel
theorem dX6_seed_23 : decode cX6_seed 23 = .ok (.ireturn, 1) := by decide +kernel
theorem dX6_count_0 : decode cX6_count 0 = .ok (.iconst 0, 1) := by decide +kernel
theorem dX6_count_1 : decode cX6_count 1 = .ok (.istore_n 2, 1) := by decide +kernel
theorem dX6_count_2 : decode cX6_count 2 = .ok (.iconst 0, 1) := by decide +kernel
theorem dX6_count_3 : decode cX6_count 3 = .ok (.istore_n 3, 1) := by decide +kernel
theorem dX6_count_4 : decode cX6_count 4 = .ok (.iload_n 3, 1) := by decide +kernel
theorem dX6_count_5 : decode cX6_count 5 = .ok (.aload_n 0, 1) := by decide +kernel
theorem dX6_count_6 : decode cX6_count 6 = .ok (.getfield 7, 3) := by decide +kernel
theorem dX6_count_9 : decode cX6_count 9 = .ok (.bipush 12, 2) := by decide +kernel
theorem dX6_count_11 : decode cX6_count 11 = .ok (.iaload, 1) := by decide +kernel
theorem dX6_count_12 : decode cX6_count 12 = .ok (.if_icmp .ge 18, 3) := by decide +kernel
theorem dX6_count_15 : decode cX6_count 15 = .ok (.iload_n 2, 1) := by decide +kernel
theorem dX6_count_16 : decode cX6_count 16 = .ok (.aload_n 0, 1) := by decide +kernel
theorem dX6_count_17 : decode cX6_count 17 = .ok (.iload_n 3, 1) := by decide +kernel
theorem dX6_count_18 : decode cX6_count 18 = .ok (.iconst 3, 1) := by decide +kernel
theorem dX6_count_19 : decode cX6_count 19 = .ok (.invokevirtual 55, 3) := by decide +kernel
theorem dX6_count_22 : decode cX6_count 22 = .ok (.iadd, 1) := by decide +kernel
theorem dX6_count_23 : decode cX6_count 23 = .ok (.istore_n 2, 1) := by decide +kernel
theorem dX6_count_24 : decode cX6_count 24 = .ok (.iinc 3 1, 3) := by decide +kernel
theorem dX6_count_27 : decode cX6_count 27 = .ok (.goto (-23), 3) := by decide +kernel
theorem dX6_count_30 : decode cX6_count 30 = .ok (.iload_n 1, 1) := by decide +kernel
theorem dX6_count_31 : decode cX6_count 31 = .ok (.tableswitch 144 0 15 #[77, 85, 93, 100, 108, 116, 124, 129, 134, 144, 144, 144, 144, 144, 144, 136], 77) := by decide +kernel
theorem dX6_count_108 : decode cX6_count 108 = .ok (.aload_n 0, 1) := by decide +kernel
theorem dX6_count_109 : decode cX6_count 109 = .ok (.getfield 7, 3) := by decide +kernel
theorem dX6_count_112 : decode cX6_count 112 = .ok (.bipush 12, 2) := by decide +kernel
theorem dX6_count_114 : decode cX6_count 114 = .ok (.iaload, 1) := by decide +kernel
theorem dX6_count_115 : decode cX6_count 115 = .ok (.ireturn, 1) := by decide +kernel
theorem dX6_count_116 : decode cX6_count 116 = .ok (.aload_n 0, 1) := by decide +kernel
theorem dX6_count_117 : decode cX6_count 117 = .ok (.getfield 7, 3) := by decide +kernel
theorem dX6_count_120 : decode cX6_count 120 = .ok (.bipush 11, 2) := by decide +kernel
theorem dX6_count_122 : decode cX6_count 122 = .ok (.iaload, 1) := by decide +kernel
theorem dX6_count_123 : decode cX6_count 123 = .ok (.ireturn, 1) := by decide +kernel
theorem dX6_count_124 : decode cX6_count 124 = .ok (.aload_n 0, 1) := by decide +kernel
theorem dX6_count_125 : decode cX6_count 125 = .ok (.getfield 7, 3) := by decide +kernel
theorem dX6_count_128 : decode cX6_count 128 = .ok (.iconst 0, 1) := by decide +kernel
theorem dX6_count_129 : decode cX6_count 129 = .ok (.iaload, 1) := by decide +kernel
theorem dX6_count_130 : decode cX6_count 130 = .ok (.ireturn, 1) := by decide +kernel
theorem dX6_count_131 : decode cX6_count 131 = .ok (.aload_n 0, 1) := by decide +kernel
theorem dX6_count_132 : decode cX6_count 132 = .ok (.getfield 7, 3) := by decide +kernel
theorem dX6_count_135 : decode cX6_count 135 = .ok (.bipush 7, 2) := by decide +kernel
theorem dX6_count_137 : decode cX6_count 137 = .ok (.iaload, 1) := by decide +kernel
theorem dX6_count_138 : decode cX6_count 138 = .ok (.ireturn, 1) := by decide +kernel
theorem dX6_count_139 : decode cX6_count 139 = .ok (.aload_n 0, 1) := by decide +kernel
theorem dX6_count_140 : decode cX6_count 140 = .ok (.getfield 7, 3) := by decide +kernel
theorem dX6_count_143 : decode cX6_count 143 = .ok (.bipush 8, 2) := by decide +kernel
theorem dX6_count_145 : decode cX6_count 145 = .ok (.iaload, 1) := by decide +kernel
theorem dX6_count_146 : decode cX6_count 146 = .ok (.ireturn, 1) := by decide +kernel
theorem dX6_count_147 : decode cX6_count 147 = .ok (.aload_n 0, 1) := by decide +kernel
theorem dX6_count_148 : decode cX6_count 148 = .ok (.getfield 7, 3) := by decide +kernel
theorem dX6_count_151 : decode cX6_count 151 = .ok (.bipush 9, 2) := by decide +kernel
theorem dX6_count_153 : decode cX6_count 153 = .ok (.iaload, 1) := by decide +kernel
theorem dX6_count_154 : decode cX6_count 154 = .ok (.ireturn, 1) := by decide +kernel
theorem dX6_count_155 : decode cX6_count 155 = .ok (.aload_n 0, 1) := by decide +kernel
theorem dX6_count_156 : decode cX6_count 156 = .ok (.getfield 74, 3) := by decide +kernel
theorem dX6_count_159 : decode cX6_count 159 = .ok (.ireturn, 1) := by decide +kernel
theorem dX6_count_160 : decode cX6_count 160 = .ok (.aload_n 0, 1) := by decide +kernel
theorem dX6_count_161 : decode cX6_count 161 = .ok (.invokevirtual 134, 3) := by decide +kernel
theorem dX6_count_164 : decode cX6_count 164 = .ok (.ireturn, 1) := by decide +kernel
theorem dX6_count_165 : decode cX6_count 165 = .ok (.iload_n 2, 1) := by decide +kernel
theorem dX6_count_166 : decode cX6_count 166 = .ok (.ireturn, 1) := by decide +kernel
theorem dX6_count_167 : decode cX6_count 167 = .ok (.aload_n 0, 1) := by decide +kernel
theorem dX6_count_168 : decode cX6_count 168 = .ok (.getfield 7, 3) := by decide +kernel
theorem dX6_count_171 : decode cX6_count 171 = .ok (.bipush 10, 2) := by decide +kernel
theorem dX6_count_173 : decode cX6_count 173 = .ok (.iaload, 1) := by decide +kernel
theorem dX6_count_174 : decode cX6_count 174 = .ok (.ireturn, 1) := by decide +kernel
theorem dX6_count_175 : decode cX6_count 175 = .ok (.iload_n 1, 1) := by decide +kernel
theorem dX6_count_176 : decode cX6_count 176 = .ok (.i2l, 1) := by decide +kernel
theorem dX6_count_177 : decode cX6_count 177 = .ok (.ldc2_w 72, 3) := by decide +kernel
theorem dX6_count_180 : decode cX6_count 180 = .ok (.ldc2_w 138, 3) := by decide +kernel
theorem dX6_count_183 : decode cX6_count 183 = .ok (.invokestatic 51, 3) := by decide +kernel
theorem dX6_count_186 : decode cX6_count 186 = .ok (.ifCond .eq 15, 3) := by decide +kernel
theorem dX6_count_189 : decode cX6_count 189 = .ok (.aload_n 0, 1) := by decide +kernel
theorem dX6_count_190 : decode cX6_count 190 = .ok (.getfield 7, 3) := by decide +kernel
theorem dX6_count_193 : decode cX6_count 193 = .ok (.iload_n 1, 1) := by decide +kernel
theorem dX6_count_194 : decode cX6_count 194 = .ok (.bipush 8, 2) := by decide +kernel
theorem dX6_count_196 : decode cX6_count 196 = .ok (.isub, 1) := by decide +kernel
theorem dX6_count_197 : decode cX6_count 197 = .ok (.iaload, 1) := by decide +kernel
theorem dX6_count_198 : decode cX6_count 198 = .ok (.goto 4, 3) := by decide +kernel
theorem dX6_count_201 : decode cX6_count 201 = .ok (.iconst (-1), 1) := by decide +kernel
theorem dX6_count_202 : decode cX6_count 202 = .ok (.ireturn, 1) := by decide +kernel
theorem dX6_asides_0 : decode cX6_asides 0 = .ok (.iconst 0, 1) := by decide +kernel
theorem dX6_asides_1 : decode cX6_asides 1 = .ok (.istore_n 1, 1) := by decide +kernel
theorem dX6_asides_2 : decode cX6_asides 2 = .ok (.iload_n 1, 1) := by decide +kernel
theorem dX6_asides_3 : decode cX6_asides 3 = .ok (.bipush 63, 2) := by decide +kernel
theorem dX6_asides_5 : decode cX6_asides 5 = .ok (.if_icmp .ge 21, 3) := by decide +kernel
theorem dX6_asides_8 : decode cX6_asides 8 = .ok (.aload_n 0, 1) := by decide +kernel
theorem dX6_asides_9 : decode cX6_asides 9 = .ok (.getfield 23, 3) := by decide +kernel
theorem dX6_asides_12 : decode cX6_asides 12 = .ok (.iload_n 1, 1) := by decide +kernel
theorem dX6_asides_13 : decode cX6_asides 13 = .ok (.aload_n 0, 1) := by decide +kernel
theorem dX6_asides_14 : decode cX6_asides 14 = .ok (.getfield 7, 3) := by decide +kernel
theorem dX6_asides_17 : decode cX6_asides 17 = .ok (.iload_n 1, 1) := by decide +kernel
theorem dX6_asides_18 : decode cX6_asides 18 = .ok (.iaload, 1) := by decide +kernel
theorem dX6_asides_19 : decode cX6_asides 19 = .ok (.iastore, 1) := by decide +kernel
theorem dX6_asides_20 : decode cX6_asides 20 = .ok (.iinc 1 1, 3) := by decide +kernel
theorem dX6_asides_23 : decode cX6_asides 23 = .ok (.goto (-21), 3) := by decide +kernel
theorem dX6_asides_26 : decode cX6_asides 26 = .ok (.return_, 1) := by decide +kernel
theorem dX6_backs_0 : decode cX6_backs 0 = .ok (.iconst 0, 1) := by decide +kernel
theorem dX6_backs_1 : decode cX6_backs 1 = .ok (.istore_n 1, 1) := by decide +kernel
theorem dX6_backs_2 : decode cX6_backs 2 = .ok (.iload_n 1, 1) := by decide +kernel
theorem dX6_backs_3 : decode cX6_backs 3 = .ok (.bipush 63, 2) := by decide +kernel
theorem dX6_backs_5 : decode cX6_backs 5 = .ok (.if_icmp .ge 21, 3) := by decide +kernel
theorem dX6_backs_8 : decode cX6_backs 8 = .ok (.aload_n 0, 1) := by decide +kernel
theorem dX6_backs_9 : decode cX6_backs 9 = .ok (.getfield 7, 3) := by decide +kernel
theorem dX6_backs_12 : decode cX6_backs 12 = .ok (.iload_n 1, 1) := by decide +kernel
theorem dX6_backs_13 : decode cX6_backs 13 = .ok (.aload_n 0, 1) := by decide +kernel
theorem dX6_backs_14 : decode cX6_backs 14 = .ok (.getfield 23, 3) := by decide +kernel
theorem dX6_backs_17 : decode cX6_backs 17 = .ok (.iload_n 1, 1) := by decide +kernel
theorem dX6_backs_18 : decode cX6_backs 18 = .ok (.iaload, 1) := by decide +kernel
theorem dX6_backs_19 : decode cX6_backs 19 = .ok (.iastore, 1) := by decide +kernel
theorem dX6_backs_20 : decode cX6_backs 20 = .ok (.iinc 1 1, 3) := by decide +kernel
theorem dX6_backs_23 : decode cX6_backs 23 = .ok (.goto (-21), 3) := by decide +kernel
theorem dX6_backs_26 : decode cX6_backs 26 = .ok (.return_, 1) := by decide +kernel
theorem dX6_water_0 : decode cX6_water 0 = .ok (.iload_n 1, 1) := by decide +kernel
theorem dX6_water_1 : decode cX6_water 1 = .ok (.i2l, 1) := by decide +kernel
theorem dX6_water_2 : decode cX6_water 2 = .ok (.lconst 0, 1) := by decide +kernel
theorem dX6_water_3 : decode cX6_water 3 = .ok (.ldc2_w 140, 3) := by decide +kernel
theorem dX6_water_6 : decode cX6_water 6 = .ok (.invokestatic 51, 3) := by decide +kernel
theorem dX6_water_9 : decode cX6_water 9 = .ok (.ifCond .ne 5, 3) := by decide +kernel
theorem dX6_water_12 : decode cX6_water 12 = .ok (.iconst (-1), 1) := by decide +kernel
theorem dX6_water_13 : decode cX6_water 13 = .ok (.ireturn, 1) := by decide +kernel
theorem dX6_water_14 : decode cX6_water 14 = .ok (.aload_n 0, 1) := by decide +kernel
theorem dX6_water_15 : decode cX6_water 15 = .ok (.invokevirtual 142, 3) := by decide +kernel
theorem dX6_water_18 : decode cX6_water 18 = .ok (.iconst 0, 1) := by decide +kernel
theorem dX6_water_19 : decode cX6_water 19 = .ok (.istore_n 2, 1) := by decide +kernel
theorem dX6_water_20 : decode cX6_water 20 = .ok (.iload_n 2, 1) := by decide +kernel
theorem dX6_water_21 : decode cX6_water 21 = .ok (.iload_n 1, 1) := by decide +kernel
theorem dX6_water_22 : decode cX6_water 22 = .ok (.if_icmp .ge 17, 3) := by decide +kernel
theorem dX6_water_25 : decode cX6_water 25 = .ok (.aload_n 0, 1) := by decide +kernel
theorem dX6_water_26 : decode cX6_water 26 = .ok (.iconst 0, 1) := by decide +kernel
theorem dX6_water_27 : decode cX6_water 27 = .ok (.bipush 127, 2) := by decide +kernel
theorem dX6_water_29 : decode cX6_water 29 = .ok (.invokevirtual 124, 3) := by decide +kernel
theorem dX6_water_32 : decode cX6_water 32 = .ok (.pop, 1) := by decide +kernel
theorem dX6_water_33 : decode cX6_water 33 = .ok (.iinc 2 1, 3) := by decide +kernel
theorem dX6_water_36 : decode cX6_water 36 = .ok (.goto (-16), 3) := by decide +kernel
theorem dX6_water_39 : decode cX6_water 39 = .ok (.aload_n 0, 1) := by decide +kernel
theorem dX6_water_40 : decode cX6_water 40 = .ok (.getfield 7, 3) := by decide +kernel
theorem dX6_water_43 : decode cX6_water 43 = .ok (.iconst 0, 1) := by decide +kernel
theorem dX6_water_44 : decode cX6_water 44 = .ok (.iaload, 1) := by decide +kernel
theorem dX6_water_45 : decode cX6_water 45 = .ok (.istore_n 2, 1) := by decide +kernel
theorem dX6_water_46 : decode cX6_water 46 = .ok (.aload_n 0, 1) := by decide +kernel
theorem dX6_water_47 : decode cX6_water 47 = .ok (.invokevirtual 145, 3) := by decide +kernel
theorem dX6_water_50 : decode cX6_water 50 = .ok (.iload_n 2, 1) := by decide +kernel
theorem dX6_water_51 : decode cX6_water 51 = .ok (.ireturn, 1) := by decide +kernel
theorem dX6_goesOn_0 : decode cX6_goesOn 0 = .ok (.bipush (-4), 2) := by decide +kernel
theorem dX6_goesOn_2 : decode cX6_goesOn 2 = .ok (.istore_n 2, 1) := by decide +kernel
theorem dX6_goesOn_3 : decode cX6_goesOn 3 = .ok (.iconst 0, 1) := by decide +kernel
theorem dX6_goesOn_4 : decode cX6_goesOn 4 = .ok (.istore_n 3, 1) := by decide +kernel
theorem dX6_goesOn_5 : decode cX6_goesOn 5 = .ok (.iload_n 3, 1) := by decide +kernel
theorem dX6_goesOn_6 : decode cX6_goesOn 6 = .ok (.bipush 7, 2) := by decide +kernel
theorem dX6_goesOn_8 : decode cX6_goesOn 8 = .ok (.if_icmp .ge 17, 3) := by decide +kernel
theorem dX6_goesOn_11 : decode cX6_goesOn 11 = .ok (.aload_n 0, 1) := by decide +kernel
theorem dX6_goesOn_12 : decode cX6_goesOn 12 = .ok (.getfield 26, 3) := by decide +kernel
theorem dX6_goesOn_15 : decode cX6_goesOn 15 = .ok (.iload_n 3, 1) := by decide +kernel
theorem dX6_goesOn_16 : decode cX6_goesOn 16 = .ok (.bipush (-4), 2) := by decide +kernel
theorem dX6_goesOn_18 : decode cX6_goesOn 18 = .ok (.iastore, 1) := by decide +kernel
theorem dX6_goesOn_19 : decode cX6_goesOn 19 = .ok (.iinc 3 1, 3) := by decide +kernel
theorem dX6_goesOn_22 : decode cX6_goesOn 22 = .ok (.goto (-17), 3) := by decide +kernel
theorem dX6_goesOn_25 : decode cX6_goesOn 25 = .ok (.iconst 0, 1) := by decide +kernel
theorem dX6_goesOn_26 : decode cX6_goesOn 26 = .ok (.istore_n 3, 1) := by decide +kernel
theorem dX6_goesOn_27 : decode cX6_goesOn 27 = .ok (.iload_n 3, 1) := by decide +kernel
theorem dX6_goesOn_28 : decode cX6_goesOn 28 = .ok (.sipush 241, 3) := by decide +kernel
theorem dX6_goesOn_31 : decode cX6_goesOn 31 = .ok (.if_icmp .ge 100, 3) := by decide +kernel
theorem dX6_goesOn_34 : decode cX6_goesOn 34 = .ok (.iconst 0, 1) := by decide +kernel
theorem dX6_goesOn_35 : decode cX6_goesOn 35 = .ok (.istore 4, 2) := by decide +kernel
theorem dX6_goesOn_37 : decode cX6_goesOn 37 = .ok (.iload 4, 2) := by decide +kernel
theorem dX6_goesOn_39 : decode cX6_goesOn 39 = .ok (.aload_n 0, 1) := by decide +kernel
theorem dX6_goesOn_40 : decode cX6_goesOn 40 = .ok (.getfield 7, 3) := by decide +kernel
theorem dX6_goesOn_43 : decode cX6_goesOn 43 = .ok (.bipush 12, 2) := by decide +kernel
theorem dX6_goesOn_45 : decode cX6_goesOn 45 = .ok (.iaload, 1) := by decide +kernel
theorem dX6_goesOn_46 : decode cX6_goesOn 46 = .ok (.if_icmp .ge 48, 3) := by decide +kernel
theorem dX6_goesOn_49 : decode cX6_goesOn 49 = .ok (.aload_n 0, 1) := by decide +kernel
theorem dX6_goesOn_50 : decode cX6_goesOn 50 = .ok (.getfield 26, 3) := by decide +kernel
theorem dX6_goesOn_53 : decode cX6_goesOn 53 = .ok (.iload 4, 2) := by decide +kernel
theorem dX6_goesOn_55 : decode cX6_goesOn 55 = .ok (.aload_n 0, 1) := by decide +kernel
theorem dX6_goesOn_56 : decode cX6_goesOn 56 = .ok (.getfield 26, 3) := by decide +kernel
theorem dX6_goesOn_59 : decode cX6_goesOn 59 = .ok (.iload 4, 2) := by decide +kernel
theorem dX6_goesOn_61 : decode cX6_goesOn 61 = .ok (.iaload, 1) := by decide +kernel
theorem dX6_goesOn_62 : decode cX6_goesOn 62 = .ok (.bipush (-4), 2) := by decide +kernel
theorem dX6_goesOn_64 : decode cX6_goesOn 64 = .ok (.if_icmp .ne 16, 3) := by decide +kernel
theorem dX6_goesOn_67 : decode cX6_goesOn 67 = .ok (.aload_n 0, 1) := by decide +kernel
theorem dX6_goesOn_68 : decode cX6_goesOn 68 = .ok (.iload 4, 2) := by decide +kernel
theorem dX6_goesOn_70 : decode cX6_goesOn 70 = .ok (.invokevirtual 67, 3) := by decide +kernel
theorem dX6_goesOn_73 : decode cX6_goesOn 73 = .ok (.ifCond .eq 7, 3) := by decide +kernel
theorem dX6_goesOn_76 : decode cX6_goesOn 76 = .ok (.iload_n 3, 1) := by decide +kernel
theorem dX6_goesOn_77 : decode cX6_goesOn 77 = .ok (.goto 10, 3) := by decide +kernel
theorem dX6_goesOn_80 : decode cX6_goesOn 80 = .ok (.aload_n 0, 1) := by decide +kernel
theorem dX6_goesOn_81 : decode cX6_goesOn 81 = .ok (.getfield 26, 3) := by decide +kernel
theorem dX6_goesOn_84 : decode cX6_goesOn 84 = .ok (.iload 4, 2) := by decide +kernel
theorem dX6_goesOn_86 : decode cX6_goesOn 86 = .ok (.iaload, 1) := by decide +kernel
theorem dX6_goesOn_87 : decode cX6_goesOn 87 = .ok (.iastore, 1) := by decide +kernel
theorem dX6_goesOn_88 : decode cX6_goesOn 88 = .ok (.iinc 4 1, 3) := by decide +kernel
theorem dX6_goesOn_91 : decode cX6_goesOn 91 = .ok (.goto (-54), 3) := by decide +kernel
theorem dX6_goesOn_94 : decode cX6_goesOn 94 = .ok (.iload_n 2, 1) := by decide +kernel
theorem dX6_goesOn_95 : decode cX6_goesOn 95 = .ok (.bipush (-4), 2) := by decide +kernel
theorem dX6_goesOn_97 : decode cX6_goesOn 97 = .ok (.if_icmp .ne 18, 3) := by decide +kernel
theorem dX6_goesOn_100 : decode cX6_goesOn 100 = .ok (.iload_n 1, 1) := by decide +kernel
theorem dX6_goesOn_101 : decode cX6_goesOn 101 = .ok (.aload_n 0, 1) := by decide +kernel
theorem dX6_goesOn_102 : decode cX6_goesOn 102 = .ok (.invokevirtual 134, 3) := by decide +kernel
theorem dX6_goesOn_105 : decode cX6_goesOn 105 = .ok (.iconst (-1), 1) := by decide +kernel
theorem dX6_goesOn_106 : decode cX6_goesOn 106 = .ok (.ixor, 1) := by decide +kernel
theorem dX6_goesOn_107 : decode cX6_goesOn 107 = .ok (.iand, 1) := by decide +kernel
theorem dX6_goesOn_108 : decode cX6_goesOn 108 = .ok (.ifCond .ne 7, 3) := by decide +kernel
theorem dX6_goesOn_111 : decode cX6_goesOn 111 = .ok (.iload_n 3, 1) := by decide +kernel
theorem dX6_goesOn_112 : decode cX6_goesOn 112 = .ok (.goto 4, 3) := by decide +kernel
theorem dX6_goesOn_115 : decode cX6_goesOn 115 = .ok (.iload_n 2, 1) := by decide +kernel
theorem dX6_goesOn_116 : decode cX6_goesOn 116 = .ok (.istore_n 2, 1) := by decide +kernel
theorem dX6_goesOn_117 : decode cX6_goesOn 117 = .ok (.aload_n 0, 1) := by decide +kernel
theorem dX6_goesOn_118 : decode cX6_goesOn 118 = .ok (.iconst 0, 1) := by decide +kernel
theorem dX6_goesOn_119 : decode cX6_goesOn 119 = .ok (.bipush 127, 2) := by decide +kernel
theorem dX6_goesOn_121 : decode cX6_goesOn 121 = .ok (.invokevirtual 124, 3) := by decide +kernel
theorem dX6_goesOn_124 : decode cX6_goesOn 124 = .ok (.pop, 1) := by decide +kernel
theorem dX6_goesOn_125 : decode cX6_goesOn 125 = .ok (.iinc 3 1, 3) := by decide +kernel
theorem dX6_goesOn_128 : decode cX6_goesOn 128 = .ok (.goto (-101), 3) := by decide +kernel
theorem dX6_goesOn_131 : decode cX6_goesOn 131 = .ok (.aload_n 0, 1) := by decide +kernel
theorem dX6_goesOn_132 : decode cX6_goesOn 132 = .ok (.invokevirtual 145, 3) := by decide +kernel
theorem dX6_goesOn_135 : decode cX6_goesOn 135 = .ok (.iload_n 2, 1) := by decide +kernel
theorem dX6_goesOn_136 : decode cX6_goesOn 136 = .ok (.ireturn, 1) := by decide +kernel
theorem dX6_others_0 : decode cX6_others 0 = .ok (.iconst 1, 1) := by decide +kernel
theorem dX6_others_1 : decode cX6_others 1 = .ok (.aload_n 0, 1) := by decide +kernel
theorem dX6_others_2 : decode cX6_others 2 = .ok (.getfield 7, 3) := by decide +kernel
theorem dX6_others_5 : decode cX6_others 5 = .ok (.bipush 12, 2) := by decide +kernel
theorem dX6_others_7 : decode cX6_others 7 = .ok (.iaload, 1) := by decide +kernel
theorem dX6_others_8 : decode cX6_others 8 = .ok (.ishl, 1) := by decide +kernel
theorem dX6_others_9 : decode cX6_others 9 = .ok (.iconst 1, 1) := by decide +kernel
theorem dX6_others_10 : decode cX6_others 10 = .ok (.isub, 1) := by decide +kernel
theorem dX6_others_11 : decode cX6_others 11 = .ok (.istore_n 1, 1) := by decide +kernel
theorem dX6_others_12 : decode cX6_others 12 = .ok (.aload_n 0, 1) := by decide +kernel
theorem dX6_others_13 : decode cX6_others 13 = .ok (.getfield 7, 3) := by decide +kernel
theorem dX6_others_16 : decode cX6_others 16 = .ok (.bipush 10, 2) := by decide +kernel
theorem dX6_others_18 : decode cX6_others 18 = .ok (.iaload, 1) := by decide +kernel
theorem dX6_others_19 : decode cX6_others 19 = .ok (.bipush (-4), 2) := by decide +kernel
theorem dX6_others_21 : decode cX6_others 21 = .ok (.if_icmp .ne 7, 3) := by decide +kernel
theorem dX6_others_24 : decode cX6_others 24 = .ok (.iload_n 1, 1) := by decide +kernel
theorem dX6_others_25 : decode cX6_others 25 = .ok (.goto 16, 3) := by decide +kernel
theorem dX6_others_28 : decode cX6_others 28 = .ok (.iload_n 1, 1) := by decide +kernel
theorem dX6_others_29 : decode cX6_others 29 = .ok (.iconst 1, 1) := by decide +kernel
theorem dX6_others_30 : decode cX6_others 30 = .ok (.aload_n 0, 1) := by decide +kernel
theorem dX6_others_31 : decode cX6_others 31 = .ok (.getfield 7, 3) := by decide +kernel
theorem dX6_others_34 : decode cX6_others 34 = .ok (.bipush 10, 2) := by decide +kernel
theorem dX6_others_36 : decode cX6_others 36 = .ok (.iaload, 1) := by decide +kernel
theorem dX6_others_37 : decode cX6_others 37 = .ok (.ishl, 1) := by decide +kernel
theorem dX6_others_38 : decode cX6_others 38 = .ok (.iconst (-1), 1) := by decide +kernel
theorem dX6_others_39 : decode cX6_others 39 = .ok (.ixor, 1) := by decide +kernel
theorem dX6_others_40 : decode cX6_others 40 = .ok (.iand, 1) := by decide +kernel
theorem dX6_others_41 : decode cX6_others 41 = .ok (.ireturn, 1) := by decide +kernel
theorem dX6_done_0 : decode cX6_done 0 = .ok (.aload_n 0, 1) := by decide +kernel
theorem dX6_done_1 : decode cX6_done 1 = .ok (.iload_n 1, 1) := by decide +kernel
theorem dX6_done_2 : decode cX6_done 2 = .ok (.invokevirtual 77, 3) := by decide +kernel
theorem dX6_done_5 : decode cX6_done 5 = .ok (.ifCond .ne 5, 3) := by decide +kernel
theorem dX6_done_8 : decode cX6_done 8 = .ok (.iconst (-1), 1) := by decide +kernel
theorem dX6_done_9 : decode cX6_done 9 = .ok (.ireturn, 1) := by decide +kernel
theorem dX6_done_10 : decode cX6_done 10 = .ok (.aload_n 0, 1) := by decide +kernel
theorem dX6_done_11 : decode cX6_done 11 = .ok (.invokevirtual 142, 3) := by decide +kernel
theorem dX6_done_14 : decode cX6_done 14 = .ok (.aload_n 0, 1) := by decide +kernel
theorem dX6_done_15 : decode cX6_done 15 = .ok (.iconst 0, 1) := by decide +kernel
theorem dX6_done_16 : decode cX6_done 16 = .ok (.invokevirtual 148, 3) := by decide +kernel
theorem dX6_done_19 : decode cX6_done 19 = .ok (.pop, 1) := by decide +kernel
theorem dX6_done_20 : decode cX6_done 20 = .ok (.aload_n 0, 1) := by decide +kernel
theorem dX6_done_21 : decode cX6_done 21 = .ok (.getfield 26, 3) := by decide +kernel
theorem dX6_done_24 : decode cX6_done 24 = .ok (.iload_n 1, 1) := by decide +kernel
theorem dX6_done_25 : decode cX6_done 25 = .ok (.iaload, 1) := by decide +kernel
theorem dX6_done_26 : decode cX6_done 26 = .ok (.ireturn, 1) := by decide +kernel
theorem dX6_all_0 : decode cX6_all 0 = .ok (.aload_n 0, 1) := by decide +kernel
theorem dX6_all_1 : decode cX6_all 1 = .ok (.invokevirtual 142, 3) := by decide +kernel
theorem dX6_all_4 : decode cX6_all 4 = .ok (.aload_n 0, 1) := by decide +kernel
theorem dX6_all_5 : decode cX6_all 5 = .ok (.aload_n 0, 1) := by decide +kernel
theorem dX6_all_6 : decode cX6_all 6 = .ok (.invokevirtual 151, 3) := by decide +kernel
theorem dX6_all_9 : decode cX6_all 9 = .ok (.invokevirtual 148, 3) := by decide +kernel
theorem dX6_all_12 : decode cX6_all 12 = .ok (.ireturn, 1) := by decide +kernel
theorem dX6_height_0 : decode cX6_height 0 = .ok (.iload_n 1, 1) := by decide +kernel
theorem dX6_height_1 : decode cX6_height 1 = .ok (.i2l, 1) := by decide +kernel
theorem dX6_height_2 : decode cX6_height 2 = .ok (.lconst 0, 1) := by decide +kernel
theorem dX6_height_3 : decode cX6_height 3 = .ok (.lconst 1, 1) := by decide +kernel
theorem dX6_height_4 : decode cX6_height 4 = .ok (.invokestatic 51, 3) := by decide +kernel
theorem dX6_height_7 : decode cX6_height 7 = .ok (.ifCond .ne 5, 3) := by decide +kernel
theorem dX6_height_10 : decode cX6_height 10 = .ok (.iconst (-1), 1) := by decide +kernel
theorem dX6_height_11 : decode cX6_height 11 = .ok (.ireturn, 1) := by decide +kernel
theorem dX6_height_12 : decode cX6_height 12 = .ok (.aload_n 0, 1) := by decide +kernel
theorem dX6_height_13 : decode cX6_height 13 = .ok (.invokevirtual 142, 3) := by decide +kernel
theorem dX6_height_16 : decode cX6_height 16 = .ok (.bipush (-4), 2) := by decide +kernel
theorem dX6_height_18 : decode cX6_height 18 = .ok (.istore_n 2, 1) := by decide +kernel
theorem dX6_height_19 : decode cX6_height 19 = .ok (.bipush (-4), 2) := by decide +kernel
theorem dX6_height_21 : decode cX6_height 21 = .ok (.istore_n 3, 1) := by decide +kernel
theorem dX6_height_22 : decode cX6_height 22 = .ok (.iconst 0, 1) := by decide +kernel
theorem dX6_height_23 : decode cX6_height 23 = .ok (.istore 4, 2) := by decide +kernel
theorem dX6_height_25 : decode cX6_height 25 = .ok (.iload 4, 2) := by decide +kernel
theorem dX6_height_27 : decode cX6_height 27 = .ok (.bipush 61, 2) := by decide +kernel
theorem dX6_height_29 : decode cX6_height 29 = .ok (.if_icmp .ge 77, 3) := by decide +kernel
theorem dX6_height_32 : decode cX6_height 32 = .ok (.aload_n 0, 1) := by decide +kernel
theorem dX6_height_33 : decode cX6_height 33 = .ok (.getfield 7, 3) := by decide +kernel
theorem dX6_height_36 : decode cX6_height 36 = .ok (.iconst 5, 1) := by decide +kernel
theorem dX6_height_37 : decode cX6_height 37 = .ok (.iload 4, 2) := by decide +kernel
theorem dX6_height_39 : decode cX6_height 39 = .ok (.iastore, 1) := by decide +kernel
theorem dX6_height_40 : decode cX6_height 40 = .ok (.aload_n 0, 1) := by decide +kernel
theorem dX6_height_41 : decode cX6_height 41 = .ok (.aload_n 0, 1) := by decide +kernel
theorem dX6_height_42 : decode cX6_height 42 = .ok (.invokevirtual 151, 3) := by decide +kernel
theorem dX6_height_45 : decode cX6_height 45 = .ok (.invokevirtual 148, 3) := by decide +kernel
theorem dX6_height_48 : decode cX6_height 48 = .ok (.istore 5, 2) := by decide +kernel
theorem dX6_height_50 : decode cX6_height 50 = .ok (.iload 5, 2) := by decide +kernel
theorem dX6_height_52 : decode cX6_height 52 = .ok (.bipush (-4), 2) := by decide +kernel
theorem dX6_height_54 : decode cX6_height 54 = .ok (.if_icmp .eq 19, 3) := by decide +kernel
theorem dX6_height_57 : decode cX6_height 57 = .ok (.iload_n 3, 1) := by decide +kernel
theorem dX6_height_58 : decode cX6_height 58 = .ok (.bipush (-4), 2) := by decide +kernel
theorem dX6_height_60 : decode cX6_height 60 = .ok (.if_icmp .eq 9, 3) := by decide +kernel
theorem dX6_height_63 : decode cX6_height 63 = .ok (.iload 5, 2) := by decide +kernel
theorem dX6_height_65 : decode cX6_height 65 = .ok (.iload_n 3, 1) := by decide +kernel
theorem dX6_height_66 : decode cX6_height 66 = .ok (.if_icmp .ge 7, 3) := by decide +kernel
theorem dX6_height_69 : decode cX6_height 69 = .ok (.iconst 1, 1) := by decide +kernel
theorem dX6_height_70 : decode cX6_height 70 = .ok (.goto 4, 3) := by decide +kernel
theorem dX6_height_73 : decode cX6_height 73 = .ok (.iconst 0, 1) := by decide +kernel
theorem dX6_height_74 : decode cX6_height 74 = .ok (.istore 6, 2) := by decide +kernel
theorem dX6_height_76 : decode cX6_height 76 = .ok (.iload 6, 2) := by decide +kernel
theorem dX6_height_78 : decode cX6_height 78 = .ok (.ifCond .eq 8, 3) := by decide +kernel
theorem dX6_height_81 : decode cX6_height 81 = .ok (.iload 4, 2) := by decide +kernel
theorem dX6_height_83 : decode cX6_height 83 = .ok (.goto 4, 3) := by decide +kernel
theorem dX6_height_86 : decode cX6_height 86 = .ok (.iload_n 2, 1) := by decide +kernel
theorem dX6_height_87 : decode cX6_height 87 = .ok (.istore_n 2, 1) := by decide +kernel
theorem dX6_height_88 : decode cX6_height 88 = .ok (.iload 6, 2) := by decide +kernel
theorem dX6_height_90 : decode cX6_height 90 = .ok (.ifCond .eq 8, 3) := by decide +kernel
theorem dX6_height_93 : decode cX6_height 93 = .ok (.iload 5, 2) := by decide +kernel
theorem dX6_height_95 : decode cX6_height 95 = .ok (.goto 4, 3) := by decide +kernel
theorem dX6_height_98 : decode cX6_height 98 = .ok (.iload_n 3, 1) := by decide +kernel
theorem dX6_height_99 : decode cX6_height 99 = .ok (.istore_n 3, 1) := by decide +kernel
theorem dX6_height_100 : decode cX6_height 100 = .ok (.iinc 4 1, 3) := by decide +kernel
theorem dX6_height_103 : decode cX6_height 103 = .ok (.goto (-78), 3) := by decide +kernel
theorem dX6_height_106 : decode cX6_height 106 = .ok (.iload_n 1, 1) := by decide +kernel
theorem dX6_height_107 : decode cX6_height 107 = .ok (.ifCond .ne 7, 3) := by decide +kernel
theorem dX6_height_110 : decode cX6_height 110 = .ok (.iload_n 2, 1) := by decide +kernel
theorem dX6_height_111 : decode cX6_height 111 = .ok (.goto 4, 3) := by decide +kernel
theorem dX6_height_114 : decode cX6_height 114 = .ok (.iload_n 3, 1) := by decide +kernel
theorem dX6_height_115 : decode cX6_height 115 = .ok (.ireturn, 1) := by decide +kernel
theorem dX6_pulls_0 : decode cX6_pulls 0 = .ok (.iload_n 1, 1) := by decide +kernel
theorem dX6_pulls_1 : decode cX6_pulls 1 = .ok (.i2l, 1) := by decide +kernel
theorem dX6_pulls_2 : decode cX6_pulls 2 = .ok (.lconst 0, 1) := by decide +kernel
theorem dX6_pulls_3 : decode cX6_pulls 3 = .ok (.lconst 1, 1) := by decide +kernel
theorem dX6_pulls_4 : decode cX6_pulls 4 = .ok (.invokestatic 51, 3) := by decide +kernel
theorem dX6_pulls_7 : decode cX6_pulls 7 = .ok (.ifCond .ne 5, 3) := by decide +kernel
theorem dX6_pulls_10 : decode cX6_pulls 10 = .ok (.iconst (-1), 1) := by decide +kernel
theorem dX6_pulls_11 : decode cX6_pulls 11 = .ok (.ireturn, 1) := by decide +kernel
theorem dX6_pulls_12 : decode cX6_pulls 12 = .ok (.aload_n 0, 1) := by decide +kernel
theorem dX6_pulls_13 : decode cX6_pulls 13 = .ok (.invokevirtual 142, 3) := by decide +kernel
theorem dX6_pulls_16 : decode cX6_pulls 16 = .ok (.bipush (-4), 2) := by decide +kernel
theorem dX6_pulls_18 : decode cX6_pulls 18 = .ok (.istore_n 2, 1) := by decide +kernel
theorem dX6_pulls_19 : decode cX6_pulls 19 = .ok (.bipush (-4), 2) := by decide +kernel
theorem dX6_pulls_21 : decode cX6_pulls 21 = .ok (.istore_n 3, 1) := by decide +kernel
theorem dX6_pulls_22 : decode cX6_pulls 22 = .ok (.iconst (-1), 1) := by decide +kernel
theorem dX6_pulls_23 : decode cX6_pulls 23 = .ok (.istore 4, 2) := by decide +kernel
theorem dX6_pulls_25 : decode cX6_pulls 25 = .ok (.iload 4, 2) := by decide +kernel
theorem dX6_pulls_27 : decode cX6_pulls 27 = .ok (.aload_n 0, 1) := by decide +kernel
theorem dX6_pulls_28 : decode cX6_pulls 28 = .ok (.getfield 23, 3) := by decide +kernel
theorem dX6_pulls_31 : decode cX6_pulls 31 = .ok (.bipush 12, 2) := by decide +kernel
theorem dX6_pulls_33 : decode cX6_pulls 33 = .ok (.iaload, 1) := by decide +kernel
theorem dX6_pulls_34 : decode cX6_pulls 34 = .ok (.if_icmp .ge 98, 3) := by decide +kernel
theorem dX6_pulls_37 : decode cX6_pulls 37 = .ok (.aload_n 0, 1) := by decide +kernel
theorem dX6_pulls_38 : decode cX6_pulls 38 = .ok (.getfield 7, 3) := by decide +kernel
theorem dX6_pulls_41 : decode cX6_pulls 41 = .ok (.bipush 10, 2) := by decide +kernel
theorem dX6_pulls_43 : decode cX6_pulls 43 = .ok (.iload 4, 2) := by decide +kernel
theorem dX6_pulls_45 : decode cX6_pulls 45 = .ok (.ifCond .ge 8, 3) := by decide +kernel
theorem dX6_pulls_48 : decode cX6_pulls 48 = .ok (.bipush (-4), 2) := by decide +kernel
theorem dX6_pulls_50 : decode cX6_pulls 50 = .ok (.goto 5, 3) := by decide +kernel
theorem dX6_pulls_53 : decode cX6_pulls 53 = .ok (.iload 4, 2) := by decide +kernel
theorem dX6_pulls_55 : decode cX6_pulls 55 = .ok (.iastore, 1) := by decide +kernel
theorem dX6_pulls_56 : decode cX6_pulls 56 = .ok (.aload_n 0, 1) := by decide +kernel
theorem dX6_pulls_57 : decode cX6_pulls 57 = .ok (.aload_n 0, 1) := by decide +kernel
theorem dX6_pulls_58 : decode cX6_pulls 58 = .ok (.invokevirtual 151, 3) := by decide +kernel
theorem dX6_pulls_61 : decode cX6_pulls 61 = .ok (.invokevirtual 148, 3) := by decide +kernel
theorem dX6_pulls_64 : decode cX6_pulls 64 = .ok (.istore 5, 2) := by decide +kernel
theorem dX6_pulls_66 : decode cX6_pulls 66 = .ok (.iload 5, 2) := by decide +kernel
theorem dX6_pulls_68 : decode cX6_pulls 68 = .ok (.bipush (-4), 2) := by decide +kernel
theorem dX6_pulls_70 : decode cX6_pulls 70 = .ok (.if_icmp .eq 19, 3) := by decide +kernel
theorem dX6_pulls_73 : decode cX6_pulls 73 = .ok (.iload_n 3, 1) := by decide +kernel
theorem dX6_pulls_74 : decode cX6_pulls 74 = .ok (.bipush (-4), 2) := by decide +kernel
theorem dX6_pulls_76 : decode cX6_pulls 76 = .ok (.if_icmp .eq 9, 3) := by decide +kernel
theorem dX6_pulls_79 : decode cX6_pulls 79 = .ok (.iload 5, 2) := by decide +kernel
theorem dX6_pulls_81 : decode cX6_pulls 81 = .ok (.iload_n 3, 1) := by decide +kernel
theorem dX6_pulls_82 : decode cX6_pulls 82 = .ok (.if_icmp .ge 7, 3) := by decide +kernel
theorem dX6_pulls_85 : decode cX6_pulls 85 = .ok (.iconst 1, 1) := by decide +kernel
theorem dX6_pulls_86 : decode cX6_pulls 86 = .ok (.goto 4, 3) := by decide +kernel
theorem dX6_pulls_89 : decode cX6_pulls 89 = .ok (.iconst 0, 1) := by decide +kernel
theorem dX6_pulls_90 : decode cX6_pulls 90 = .ok (.istore 6, 2) := by decide +kernel
theorem dX6_pulls_92 : decode cX6_pulls 92 = .ok (.iload 6, 2) := by decide +kernel
theorem dX6_pulls_94 : decode cX6_pulls 94 = .ok (.ifCond .eq 18, 3) := by decide +kernel
theorem dX6_pulls_97 : decode cX6_pulls 97 = .ok (.iload 4, 2) := by decide +kernel
theorem dX6_pulls_99 : decode cX6_pulls 99 = .ok (.ifCond .ge 8, 3) := by decide +kernel
theorem dX6_pulls_102 : decode cX6_pulls 102 = .ok (.bipush 7, 2) := by decide +kernel
theorem dX6_pulls_104 : decode cX6_pulls 104 = .ok (.goto 9, 3) := by decide +kernel
theorem dX6_pulls_107 : decode cX6_pulls 107 = .ok (.iload 4, 2) := by decide +kernel
theorem dX6_pulls_109 : decode cX6_pulls 109 = .ok (.goto 4, 3) := by decide +kernel
theorem dX6_pulls_112 : decode cX6_pulls 112 = .ok (.iload_n 2, 1) := by decide +kernel
theorem dX6_pulls_113 : decode cX6_pulls 113 = .ok (.istore_n 2, 1) := by decide +kernel
theorem dX6_pulls_114 : decode cX6_pulls 114 = .ok (.iload 6, 2) := by decide +kernel
theorem dX6_pulls_116 : decode cX6_pulls 116 = .ok (.ifCond .eq 8, 3) := by decide +kernel
theorem dX6_pulls_119 : decode cX6_pulls 119 = .ok (.iload 5, 2) := by decide +kernel
theorem dX6_pulls_121 : decode cX6_pulls 121 = .ok (.goto 4, 3) := by decide +kernel
theorem dX6_pulls_124 : decode cX6_pulls 124 = .ok (.iload_n 3, 1) := by decide +kernel
theorem dX6_pulls_125 : decode cX6_pulls 125 = .ok (.istore_n 3, 1) := by decide +kernel
theorem dX6_pulls_126 : decode cX6_pulls 126 = .ok (.iinc 4 1, 3) := by decide +kernel
theorem dX6_pulls_129 : decode cX6_pulls 129 = .ok (.goto (-104), 3) := by decide +kernel
theorem dX6_pulls_132 : decode cX6_pulls 132 = .ok (.iload_n 1, 1) := by decide +kernel
theorem dX6_pulls_133 : decode cX6_pulls 133 = .ok (.ifCond .ne 7, 3) := by decide +kernel
theorem dX6_pulls_136 : decode cX6_pulls 136 = .ok (.iload_n 2, 1) := by decide +kernel
theorem dX6_pulls_137 : decode cX6_pulls 137 = .ok (.goto 4, 3) := by decide +kernel
theorem dX6_pulls_140 : decode cX6_pulls 140 = .ok (.iload_n 3, 1) := by decide +kernel
theorem dX6_pulls_141 : decode cX6_pulls 141 = .ok (.ireturn, 1) := by decide +kernel
theorem dX6_waitsOf_0 : decode cX6_waitsOf 0 = .ok (.aload_n 0, 1) := by decide +kernel
theorem dX6_waitsOf_1 : decode cX6_waitsOf 1 = .ok (.invokevirtual 142, 3) := by decide +kernel
theorem dX6_waitsOf_4 : decode cX6_waitsOf 4 = .ok (.aload_n 0, 1) := by decide +kernel
theorem dX6_waitsOf_5 : decode cX6_waitsOf 5 = .ok (.getfield 7, 3) := by decide +kernel
theorem dX6_waitsOf_8 : decode cX6_waitsOf 8 = .ok (.bipush 6, 2) := by decide +kernel
theorem dX6_waitsOf_10 : decode cX6_waitsOf 10 = .ok (.iload_n 2, 1) := by decide +kernel
theorem dX6_waitsOf_11 : decode cX6_waitsOf 11 = .ok (.iastore, 1) := by decide +kernel
theorem dX6_waitsOf_12 : decode cX6_waitsOf 12 = .ok (.aload_n 0, 1) := by decide +kernel
theorem dX6_waitsOf_13 : decode cX6_waitsOf 13 = .ok (.iconst 0, 1) := by decide +kernel
theorem dX6_waitsOf_14 : decode cX6_waitsOf 14 = .ok (.invokevirtual 148, 3) := by decide +kernel
theorem dX6_waitsOf_17 : decode cX6_waitsOf 17 = .ok (.pop, 1) := by decide +kernel
theorem dX6_waitsOf_18 : decode cX6_waitsOf 18 = .ok (.iconst 0, 1) := by decide +kernel
theorem dX6_waitsOf_19 : decode cX6_waitsOf 19 = .ok (.istore_n 3, 1) := by decide +kernel
theorem dX6_waitsOf_20 : decode cX6_waitsOf 20 = .ok (.iconst 0, 1) := by decide +kernel
theorem dX6_waitsOf_21 : decode cX6_waitsOf 21 = .ok (.istore 4, 2) := by decide +kernel
theorem dX6_waitsOf_23 : decode cX6_waitsOf 23 = .ok (.iload 4, 2) := by decide +kernel
theorem dX6_waitsOf_25 : decode cX6_waitsOf 25 = .ok (.aload_n 0, 1) := by decide +kernel
theorem dX6_waitsOf_26 : decode cX6_waitsOf 26 = .ok (.getfield 7, 3) := by decide +kernel
theorem dX6_waitsOf_29 : decode cX6_waitsOf 29 = .ok (.bipush 12, 2) := by decide +kernel
theorem dX6_waitsOf_31 : decode cX6_waitsOf 31 = .ok (.iaload, 1) := by decide +kernel
theorem dX6_waitsOf_32 : decode cX6_waitsOf 32 = .ok (.if_icmp .ge 76, 3) := by decide +kernel
theorem dX6_waitsOf_35 : decode cX6_waitsOf 35 = .ok (.aload_n 0, 1) := by decide +kernel
theorem dX6_waitsOf_36 : decode cX6_waitsOf 36 = .ok (.iload 4, 2) := by decide +kernel
theorem dX6_waitsOf_38 : decode cX6_waitsOf 38 = .ok (.iconst 2, 1) := by decide +kernel
theorem dX6_waitsOf_39 : decode cX6_waitsOf 39 = .ok (.invokevirtual 55, 3) := by decide +kernel
theorem dX6_waitsOf_42 : decode cX6_waitsOf 42 = .ok (.iload_n 1, 1) := by decide +kernel
theorem dX6_waitsOf_43 : decode cX6_waitsOf 43 = .ok (.if_icmp .ne 19, 3) := by decide +kernel
theorem dX6_waitsOf_46 : decode cX6_waitsOf 46 = .ok (.iload 4, 2) := by decide +kernel
theorem dX6_waitsOf_48 : decode cX6_waitsOf 48 = .ok (.aload_n 0, 1) := by decide +kernel
theorem dX6_waitsOf_49 : decode cX6_waitsOf 49 = .ok (.getfield 7, 3) := by decide +kernel
theorem dX6_waitsOf_52 : decode cX6_waitsOf 52 = .ok (.bipush 10, 2) := by decide +kernel
theorem dX6_waitsOf_54 : decode cX6_waitsOf 54 = .ok (.iaload, 1) := by decide +kernel
theorem dX6_waitsOf_55 : decode cX6_waitsOf 55 = .ok (.if_icmp .eq 7, 3) := by decide +kernel
theorem dX6_waitsOf_58 : decode cX6_waitsOf 58 = .ok (.iconst 1, 1) := by decide +kernel
theorem dX6_waitsOf_59 : decode cX6_waitsOf 59 = .ok (.goto 4, 3) := by decide +kernel
theorem dX6_waitsOf_62 : decode cX6_waitsOf 62 = .ok (.iconst 0, 1) := by decide +kernel
theorem dX6_waitsOf_63 : decode cX6_waitsOf 63 = .ok (.istore 5, 2) := by decide +kernel
theorem dX6_waitsOf_65 : decode cX6_waitsOf 65 = .ok (.iload_n 3, 1) := by decide +kernel
theorem dX6_waitsOf_66 : decode cX6_waitsOf 66 = .ok (.iload 5, 2) := by decide +kernel
theorem dX6_waitsOf_68 : decode cX6_waitsOf 68 = .ok (.ifCond .ne 7, 3) := by decide +kernel
theorem dX6_waitsOf_71 : decode cX6_waitsOf 71 = .ok (.iconst 0, 1) := by decide +kernel
theorem dX6_waitsOf_72 : decode cX6_waitsOf 72 = .ok (.goto 28, 3) := by decide +kernel
theorem dX6_waitsOf_75 : decode cX6_waitsOf 75 = .ok (.aload_n 0, 1) := by decide +kernel
theorem dX6_waitsOf_76 : decode cX6_waitsOf 76 = .ok (.getfield 26, 3) := by decide +kernel
theorem dX6_waitsOf_79 : decode cX6_waitsOf 79 = .ok (.iload 4, 2) := by decide +kernel
theorem dX6_waitsOf_81 : decode cX6_waitsOf 81 = .ok (.iaload, 1) := by decide +kernel
theorem dX6_waitsOf_82 : decode cX6_waitsOf 82 = .ok (.bipush (-4), 2) := by decide +kernel
theorem dX6_waitsOf_84 : decode cX6_waitsOf 84 = .ok (.if_icmp .ne 9, 3) := by decide +kernel
theorem dX6_waitsOf_87 : decode cX6_waitsOf 87 = .ok (.sipush 240, 3) := by decide +kernel
theorem dX6_waitsOf_90 : decode cX6_waitsOf 90 = .ok (.goto 10, 3) := by decide +kernel
theorem dX6_waitsOf_93 : decode cX6_waitsOf 93 = .ok (.aload_n 0, 1) := by decide +kernel
theorem dX6_waitsOf_94 : decode cX6_waitsOf 94 = .ok (.getfield 26, 3) := by decide +kernel
theorem dX6_waitsOf_97 : decode cX6_waitsOf 97 = .ok (.iload 4, 2) := by decide +kernel
theorem dX6_waitsOf_99 : decode cX6_waitsOf 99 = .ok (.iaload, 1) := by decide +kernel
theorem dX6_waitsOf_100 : decode cX6_waitsOf 100 = .ok (.iadd, 1) := by decide +kernel
theorem dX6_waitsOf_101 : decode cX6_waitsOf 101 = .ok (.istore_n 3, 1) := by decide +kernel
theorem dX6_waitsOf_102 : decode cX6_waitsOf 102 = .ok (.iinc 4 1, 3) := by decide +kernel
theorem dX6_waitsOf_105 : decode cX6_waitsOf 105 = .ok (.goto (-82), 3) := by decide +kernel
theorem dX6_waitsOf_108 : decode cX6_waitsOf 108 = .ok (.iload_n 3, 1) := by decide +kernel
theorem dX6_waitsOf_109 : decode cX6_waitsOf 109 = .ok (.ireturn, 1) := by decide +kernel
theorem dX6_waits_0 : decode cX6_waits 0 = .ok (.iload_n 1, 1) := by decide +kernel
theorem dX6_waits_1 : decode cX6_waits 1 = .ok (.i2l, 1) := by decide +kernel
theorem dX6_waits_2 : decode cX6_waits 2 = .ok (.lconst 0, 1) := by decide +kernel
theorem dX6_waits_3 : decode cX6_waits 3 = .ok (.lconst 1, 1) := by decide +kernel
theorem dX6_waits_4 : decode cX6_waits 4 = .ok (.invokestatic 51, 3) := by decide +kernel
theorem dX6_waits_7 : decode cX6_waits 7 = .ok (.ifCond .eq 24, 3) := by decide +kernel
theorem dX6_waits_10 : decode cX6_waits 10 = .ok (.iload_n 2, 1) := by decide +kernel
theorem dX6_waits_11 : decode cX6_waits 11 = .ok (.i2l, 1) := by decide +kernel
theorem dX6_waits_12 : decode cX6_waits 12 = .ok (.lconst 0, 1) := by decide +kernel
theorem dX6_waits_13 : decode cX6_waits 13 = .ok (.ldc2_w 70, 3) := by decide +kernel
theorem dX6_waits_16 : decode cX6_waits 16 = .ok (.invokestatic 51, 3) := by decide +kernel
theorem dX6_waits_19 : decode cX6_waits 19 = .ok (.ifCond .eq 12, 3) := by decide +kernel
theorem dX6_waits_22 : decode cX6_waits 22 = .ok (.aload_n 0, 1) := by decide +kernel
theorem dX6_waits_23 : decode cX6_waits 23 = .ok (.iload_n 1, 1) := by decide +kernel
theorem dX6_waits_24 : decode cX6_waits 24 = .ok (.iload_n 2, 1) := by decide +kernel
theorem dX6_waits_25 : decode cX6_waits 25 = .ok (.invokevirtual 154, 3) := by decide +kernel
theorem dX6_waits_28 : decode cX6_waits 28 = .ok (.goto 4, 3) := by decide +kernel
theorem dX6_waits_31 : decode cX6_waits 31 = .ok (.iconst (-1), 1) := by decide +kernel
theorem dX6_waits_32 : decode cX6_waits 32 = .ok (.ireturn, 1) := by decide +kernel
theorem dX6_lawBy_0 : decode cX6_lawBy 0 = .ok (.iconst 0, 1) := by decide +kernel
theorem dX6_lawBy_1 : decode cX6_lawBy 1 = .ok (.istore_n 3, 1) := by decide +kernel
theorem dX6_lawBy_2 : decode cX6_lawBy 2 = .ok (.iconst (-1), 1) := by decide +kernel
theorem dX6_lawBy_3 : decode cX6_lawBy 3 = .ok (.istore 4, 2) := by decide +kernel
theorem dX6_lawBy_5 : decode cX6_lawBy 5 = .ok (.iconst 0, 1) := by decide +kernel
theorem dX6_lawBy_6 : decode cX6_lawBy 6 = .ok (.istore 5, 2) := by decide +kernel
theorem dX6_lawBy_8 : decode cX6_lawBy 8 = .ok (.iload 5, 2) := by decide +kernel
theorem dX6_lawBy_10 : decode cX6_lawBy 10 = .ok (.iconst 4, 1) := by decide +kernel
theorem dX6_lawBy_11 : decode cX6_lawBy 11 = .ok (.if_icmp .ge 100, 3) := by decide +kernel
theorem dX6_lawBy_14 : decode cX6_lawBy 14 = .ok (.aload_n 0, 1) := by decide +kernel
theorem dX6_lawBy_15 : decode cX6_lawBy 15 = .ok (.iconst 0, 1) := by decide +kernel
theorem dX6_lawBy_16 : decode cX6_lawBy 16 = .ok (.iload 5, 2) := by decide +kernel
theorem dX6_lawBy_18 : decode cX6_lawBy 18 = .ok (.invokevirtual 154, 3) := by decide +kernel
theorem dX6_lawBy_21 : decode cX6_lawBy 21 = .ok (.istore 6, 2) := by decide +kernel
theorem dX6_lawBy_23 : decode cX6_lawBy 23 = .ok (.aload_n 0, 1) := by decide +kernel
theorem dX6_lawBy_24 : decode cX6_lawBy 24 = .ok (.iconst 1, 1) := by decide +kernel
theorem dX6_lawBy_25 : decode cX6_lawBy 25 = .ok (.iload 5, 2) := by decide +kernel
theorem dX6_lawBy_27 : decode cX6_lawBy 27 = .ok (.invokevirtual 154, 3) := by decide +kernel
theorem dX6_lawBy_30 : decode cX6_lawBy 30 = .ok (.istore 7, 2) := by decide +kernel
theorem dX6_lawBy_32 : decode cX6_lawBy 32 = .ok (.iload_n 2, 1) := by decide +kernel
theorem dX6_lawBy_33 : decode cX6_lawBy 33 = .ok (.ifCond .eq 20, 3) := by decide +kernel
theorem dX6_lawBy_36 : decode cX6_lawBy 36 = .ok (.iload 6, 2) := by decide +kernel
theorem dX6_lawBy_38 : decode cX6_lawBy 38 = .ok (.iload 7, 2) := by decide +kernel
theorem dX6_lawBy_40 : decode cX6_lawBy 40 = .ok (.if_icmp .le 8, 3) := by decide +kernel
theorem dX6_lawBy_43 : decode cX6_lawBy 43 = .ok (.iload 6, 2) := by decide +kernel
theorem dX6_lawBy_45 : decode cX6_lawBy 45 = .ok (.goto 13, 3) := by decide +kernel
theorem dX6_lawBy_48 : decode cX6_lawBy 48 = .ok (.iload 7, 2) := by decide +kernel
theorem dX6_lawBy_50 : decode cX6_lawBy 50 = .ok (.goto 8, 3) := by decide +kernel
theorem dX6_lawBy_53 : decode cX6_lawBy 53 = .ok (.iload 6, 2) := by decide +kernel
theorem dX6_lawBy_55 : decode cX6_lawBy 55 = .ok (.iload 7, 2) := by decide +kernel
theorem dX6_lawBy_57 : decode cX6_lawBy 57 = .ok (.iadd, 1) := by decide +kernel
theorem dX6_lawBy_58 : decode cX6_lawBy 58 = .ok (.istore 8, 2) := by decide +kernel
theorem dX6_lawBy_60 : decode cX6_lawBy 60 = .ok (.iload 4, 2) := by decide +kernel
theorem dX6_lawBy_62 : decode cX6_lawBy 62 = .ok (.ifCond .lt 10, 3) := by decide +kernel
theorem dX6_lawBy_65 : decode cX6_lawBy 65 = .ok (.iload 8, 2) := by decide +kernel
theorem dX6_lawBy_67 : decode cX6_lawBy 67 = .ok (.iload 4, 2) := by decide +kernel
theorem dX6_lawBy_69 : decode cX6_lawBy 69 = .ok (.if_icmp .ge 7, 3) := by decide +kernel
theorem dX6_lawBy_72 : decode cX6_lawBy 72 = .ok (.iconst 1, 1) := by decide +kernel
theorem dX6_lawBy_73 : decode cX6_lawBy 73 = .ok (.goto 4, 3) := by decide +kernel
theorem dX6_lawBy_76 : decode cX6_lawBy 76 = .ok (.iconst 0, 1) := by decide +kernel
theorem dX6_lawBy_77 : decode cX6_lawBy 77 = .ok (.istore 9, 2) := by decide +kernel
end
section
theorem dX6_lawBy_79 : decode cX6_lawBy 79 = .ok (.iload 9, 2) := by decide +kernel
theorem dX6_lawBy_81 : decode cX6_lawBy 81 = .ok (.ifCond .eq 8, 3) := by decide +kernel
theorem dX6_lawBy_84 : decode cX6_lawBy 84 = .ok (.iload 5, 2) := by decide +kernel
theorem dX6_lawBy_86 : decode cX6_lawBy 86 = .ok (.goto 4, 3) := by decide +kernel
theorem dX6_lawBy_89 : decode cX6_lawBy 89 = .ok (.iload_n 3, 1) := by decide +kernel
theorem dX6_lawBy_90 : decode cX6_lawBy 90 = .ok (.istore_n 3, 1) := by decide +kernel
theorem dX6_lawBy_91 : decode cX6_lawBy 91 = .ok (.iload 9, 2) := by decide +kernel
theorem dX6_lawBy_93 : decode cX6_lawBy 93 = .ok (.ifCond .eq 8, 3) := by decide +kernel
theorem dX6_lawBy_96 : decode cX6_lawBy 96 = .ok (.iload 8, 2) := by decide +kernel
theorem dX6_lawBy_98 : decode cX6_lawBy 98 = .ok (.goto 5, 3) := by decide +kernel
theorem dX6_lawBy_101 : decode cX6_lawBy 101 = .ok (.iload 4, 2) := by decide +kernel
theorem dX6_lawBy_103 : decode cX6_lawBy 103 = .ok (.istore 4, 2) := by decide +kernel
theorem dX6_lawBy_105 : decode cX6_lawBy 105 = .ok (.iinc 5 1, 3) := by decide +kernel
theorem dX6_lawBy_108 : decode cX6_lawBy 108 = .ok (.goto (-100), 3) := by decide +kernel
theorem dX6_lawBy_111 : decode cX6_lawBy 111 = .ok (.iload_n 1, 1) := by decide +kernel
theorem dX6_lawBy_112 : decode cX6_lawBy 112 = .ok (.ifCond .ne 7, 3) := by decide +kernel
theorem dX6_lawBy_115 : decode cX6_lawBy 115 = .ok (.iload_n 3, 1) := by decide +kernel
theorem dX6_lawBy_116 : decode cX6_lawBy 116 = .ok (.goto 5, 3) := by decide +kernel
theorem dX6_lawBy_119 : decode cX6_lawBy 119 = .ok (.iload 4, 2) := by decide +kernel
theorem dX6_lawBy_121 : decode cX6_lawBy 121 = .ok (.ireturn, 1) := by decide +kernel
theorem dX6_least_0 : decode cX6_least 0 = .ok (.iload_n 1, 1) := by decide +kernel
theorem dX6_least_1 : decode cX6_least 1 = .ok (.i2l, 1) := by decide +kernel
theorem dX6_least_2 : decode cX6_least 2 = .ok (.lconst 0, 1) := by decide +kernel
theorem dX6_least_3 : decode cX6_least 3 = .ok (.lconst 1, 1) := by decide +kernel
theorem dX6_least_4 : decode cX6_least 4 = .ok (.invokestatic 51, 3) := by decide +kernel
theorem dX6_least_7 : decode cX6_least 7 = .ok (.ifCond .eq 12, 3) := by decide +kernel
theorem dX6_least_10 : decode cX6_least 10 = .ok (.aload_n 0, 1) := by decide +kernel
theorem dX6_least_11 : decode cX6_least 11 = .ok (.iload_n 1, 1) := by decide +kernel
theorem dX6_least_12 : decode cX6_least 12 = .ok (.iconst 0, 1) := by decide +kernel
theorem dX6_least_13 : decode cX6_least 13 = .ok (.invokevirtual 157, 3) := by decide +kernel
theorem dX6_least_16 : decode cX6_least 16 = .ok (.goto 4, 3) := by decide +kernel
theorem dX6_least_19 : decode cX6_least 19 = .ok (.iconst (-1), 1) := by decide +kernel
theorem dX6_least_20 : decode cX6_least 20 = .ok (.ireturn, 1) := by decide +kernel
theorem dX6_both_0 : decode cX6_both 0 = .ok (.iload_n 1, 1) := by decide +kernel
theorem dX6_both_1 : decode cX6_both 1 = .ok (.i2l, 1) := by decide +kernel
theorem dX6_both_2 : decode cX6_both 2 = .ok (.lconst 0, 1) := by decide +kernel
theorem dX6_both_3 : decode cX6_both 3 = .ok (.lconst 1, 1) := by decide +kernel
theorem dX6_both_4 : decode cX6_both 4 = .ok (.invokestatic 51, 3) := by decide +kernel
theorem dX6_both_7 : decode cX6_both 7 = .ok (.ifCond .eq 12, 3) := by decide +kernel
theorem dX6_both_10 : decode cX6_both 10 = .ok (.aload_n 0, 1) := by decide +kernel
theorem dX6_both_11 : decode cX6_both 11 = .ok (.iload_n 1, 1) := by decide +kernel
theorem dX6_both_12 : decode cX6_both 12 = .ok (.iconst 1, 1) := by decide +kernel
theorem dX6_both_13 : decode cX6_both 13 = .ok (.invokevirtual 157, 3) := by decide +kernel
theorem dX6_both_16 : decode cX6_both 16 = .ok (.goto 4, 3) := by decide +kernel
theorem dX6_both_19 : decode cX6_both 19 = .ok (.iconst (-1), 1) := by decide +kernel
theorem dX6_both_20 : decode cX6_both 20 = .ok (.ireturn, 1) := by decide +kernel
theorem dX6_many_0 : decode cX6_many 0 = .ok (.iconst 0, 1) := by decide +kernel
theorem dX6_many_1 : decode cX6_many 1 = .ok (.istore_n 1, 1) := by decide +kernel
theorem dX6_many_2 : decode cX6_many 2 = .ok (.iload_n 0, 1) := by decide +kernel
theorem dX6_many_3 : decode cX6_many 3 = .ok (.istore_n 2, 1) := by decide +kernel
theorem dX6_many_4 : decode cX6_many 4 = .ok (.iload_n 2, 1) := by decide +kernel
theorem dX6_many_5 : decode cX6_many 5 = .ok (.ifCond .eq 15, 3) := by decide +kernel
theorem dX6_many_8 : decode cX6_many 8 = .ok (.iinc 1 1, 3) := by decide +kernel
theorem dX6_many_11 : decode cX6_many 11 = .ok (.iload_n 2, 1) := by decide +kernel
theorem dX6_many_12 : decode cX6_many 12 = .ok (.iload_n 2, 1) := by decide +kernel
theorem dX6_many_13 : decode cX6_many 13 = .ok (.iconst 1, 1) := by decide +kernel
theorem dX6_many_14 : decode cX6_many 14 = .ok (.isub, 1) := by decide +kernel
theorem dX6_many_15 : decode cX6_many 15 = .ok (.iand, 1) := by decide +kernel
theorem dX6_many_16 : decode cX6_many 16 = .ok (.istore_n 2, 1) := by decide +kernel
theorem dX6_many_17 : decode cX6_many 17 = .ok (.goto (-13), 3) := by decide +kernel
theorem dX6_many_20 : decode cX6_many 20 = .ok (.iload_n 1, 1) := by decide +kernel
theorem dX6_many_21 : decode cX6_many 21 = .ok (.ireturn, 1) := by decide +kernel
theorem dX6_wholly_0 : decode cX6_wholly 0 = .ok (.iload_n 1, 1) := by decide +kernel
theorem dX6_wholly_1 : decode cX6_wholly 1 = .ok (.i2l, 1) := by decide +kernel
theorem dX6_wholly_2 : decode cX6_wholly 2 = .ok (.lconst 0, 1) := by decide +kernel
theorem dX6_wholly_3 : decode cX6_wholly 3 = .ok (.ldc2_w 140, 3) := by decide +kernel
theorem dX6_wholly_6 : decode cX6_wholly 6 = .ok (.invokestatic 51, 3) := by decide +kernel
theorem dX6_wholly_9 : decode cX6_wholly 9 = .ok (.ifCond .eq 13, 3) := by decide +kernel
theorem dX6_wholly_12 : decode cX6_wholly 12 = .ok (.iload_n 2, 1) := by decide +kernel
theorem dX6_wholly_13 : decode cX6_wholly 13 = .ok (.i2l, 1) := by decide +kernel
theorem dX6_wholly_14 : decode cX6_wholly 14 = .ok (.lconst 0, 1) := by decide +kernel
theorem dX6_wholly_15 : decode cX6_wholly 15 = .ok (.lconst 1, 1) := by decide +kernel
theorem dX6_wholly_16 : decode cX6_wholly 16 = .ok (.invokestatic 51, 3) := by decide +kernel
theorem dX6_wholly_19 : decode cX6_wholly 19 = .ok (.ifCond .ne 5, 3) := by decide +kernel
theorem dX6_wholly_22 : decode cX6_wholly 22 = .ok (.iconst (-1), 1) := by decide +kernel
theorem dX6_wholly_23 : decode cX6_wholly 23 = .ok (.ireturn, 1) := by decide +kernel
theorem dX6_wholly_24 : decode cX6_wholly 24 = .ok (.aload_n 0, 1) := by decide +kernel
theorem dX6_wholly_25 : decode cX6_wholly 25 = .ok (.invokevirtual 142, 3) := by decide +kernel
theorem dX6_wholly_28 : decode cX6_wholly 28 = .ok (.aload_n 0, 1) := by decide +kernel
theorem dX6_wholly_29 : decode cX6_wholly 29 = .ok (.invokevirtual 151, 3) := by decide +kernel
theorem dX6_wholly_32 : decode cX6_wholly 32 = .ok (.istore_n 3, 1) := by decide +kernel
theorem dX6_wholly_33 : decode cX6_wholly 33 = .ok (.iconst 0, 1) := by decide +kernel
theorem dX6_wholly_34 : decode cX6_wholly 34 = .ok (.istore 4, 2) := by decide +kernel
theorem dX6_wholly_36 : decode cX6_wholly 36 = .ok (.iconst (-1), 1) := by decide +kernel
theorem dX6_wholly_37 : decode cX6_wholly 37 = .ok (.istore 5, 2) := by decide +kernel
theorem dX6_wholly_39 : decode cX6_wholly 39 = .ok (.iconst 0, 1) := by decide +kernel
theorem dX6_wholly_40 : decode cX6_wholly 40 = .ok (.istore 6, 2) := by decide +kernel
theorem dX6_wholly_42 : decode cX6_wholly 42 = .ok (.iload 6, 2) := by decide +kernel
theorem dX6_wholly_44 : decode cX6_wholly 44 = .ok (.iload_n 3, 1) := by decide +kernel
theorem dX6_wholly_45 : decode cX6_wholly 45 = .ok (.if_icmp .gt 86, 3) := by decide +kernel
theorem dX6_wholly_48 : decode cX6_wholly 48 = .ok (.iload 6, 2) := by decide +kernel
theorem dX6_wholly_50 : decode cX6_wholly 50 = .ok (.iload_n 3, 1) := by decide +kernel
theorem dX6_wholly_51 : decode cX6_wholly 51 = .ok (.iconst (-1), 1) := by decide +kernel
theorem dX6_wholly_52 : decode cX6_wholly 52 = .ok (.ixor, 1) := by decide +kernel
theorem dX6_wholly_53 : decode cX6_wholly 53 = .ok (.iand, 1) := by decide +kernel
theorem dX6_wholly_54 : decode cX6_wholly 54 = .ok (.ifCond .ne 71, 3) := by decide +kernel
theorem dX6_wholly_57 : decode cX6_wholly 57 = .ok (.iconst 0, 1) := by decide +kernel
theorem dX6_wholly_58 : decode cX6_wholly 58 = .ok (.istore 7, 2) := by decide +kernel
theorem dX6_wholly_60 : decode cX6_wholly 60 = .ok (.iload 7, 2) := by decide +kernel
theorem dX6_wholly_62 : decode cX6_wholly 62 = .ok (.iload_n 1, 1) := by decide +kernel
theorem dX6_wholly_63 : decode cX6_wholly 63 = .ok (.if_icmp .ge 17, 3) := by decide +kernel
theorem dX6_wholly_66 : decode cX6_wholly 66 = .ok (.aload_n 0, 1) := by decide +kernel
theorem dX6_wholly_67 : decode cX6_wholly 67 = .ok (.iconst 0, 1) := by decide +kernel
theorem dX6_wholly_68 : decode cX6_wholly 68 = .ok (.iload 6, 2) := by decide +kernel
theorem dX6_wholly_70 : decode cX6_wholly 70 = .ok (.invokevirtual 124, 3) := by decide +kernel
theorem dX6_wholly_73 : decode cX6_wholly 73 = .ok (.pop, 1) := by decide +kernel
theorem dX6_wholly_74 : decode cX6_wholly 74 = .ok (.iinc 7 1, 3) := by decide +kernel
theorem dX6_wholly_77 : decode cX6_wholly 77 = .ok (.goto (-17), 3) := by decide +kernel
theorem dX6_wholly_80 : decode cX6_wholly 80 = .ok (.aload_n 0, 1) := by decide +kernel
theorem dX6_wholly_81 : decode cX6_wholly 81 = .ok (.invokevirtual 134, 3) := by decide +kernel
theorem dX6_wholly_84 : decode cX6_wholly 84 = .ok (.invokestatic 160, 3) := by decide +kernel
theorem dX6_wholly_87 : decode cX6_wholly 87 = .ok (.istore 7, 2) := by decide +kernel
theorem dX6_wholly_89 : decode cX6_wholly 89 = .ok (.iload 7, 2) := by decide +kernel
theorem dX6_wholly_91 : decode cX6_wholly 91 = .ok (.iload 5, 2) := by decide +kernel
theorem dX6_wholly_93 : decode cX6_wholly 93 = .ok (.if_icmp .le 8, 3) := by decide +kernel
theorem dX6_wholly_96 : decode cX6_wholly 96 = .ok (.iload 6, 2) := by decide +kernel
theorem dX6_wholly_98 : decode cX6_wholly 98 = .ok (.goto 5, 3) := by decide +kernel
theorem dX6_wholly_101 : decode cX6_wholly 101 = .ok (.iload 4, 2) := by decide +kernel
theorem dX6_wholly_103 : decode cX6_wholly 103 = .ok (.istore 4, 2) := by decide +kernel
theorem dX6_wholly_105 : decode cX6_wholly 105 = .ok (.iload 7, 2) := by decide +kernel
theorem dX6_wholly_107 : decode cX6_wholly 107 = .ok (.iload 5, 2) := by decide +kernel
theorem dX6_wholly_109 : decode cX6_wholly 109 = .ok (.if_icmp .le 8, 3) := by decide +kernel
theorem dX6_wholly_112 : decode cX6_wholly 112 = .ok (.iload 7, 2) := by decide +kernel
theorem dX6_wholly_114 : decode cX6_wholly 114 = .ok (.goto 5, 3) := by decide +kernel
theorem dX6_wholly_117 : decode cX6_wholly 117 = .ok (.iload 5, 2) := by decide +kernel
theorem dX6_wholly_119 : decode cX6_wholly 119 = .ok (.istore 5, 2) := by decide +kernel
theorem dX6_wholly_121 : decode cX6_wholly 121 = .ok (.aload_n 0, 1) := by decide +kernel
theorem dX6_wholly_122 : decode cX6_wholly 122 = .ok (.invokevirtual 145, 3) := by decide +kernel
theorem dX6_wholly_125 : decode cX6_wholly 125 = .ok (.iinc 6 1, 3) := by decide +kernel
theorem dX6_wholly_128 : decode cX6_wholly 128 = .ok (.goto (-86), 3) := by decide +kernel
theorem dX6_wholly_131 : decode cX6_wholly 131 = .ok (.iload_n 2, 1) := by decide +kernel
theorem dX6_wholly_132 : decode cX6_wholly 132 = .ok (.ifCond .ne 8, 3) := by decide +kernel
theorem dX6_wholly_135 : decode cX6_wholly 135 = .ok (.iload 4, 2) := by decide +kernel
theorem dX6_wholly_137 : decode cX6_wholly 137 = .ok (.goto 5, 3) := by decide +kernel
theorem dX6_wholly_140 : decode cX6_wholly 140 = .ok (.iload 5, 2) := by decide +kernel
theorem dX6_wholly_142 : decode cX6_wholly 142 = .ok (.ireturn, 1) := by decide +kernel
theorem dX6_drank_0 : decode cX6_drank 0 = .ok (.iload_n 1, 1) := by decide +kernel
theorem dX6_drank_1 : decode cX6_drank 1 = .ok (.i2l, 1) := by decide +kernel
theorem dX6_drank_2 : decode cX6_drank 2 = .ok (.lconst 0, 1) := by decide +kernel
theorem dX6_drank_3 : decode cX6_drank 3 = .ok (.ldc2_w 163, 3) := by decide +kernel
theorem dX6_drank_6 : decode cX6_drank 6 = .ok (.invokestatic 51, 3) := by decide +kernel
theorem dX6_drank_9 : decode cX6_drank 9 = .ok (.ifCond .eq 13, 3) := by decide +kernel
theorem dX6_drank_12 : decode cX6_drank 12 = .ok (.iload_n 2, 1) := by decide +kernel
theorem dX6_drank_13 : decode cX6_drank 13 = .ok (.i2l, 1) := by decide +kernel
theorem dX6_drank_14 : decode cX6_drank 14 = .ok (.lconst 0, 1) := by decide +kernel
theorem dX6_drank_15 : decode cX6_drank 15 = .ok (.lconst 1, 1) := by decide +kernel
theorem dX6_drank_16 : decode cX6_drank 16 = .ok (.invokestatic 51, 3) := by decide +kernel
theorem dX6_drank_19 : decode cX6_drank 19 = .ok (.ifCond .ne 5, 3) := by decide +kernel
theorem dX6_drank_22 : decode cX6_drank 22 = .ok (.iconst (-1), 1) := by decide +kernel
theorem dX6_drank_23 : decode cX6_drank 23 = .ok (.ireturn, 1) := by decide +kernel
theorem dX6_drank_24 : decode cX6_drank 24 = .ok (.iconst 0, 1) := by decide +kernel
theorem dX6_drank_25 : decode cX6_drank 25 = .ok (.istore_n 3, 1) := by decide +kernel
theorem dX6_drank_26 : decode cX6_drank 26 = .ok (.bipush (-4), 2) := by decide +kernel
theorem dX6_drank_28 : decode cX6_drank 28 = .ok (.istore 4, 2) := by decide +kernel
theorem dX6_drank_30 : decode cX6_drank 30 = .ok (.iconst 0, 1) := by decide +kernel
theorem dX6_drank_31 : decode cX6_drank 31 = .ok (.istore 5, 2) := by decide +kernel
theorem dX6_drank_33 : decode cX6_drank 33 = .ok (.iload 5, 2) := by decide +kernel
theorem dX6_drank_35 : decode cX6_drank 35 = .ok (.iconst 1, 1) := by decide +kernel
theorem dX6_drank_36 : decode cX6_drank 36 = .ok (.aload_n 0, 1) := by decide +kernel
theorem dX6_drank_37 : decode cX6_drank 37 = .ok (.getfield 7, 3) := by decide +kernel
theorem dX6_drank_40 : decode cX6_drank 40 = .ok (.bipush 12, 2) := by decide +kernel
theorem dX6_drank_42 : decode cX6_drank 42 = .ok (.iaload, 1) := by decide +kernel
theorem dX6_drank_43 : decode cX6_drank 43 = .ok (.ishl, 1) := by decide +kernel
theorem dX6_drank_44 : decode cX6_drank 44 = .ok (.if_icmp .ge 108, 3) := by decide +kernel
theorem dX6_drank_47 : decode cX6_drank 47 = .ok (.iconst 0, 1) := by decide +kernel
theorem dX6_drank_48 : decode cX6_drank 48 = .ok (.istore 6, 2) := by decide +kernel
theorem dX6_drank_50 : decode cX6_drank 50 = .ok (.iconst 0, 1) := by decide +kernel
theorem dX6_drank_51 : decode cX6_drank 51 = .ok (.istore 7, 2) := by decide +kernel
theorem dX6_drank_53 : decode cX6_drank 53 = .ok (.iload 7, 2) := by decide +kernel
theorem dX6_drank_55 : decode cX6_drank 55 = .ok (.aload_n 0, 1) := by decide +kernel
theorem dX6_drank_56 : decode cX6_drank 56 = .ok (.getfield 7, 3) := by decide +kernel
theorem dX6_drank_59 : decode cX6_drank 59 = .ok (.bipush 12, 2) := by decide +kernel
theorem dX6_drank_61 : decode cX6_drank 61 = .ok (.iaload, 1) := by decide +kernel
theorem dX6_drank_62 : decode cX6_drank 62 = .ok (.if_icmp .ge 51, 3) := by decide +kernel
theorem dX6_drank_65 : decode cX6_drank 65 = .ok (.iload 6, 2) := by decide +kernel
theorem dX6_drank_67 : decode cX6_drank 67 = .ok (.iload 5, 2) := by decide +kernel
theorem dX6_drank_69 : decode cX6_drank 69 = .ok (.iload 7, 2) := by decide +kernel
theorem dX6_drank_71 : decode cX6_drank 71 = .ok (.ishr, 1) := by decide +kernel
theorem dX6_drank_72 : decode cX6_drank 72 = .ok (.iconst 1, 1) := by decide +kernel
theorem dX6_drank_73 : decode cX6_drank 73 = .ok (.iand, 1) := by decide +kernel
theorem dX6_drank_74 : decode cX6_drank 74 = .ok (.ifCond .eq 12, 3) := by decide +kernel
theorem dX6_drank_77 : decode cX6_drank 77 = .ok (.aload_n 0, 1) := by decide +kernel
theorem dX6_drank_78 : decode cX6_drank 78 = .ok (.iload 7, 2) := by decide +kernel
theorem dX6_drank_80 : decode cX6_drank 80 = .ok (.invokevirtual 67, 3) := by decide +kernel
theorem dX6_drank_83 : decode cX6_drank 83 = .ok (.ifCond .eq 7, 3) := by decide +kernel
theorem dX6_drank_86 : decode cX6_drank 86 = .ok (.iconst 0, 1) := by decide +kernel
theorem dX6_drank_87 : decode cX6_drank 87 = .ok (.goto 17, 3) := by decide +kernel
theorem dX6_drank_90 : decode cX6_drank 90 = .ok (.aload_n 0, 1) := by decide +kernel
theorem dX6_drank_91 : decode cX6_drank 91 = .ok (.iload 7, 2) := by decide +kernel
theorem dX6_drank_93 : decode cX6_drank 93 = .ok (.invokevirtual 63, 3) := by decide +kernel
theorem dX6_drank_96 : decode cX6_drank 96 = .ok (.aload_n 0, 1) := by decide +kernel
theorem dX6_drank_97 : decode cX6_drank 97 = .ok (.iload 7, 2) := by decide +kernel
theorem dX6_drank_99 : decode cX6_drank 99 = .ok (.iconst 3, 1) := by decide +kernel
theorem dX6_drank_100 : decode cX6_drank 100 = .ok (.invokevirtual 55, 3) := by decide +kernel
theorem dX6_drank_103 : decode cX6_drank 103 = .ok (.isub, 1) := by decide +kernel
theorem dX6_drank_104 : decode cX6_drank 104 = .ok (.iadd, 1) := by decide +kernel
theorem dX6_drank_105 : decode cX6_drank 105 = .ok (.istore 6, 2) := by decide +kernel
theorem dX6_drank_107 : decode cX6_drank 107 = .ok (.iinc 7 1, 3) := by decide +kernel
theorem dX6_drank_110 : decode cX6_drank 110 = .ok (.goto (-57), 3) := by decide +kernel
theorem dX6_drank_113 : decode cX6_drank 113 = .ok (.iload 6, 2) := by decide +kernel
theorem dX6_drank_115 : decode cX6_drank 115 = .ok (.iload_n 1, 1) := by decide +kernel
theorem dX6_drank_116 : decode cX6_drank 116 = .ok (.if_icmp .ne 12, 3) := by decide +kernel
theorem dX6_drank_119 : decode cX6_drank 119 = .ok (.iload_n 3, 1) := by decide +kernel
theorem dX6_drank_120 : decode cX6_drank 120 = .ok (.ifCond .ne 8, 3) := by decide +kernel
theorem dX6_drank_123 : decode cX6_drank 123 = .ok (.iload 5, 2) := by decide +kernel
theorem dX6_drank_125 : decode cX6_drank 125 = .ok (.goto 5, 3) := by decide +kernel
theorem dX6_drank_128 : decode cX6_drank 128 = .ok (.iload 4, 2) := by decide +kernel
theorem dX6_drank_130 : decode cX6_drank 130 = .ok (.istore 4, 2) := by decide +kernel
theorem dX6_drank_132 : decode cX6_drank 132 = .ok (.iload_n 3, 1) := by decide +kernel
theorem dX6_drank_133 : decode cX6_drank 133 = .ok (.iload 6, 2) := by decide +kernel
theorem dX6_drank_135 : decode cX6_drank 135 = .ok (.iload_n 1, 1) := by decide +kernel
theorem dX6_drank_136 : decode cX6_drank 136 = .ok (.if_icmp .ne 7, 3) := by decide +kernel
theorem dX6_drank_139 : decode cX6_drank 139 = .ok (.iconst 1, 1) := by decide +kernel
theorem dX6_drank_140 : decode cX6_drank 140 = .ok (.goto 4, 3) := by decide +kernel
theorem dX6_drank_143 : decode cX6_drank 143 = .ok (.iconst 0, 1) := by decide +kernel
theorem dX6_drank_144 : decode cX6_drank 144 = .ok (.iadd, 1) := by decide +kernel
theorem dX6_drank_145 : decode cX6_drank 145 = .ok (.istore_n 3, 1) := by decide +kernel
theorem dX6_drank_146 : decode cX6_drank 146 = .ok (.iinc 5 1, 3) := by decide +kernel
theorem dX6_drank_149 : decode cX6_drank 149 = .ok (.goto (-116), 3) := by decide +kernel
theorem dX6_drank_152 : decode cX6_drank 152 = .ok (.iload_n 2, 1) := by decide +kernel
theorem dX6_drank_153 : decode cX6_drank 153 = .ok (.ifCond .ne 7, 3) := by decide +kernel
theorem dX6_drank_156 : decode cX6_drank 156 = .ok (.iload_n 3, 1) := by decide +kernel
theorem dX6_drank_157 : decode cX6_drank 157 = .ok (.goto 5, 3) := by decide +kernel
theorem dX6_drank_160 : decode cX6_drank 160 = .ok (.iload 4, 2) := by decide +kernel
theorem dX6_drank_162 : decode cX6_drank 162 = .ok (.ireturn, 1) := by decide +kernel
theorem dX6_holds_0 : decode cX6_holds 0 = .ok (.iload_n 1, 1) := by decide +kernel
theorem dX6_holds_1 : decode cX6_holds 1 = .ok (.i2l, 1) := by decide +kernel
theorem dX6_holds_2 : decode cX6_holds 2 = .ok (.lconst 0, 1) := by decide +kernel
theorem dX6_holds_3 : decode cX6_holds 3 = .ok (.ldc2_w 140, 3) := by decide +kernel
theorem dX6_holds_6 : decode cX6_holds 6 = .ok (.invokestatic 51, 3) := by decide +kernel
theorem dX6_holds_9 : decode cX6_holds 9 = .ok (.ifCond .ne 5, 3) := by decide +kernel
theorem dX6_holds_12 : decode cX6_holds 12 = .ok (.iconst (-1), 1) := by decide +kernel
theorem dX6_holds_13 : decode cX6_holds 13 = .ok (.ireturn, 1) := by decide +kernel
theorem dX6_holds_14 : decode cX6_holds 14 = .ok (.ldc 165, 2) := by decide +kernel
theorem dX6_holds_16 : decode cX6_holds 16 = .ok (.istore_n 2, 1) := by decide +kernel
theorem dX6_holds_17 : decode cX6_holds 17 = .ok (.iconst 1, 1) := by decide +kernel
theorem dX6_holds_18 : decode cX6_holds 18 = .ok (.istore_n 3, 1) := by decide +kernel
theorem dX6_holds_19 : decode cX6_holds 19 = .ok (.iload_n 3, 1) := by decide +kernel
theorem dX6_holds_20 : decode cX6_holds 20 = .ok (.iload_n 1, 1) := by decide +kernel
theorem dX6_holds_21 : decode cX6_holds 21 = .ok (.if_icmp .gt 45, 3) := by decide +kernel
theorem dX6_holds_24 : decode cX6_holds 24 = .ok (.aload_n 0, 1) := by decide +kernel
theorem dX6_holds_25 : decode cX6_holds 25 = .ok (.getfield 7, 3) := by decide +kernel
theorem dX6_holds_28 : decode cX6_holds 28 = .ok (.bipush 8, 2) := by decide +kernel
theorem dX6_holds_30 : decode cX6_holds 30 = .ok (.iaload, 1) := by decide +kernel
theorem dX6_holds_31 : decode cX6_holds 31 = .ok (.iload_n 3, 1) := by decide +kernel
theorem dX6_holds_32 : decode cX6_holds 32 = .ok (.iadd, 1) := by decide +kernel
theorem dX6_holds_33 : decode cX6_holds 33 = .ok (.bipush 10, 2) := by decide +kernel
theorem dX6_holds_35 : decode cX6_holds 35 = .ok (.idiv, 1) := by decide +kernel
theorem dX6_holds_36 : decode cX6_holds 36 = .ok (.istore 4, 2) := by decide +kernel
theorem dX6_holds_38 : decode cX6_holds 38 = .ok (.iload_n 2, 1) := by decide +kernel
theorem dX6_holds_39 : decode cX6_holds 39 = .ok (.iload 4, 2) := by decide +kernel
theorem dX6_holds_41 : decode cX6_holds 41 = .ok (.bipush 100, 2) := by decide +kernel
theorem dX6_holds_43 : decode cX6_holds 43 = .ok (.if_icmp .le 7, 3) := by decide +kernel
theorem dX6_holds_46 : decode cX6_holds 46 = .ok (.iconst 0, 1) := by decide +kernel
theorem dX6_holds_47 : decode cX6_holds 47 = .ok (.goto 8, 3) := by decide +kernel
theorem dX6_holds_50 : decode cX6_holds 50 = .ok (.bipush 100, 2) := by decide +kernel
theorem dX6_holds_52 : decode cX6_holds 52 = .ok (.iload 4, 2) := by decide +kernel
theorem dX6_holds_54 : decode cX6_holds 54 = .ok (.isub, 1) := by decide +kernel
theorem dX6_holds_55 : decode cX6_holds 55 = .ok (.imul, 1) := by decide +kernel
theorem dX6_holds_56 : decode cX6_holds 56 = .ok (.bipush 100, 2) := by decide +kernel
theorem dX6_holds_58 : decode cX6_holds 58 = .ok (.idiv, 1) := by decide +kernel
theorem dX6_holds_59 : decode cX6_holds 59 = .ok (.istore_n 2, 1) := by decide +kernel
theorem dX6_holds_60 : decode cX6_holds 60 = .ok (.iinc 3 1, 3) := by decide +kernel
theorem dX6_holds_63 : decode cX6_holds 63 = .ok (.goto (-44), 3) := by decide +kernel
theorem dX6_holds_66 : decode cX6_holds 66 = .ok (.iload_n 2, 1) := by decide +kernel
theorem dX6_holds_67 : decode cX6_holds 67 = .ok (.ireturn, 1) := by decide +kernel
theorem dX6_type_0 : decode cX6_type 0 = .ok (.iload_n 1, 1) := by decide +kernel
theorem dX6_type_1 : decode cX6_type 1 = .ok (.i2l, 1) := by decide +kernel
theorem dX6_type_2 : decode cX6_type 2 = .ok (.ldc2_w 166, 3) := by decide +kernel
theorem dX6_type_5 : decode cX6_type 5 = .ok (.ldc2_w 168, 3) := by decide +kernel
theorem dX6_type_8 : decode cX6_type 8 = .ok (.invokestatic 51, 3) := by decide +kernel
theorem dX6_type_11 : decode cX6_type 11 = .ok (.ifCond .ne 5, 3) := by decide +kernel
theorem dX6_type_14 : decode cX6_type 14 = .ok (.iconst (-1), 1) := by decide +kernel
theorem dX6_type_15 : decode cX6_type 15 = .ok (.ireturn, 1) := by decide +kernel
theorem dX6_type_16 : decode cX6_type 16 = .ok (.aload_n 0, 1) := by decide +kernel
theorem dX6_type_17 : decode cX6_type 17 = .ok (.getfield 170, 3) := by decide +kernel
theorem dX6_type_20 : decode cX6_type 20 = .ok (.bipush 60, 2) := by decide +kernel
theorem dX6_type_22 : decode cX6_type 22 = .ok (.if_icmp .ne 6, 3) := by decide +kernel
theorem dX6_type_25 : decode cX6_type 25 = .ok (.bipush (-3), 2) := by decide +kernel
theorem dX6_type_27 : decode cX6_type 27 = .ok (.ireturn, 1) := by decide +kernel
theorem dX6_type_28 : decode cX6_type 28 = .ok (.aload_n 0, 1) := by decide +kernel
theorem dX6_type_29 : decode cX6_type 29 = .ok (.getfield 29, 3) := by decide +kernel
theorem dX6_type_32 : decode cX6_type 32 = .ok (.aload_n 0, 1) := by decide +kernel
theorem dX6_type_33 : decode cX6_type 33 = .ok (.getfield 170, 3) := by decide +kernel
theorem dX6_type_36 : decode cX6_type 36 = .ok (.iload_n 1, 1) := by decide +kernel
theorem dX6_type_37 : decode cX6_type 37 = .ok (.iastore, 1) := by decide +kernel
theorem dX6_type_38 : decode cX6_type 38 = .ok (.aload_n 0, 1) := by decide +kernel
theorem dX6_type_39 : decode cX6_type 39 = .ok (.dup, 1) := by decide +kernel
theorem dX6_type_40 : decode cX6_type 40 = .ok (.getfield 170, 3) := by decide +kernel
theorem dX6_type_43 : decode cX6_type 43 = .ok (.iconst 1, 1) := by decide +kernel
theorem dX6_type_44 : decode cX6_type 44 = .ok (.iadd, 1) := by decide +kernel
theorem dX6_type_45 : decode cX6_type 45 = .ok (.putfield 170, 3) := by decide +kernel
theorem dX6_type_48 : decode cX6_type 48 = .ok (.aload_n 0, 1) := by decide +kernel
theorem dX6_type_49 : decode cX6_type 49 = .ok (.getfield 170, 3) := by decide +kernel
theorem dX6_type_52 : decode cX6_type 52 = .ok (.ireturn, 1) := by decide +kernel
theorem dX6_here_0 : decode cX6_here 0 = .ok (.aload_n 0, 1) := by decide +kernel
theorem dX6_here_1 : decode cX6_here 1 = .ok (.getfield 173, 3) := by decide +kernel
theorem dX6_here_4 : decode cX6_here 4 = .ok (.aload_n 0, 1) := by decide +kernel
theorem dX6_here_5 : decode cX6_here 5 = .ok (.getfield 170, 3) := by decide +kernel
theorem dX6_here_8 : decode cX6_here 8 = .ok (.if_icmp .ge 30, 3) := by decide +kernel
theorem dX6_here_11 : decode cX6_here 11 = .ok (.aload_n 0, 1) := by decide +kernel
theorem dX6_here_12 : decode cX6_here 12 = .ok (.getfield 29, 3) := by decide +kernel
theorem dX6_here_15 : decode cX6_here 15 = .ok (.aload_n 0, 1) := by decide +kernel
theorem dX6_here_16 : decode cX6_here 16 = .ok (.getfield 173, 3) := by decide +kernel
theorem dX6_here_19 : decode cX6_here 19 = .ok (.iaload, 1) := by decide +kernel
theorem dX6_here_20 : decode cX6_here 20 = .ok (.bipush 32, 2) := by decide +kernel
theorem dX6_here_22 : decode cX6_here 22 = .ok (.if_icmp .ne 16, 3) := by decide +kernel
theorem dX6_here_25 : decode cX6_here 25 = .ok (.aload_n 0, 1) := by decide +kernel
theorem dX6_here_26 : decode cX6_here 26 = .ok (.dup, 1) := by decide +kernel
theorem dX6_here_27 : decode cX6_here 27 = .ok (.getfield 173, 3) := by decide +kernel
theorem dX6_here_30 : decode cX6_here 30 = .ok (.iconst 1, 1) := by decide +kernel
theorem dX6_here_31 : decode cX6_here 31 = .ok (.iadd, 1) := by decide +kernel
theorem dX6_here_32 : decode cX6_here 32 = .ok (.putfield 173, 3) := by decide +kernel
theorem dX6_here_35 : decode cX6_here 35 = .ok (.goto (-35), 3) := by decide +kernel
theorem dX6_here_38 : decode cX6_here 38 = .ok (.aload_n 0, 1) := by decide +kernel
theorem dX6_here_39 : decode cX6_here 39 = .ok (.getfield 173, 3) := by decide +kernel
theorem dX6_here_42 : decode cX6_here 42 = .ok (.aload_n 0, 1) := by decide +kernel
theorem dX6_here_43 : decode cX6_here 43 = .ok (.getfield 170, 3) := by decide +kernel
theorem dX6_here_46 : decode cX6_here 46 = .ok (.if_icmp .ge 15, 3) := by decide +kernel
theorem dX6_here_49 : decode cX6_here 49 = .ok (.aload_n 0, 1) := by decide +kernel
theorem dX6_here_50 : decode cX6_here 50 = .ok (.getfield 29, 3) := by decide +kernel
theorem dX6_here_53 : decode cX6_here 53 = .ok (.aload_n 0, 1) := by decide +kernel
theorem dX6_here_54 : decode cX6_here 54 = .ok (.getfield 173, 3) := by decide +kernel
theorem dX6_here_57 : decode cX6_here 57 = .ok (.iaload, 1) := by decide +kernel
theorem dX6_here_58 : decode cX6_here 58 = .ok (.goto 4, 3) := by decide +kernel
theorem dX6_here_61 : decode cX6_here 61 = .ok (.iconst 0, 1) := by decide +kernel
theorem dX6_here_62 : decode cX6_here 62 = .ok (.ireturn, 1) := by decide +kernel
theorem dX6_must_0 : decode cX6_must 0 = .ok (.aload_n 0, 1) := by decide +kernel
theorem dX6_must_1 : decode cX6_must 1 = .ok (.aload_n 0, 1) := by decide +kernel
theorem dX6_must_2 : decode cX6_must 2 = .ok (.getfield 176, 3) := by decide +kernel
theorem dX6_must_5 : decode cX6_must 5 = .ok (.ifCond .ne 7, 3) := by decide +kernel
theorem dX6_must_8 : decode cX6_must 8 = .ok (.iload_n 1, 1) := by decide +kernel
theorem dX6_must_9 : decode cX6_must 9 = .ok (.ifCond .ne 7, 3) := by decide +kernel
theorem dX6_must_12 : decode cX6_must 12 = .ok (.iconst 1, 1) := by decide +kernel
theorem dX6_must_13 : decode cX6_must 13 = .ok (.goto 4, 3) := by decide +kernel
theorem dX6_must_16 : decode cX6_must 16 = .ok (.iconst 0, 1) := by decide +kernel
theorem dX6_must_17 : decode cX6_must 17 = .ok (.putfield 176, 3) := by decide +kernel
theorem dX6_must_20 : decode cX6_must 20 = .ok (.return_, 1) := by decide +kernel
theorem dX6_isDigit_0 : decode cX6_isDigit 0 = .ok (.iload_n 0, 1) := by decide +kernel
theorem dX6_isDigit_1 : decode cX6_isDigit 1 = .ok (.i2l, 1) := by decide +kernel
theorem dX6_isDigit_2 : decode cX6_isDigit 2 = .ok (.ldc2_w 180, 3) := by decide +kernel
theorem dX6_isDigit_5 : decode cX6_isDigit 5 = .ok (.ldc2_w 182, 3) := by decide +kernel
theorem dX6_isDigit_8 : decode cX6_isDigit 8 = .ok (.invokestatic 51, 3) := by decide +kernel
theorem dX6_isDigit_11 : decode cX6_isDigit 11 = .ok (.ireturn, 1) := by decide +kernel
theorem dX6_takes_0 : decode cX6_takes 0 = .ok (.aload_n 0, 1) := by decide +kernel
theorem dX6_takes_1 : decode cX6_takes 1 = .ok (.aload_n 0, 1) := by decide +kernel
theorem dX6_takes_2 : decode cX6_takes 2 = .ok (.invokevirtual 184, 3) := by decide +kernel
theorem dX6_takes_5 : decode cX6_takes 5 = .ok (.iload_n 1, 1) := by decide +kernel
theorem dX6_takes_6 : decode cX6_takes 6 = .ok (.if_icmp .ne 7, 3) := by decide +kernel
theorem dX6_takes_9 : decode cX6_takes 9 = .ok (.iconst 1, 1) := by decide +kernel
theorem dX6_takes_10 : decode cX6_takes 10 = .ok (.goto 4, 3) := by decide +kernel
theorem dX6_takes_13 : decode cX6_takes 13 = .ok (.iconst 0, 1) := by decide +kernel
theorem dX6_takes_14 : decode cX6_takes 14 = .ok (.invokevirtual 187, 3) := by decide +kernel
theorem dX6_takes_17 : decode cX6_takes 17 = .ok (.aload_n 0, 1) := by decide +kernel
theorem dX6_takes_18 : decode cX6_takes 18 = .ok (.dup, 1) := by decide +kernel
theorem dX6_takes_19 : decode cX6_takes 19 = .ok (.getfield 173, 3) := by decide +kernel
theorem dX6_takes_22 : decode cX6_takes 22 = .ok (.aload_n 0, 1) := by decide +kernel
theorem dX6_takes_23 : decode cX6_takes 23 = .ok (.getfield 176, 3) := by decide +kernel
theorem dX6_takes_26 : decode cX6_takes 26 = .ok (.ifCond .eq 7, 3) := by decide +kernel
theorem dX6_takes_29 : decode cX6_takes 29 = .ok (.iconst 0, 1) := by decide +kernel
theorem dX6_takes_30 : decode cX6_takes 30 = .ok (.goto 4, 3) := by decide +kernel
theorem dX6_takes_33 : decode cX6_takes 33 = .ok (.iconst 1, 1) := by decide +kernel
theorem dX6_takes_34 : decode cX6_takes 34 = .ok (.iadd, 1) := by decide +kernel
theorem dX6_takes_35 : decode cX6_takes 35 = .ok (.putfield 173, 3) := by decide +kernel
theorem dX6_takes_38 : decode cX6_takes 38 = .ok (.return_, 1) := by decide +kernel
theorem dX6_number_0 : decode cX6_number 0 = .ok (.aload_n 0, 1) := by decide +kernel
theorem dX6_number_1 : decode cX6_number 1 = .ok (.aload_n 0, 1) := by decide +kernel
theorem dX6_number_2 : decode cX6_number 2 = .ok (.invokevirtual 184, 3) := by decide +kernel
theorem dX6_number_5 : decode cX6_number 5 = .ok (.invokestatic 190, 3) := by decide +kernel
theorem dX6_number_8 : decode cX6_number 8 = .ok (.invokevirtual 187, 3) := by decide +kernel
theorem dX6_number_11 : decode cX6_number 11 = .ok (.aload_n 0, 1) := by decide +kernel
theorem dX6_number_12 : decode cX6_number 12 = .ok (.getfield 176, 3) := by decide +kernel
theorem dX6_number_15 : decode cX6_number 15 = .ok (.ifCond .eq 5, 3) := by decide +kernel
theorem dX6_number_18 : decode cX6_number 18 = .ok (.iconst 0, 1) := by decide +kernel
theorem dX6_number_19 : decode cX6_number 19 = .ok (.ireturn, 1) := by decide +kernel
theorem dX6_number_20 : decode cX6_number 20 = .ok (.aload_n 0, 1) := by decide +kernel
theorem dX6_number_21 : decode cX6_number 21 = .ok (.getfield 173, 3) := by decide +kernel
theorem dX6_number_24 : decode cX6_number 24 = .ok (.istore_n 2, 1) := by decide +kernel
theorem dX6_number_25 : decode cX6_number 25 = .ok (.aload_n 0, 1) := by decide +kernel
theorem dX6_number_26 : decode cX6_number 26 = .ok (.getfield 29, 3) := by decide +kernel
theorem dX6_number_29 : decode cX6_number 29 = .ok (.aload_n 0, 1) := by decide +kernel
theorem dX6_number_30 : decode cX6_number 30 = .ok (.getfield 173, 3) := by decide +kernel
theorem dX6_number_33 : decode cX6_number 33 = .ok (.iaload, 1) := by decide +kernel
theorem dX6_number_34 : decode cX6_number 34 = .ok (.bipush 48, 2) := by decide +kernel
theorem dX6_number_36 : decode cX6_number 36 = .ok (.isub, 1) := by decide +kernel
theorem dX6_number_37 : decode cX6_number 37 = .ok (.istore_n 3, 1) := by decide +kernel
theorem dX6_number_38 : decode cX6_number 38 = .ok (.aload_n 0, 1) := by decide +kernel
theorem dX6_number_39 : decode cX6_number 39 = .ok (.dup, 1) := by decide +kernel
theorem dX6_number_40 : decode cX6_number 40 = .ok (.getfield 173, 3) := by decide +kernel
theorem dX6_number_43 : decode cX6_number 43 = .ok (.iconst 1, 1) := by decide +kernel
theorem dX6_number_44 : decode cX6_number 44 = .ok (.iadd, 1) := by decide +kernel
theorem dX6_number_45 : decode cX6_number 45 = .ok (.putfield 173, 3) := by decide +kernel
theorem dX6_number_48 : decode cX6_number 48 = .ok (.aload_n 0, 1) := by decide +kernel
theorem dX6_number_49 : decode cX6_number 49 = .ok (.getfield 173, 3) := by decide +kernel
theorem dX6_number_52 : decode cX6_number 52 = .ok (.aload_n 0, 1) := by decide +kernel
theorem dX6_number_53 : decode cX6_number 53 = .ok (.getfield 170, 3) := by decide +kernel
theorem dX6_number_56 : decode cX6_number 56 = .ok (.if_icmp .ge 46, 3) := by decide +kernel
theorem dX6_number_59 : decode cX6_number 59 = .ok (.aload_n 0, 1) := by decide +kernel
theorem dX6_number_60 : decode cX6_number 60 = .ok (.getfield 29, 3) := by decide +kernel
theorem dX6_number_63 : decode cX6_number 63 = .ok (.aload_n 0, 1) := by decide +kernel
theorem dX6_number_64 : decode cX6_number 64 = .ok (.getfield 173, 3) := by decide +kernel
theorem dX6_number_67 : decode cX6_number 67 = .ok (.iaload, 1) := by decide +kernel
theorem dX6_number_68 : decode cX6_number 68 = .ok (.invokestatic 190, 3) := by decide +kernel
theorem dX6_number_71 : decode cX6_number 71 = .ok (.ifCond .eq 31, 3) := by decide +kernel
theorem dX6_number_74 : decode cX6_number 74 = .ok (.bipush 10, 2) := by decide +kernel
theorem dX6_number_76 : decode cX6_number 76 = .ok (.iload_n 3, 1) := by decide +kernel
theorem dX6_number_77 : decode cX6_number 77 = .ok (.imul, 1) := by decide +kernel
theorem dX6_number_78 : decode cX6_number 78 = .ok (.aload_n 0, 1) := by decide +kernel
theorem dX6_number_79 : decode cX6_number 79 = .ok (.getfield 29, 3) := by decide +kernel
theorem dX6_number_82 : decode cX6_number 82 = .ok (.aload_n 0, 1) := by decide +kernel
theorem dX6_number_83 : decode cX6_number 83 = .ok (.getfield 173, 3) := by decide +kernel
theorem dX6_number_86 : decode cX6_number 86 = .ok (.iaload, 1) := by decide +kernel
theorem dX6_number_87 : decode cX6_number 87 = .ok (.iadd, 1) := by decide +kernel
theorem dX6_number_88 : decode cX6_number 88 = .ok (.bipush 48, 2) := by decide +kernel
theorem dX6_number_90 : decode cX6_number 90 = .ok (.isub, 1) := by decide +kernel
theorem dX6_number_91 : decode cX6_number 91 = .ok (.istore_n 3, 1) := by decide +kernel
theorem dX6_number_92 : decode cX6_number 92 = .ok (.aload_n 0, 1) := by decide +kernel
theorem dX6_number_93 : decode cX6_number 93 = .ok (.dup, 1) := by decide +kernel
theorem dX6_number_94 : decode cX6_number 94 = .ok (.getfield 173, 3) := by decide +kernel
theorem dX6_number_97 : decode cX6_number 97 = .ok (.iconst 1, 1) := by decide +kernel
theorem dX6_number_98 : decode cX6_number 98 = .ok (.iadd, 1) := by decide +kernel
theorem dX6_number_99 : decode cX6_number 99 = .ok (.putfield 173, 3) := by decide +kernel
theorem dX6_number_102 : decode cX6_number 102 = .ok (.iload_n 3, 1) := by decide +kernel
theorem dX6_number_103 : decode cX6_number 103 = .ok (.iload_n 1, 1) := by decide +kernel
theorem dX6_number_104 : decode cX6_number 104 = .ok (.if_icmp .le 13, 3) := by decide +kernel
theorem dX6_number_107 : decode cX6_number 107 = .ok (.aload_n 0, 1) := by decide +kernel
theorem dX6_number_108 : decode cX6_number 108 = .ok (.iload_n 2, 1) := by decide +kernel
theorem dX6_number_109 : decode cX6_number 109 = .ok (.putfield 173, 3) := by decide +kernel
theorem dX6_number_112 : decode cX6_number 112 = .ok (.aload_n 0, 1) := by decide +kernel
theorem dX6_number_113 : decode cX6_number 113 = .ok (.iconst 1, 1) := by decide +kernel
theorem dX6_number_114 : decode cX6_number 114 = .ok (.putfield 176, 3) := by decide +kernel
theorem dX6_number_117 : decode cX6_number 117 = .ok (.iload_n 3, 1) := by decide +kernel
theorem dX6_number_118 : decode cX6_number 118 = .ok (.ireturn, 1) := by decide +kernel
theorem dX6_readBeast_0 : decode cX6_readBeast 0 = .ok (.aload_n 0, 1) := by decide +kernel
theorem dX6_readBeast_1 : decode cX6_readBeast 1 = .ok (.invokevirtual 184, 3) := by decide +kernel
theorem dX6_readBeast_4 : decode cX6_readBeast 4 = .ok (.istore_n 2, 1) := by decide +kernel
theorem dX6_readBeast_5 : decode cX6_readBeast 5 = .ok (.iload_n 2, 1) := by decide +kernel
theorem dX6_readBeast_6 : decode cX6_readBeast 6 = .ok (.bipush 112, 2) := by decide +kernel
theorem dX6_readBeast_8 : decode cX6_readBeast 8 = .ok (.if_icmp .ne 7, 3) := by decide +kernel
theorem dX6_readBeast_11 : decode cX6_readBeast 11 = .ok (.iconst 0, 1) := by decide +kernel
theorem dX6_readBeast_12 : decode cX6_readBeast 12 = .ok (.goto 34, 3) := by decide +kernel
theorem dX6_readBeast_15 : decode cX6_readBeast 15 = .ok (.iload_n 2, 1) := by decide +kernel
theorem dX6_readBeast_16 : decode cX6_readBeast 16 = .ok (.bipush 109, 2) := by decide +kernel
theorem dX6_readBeast_18 : decode cX6_readBeast 18 = .ok (.if_icmp .ne 7, 3) := by decide +kernel
theorem dX6_readBeast_21 : decode cX6_readBeast 21 = .ok (.iconst 1, 1) := by decide +kernel
theorem dX6_readBeast_22 : decode cX6_readBeast 22 = .ok (.goto 24, 3) := by decide +kernel
theorem dX6_readBeast_25 : decode cX6_readBeast 25 = .ok (.iload_n 2, 1) := by decide +kernel
theorem dX6_readBeast_26 : decode cX6_readBeast 26 = .ok (.bipush 121, 2) := by decide +kernel
theorem dX6_readBeast_28 : decode cX6_readBeast 28 = .ok (.if_icmp .ne 7, 3) := by decide +kernel
theorem dX6_readBeast_31 : decode cX6_readBeast 31 = .ok (.iconst 2, 1) := by decide +kernel
theorem dX6_readBeast_32 : decode cX6_readBeast 32 = .ok (.goto 14, 3) := by decide +kernel
theorem dX6_readBeast_35 : decode cX6_readBeast 35 = .ok (.iload_n 2, 1) := by decide +kernel
theorem dX6_readBeast_36 : decode cX6_readBeast 36 = .ok (.bipush 103, 2) := by decide +kernel
theorem dX6_readBeast_38 : decode cX6_readBeast 38 = .ok (.if_icmp .ne 7, 3) := by decide +kernel
theorem dX6_readBeast_41 : decode cX6_readBeast 41 = .ok (.iconst 3, 1) := by decide +kernel
theorem dX6_readBeast_42 : decode cX6_readBeast 42 = .ok (.goto 4, 3) := by decide +kernel
theorem dX6_readBeast_45 : decode cX6_readBeast 45 = .ok (.iconst (-1), 1) := by decide +kernel
theorem dX6_readBeast_46 : decode cX6_readBeast 46 = .ok (.istore_n 3, 1) := by decide +kernel
theorem dX6_readBeast_47 : decode cX6_readBeast 47 = .ok (.aload_n 0, 1) := by decide +kernel
theorem dX6_readBeast_48 : decode cX6_readBeast 48 = .ok (.iload_n 3, 1) := by decide +kernel
theorem dX6_readBeast_49 : decode cX6_readBeast 49 = .ok (.ifCond .lt 7, 3) := by decide +kernel
theorem dX6_readBeast_52 : decode cX6_readBeast 52 = .ok (.iconst 1, 1) := by decide +kernel
theorem dX6_readBeast_53 : decode cX6_readBeast 53 = .ok (.goto 4, 3) := by decide +kernel
theorem dX6_readBeast_56 : decode cX6_readBeast 56 = .ok (.iconst 0, 1) := by decide +kernel
theorem dX6_readBeast_57 : decode cX6_readBeast 57 = .ok (.invokevirtual 187, 3) := by decide +kernel
theorem dX6_readBeast_60 : decode cX6_readBeast 60 = .ok (.aload_n 0, 1) := by decide +kernel
theorem dX6_readBeast_61 : decode cX6_readBeast 61 = .ok (.getfield 176, 3) := by decide +kernel
theorem dX6_readBeast_64 : decode cX6_readBeast 64 = .ok (.ifCond .ne 31, 3) := by decide +kernel
theorem dX6_readBeast_67 : decode cX6_readBeast 67 = .ok (.aload_n 0, 1) := by decide +kernel
theorem dX6_readBeast_68 : decode cX6_readBeast 68 = .ok (.dup, 1) := by decide +kernel
theorem dX6_readBeast_69 : decode cX6_readBeast 69 = .ok (.getfield 173, 3) := by decide +kernel
theorem dX6_readBeast_72 : decode cX6_readBeast 72 = .ok (.iconst 1, 1) := by decide +kernel
theorem dX6_readBeast_73 : decode cX6_readBeast 73 = .ok (.iadd, 1) := by decide +kernel
theorem dX6_readBeast_74 : decode cX6_readBeast 74 = .ok (.putfield 173, 3) := by decide +kernel
theorem dX6_readBeast_77 : decode cX6_readBeast 77 = .ok (.aload_n 0, 1) := by decide +kernel
theorem dX6_readBeast_78 : decode cX6_readBeast 78 = .ok (.aload_n 0, 1) := by decide +kernel
theorem dX6_readBeast_79 : decode cX6_readBeast 79 = .ok (.invokevirtual 184, 3) := by decide +kernel
theorem dX6_readBeast_82 : decode cX6_readBeast 82 = .ok (.i2l, 1) := by decide +kernel
theorem dX6_readBeast_83 : decode cX6_readBeast 83 = .ok (.ldc2_w 193, 3) := by decide +kernel
theorem dX6_readBeast_86 : decode cX6_readBeast 86 = .ok (.ldc2_w 182, 3) := by decide +kernel
theorem dX6_readBeast_89 : decode cX6_readBeast 89 = .ok (.invokestatic 51, 3) := by decide +kernel
theorem dX6_readBeast_92 : decode cX6_readBeast 92 = .ok (.invokevirtual 187, 3) := by decide +kernel
theorem dX6_readBeast_95 : decode cX6_readBeast 95 = .ok (.aload_n 0, 1) := by decide +kernel
theorem dX6_readBeast_96 : decode cX6_readBeast 96 = .ok (.getfield 176, 3) := by decide +kernel
theorem dX6_readBeast_99 : decode cX6_readBeast 99 = .ok (.ifCond .ne 87, 3) := by decide +kernel
theorem dX6_readBeast_102 : decode cX6_readBeast 102 = .ok (.aload_n 0, 1) := by decide +kernel
theorem dX6_readBeast_103 : decode cX6_readBeast 103 = .ok (.getfield 32, 3) := by decide +kernel
theorem dX6_readBeast_106 : decode cX6_readBeast 106 = .ok (.iconst 3, 1) := by decide +kernel
theorem dX6_readBeast_107 : decode cX6_readBeast 107 = .ok (.iload_n 1, 1) := by decide +kernel
theorem dX6_readBeast_108 : decode cX6_readBeast 108 = .ok (.imul, 1) := by decide +kernel
theorem dX6_readBeast_109 : decode cX6_readBeast 109 = .ok (.iload_n 3, 1) := by decide +kernel
theorem dX6_readBeast_110 : decode cX6_readBeast 110 = .ok (.iastore, 1) := by decide +kernel
theorem dX6_readBeast_111 : decode cX6_readBeast 111 = .ok (.aload_n 0, 1) := by decide +kernel
theorem dX6_readBeast_112 : decode cX6_readBeast 112 = .ok (.getfield 32, 3) := by decide +kernel
theorem dX6_readBeast_115 : decode cX6_readBeast 115 = .ok (.iconst 3, 1) := by decide +kernel
theorem dX6_readBeast_116 : decode cX6_readBeast 116 = .ok (.iload_n 1, 1) := by decide +kernel
theorem dX6_readBeast_117 : decode cX6_readBeast 117 = .ok (.imul, 1) := by decide +kernel
theorem dX6_readBeast_118 : decode cX6_readBeast 118 = .ok (.iconst 1, 1) := by decide +kernel
theorem dX6_readBeast_119 : decode cX6_readBeast 119 = .ok (.iadd, 1) := by decide +kernel
theorem dX6_readBeast_120 : decode cX6_readBeast 120 = .ok (.aload_n 0, 1) := by decide +kernel
theorem dX6_readBeast_121 : decode cX6_readBeast 121 = .ok (.getfield 29, 3) := by decide +kernel
theorem dX6_readBeast_124 : decode cX6_readBeast 124 = .ok (.aload_n 0, 1) := by decide +kernel
theorem dX6_readBeast_125 : decode cX6_readBeast 125 = .ok (.getfield 173, 3) := by decide +kernel
theorem dX6_readBeast_128 : decode cX6_readBeast 128 = .ok (.iaload, 1) := by decide +kernel
theorem dX6_readBeast_129 : decode cX6_readBeast 129 = .ok (.bipush 48, 2) := by decide +kernel
theorem dX6_readBeast_131 : decode cX6_readBeast 131 = .ok (.isub, 1) := by decide +kernel
theorem dX6_readBeast_132 : decode cX6_readBeast 132 = .ok (.iastore, 1) := by decide +kernel
theorem dX6_readBeast_133 : decode cX6_readBeast 133 = .ok (.aload_n 0, 1) := by decide +kernel
theorem dX6_readBeast_134 : decode cX6_readBeast 134 = .ok (.dup, 1) := by decide +kernel
theorem dX6_readBeast_135 : decode cX6_readBeast 135 = .ok (.getfield 173, 3) := by decide +kernel
theorem dX6_readBeast_138 : decode cX6_readBeast 138 = .ok (.iconst 1, 1) := by decide +kernel
theorem dX6_readBeast_139 : decode cX6_readBeast 139 = .ok (.iadd, 1) := by decide +kernel
theorem dX6_readBeast_140 : decode cX6_readBeast 140 = .ok (.putfield 173, 3) := by decide +kernel
theorem dX6_readBeast_143 : decode cX6_readBeast 143 = .ok (.aload_n 0, 1) := by decide +kernel
theorem dX6_readBeast_144 : decode cX6_readBeast 144 = .ok (.getfield 32, 3) := by decide +kernel
theorem dX6_readBeast_147 : decode cX6_readBeast 147 = .ok (.iconst 3, 1) := by decide +kernel
theorem dX6_readBeast_148 : decode cX6_readBeast 148 = .ok (.iload_n 1, 1) := by decide +kernel
theorem dX6_readBeast_149 : decode cX6_readBeast 149 = .ok (.imul, 1) := by decide +kernel
theorem dX6_readBeast_150 : decode cX6_readBeast 150 = .ok (.iconst 2, 1) := by decide +kernel
theorem dX6_readBeast_151 : decode cX6_readBeast 151 = .ok (.iadd, 1) := by decide +kernel
theorem dX6_readBeast_152 : decode cX6_readBeast 152 = .ok (.aload_n 0, 1) := by decide +kernel
theorem dX6_readBeast_153 : decode cX6_readBeast 153 = .ok (.invokevirtual 184, 3) := by decide +kernel
theorem dX6_readBeast_156 : decode cX6_readBeast 156 = .ok (.bipush 98, 2) := by decide +kernel
theorem dX6_readBeast_158 : decode cX6_readBeast 158 = .ok (.if_icmp .ne 7, 3) := by decide +kernel
theorem dX6_readBeast_161 : decode cX6_readBeast 161 = .ok (.iconst 1, 1) := by decide +kernel
theorem dX6_readBeast_162 : decode cX6_readBeast 162 = .ok (.goto 4, 3) := by decide +kernel
theorem dX6_readBeast_165 : decode cX6_readBeast 165 = .ok (.iconst 0, 1) := by decide +kernel
theorem dX6_readBeast_166 : decode cX6_readBeast 166 = .ok (.iastore, 1) := by decide +kernel
theorem dX6_readBeast_167 : decode cX6_readBeast 167 = .ok (.aload_n 0, 1) := by decide +kernel
theorem dX6_readBeast_168 : decode cX6_readBeast 168 = .ok (.dup, 1) := by decide +kernel
theorem dX6_readBeast_169 : decode cX6_readBeast 169 = .ok (.getfield 173, 3) := by decide +kernel
theorem dX6_readBeast_172 : decode cX6_readBeast 172 = .ok (.aload_n 0, 1) := by decide +kernel
theorem dX6_readBeast_173 : decode cX6_readBeast 173 = .ok (.getfield 32, 3) := by decide +kernel
theorem dX6_readBeast_176 : decode cX6_readBeast 176 = .ok (.iconst 3, 1) := by decide +kernel
theorem dX6_readBeast_177 : decode cX6_readBeast 177 = .ok (.iload_n 1, 1) := by decide +kernel
theorem dX6_readBeast_178 : decode cX6_readBeast 178 = .ok (.imul, 1) := by decide +kernel
theorem dX6_readBeast_179 : decode cX6_readBeast 179 = .ok (.iconst 2, 1) := by decide +kernel
theorem dX6_readBeast_180 : decode cX6_readBeast 180 = .ok (.iadd, 1) := by decide +kernel
theorem dX6_readBeast_181 : decode cX6_readBeast 181 = .ok (.iaload, 1) := by decide +kernel
theorem dX6_readBeast_182 : decode cX6_readBeast 182 = .ok (.iadd, 1) := by decide +kernel
theorem dX6_readBeast_183 : decode cX6_readBeast 183 = .ok (.putfield 173, 3) := by decide +kernel
theorem dX6_readBeast_186 : decode cX6_readBeast 186 = .ok (.return_, 1) := by decide +kernel
theorem dX6_caravan_0 : decode cX6_caravan 0 = .ok (.aload_n 0, 1) := by decide +kernel
theorem dX6_caravan_1 : decode cX6_caravan 1 = .ok (.iconst 0, 1) := by decide +kernel
theorem dX6_caravan_2 : decode cX6_caravan 2 = .ok (.putfield 173, 3) := by decide +kernel
theorem dX6_caravan_5 : decode cX6_caravan 5 = .ok (.aload_n 0, 1) := by decide +kernel
theorem dX6_caravan_6 : decode cX6_caravan 6 = .ok (.iconst 0, 1) := by decide +kernel
theorem dX6_caravan_7 : decode cX6_caravan 7 = .ok (.putfield 176, 3) := by decide +kernel
theorem dX6_caravan_10 : decode cX6_caravan 10 = .ok (.aload_n 0, 1) := by decide +kernel
theorem dX6_caravan_11 : decode cX6_caravan 11 = .ok (.bipush 60, 2) := by decide +kernel
theorem dX6_caravan_13 : decode cX6_caravan 13 = .ok (.invokevirtual 195, 3) := by decide +kernel
theorem dX6_caravan_16 : decode cX6_caravan 16 = .ok (.istore_n 1, 1) := by decide +kernel
theorem dX6_caravan_17 : decode cX6_caravan 17 = .ok (.aload_n 0, 1) := by decide +kernel
theorem dX6_caravan_18 : decode cX6_caravan 18 = .ok (.bipush 44, 2) := by decide +kernel
theorem dX6_caravan_20 : decode cX6_caravan 20 = .ok (.invokevirtual 198, 3) := by decide +kernel
theorem dX6_caravan_23 : decode cX6_caravan 23 = .ok (.aload_n 0, 1) := by decide +kernel
theorem dX6_caravan_24 : decode cX6_caravan 24 = .ok (.bipush 20, 2) := by decide +kernel
theorem dX6_caravan_26 : decode cX6_caravan 26 = .ok (.invokevirtual 195, 3) := by decide +kernel
theorem dX6_caravan_29 : decode cX6_caravan 29 = .ok (.istore_n 2, 1) := by decide +kernel
theorem dX6_caravan_30 : decode cX6_caravan 30 = .ok (.aload_n 0, 1) := by decide +kernel
theorem dX6_caravan_31 : decode cX6_caravan 31 = .ok (.bipush 59, 2) := by decide +kernel
theorem dX6_caravan_33 : decode cX6_caravan 33 = .ok (.invokevirtual 198, 3) := by decide +kernel
theorem dX6_caravan_36 : decode cX6_caravan 36 = .ok (.iconst 0, 1) := by decide +kernel
theorem dX6_caravan_37 : decode cX6_caravan 37 = .ok (.istore_n 3, 1) := by decide +kernel
theorem dX6_caravan_38 : decode cX6_caravan 38 = .ok (.aload_n 0, 1) := by decide +kernel
theorem dX6_caravan_39 : decode cX6_caravan 39 = .ok (.getfield 176, 3) := by decide +kernel
theorem dX6_caravan_42 : decode cX6_caravan 42 = .ok (.ifCond .ne 50, 3) := by decide +kernel
theorem dX6_caravan_45 : decode cX6_caravan 45 = .ok (.iload_n 3, 1) := by decide +kernel
theorem dX6_caravan_46 : decode cX6_caravan 46 = .ok (.ifCond .eq 10, 3) := by decide +kernel
theorem dX6_caravan_49 : decode cX6_caravan 49 = .ok (.aload_n 0, 1) := by decide +kernel
theorem dX6_caravan_50 : decode cX6_caravan 50 = .ok (.invokevirtual 184, 3) := by decide +kernel
theorem dX6_caravan_53 : decode cX6_caravan 53 = .ok (.ifCond .eq 39, 3) := by decide +kernel
theorem dX6_caravan_56 : decode cX6_caravan 56 = .ok (.iload_n 3, 1) := by decide +kernel
theorem dX6_caravan_57 : decode cX6_caravan 57 = .ok (.ifCond .le 24, 3) := by decide +kernel
theorem dX6_caravan_60 : decode cX6_caravan 60 = .ok (.aload_n 0, 1) := by decide +kernel
theorem dX6_caravan_61 : decode cX6_caravan 61 = .ok (.iload_n 3, 1) := by decide +kernel
theorem dX6_caravan_62 : decode cX6_caravan 62 = .ok (.bipush 7, 2) := by decide +kernel
theorem dX6_caravan_64 : decode cX6_caravan 64 = .ok (.if_icmp .ge 7, 3) := by decide +kernel
theorem dX6_caravan_67 : decode cX6_caravan 67 = .ok (.iconst 1, 1) := by decide +kernel
theorem dX6_caravan_68 : decode cX6_caravan 68 = .ok (.goto 4, 3) := by decide +kernel
theorem dX6_caravan_71 : decode cX6_caravan 71 = .ok (.iconst 0, 1) := by decide +kernel
theorem dX6_caravan_72 : decode cX6_caravan 72 = .ok (.invokevirtual 187, 3) := by decide +kernel
theorem dX6_caravan_75 : decode cX6_caravan 75 = .ok (.aload_n 0, 1) := by decide +kernel
theorem dX6_caravan_76 : decode cX6_caravan 76 = .ok (.bipush 44, 2) := by decide +kernel
theorem dX6_caravan_78 : decode cX6_caravan 78 = .ok (.invokevirtual 198, 3) := by decide +kernel
theorem dX6_caravan_81 : decode cX6_caravan 81 = .ok (.aload_n 0, 1) := by decide +kernel
theorem dX6_caravan_82 : decode cX6_caravan 82 = .ok (.iload_n 3, 1) := by decide +kernel
theorem dX6_caravan_83 : decode cX6_caravan 83 = .ok (.invokevirtual 201, 3) := by decide +kernel
theorem dX6_caravan_86 : decode cX6_caravan 86 = .ok (.iinc 3 1, 3) := by decide +kernel
theorem dX6_caravan_89 : decode cX6_caravan 89 = .ok (.goto (-51), 3) := by decide +kernel
theorem dX6_caravan_92 : decode cX6_caravan 92 = .ok (.aload_n 0, 1) := by decide +kernel
theorem dX6_caravan_93 : decode cX6_caravan 93 = .ok (.iconst 0, 1) := by decide +kernel
theorem dX6_caravan_94 : decode cX6_caravan 94 = .ok (.putfield 170, 3) := by decide +kernel
theorem dX6_caravan_97 : decode cX6_caravan 97 = .ok (.aload_n 0, 1) := by decide +kernel
theorem dX6_caravan_98 : decode cX6_caravan 98 = .ok (.getfield 176, 3) := by decide +kernel
theorem dX6_caravan_101 : decode cX6_caravan 101 = .ok (.ifCond .eq 11, 3) := by decide +kernel
theorem dX6_caravan_104 : decode cX6_caravan 104 = .ok (.bipush (-20), 2) := by decide +kernel
theorem dX6_caravan_106 : decode cX6_caravan 106 = .ok (.aload_n 0, 1) := by decide +kernel
theorem dX6_caravan_107 : decode cX6_caravan 107 = .ok (.getfield 173, 3) := by decide +kernel
theorem dX6_caravan_110 : decode cX6_caravan 110 = .ok (.isub, 1) := by decide +kernel
theorem dX6_caravan_111 : decode cX6_caravan 111 = .ok (.ireturn, 1) := by decide +kernel
theorem dX6_caravan_112 : decode cX6_caravan 112 = .ok (.iconst 0, 1) := by decide +kernel
theorem dX6_caravan_113 : decode cX6_caravan 113 = .ok (.istore 4, 2) := by decide +kernel
theorem dX6_caravan_115 : decode cX6_caravan 115 = .ok (.iload 4, 2) := by decide +kernel
theorem dX6_caravan_117 : decode cX6_caravan 117 = .ok (.bipush 7, 2) := by decide +kernel
theorem dX6_caravan_119 : decode cX6_caravan 119 = .ok (.if_icmp .ge 69, 3) := by decide +kernel
theorem dX6_caravan_122 : decode cX6_caravan 122 = .ok (.iconst 0, 1) := by decide +kernel
theorem dX6_caravan_123 : decode cX6_caravan 123 = .ok (.istore 5, 2) := by decide +kernel
theorem dX6_caravan_125 : decode cX6_caravan 125 = .ok (.iload 5, 2) := by decide +kernel
theorem dX6_caravan_127 : decode cX6_caravan 127 = .ok (.bipush 7, 2) := by decide +kernel
theorem dX6_caravan_129 : decode cX6_caravan 129 = .ok (.if_icmp .ge 53, 3) := by decide +kernel
theorem dX6_caravan_132 : decode cX6_caravan 132 = .ok (.aload_n 0, 1) := by decide +kernel
theorem dX6_caravan_133 : decode cX6_caravan 133 = .ok (.getfield 7, 3) := by decide +kernel
theorem dX6_caravan_136 : decode cX6_caravan 136 = .ok (.bipush 14, 2) := by decide +kernel
theorem dX6_caravan_138 : decode cX6_caravan 138 = .ok (.bipush 7, 2) := by decide +kernel
theorem dX6_caravan_140 : decode cX6_caravan 140 = .ok (.iload 4, 2) := by decide +kernel
theorem dX6_caravan_142 : decode cX6_caravan 142 = .ok (.imul, 1) := by decide +kernel
theorem dX6_caravan_143 : decode cX6_caravan 143 = .ok (.iadd, 1) := by decide +kernel
theorem dX6_caravan_144 : decode cX6_caravan 144 = .ok (.iload 5, 2) := by decide +kernel
theorem dX6_caravan_146 : decode cX6_caravan 146 = .ok (.iadd, 1) := by decide +kernel
theorem dX6_caravan_147 : decode cX6_caravan 147 = .ok (.iload 4, 2) := by decide +kernel
theorem dX6_caravan_149 : decode cX6_caravan 149 = .ok (.iload_n 3, 1) := by decide +kernel
theorem dX6_caravan_150 : decode cX6_caravan 150 = .ok (.if_icmp .ge 24, 3) := by decide +kernel
theorem dX6_caravan_153 : decode cX6_caravan 153 = .ok (.iload 5, 2) := by decide +kernel
theorem dX6_caravan_155 : decode cX6_caravan 155 = .ok (.iconst 3, 1) := by decide +kernel
theorem dX6_caravan_156 : decode cX6_caravan 156 = .ok (.if_icmp .ge 18, 3) := by decide +kernel
theorem dX6_caravan_159 : decode cX6_caravan 159 = .ok (.aload_n 0, 1) := by decide +kernel
theorem dX6_caravan_160 : decode cX6_caravan 160 = .ok (.getfield 32, 3) := by decide +kernel
theorem dX6_caravan_163 : decode cX6_caravan 163 = .ok (.iconst 3, 1) := by decide +kernel
theorem dX6_caravan_164 : decode cX6_caravan 164 = .ok (.iload 4, 2) := by decide +kernel
theorem dX6_caravan_166 : decode cX6_caravan 166 = .ok (.imul, 1) := by decide +kernel
theorem dX6_caravan_167 : decode cX6_caravan 167 = .ok (.iload 5, 2) := by decide +kernel
theorem dX6_caravan_169 : decode cX6_caravan 169 = .ok (.iadd, 1) := by decide +kernel
theorem dX6_caravan_170 : decode cX6_caravan 170 = .ok (.iaload, 1) := by decide +kernel
theorem dX6_caravan_171 : decode cX6_caravan 171 = .ok (.goto 4, 3) := by decide +kernel
theorem dX6_caravan_174 : decode cX6_caravan 174 = .ok (.iconst 0, 1) := by decide +kernel
theorem dX6_caravan_175 : decode cX6_caravan 175 = .ok (.iastore, 1) := by decide +kernel
theorem dX6_caravan_176 : decode cX6_caravan 176 = .ok (.iinc 5 1, 3) := by decide +kernel
theorem dX6_caravan_179 : decode cX6_caravan 179 = .ok (.goto (-54), 3) := by decide +kernel
theorem dX6_caravan_182 : decode cX6_caravan 182 = .ok (.iinc 4 1, 3) := by decide +kernel
theorem dX6_caravan_185 : decode cX6_caravan 185 = .ok (.goto (-70), 3) := by decide +kernel
theorem dX6_caravan_188 : decode cX6_caravan 188 = .ok (.aload_n 0, 1) := by decide +kernel
theorem dX6_caravan_189 : decode cX6_caravan 189 = .ok (.getfield 7, 3) := by decide +kernel
theorem dX6_caravan_192 : decode cX6_caravan 192 = .ok (.bipush 12, 2) := by decide +kernel
theorem dX6_caravan_194 : decode cX6_caravan 194 = .ok (.iload_n 3, 1) := by decide +kernel
theorem dX6_caravan_195 : decode cX6_caravan 195 = .ok (.iastore, 1) := by decide +kernel
theorem dX6_caravan_196 : decode cX6_caravan 196 = .ok (.aload_n 0, 1) := by decide +kernel
theorem dX6_caravan_197 : decode cX6_caravan 197 = .ok (.iconst (-1), 1) := by decide +kernel
theorem dX6_caravan_198 : decode cX6_caravan 198 = .ok (.putfield 16, 3) := by decide +kernel
theorem dX6_caravan_201 : decode cX6_caravan 201 = .ok (.aload_n 0, 1) := by decide +kernel
theorem dX6_caravan_202 : decode cX6_caravan 202 = .ok (.getfield 7, 3) := by decide +kernel
theorem dX6_caravan_205 : decode cX6_caravan 205 = .ok (.iconst 0, 1) := by decide +kernel
theorem dX6_caravan_206 : decode cX6_caravan 206 = .ok (.iload_n 1, 1) := by decide +kernel
theorem dX6_caravan_207 : decode cX6_caravan 207 = .ok (.iastore, 1) := by decide +kernel
theorem dX6_caravan_208 : decode cX6_caravan 208 = .ok (.aload_n 0, 1) := by decide +kernel
theorem dX6_caravan_209 : decode cX6_caravan 209 = .ok (.getfield 7, 3) := by decide +kernel
theorem dX6_caravan_212 : decode cX6_caravan 212 = .ok (.iconst 1, 1) := by decide +kernel
theorem dX6_caravan_213 : decode cX6_caravan 213 = .ok (.iload_n 2, 1) := by decide +kernel
theorem dX6_caravan_214 : decode cX6_caravan 214 = .ok (.iastore, 1) := by decide +kernel
theorem dX6_caravan_215 : decode cX6_caravan 215 = .ok (.aload_n 0, 1) := by decide +kernel
theorem dX6_caravan_216 : decode cX6_caravan 216 = .ok (.getfield 7, 3) := by decide +kernel
theorem dX6_caravan_219 : decode cX6_caravan 219 = .ok (.bipush 7, 2) := by decide +kernel
theorem dX6_caravan_221 : decode cX6_caravan 221 = .ok (.iconst 0, 1) := by decide +kernel
theorem dX6_caravan_222 : decode cX6_caravan 222 = .ok (.iastore, 1) := by decide +kernel
theorem dX6_caravan_223 : decode cX6_caravan 223 = .ok (.aload_n 0, 1) := by decide +kernel
theorem dX6_caravan_224 : decode cX6_caravan 224 = .ok (.getfield 7, 3) := by decide +kernel
theorem dX6_caravan_227 : decode cX6_caravan 227 = .ok (.bipush 8, 2) := by decide +kernel
theorem dX6_caravan_229 : decode cX6_caravan 229 = .ok (.iconst 0, 1) := by decide +kernel
theorem dX6_caravan_230 : decode cX6_caravan 230 = .ok (.iastore, 1) := by decide +kernel
theorem dX6_caravan_231 : decode cX6_caravan 231 = .ok (.aload_n 0, 1) := by decide +kernel
theorem dX6_caravan_232 : decode cX6_caravan 232 = .ok (.getfield 7, 3) := by decide +kernel
theorem dX6_caravan_235 : decode cX6_caravan 235 = .ok (.bipush 9, 2) := by decide +kernel
theorem dX6_caravan_237 : decode cX6_caravan 237 = .ok (.iconst 0, 1) := by decide +kernel
theorem dX6_caravan_238 : decode cX6_caravan 238 = .ok (.iastore, 1) := by decide +kernel
theorem dX6_caravan_239 : decode cX6_caravan 239 = .ok (.aload_n 0, 1) := by decide +kernel
theorem dX6_caravan_240 : decode cX6_caravan 240 = .ok (.getfield 7, 3) := by decide +kernel
theorem dX6_caravan_243 : decode cX6_caravan 243 = .ok (.bipush 10, 2) := by decide +kernel
theorem dX6_caravan_245 : decode cX6_caravan 245 = .ok (.bipush (-4), 2) := by decide +kernel
theorem dX6_caravan_247 : decode cX6_caravan 247 = .ok (.iastore, 1) := by decide +kernel
theorem dX6_caravan_248 : decode cX6_caravan 248 = .ok (.aload_n 0, 1) := by decide +kernel
theorem dX6_caravan_249 : decode cX6_caravan 249 = .ok (.getfield 7, 3) := by decide +kernel
theorem dX6_caravan_252 : decode cX6_caravan 252 = .ok (.bipush 11, 2) := by decide +kernel
theorem dX6_caravan_254 : decode cX6_caravan 254 = .ok (.iconst 0, 1) := by decide +kernel
theorem dX6_caravan_255 : decode cX6_caravan 255 = .ok (.iastore, 1) := by decide +kernel
theorem dX6_caravan_256 : decode cX6_caravan 256 = .ok (.aload_n 0, 1) := by decide +kernel
theorem dX6_caravan_257 : decode cX6_caravan 257 = .ok (.iconst 0, 1) := by decide +kernel
theorem dX6_caravan_258 : decode cX6_caravan 258 = .ok (.putfield 74, 3) := by decide +kernel
theorem dX6_caravan_261 : decode cX6_caravan 261 = .ok (.iload_n 3, 1) := by decide +kernel
theorem dX6_caravan_262 : decode cX6_caravan 262 = .ok (.ireturn, 1) := by decide +kernel
theorem dX6_image_0 : decode cX6_image 0 = .ok (.iconst 0, 1) := by decide +kernel
theorem dX6_image_1 : decode cX6_image 1 = .ok (.istore_n 1, 1) := by decide +kernel
theorem dX6_image_2 : decode cX6_image 2 = .ok (.iload_n 1, 1) := by decide +kernel
theorem dX6_image_3 : decode cX6_image 3 = .ok (.bipush 63, 2) := by decide +kernel
theorem dX6_image_5 : decode cX6_image 5 = .ok (.if_icmp .ge 21, 3) := by decide +kernel
theorem dX6_image_8 : decode cX6_image 8 = .ok (.aload_n 0, 1) := by decide +kernel
theorem dX6_image_9 : decode cX6_image 9 = .ok (.getfield 35, 3) := by decide +kernel
theorem dX6_image_12 : decode cX6_image 12 = .ok (.iload_n 1, 1) := by decide +kernel
theorem dX6_image_13 : decode cX6_image 13 = .ok (.aload_n 0, 1) := by decide +kernel
theorem dX6_image_14 : decode cX6_image 14 = .ok (.getfield 7, 3) := by decide +kernel
theorem dX6_image_17 : decode cX6_image 17 = .ok (.iload_n 1, 1) := by decide +kernel
theorem dX6_image_18 : decode cX6_image 18 = .ok (.iaload, 1) := by decide +kernel
theorem dX6_image_19 : decode cX6_image 19 = .ok (.iastore, 1) := by decide +kernel
theorem dX6_image_20 : decode cX6_image 20 = .ok (.iinc 1 1, 3) := by decide +kernel
theorem dX6_image_23 : decode cX6_image 23 = .ok (.goto (-21), 3) := by decide +kernel
theorem dX6_image_26 : decode cX6_image 26 = .ok (.iconst 0, 1) := by decide +kernel
theorem dX6_image_27 : decode cX6_image 27 = .ok (.istore_n 1, 1) := by decide +kernel
theorem dX6_image_28 : decode cX6_image 28 = .ok (.iload_n 1, 1) := by decide +kernel
theorem dX6_image_29 : decode cX6_image 29 = .ok (.sipush 504, 3) := by decide +kernel
theorem dX6_image_32 : decode cX6_image 32 = .ok (.if_icmp .ge 24, 3) := by decide +kernel
theorem dX6_image_35 : decode cX6_image 35 = .ok (.aload_n 0, 1) := by decide +kernel
theorem dX6_image_36 : decode cX6_image 36 = .ok (.getfield 35, 3) := by decide +kernel
theorem dX6_image_39 : decode cX6_image 39 = .ok (.bipush 63, 2) := by decide +kernel
theorem dX6_image_41 : decode cX6_image 41 = .ok (.iload_n 1, 1) := by decide +kernel
theorem dX6_image_42 : decode cX6_image 42 = .ok (.iadd, 1) := by decide +kernel
theorem dX6_image_43 : decode cX6_image 43 = .ok (.aload_n 0, 1) := by decide +kernel
theorem dX6_image_44 : decode cX6_image 44 = .ok (.getfield 20, 3) := by decide +kernel
theorem dX6_image_47 : decode cX6_image 47 = .ok (.iload_n 1, 1) := by decide +kernel
theorem dX6_image_48 : decode cX6_image 48 = .ok (.iaload, 1) := by decide +kernel
theorem dX6_image_49 : decode cX6_image 49 = .ok (.iastore, 1) := by decide +kernel
theorem dX6_image_50 : decode cX6_image 50 = .ok (.iinc 1 1, 3) := by decide +kernel
theorem dX6_image_53 : decode cX6_image 53 = .ok (.goto (-25), 3) := by decide +kernel
theorem dX6_image_56 : decode cX6_image 56 = .ok (.aload_n 0, 1) := by decide +kernel
theorem dX6_image_57 : decode cX6_image 57 = .ok (.aload_n 0, 1) := by decide +kernel
theorem dX6_image_58 : decode cX6_image 58 = .ok (.getfield 74, 3) := by decide +kernel
theorem dX6_image_61 : decode cX6_image 61 = .ok (.putfield 204, 3) := by decide +kernel
theorem dX6_image_64 : decode cX6_image 64 = .ok (.aload_n 0, 1) := by decide +kernel
theorem dX6_image_65 : decode cX6_image 65 = .ok (.iconst 1, 1) := by decide +kernel
theorem dX6_image_66 : decode cX6_image 66 = .ok (.putfield 207, 3) := by decide +kernel
theorem dX6_image_69 : decode cX6_image 69 = .ok (.iconst 1, 1) := by decide +kernel
theorem dX6_image_70 : decode cX6_image 70 = .ok (.ireturn, 1) := by decide +kernel
theorem dX6_restore_0 : decode cX6_restore 0 = .ok (.aload_n 0, 1) := by decide +kernel
theorem dX6_restore_1 : decode cX6_restore 1 = .ok (.getfield 207, 3) := by decide +kernel
theorem dX6_restore_4 : decode cX6_restore 4 = .ok (.ifCond .ne 6, 3) := by decide +kernel
theorem dX6_restore_7 : decode cX6_restore 7 = .ok (.bipush (-4), 2) := by decide +kernel
theorem dX6_restore_9 : decode cX6_restore 9 = .ok (.ireturn, 1) := by decide +kernel
theorem dX6_restore_10 : decode cX6_restore 10 = .ok (.iconst 0, 1) := by decide +kernel
theorem dX6_restore_11 : decode cX6_restore 11 = .ok (.istore_n 1, 1) := by decide +kernel
theorem dX6_restore_12 : decode cX6_restore 12 = .ok (.iload_n 1, 1) := by decide +kernel
theorem dX6_restore_13 : decode cX6_restore 13 = .ok (.bipush 63, 2) := by decide +kernel
theorem dX6_restore_15 : decode cX6_restore 15 = .ok (.if_icmp .ge 21, 3) := by decide +kernel
theorem dX6_restore_18 : decode cX6_restore 18 = .ok (.aload_n 0, 1) := by decide +kernel
theorem dX6_restore_19 : decode cX6_restore 19 = .ok (.getfield 7, 3) := by decide +kernel
theorem dX6_restore_22 : decode cX6_restore 22 = .ok (.iload_n 1, 1) := by decide +kernel
theorem dX6_restore_23 : decode cX6_restore 23 = .ok (.aload_n 0, 1) := by decide +kernel
theorem dX6_restore_24 : decode cX6_restore 24 = .ok (.getfield 35, 3) := by decide +kernel
theorem dX6_restore_27 : decode cX6_restore 27 = .ok (.iload_n 1, 1) := by decide +kernel
theorem dX6_restore_28 : decode cX6_restore 28 = .ok (.iaload, 1) := by decide +kernel
theorem dX6_restore_29 : decode cX6_restore 29 = .ok (.iastore, 1) := by decide +kernel
theorem dX6_restore_30 : decode cX6_restore 30 = .ok (.iinc 1 1, 3) := by decide +kernel
theorem dX6_restore_33 : decode cX6_restore 33 = .ok (.goto (-21), 3) := by decide +kernel
theorem dX6_restore_36 : decode cX6_restore 36 = .ok (.iconst 0, 1) := by decide +kernel
theorem dX6_restore_37 : decode cX6_restore 37 = .ok (.istore_n 1, 1) := by decide +kernel
theorem dX6_restore_38 : decode cX6_restore 38 = .ok (.iload_n 1, 1) := by decide +kernel
theorem dX6_restore_39 : decode cX6_restore 39 = .ok (.sipush 504, 3) := by decide +kernel
theorem dX6_restore_42 : decode cX6_restore 42 = .ok (.if_icmp .ge 24, 3) := by decide +kernel
theorem dX6_restore_45 : decode cX6_restore 45 = .ok (.aload_n 0, 1) := by decide +kernel
theorem dX6_restore_46 : decode cX6_restore 46 = .ok (.getfield 20, 3) := by decide +kernel
theorem dX6_restore_49 : decode cX6_restore 49 = .ok (.iload_n 1, 1) := by decide +kernel
theorem dX6_restore_50 : decode cX6_restore 50 = .ok (.aload_n 0, 1) := by decide +kernel
theorem dX6_restore_51 : decode cX6_restore 51 = .ok (.getfield 35, 3) := by decide +kernel
theorem dX6_restore_54 : decode cX6_restore 54 = .ok (.bipush 63, 2) := by decide +kernel
theorem dX6_restore_56 : decode cX6_restore 56 = .ok (.iload_n 1, 1) := by decide +kernel
theorem dX6_restore_57 : decode cX6_restore 57 = .ok (.iadd, 1) := by decide +kernel
theorem dX6_restore_58 : decode cX6_restore 58 = .ok (.iaload, 1) := by decide +kernel
theorem dX6_restore_59 : decode cX6_restore 59 = .ok (.iastore, 1) := by decide +kernel
theorem dX6_restore_60 : decode cX6_restore 60 = .ok (.iinc 1 1, 3) := by decide +kernel
theorem dX6_restore_63 : decode cX6_restore 63 = .ok (.goto (-25), 3) := by decide +kernel
theorem dX6_restore_66 : decode cX6_restore 66 = .ok (.aload_n 0, 1) := by decide +kernel
theorem dX6_restore_67 : decode cX6_restore 67 = .ok (.aload_n 0, 1) := by decide +kernel
theorem dX6_restore_68 : decode cX6_restore 68 = .ok (.getfield 204, 3) := by decide +kernel
theorem dX6_restore_71 : decode cX6_restore 71 = .ok (.putfield 74, 3) := by decide +kernel
theorem dX6_restore_74 : decode cX6_restore 74 = .ok (.aload_n 0, 1) := by decide +kernel
theorem dX6_restore_75 : decode cX6_restore 75 = .ok (.iconst (-1), 1) := by decide +kernel
theorem dX6_restore_76 : decode cX6_restore 76 = .ok (.putfield 16, 3) := by decide +kernel
theorem dX6_restore_79 : decode cX6_restore 79 = .ok (.iconst 1, 1) := by decide +kernel
theorem dX6_restore_80 : decode cX6_restore 80 = .ok (.ireturn, 1) := by decide +kernel
theorem dX6_isSheet_0 : decode cX6_isSheet 0 = .ok (.iload_n 0, 1) := by decide +kernel
theorem dX6_isSheet_1 : decode cX6_isSheet 1 = .ok (.i2l, 1) := by decide +kernel
theorem dX6_isSheet_2 : decode cX6_isSheet 2 = .ok (.lconst 0, 1) := by decide +kernel
theorem dX6_isSheet_3 : decode cX6_isSheet 3 = .ok (.ldc2_w 70, 3) := by decide +kernel
theorem dX6_isSheet_6 : decode cX6_isSheet 6 = .ok (.invokestatic 51, 3) := by decide +kernel
theorem dX6_isSheet_9 : decode cX6_isSheet 9 = .ok (.ireturn, 1) := by decide +kernel
theorem dX6_isLane_0 : decode cX6_isLane 0 = .ok (.iload_n 0, 1) := by decide +kernel
theorem dX6_isLane_1 : decode cX6_isLane 1 = .ok (.i2l, 1) := by decide +kernel
theorem dX6_isLane_2 : decode cX6_isLane 2 = .ok (.lconst 0, 1) := by decide +kernel
theorem dX6_isLane_3 : decode cX6_isLane 3 = .ok (.ldc2_w 70, 3) := by decide +kernel
theorem dX6_isLane_6 : decode cX6_isLane 6 = .ok (.invokestatic 51, 3) := by decide +kernel
theorem dX6_isLane_9 : decode cX6_isLane 9 = .ok (.ireturn, 1) := by decide +kernel
theorem dX6_why_0 : decode cX6_why 0 = .ok (.aload_n 0, 1) := by decide +kernel
theorem dX6_why_1 : decode cX6_why 1 = .ok (.getfield 38, 3) := by decide +kernel
theorem dX6_why_4 : decode cX6_why 4 = .ok (.iload_n 1, 1) := by decide +kernel
theorem dX6_why_5 : decode cX6_why 5 = .ok (.iaload, 1) := by decide +kernel
theorem dX6_why_6 : decode cX6_why 6 = .ok (.ifCond .ge 6, 3) := by decide +kernel
theorem dX6_why_9 : decode cX6_why 9 = .ok (.bipush (-11), 2) := by decide +kernel
theorem dX6_why_11 : decode cX6_why 11 = .ok (.ireturn, 1) := by decide +kernel
theorem dX6_why_12 : decode cX6_why 12 = .ok (.aload_n 0, 1) := by decide +kernel
theorem dX6_why_13 : decode cX6_why 13 = .ok (.getfield 38, 3) := by decide +kernel
theorem dX6_why_16 : decode cX6_why 16 = .ok (.iload_n 1, 1) := by decide +kernel
theorem dX6_why_17 : decode cX6_why 17 = .ok (.iaload, 1) := by decide +kernel
theorem dX6_why_18 : decode cX6_why 18 = .ok (.iload_n 2, 1) := by decide +kernel
theorem dX6_why_19 : decode cX6_why 19 = .ok (.if_icmp .eq 6, 3) := by decide +kernel
theorem dX6_why_22 : decode cX6_why 22 = .ok (.bipush (-12), 2) := by decide +kernel
theorem dX6_why_24 : decode cX6_why 24 = .ok (.ireturn, 1) := by decide +kernel
theorem dX6_why_25 : decode cX6_why 25 = .ok (.iload_n 3, 1) := by decide +kernel
theorem dX6_why_26 : decode cX6_why 26 = .ok (.ifCond .lt 25, 3) := by decide +kernel
theorem dX6_why_29 : decode cX6_why 29 = .ok (.iload 4, 2) := by decide +kernel
theorem dX6_why_31 : decode cX6_why 31 = .ok (.ifCond .lt 20, 3) := by decide +kernel
theorem dX6_why_34 : decode cX6_why 34 = .ok (.iload_n 3, 1) := by decide +kernel
theorem dX6_why_35 : decode cX6_why 35 = .ok (.i2l, 1) := by decide +kernel
theorem dX6_why_36 : decode cX6_why 36 = .ok (.iload 4, 2) := by decide +kernel
theorem dX6_why_38 : decode cX6_why 38 = .ok (.i2l, 1) := by decide +kernel
theorem dX6_why_39 : decode cX6_why 39 = .ok (.ladd, 1) := by decide +kernel
theorem dX6_why_40 : decode cX6_why 40 = .ok (.aload_n 0, 1) := by decide +kernel
theorem dX6_why_41 : decode cX6_why 41 = .ok (.getfield 41, 3) := by decide +kernel
theorem dX6_why_44 : decode cX6_why 44 = .ok (.iload_n 1, 1) := by decide +kernel
theorem dX6_why_45 : decode cX6_why 45 = .ok (.iaload, 1) := by decide +kernel
theorem dX6_why_46 : decode cX6_why 46 = .ok (.i2l, 1) := by decide +kernel
theorem dX6_why_47 : decode cX6_why 47 = .ok (.lcmp, 1) := by decide +kernel
theorem dX6_why_48 : decode cX6_why 48 = .ok (.ifCond .le 8, 3) := by decide +kernel
theorem dX6_why_51 : decode cX6_why 51 = .ok (.bipush (-13), 2) := by decide +kernel
theorem dX6_why_53 : decode cX6_why 53 = .ok (.goto 4, 3) := by decide +kernel
theorem dX6_why_56 : decode cX6_why 56 = .ok (.iconst 0, 1) := by decide +kernel
theorem dX6_why_57 : decode cX6_why 57 = .ok (.ireturn, 1) := by decide +kernel
theorem dX6_buckets_0 : decode cX6_buckets 0 = .ok (.iload_n 1, 1) := by decide +kernel
theorem dX6_buckets_1 : decode cX6_buckets 1 = .ok (.invokestatic 210, 3) := by decide +kernel
theorem dX6_buckets_4 : decode cX6_buckets 4 = .ok (.ifCond .eq 23, 3) := by decide +kernel
theorem dX6_buckets_7 : decode cX6_buckets 7 = .ok (.iload_n 2, 1) := by decide +kernel
theorem dX6_buckets_8 : decode cX6_buckets 8 = .ok (.invokestatic 213, 3) := by decide +kernel
theorem dX6_buckets_11 : decode cX6_buckets 11 = .ok (.ifCond .eq 16, 3) := by decide +kernel
theorem dX6_buckets_14 : decode cX6_buckets 14 = .ok (.iload 4, 2) := by decide +kernel
theorem dX6_buckets_16 : decode cX6_buckets 16 = .ok (.i2l, 1) := by decide +kernel
theorem dX6_buckets_17 : decode cX6_buckets 17 = .ok (.lconst 1, 1) := by decide +kernel
theorem dX6_buckets_18 : decode cX6_buckets 18 = .ok (.ldc2_w 80, 3) := by decide +kernel
theorem dX6_buckets_21 : decode cX6_buckets 21 = .ok (.invokestatic 51, 3) := by decide +kernel
theorem dX6_buckets_24 : decode cX6_buckets 24 = .ok (.ifCond .ne 5, 3) := by decide +kernel
theorem dX6_buckets_27 : decode cX6_buckets 27 = .ok (.iconst (-1), 1) := by decide +kernel
theorem dX6_buckets_28 : decode cX6_buckets 28 = .ok (.ireturn, 1) := by decide +kernel
theorem dX6_buckets_29 : decode cX6_buckets 29 = .ok (.aload_n 0, 1) := by decide +kernel
theorem dX6_buckets_30 : decode cX6_buckets 30 = .ok (.iload_n 1, 1) := by decide +kernel
theorem dX6_buckets_31 : decode cX6_buckets 31 = .ok (.iload_n 2, 1) := by decide +kernel
theorem dX6_buckets_32 : decode cX6_buckets 32 = .ok (.iload_n 3, 1) := by decide +kernel
theorem dX6_buckets_33 : decode cX6_buckets 33 = .ok (.iconst 2, 1) := by decide +kernel
theorem dX6_buckets_34 : decode cX6_buckets 34 = .ok (.iload 4, 2) := by decide +kernel
theorem dX6_buckets_36 : decode cX6_buckets 36 = .ok (.imul, 1) := by decide +kernel
theorem dX6_buckets_37 : decode cX6_buckets 37 = .ok (.invokevirtual 216, 3) := by decide +kernel
theorem dX6_buckets_40 : decode cX6_buckets 40 = .ok (.istore 5, 2) := by decide +kernel
theorem dX6_buckets_42 : decode cX6_buckets 42 = .ok (.iload 5, 2) := by decide +kernel
theorem dX6_buckets_44 : decode cX6_buckets 44 = .ok (.ifCond .ge 6, 3) := by decide +kernel
theorem dX6_buckets_47 : decode cX6_buckets 47 = .ok (.iload 5, 2) := by decide +kernel
theorem dX6_buckets_49 : decode cX6_buckets 49 = .ok (.ireturn, 1) := by decide +kernel
theorem dX6_buckets_50 : decode cX6_buckets 50 = .ok (.bipush 24, 2) := by decide +kernel
theorem dX6_buckets_52 : decode cX6_buckets 52 = .ok (.iload_n 1, 1) := by decide +kernel
theorem dX6_buckets_53 : decode cX6_buckets 53 = .ok (.imul, 1) := by decide +kernel
theorem dX6_buckets_54 : decode cX6_buckets 54 = .ok (.iload_n 3, 1) := by decide +kernel
theorem dX6_buckets_55 : decode cX6_buckets 55 = .ok (.iadd, 1) := by decide +kernel
theorem dX6_buckets_56 : decode cX6_buckets 56 = .ok (.istore 6, 2) := by decide +kernel
theorem dX6_buckets_58 : decode cX6_buckets 58 = .ok (.iconst 0, 1) := by decide +kernel
theorem dX6_buckets_59 : decode cX6_buckets 59 = .ok (.istore 7, 2) := by decide +kernel
theorem dX6_buckets_61 : decode cX6_buckets 61 = .ok (.iload 7, 2) := by decide +kernel
theorem dX6_buckets_63 : decode cX6_buckets 63 = .ok (.iload 4, 2) := by decide +kernel
theorem dX6_buckets_65 : decode cX6_buckets 65 = .ok (.if_icmp .ge 58, 3) := by decide +kernel
theorem dX6_buckets_68 : decode cX6_buckets 68 = .ok (.aload_n 0, 1) := by decide +kernel
theorem dX6_buckets_69 : decode cX6_buckets 69 = .ok (.getfield 44, 3) := by decide +kernel
theorem dX6_buckets_72 : decode cX6_buckets 72 = .ok (.iload 6, 2) := by decide +kernel
theorem dX6_buckets_74 : decode cX6_buckets 74 = .ok (.iconst 2, 1) := by decide +kernel
theorem dX6_buckets_75 : decode cX6_buckets 75 = .ok (.iload 7, 2) := by decide +kernel
theorem dX6_buckets_77 : decode cX6_buckets 77 = .ok (.imul, 1) := by decide +kernel
theorem dX6_buckets_78 : decode cX6_buckets 78 = .ok (.iadd, 1) := by decide +kernel
theorem dX6_buckets_79 : decode cX6_buckets 79 = .ok (.laload, 1) := by decide +kernel
theorem dX6_buckets_80 : decode cX6_buckets 80 = .ok (.lconst 0, 1) := by decide +kernel
theorem dX6_buckets_81 : decode cX6_buckets 81 = .ok (.ldc2_w 140, 3) := by decide +kernel
theorem dX6_buckets_84 : decode cX6_buckets 84 = .ok (.invokestatic 51, 3) := by decide +kernel
theorem dX6_buckets_87 : decode cX6_buckets 87 = .ok (.ifCond .eq 27, 3) := by decide +kernel
theorem dX6_buckets_90 : decode cX6_buckets 90 = .ok (.aload_n 0, 1) := by decide +kernel
theorem dX6_buckets_91 : decode cX6_buckets 91 = .ok (.getfield 44, 3) := by decide +kernel
theorem dX6_buckets_94 : decode cX6_buckets 94 = .ok (.iload 6, 2) := by decide +kernel
theorem dX6_buckets_96 : decode cX6_buckets 96 = .ok (.iconst 2, 1) := by decide +kernel
theorem dX6_buckets_97 : decode cX6_buckets 97 = .ok (.iload 7, 2) := by decide +kernel
theorem dX6_buckets_99 : decode cX6_buckets 99 = .ok (.imul, 1) := by decide +kernel
theorem dX6_buckets_100 : decode cX6_buckets 100 = .ok (.iadd, 1) := by decide +kernel
theorem dX6_buckets_101 : decode cX6_buckets 101 = .ok (.iconst 1, 1) := by decide +kernel
theorem dX6_buckets_102 : decode cX6_buckets 102 = .ok (.iadd, 1) := by decide +kernel
theorem dX6_buckets_103 : decode cX6_buckets 103 = .ok (.laload, 1) := by decide +kernel
theorem dX6_buckets_104 : decode cX6_buckets 104 = .ok (.lconst 0, 1) := by decide +kernel
theorem dX6_buckets_105 : decode cX6_buckets 105 = .ok (.ldc2_w 128, 3) := by decide +kernel
theorem dX6_buckets_108 : decode cX6_buckets 108 = .ok (.invokestatic 51, 3) := by decide +kernel
theorem dX6_buckets_111 : decode cX6_buckets 111 = .ok (.ifCond .ne 6, 3) := by decide +kernel
theorem dX6_buckets_114 : decode cX6_buckets 114 = .ok (.bipush (-2), 2) := by decide +kernel
theorem dX6_buckets_116 : decode cX6_buckets 116 = .ok (.ireturn, 1) := by decide +kernel
theorem dX6_buckets_117 : decode cX6_buckets 117 = .ok (.iinc 7 1, 3) := by decide +kernel
theorem dX6_buckets_120 : decode cX6_buckets 120 = .ok (.goto (-59), 3) := by decide +kernel
theorem dX6_buckets_123 : decode cX6_buckets 123 = .ok (.aload_n 0, 1) := by decide +kernel
theorem dX6_buckets_124 : decode cX6_buckets 124 = .ok (.invokevirtual 142, 3) := by decide +kernel
theorem dX6_buckets_127 : decode cX6_buckets 127 = .ok (.iconst 0, 1) := by decide +kernel
theorem dX6_buckets_128 : decode cX6_buckets 128 = .ok (.istore 7, 2) := by decide +kernel
theorem dX6_buckets_130 : decode cX6_buckets 130 = .ok (.iconst 1, 1) := by decide +kernel
theorem dX6_buckets_131 : decode cX6_buckets 131 = .ok (.istore 8, 2) := by decide +kernel
theorem dX6_buckets_133 : decode cX6_buckets 133 = .ok (.iload 8, 2) := by decide +kernel
theorem dX6_buckets_135 : decode cX6_buckets 135 = .ok (.bipush 10, 2) := by decide +kernel
theorem dX6_buckets_137 : decode cX6_buckets 137 = .ok (.if_icmp .ge 139, 3) := by decide +kernel
theorem dX6_buckets_140 : decode cX6_buckets 140 = .ok (.aload_n 0, 1) := by decide +kernel
theorem dX6_buckets_141 : decode cX6_buckets 141 = .ok (.getfield 7, 3) := by decide +kernel
theorem dX6_buckets_144 : decode cX6_buckets 144 = .ok (.iconst 3, 1) := by decide +kernel
theorem dX6_buckets_145 : decode cX6_buckets 145 = .ok (.iload 8, 2) := by decide +kernel
theorem dX6_buckets_147 : decode cX6_buckets 147 = .ok (.iastore, 1) := by decide +kernel
theorem dX6_buckets_148 : decode cX6_buckets 148 = .ok (.iconst 1, 1) := by decide +kernel
theorem dX6_buckets_149 : decode cX6_buckets 149 = .ok (.istore 9, 2) := by decide +kernel
theorem dX6_buckets_151 : decode cX6_buckets 151 = .ok (.iconst 0, 1) := by decide +kernel
theorem dX6_buckets_152 : decode cX6_buckets 152 = .ok (.istore 10, 2) := by decide +kernel
theorem dX6_buckets_154 : decode cX6_buckets 154 = .ok (.iload 10, 2) := by decide +kernel
theorem dX6_buckets_156 : decode cX6_buckets 156 = .ok (.sipush 241, 3) := by decide +kernel
theorem dX6_buckets_159 : decode cX6_buckets 159 = .ok (.if_icmp .ge 89, 3) := by decide +kernel
theorem dX6_buckets_162 : decode cX6_buckets 162 = .ok (.iconst 0, 1) := by decide +kernel
theorem dX6_buckets_163 : decode cX6_buckets 163 = .ok (.istore 11, 2) := by decide +kernel
theorem dX6_buckets_165 : decode cX6_buckets 165 = .ok (.iload 11, 2) := by decide +kernel
theorem dX6_buckets_167 : decode cX6_buckets 167 = .ok (.iload 4, 2) := by decide +kernel
theorem dX6_buckets_169 : decode cX6_buckets 169 = .ok (.if_icmp .ge 65, 3) := by decide +kernel
theorem dX6_buckets_172 : decode cX6_buckets 172 = .ok (.iload 9, 2) := by decide +kernel
theorem dX6_buckets_174 : decode cX6_buckets 174 = .ok (.ifCond .eq 51, 3) := by decide +kernel
theorem dX6_buckets_177 : decode cX6_buckets 177 = .ok (.aload_n 0, 1) := by decide +kernel
theorem dX6_buckets_178 : decode cX6_buckets 178 = .ok (.getfield 44, 3) := by decide +kernel
theorem dX6_buckets_181 : decode cX6_buckets 181 = .ok (.iload 6, 2) := by decide +kernel
theorem dX6_buckets_183 : decode cX6_buckets 183 = .ok (.iconst 2, 1) := by decide +kernel
theorem dX6_buckets_184 : decode cX6_buckets 184 = .ok (.iload 11, 2) := by decide +kernel
theorem dX6_buckets_186 : decode cX6_buckets 186 = .ok (.imul, 1) := by decide +kernel
theorem dX6_buckets_187 : decode cX6_buckets 187 = .ok (.iadd, 1) := by decide +kernel
theorem dX6_buckets_188 : decode cX6_buckets 188 = .ok (.laload, 1) := by decide +kernel
theorem dX6_buckets_189 : decode cX6_buckets 189 = .ok (.iload 10, 2) := by decide +kernel
theorem dX6_buckets_191 : decode cX6_buckets 191 = .ok (.i2l, 1) := by decide +kernel
theorem dX6_buckets_192 : decode cX6_buckets 192 = .ok (.lcmp, 1) := by decide +kernel
theorem dX6_buckets_193 : decode cX6_buckets 193 = .ok (.ifCond .ne 28, 3) := by decide +kernel
theorem dX6_buckets_196 : decode cX6_buckets 196 = .ok (.aload_n 0, 1) := by decide +kernel
theorem dX6_buckets_197 : decode cX6_buckets 197 = .ok (.getfield 44, 3) := by decide +kernel
theorem dX6_buckets_200 : decode cX6_buckets 200 = .ok (.iload 6, 2) := by decide +kernel
theorem dX6_buckets_202 : decode cX6_buckets 202 = .ok (.iconst 2, 1) := by decide +kernel
theorem dX6_buckets_203 : decode cX6_buckets 203 = .ok (.iload 11, 2) := by decide +kernel
theorem dX6_buckets_205 : decode cX6_buckets 205 = .ok (.imul, 1) := by decide +kernel
theorem dX6_buckets_206 : decode cX6_buckets 206 = .ok (.iadd, 1) := by decide +kernel
theorem dX6_buckets_207 : decode cX6_buckets 207 = .ok (.iconst 1, 1) := by decide +kernel
theorem dX6_buckets_208 : decode cX6_buckets 208 = .ok (.iadd, 1) := by decide +kernel
theorem dX6_buckets_209 : decode cX6_buckets 209 = .ok (.laload, 1) := by decide +kernel
theorem dX6_buckets_210 : decode cX6_buckets 210 = .ok (.aload_n 0, 1) := by decide +kernel
theorem dX6_buckets_211 : decode cX6_buckets 211 = .ok (.getfield 7, 3) := by decide +kernel
theorem dX6_buckets_214 : decode cX6_buckets 214 = .ok (.iconst 0, 1) := by decide +kernel
theorem dX6_buckets_215 : decode cX6_buckets 215 = .ok (.iaload, 1) := by decide +kernel
theorem dX6_buckets_216 : decode cX6_buckets 216 = .ok (.i2l, 1) := by decide +kernel
theorem dX6_buckets_217 : decode cX6_buckets 217 = .ok (.lcmp, 1) := by decide +kernel
theorem dX6_buckets_218 : decode cX6_buckets 218 = .ok (.ifCond .ne 7, 3) := by decide +kernel
theorem dX6_buckets_221 : decode cX6_buckets 221 = .ok (.iconst 1, 1) := by decide +kernel
theorem dX6_buckets_222 : decode cX6_buckets 222 = .ok (.goto 4, 3) := by decide +kernel
theorem dX6_buckets_225 : decode cX6_buckets 225 = .ok (.iconst 0, 1) := by decide +kernel
theorem dX6_buckets_226 : decode cX6_buckets 226 = .ok (.istore 9, 2) := by decide +kernel
theorem dX6_buckets_228 : decode cX6_buckets 228 = .ok (.iinc 11 1, 3) := by decide +kernel
theorem dX6_buckets_231 : decode cX6_buckets 231 = .ok (.goto (-66), 3) := by decide +kernel
theorem dX6_buckets_234 : decode cX6_buckets 234 = .ok (.aload_n 0, 1) := by decide +kernel
theorem dX6_buckets_235 : decode cX6_buckets 235 = .ok (.iconst 0, 1) := by decide +kernel
theorem dX6_buckets_236 : decode cX6_buckets 236 = .ok (.bipush 127, 2) := by decide +kernel
theorem dX6_buckets_238 : decode cX6_buckets 238 = .ok (.invokevirtual 124, 3) := by decide +kernel
theorem dX6_buckets_241 : decode cX6_buckets 241 = .ok (.pop, 1) := by decide +kernel
theorem dX6_buckets_242 : decode cX6_buckets 242 = .ok (.iinc 10 1, 3) := by decide +kernel
theorem dX6_buckets_245 : decode cX6_buckets 245 = .ok (.goto (-91), 3) := by decide +kernel
theorem dX6_buckets_248 : decode cX6_buckets 248 = .ok (.iload 7, 2) := by decide +kernel
theorem dX6_buckets_250 : decode cX6_buckets 250 = .ok (.iload 9, 2) := by decide +kernel
theorem dX6_buckets_252 : decode cX6_buckets 252 = .ok (.ifCond .eq 10, 3) := by decide +kernel
theorem dX6_buckets_255 : decode cX6_buckets 255 = .ok (.iconst 1, 1) := by decide +kernel
theorem dX6_buckets_256 : decode cX6_buckets 256 = .ok (.iload 8, 2) := by decide +kernel
theorem dX6_buckets_258 : decode cX6_buckets 258 = .ok (.ishl, 1) := by decide +kernel
theorem dX6_buckets_259 : decode cX6_buckets 259 = .ok (.goto 4, 3) := by decide +kernel
theorem dX6_buckets_262 : decode cX6_buckets 262 = .ok (.iconst 0, 1) := by decide +kernel
theorem dX6_buckets_263 : decode cX6_buckets 263 = .ok (.ior, 1) := by decide +kernel
theorem dX6_buckets_264 : decode cX6_buckets 264 = .ok (.istore 7, 2) := by decide +kernel
theorem dX6_buckets_266 : decode cX6_buckets 266 = .ok (.aload_n 0, 1) := by decide +kernel
theorem dX6_buckets_267 : decode cX6_buckets 267 = .ok (.invokevirtual 145, 3) := by decide +kernel
theorem dX6_buckets_270 : decode cX6_buckets 270 = .ok (.iinc 8 1, 3) := by decide +kernel
theorem dX6_buckets_273 : decode cX6_buckets 273 = .ok (.goto (-140), 3) := by decide +kernel
theorem dX6_buckets_276 : decode cX6_buckets 276 = .ok (.iload 7, 2) := by decide +kernel
theorem dX6_buckets_278 : decode cX6_buckets 278 = .ok (.ireturn, 1) := by decide +kernel
theorem dX6_film_0 : decode cX6_film 0 = .ok (.iload_n 1, 1) := by decide +kernel
theorem dX6_film_1 : decode cX6_film 1 = .ok (.i2l, 1) := by decide +kernel
theorem dX6_film_2 : decode cX6_film 2 = .ok (.lconst 1, 1) := by decide +kernel
theorem dX6_film_3 : decode cX6_film 3 = .ok (.ldc2_w 220, 3) := by decide +kernel
theorem dX6_film_6 : decode cX6_film 6 = .ok (.invokestatic 51, 3) := by decide +kernel
theorem dX6_film_9 : decode cX6_film 9 = .ok (.ifCond .eq 17, 3) := by decide +kernel
theorem dX6_film_12 : decode cX6_film 12 = .ok (.iload_n 2, 1) := by decide +kernel
theorem dX6_film_13 : decode cX6_film 13 = .ok (.invokestatic 210, 3) := by decide +kernel
theorem dX6_film_16 : decode cX6_film 16 = .ok (.ifCond .eq 10, 3) := by decide +kernel
theorem dX6_film_19 : decode cX6_film 19 = .ok (.iload_n 3, 1) := by decide +kernel
theorem dX6_film_20 : decode cX6_film 20 = .ok (.invokestatic 213, 3) := by decide +kernel
theorem dX6_film_23 : decode cX6_film 23 = .ok (.ifCond .ne 5, 3) := by decide +kernel
theorem dX6_film_26 : decode cX6_film 26 = .ok (.iconst (-1), 1) := by decide +kernel
theorem dX6_film_27 : decode cX6_film 27 = .ok (.ireturn, 1) := by decide +kernel
theorem dX6_film_28 : decode cX6_film 28 = .ok (.aload_n 0, 1) := by decide +kernel
theorem dX6_film_29 : decode cX6_film 29 = .ok (.iload_n 2, 1) := by decide +kernel
theorem dX6_film_30 : decode cX6_film 30 = .ok (.iload_n 3, 1) := by decide +kernel
theorem dX6_film_31 : decode cX6_film 31 = .ok (.iload 4, 2) := by decide +kernel
theorem dX6_film_33 : decode cX6_film 33 = .ok (.iload_n 1, 1) := by decide +kernel
theorem dX6_film_34 : decode cX6_film 34 = .ok (.invokevirtual 216, 3) := by decide +kernel
theorem dX6_film_37 : decode cX6_film 37 = .ok (.istore 5, 2) := by decide +kernel
theorem dX6_film_39 : decode cX6_film 39 = .ok (.iload 5, 2) := by decide +kernel
theorem dX6_film_41 : decode cX6_film 41 = .ok (.ifCond .ge 6, 3) := by decide +kernel
theorem dX6_film_44 : decode cX6_film 44 = .ok (.iload 5, 2) := by decide +kernel
theorem dX6_film_46 : decode cX6_film 46 = .ok (.ireturn, 1) := by decide +kernel
theorem dX6_film_47 : decode cX6_film 47 = .ok (.aload_n 0, 1) := by decide +kernel
theorem dX6_film_48 : decode cX6_film 48 = .ok (.invokevirtual 142, 3) := by decide +kernel
theorem dX6_film_51 : decode cX6_film 51 = .ok (.iconst 0, 1) := by decide +kernel
theorem dX6_film_52 : decode cX6_film 52 = .ok (.istore 6, 2) := by decide +kernel
theorem dX6_film_54 : decode cX6_film 54 = .ok (.iload 6, 2) := by decide +kernel
theorem dX6_film_56 : decode cX6_film 56 = .ok (.iload_n 1, 1) := by decide +kernel
theorem dX6_film_57 : decode cX6_film 57 = .ok (.if_icmp .ge 39, 3) := by decide +kernel
theorem dX6_film_60 : decode cX6_film 60 = .ok (.aload_n 0, 1) := by decide +kernel
theorem dX6_film_61 : decode cX6_film 61 = .ok (.iconst 0, 1) := by decide +kernel
theorem dX6_film_62 : decode cX6_film 62 = .ok (.bipush 127, 2) := by decide +kernel
theorem dX6_film_64 : decode cX6_film 64 = .ok (.invokevirtual 124, 3) := by decide +kernel
theorem dX6_film_67 : decode cX6_film 67 = .ok (.pop, 1) := by decide +kernel
theorem dX6_film_68 : decode cX6_film 68 = .ok (.aload_n 0, 1) := by decide +kernel
theorem dX6_film_69 : decode cX6_film 69 = .ok (.getfield 44, 3) := by decide +kernel
theorem dX6_film_72 : decode cX6_film 72 = .ok (.bipush 24, 2) := by decide +kernel
theorem dX6_film_74 : decode cX6_film 74 = .ok (.iload_n 2, 1) := by decide +kernel
theorem dX6_film_75 : decode cX6_film 75 = .ok (.imul, 1) := by decide +kernel
theorem dX6_film_76 : decode cX6_film 76 = .ok (.iload 4, 2) := by decide +kernel
theorem dX6_film_78 : decode cX6_film 78 = .ok (.iadd, 1) := by decide +kernel
theorem dX6_film_79 : decode cX6_film 79 = .ok (.iload 6, 2) := by decide +kernel
theorem dX6_film_81 : decode cX6_film 81 = .ok (.iadd, 1) := by decide +kernel
theorem dX6_film_82 : decode cX6_film 82 = .ok (.aload_n 0, 1) := by decide +kernel
theorem dX6_film_83 : decode cX6_film 83 = .ok (.getfield 7, 3) := by decide +kernel
theorem dX6_film_86 : decode cX6_film 86 = .ok (.iconst 0, 1) := by decide +kernel
theorem dX6_film_87 : decode cX6_film 87 = .ok (.iaload, 1) := by decide +kernel
theorem dX6_film_88 : decode cX6_film 88 = .ok (.i2l, 1) := by decide +kernel
theorem dX6_film_89 : decode cX6_film 89 = .ok (.lastore, 1) := by decide +kernel
theorem dX6_film_90 : decode cX6_film 90 = .ok (.iinc 6 1, 3) := by decide +kernel
theorem dX6_film_93 : decode cX6_film 93 = .ok (.goto (-39), 3) := by decide +kernel
theorem dX6_film_96 : decode cX6_film 96 = .ok (.aload_n 0, 1) := by decide +kernel
theorem dX6_film_97 : decode cX6_film 97 = .ok (.invokevirtual 145, 3) := by decide +kernel
theorem dX6_film_100 : decode cX6_film 100 = .ok (.iload_n 1, 1) := by decide +kernel
theorem dX6_film_101 : decode cX6_film 101 = .ok (.ireturn, 1) := by decide +kernel
theorem dX6_sheet_0 : decode cX6_sheet 0 = .ok (.iload_n 1, 1) := by decide +kernel
theorem dX6_sheet_1 : decode cX6_sheet 1 = .ok (.invokestatic 210, 3) := by decide +kernel
theorem dX6_sheet_4 : decode cX6_sheet 4 = .ok (.ifCond .eq 16, 3) := by decide +kernel
theorem dX6_sheet_7 : decode cX6_sheet 7 = .ok (.iload_n 2, 1) := by decide +kernel
theorem dX6_sheet_8 : decode cX6_sheet 8 = .ok (.invokestatic 213, 3) := by decide +kernel
theorem dX6_sheet_11 : decode cX6_sheet 11 = .ok (.ifCond .eq 9, 3) := by decide +kernel
theorem dX6_sheet_14 : decode cX6_sheet 14 = .ok (.iload_n 3, 1) := by decide +kernel
theorem dX6_sheet_15 : decode cX6_sheet 15 = .ok (.bipush 24, 2) := by decide +kernel
theorem dX6_sheet_17 : decode cX6_sheet 17 = .ok (.if_icmp .le 5, 3) := by decide +kernel
theorem dX6_sheet_20 : decode cX6_sheet 20 = .ok (.iconst (-1), 1) := by decide +kernel
theorem dX6_sheet_21 : decode cX6_sheet 21 = .ok (.ireturn, 1) := by decide +kernel
theorem dX6_sheet_22 : decode cX6_sheet 22 = .ok (.iload_n 3, 1) := by decide +kernel
theorem dX6_sheet_23 : decode cX6_sheet 23 = .ok (.ifCond .ge 6, 3) := by decide +kernel
theorem dX6_sheet_26 : decode cX6_sheet 26 = .ok (.bipush (-14), 2) := by decide +kernel
theorem dX6_sheet_28 : decode cX6_sheet 28 = .ok (.ireturn, 1) := by decide +kernel
theorem dX6_sheet_29 : decode cX6_sheet 29 = .ok (.aload_n 0, 1) := by decide +kernel
theorem dX6_sheet_30 : decode cX6_sheet 30 = .ok (.getfield 38, 3) := by decide +kernel
theorem dX6_sheet_33 : decode cX6_sheet 33 = .ok (.iload_n 1, 1) := by decide +kernel
theorem dX6_sheet_34 : decode cX6_sheet 34 = .ok (.iload_n 2, 1) := by decide +kernel
theorem dX6_sheet_35 : decode cX6_sheet 35 = .ok (.iastore, 1) := by decide +kernel
theorem dX6_sheet_36 : decode cX6_sheet 36 = .ok (.aload_n 0, 1) := by decide +kernel
theorem dX6_sheet_37 : decode cX6_sheet 37 = .ok (.getfield 41, 3) := by decide +kernel
theorem dX6_sheet_40 : decode cX6_sheet 40 = .ok (.iload_n 1, 1) := by decide +kernel
theorem dX6_sheet_41 : decode cX6_sheet 41 = .ok (.iload_n 3, 1) := by decide +kernel
theorem dX6_sheet_42 : decode cX6_sheet 42 = .ok (.iastore, 1) := by decide +kernel
theorem dX6_sheet_43 : decode cX6_sheet 43 = .ok (.iconst 0, 1) := by decide +kernel
theorem dX6_sheet_44 : decode cX6_sheet 44 = .ok (.istore 4, 2) := by decide +kernel
theorem dX6_sheet_46 : decode cX6_sheet 46 = .ok (.iload 4, 2) := by decide +kernel
theorem dX6_sheet_48 : decode cX6_sheet 48 = .ok (.bipush 24, 2) := by decide +kernel
theorem dX6_sheet_50 : decode cX6_sheet 50 = .ok (.if_icmp .ge 22, 3) := by decide +kernel
theorem dX6_sheet_53 : decode cX6_sheet 53 = .ok (.aload_n 0, 1) := by decide +kernel
theorem dX6_sheet_54 : decode cX6_sheet 54 = .ok (.getfield 44, 3) := by decide +kernel
theorem dX6_sheet_57 : decode cX6_sheet 57 = .ok (.bipush 24, 2) := by decide +kernel
theorem dX6_sheet_59 : decode cX6_sheet 59 = .ok (.iload_n 1, 1) := by decide +kernel
theorem dX6_sheet_60 : decode cX6_sheet 60 = .ok (.imul, 1) := by decide +kernel
theorem dX6_sheet_61 : decode cX6_sheet 61 = .ok (.iload 4, 2) := by decide +kernel
theorem dX6_sheet_63 : decode cX6_sheet 63 = .ok (.iadd, 1) := by decide +kernel
theorem dX6_sheet_64 : decode cX6_sheet 64 = .ok (.lconst 0, 1) := by decide +kernel
theorem dX6_sheet_65 : decode cX6_sheet 65 = .ok (.lastore, 1) := by decide +kernel
theorem dX6_sheet_66 : decode cX6_sheet 66 = .ok (.iinc 4 1, 3) := by decide +kernel
theorem dX6_sheet_69 : decode cX6_sheet 69 = .ok (.goto (-23), 3) := by decide +kernel
theorem dX6_sheet_72 : decode cX6_sheet 72 = .ok (.iload_n 3, 1) := by decide +kernel
theorem dX6_sheet_73 : decode cX6_sheet 73 = .ok (.ireturn, 1) := by decide +kernel
theorem dX6_drop_0 : decode cX6_drop 0 = .ok (.iload_n 1, 1) := by decide +kernel
theorem dX6_drop_1 : decode cX6_drop 1 = .ok (.invokestatic 210, 3) := by decide +kernel
theorem dX6_drop_4 : decode cX6_drop 4 = .ok (.ifCond .ne 5, 3) := by decide +kernel
theorem dX6_drop_7 : decode cX6_drop 7 = .ok (.iconst (-1), 1) := by decide +kernel
theorem dX6_drop_8 : decode cX6_drop 8 = .ok (.ireturn, 1) := by decide +kernel
theorem dX6_drop_9 : decode cX6_drop 9 = .ok (.aload_n 0, 1) := by decide +kernel
theorem dX6_drop_10 : decode cX6_drop 10 = .ok (.getfield 38, 3) := by decide +kernel
theorem dX6_drop_13 : decode cX6_drop 13 = .ok (.iload_n 1, 1) := by decide +kernel
theorem dX6_drop_14 : decode cX6_drop 14 = .ok (.iaload, 1) := by decide +kernel
theorem dX6_drop_15 : decode cX6_drop 15 = .ok (.ifCond .ge 6, 3) := by decide +kernel
theorem dX6_drop_18 : decode cX6_drop 18 = .ok (.bipush (-11), 2) := by decide +kernel
theorem dX6_drop_20 : decode cX6_drop 20 = .ok (.ireturn, 1) := by decide +kernel
theorem dX6_drop_21 : decode cX6_drop 21 = .ok (.aload_n 0, 1) := by decide +kernel
theorem dX6_drop_22 : decode cX6_drop 22 = .ok (.getfield 38, 3) := by decide +kernel
theorem dX6_drop_25 : decode cX6_drop 25 = .ok (.iload_n 1, 1) := by decide +kernel
theorem dX6_drop_26 : decode cX6_drop 26 = .ok (.iconst (-1), 1) := by decide +kernel
theorem dX6_drop_27 : decode cX6_drop 27 = .ok (.iastore, 1) := by decide +kernel
theorem dX6_drop_28 : decode cX6_drop 28 = .ok (.aload_n 0, 1) := by decide +kernel
theorem dX6_drop_29 : decode cX6_drop 29 = .ok (.getfield 41, 3) := by decide +kernel
theorem dX6_drop_32 : decode cX6_drop 32 = .ok (.iload_n 1, 1) := by decide +kernel
theorem dX6_drop_33 : decode cX6_drop 33 = .ok (.iaload, 1) := by decide +kernel
theorem dX6_drop_34 : decode cX6_drop 34 = .ok (.ireturn, 1) := by decide +kernel
theorem dX6_item_0 : decode cX6_item 0 = .ok (.iload_n 1, 1) := by decide +kernel
theorem dX6_item_1 : decode cX6_item 1 = .ok (.invokestatic 210, 3) := by decide +kernel
theorem dX6_item_4 : decode cX6_item 4 = .ok (.ifCond .eq 10, 3) := by decide +kernel
theorem dX6_item_7 : decode cX6_item 7 = .ok (.iload_n 2, 1) := by decide +kernel
theorem dX6_item_8 : decode cX6_item 8 = .ok (.invokestatic 213, 3) := by decide +kernel
theorem dX6_item_11 : decode cX6_item 11 = .ok (.ifCond .ne 5, 3) := by decide +kernel
theorem dX6_item_14 : decode cX6_item 14 = .ok (.iconst (-1), 1) := by decide +kernel
theorem dX6_item_15 : decode cX6_item 15 = .ok (.ireturn, 1) := by decide +kernel
theorem dX6_item_16 : decode cX6_item 16 = .ok (.aload_n 0, 1) := by decide +kernel
theorem dX6_item_17 : decode cX6_item 17 = .ok (.iload_n 1, 1) := by decide +kernel
theorem dX6_item_18 : decode cX6_item 18 = .ok (.iload_n 2, 1) := by decide +kernel
theorem dX6_item_19 : decode cX6_item 19 = .ok (.iload_n 3, 1) := by decide +kernel
theorem dX6_item_20 : decode cX6_item 20 = .ok (.iconst 1, 1) := by decide +kernel
theorem dX6_item_21 : decode cX6_item 21 = .ok (.invokevirtual 216, 3) := by decide +kernel
theorem dX6_item_24 : decode cX6_item 24 = .ok (.istore 6, 2) := by decide +kernel
theorem dX6_item_26 : decode cX6_item 26 = .ok (.iload 6, 2) := by decide +kernel
theorem dX6_item_28 : decode cX6_item 28 = .ok (.ifCond .ge 6, 3) := by decide +kernel
theorem dX6_item_31 : decode cX6_item 31 = .ok (.iload 6, 2) := by decide +kernel
theorem dX6_item_33 : decode cX6_item 33 = .ok (.ireturn, 1) := by decide +kernel
theorem dX6_item_34 : decode cX6_item 34 = .ok (.aload_n 0, 1) := by decide +kernel
theorem dX6_item_35 : decode cX6_item 35 = .ok (.getfield 44, 3) := by decide +kernel
theorem dX6_item_38 : decode cX6_item 38 = .ok (.bipush 24, 2) := by decide +kernel
theorem dX6_item_40 : decode cX6_item 40 = .ok (.iload_n 1, 1) := by decide +kernel
theorem dX6_item_41 : decode cX6_item 41 = .ok (.imul, 1) := by decide +kernel
theorem dX6_item_42 : decode cX6_item 42 = .ok (.iload_n 3, 1) := by decide +kernel
theorem dX6_item_43 : decode cX6_item 43 = .ok (.iadd, 1) := by decide +kernel
theorem dX6_item_44 : decode cX6_item 44 = .ok (.iload_n 2, 1) := by decide +kernel
theorem dX6_item_45 : decode cX6_item 45 = .ok (.ifCond .ne 11, 3) := by decide +kernel
theorem dX6_item_48 : decode cX6_item 48 = .ok (.lload 4, 2) := by decide +kernel
theorem dX6_item_50 : decode cX6_item 50 = .ok (.l2i, 1) := by decide +kernel
theorem dX6_item_51 : decode cX6_item 51 = .ok (.i2b, 1) := by decide +kernel
theorem dX6_item_52 : decode cX6_item 52 = .ok (.i2l, 1) := by decide +kernel
theorem dX6_item_53 : decode cX6_item 53 = .ok (.goto 30, 3) := by decide +kernel
theorem dX6_item_56 : decode cX6_item 56 = .ok (.iload_n 2, 1) := by decide +kernel
theorem dX6_item_57 : decode cX6_item 57 = .ok (.iconst 1, 1) := by decide +kernel
theorem dX6_item_58 : decode cX6_item 58 = .ok (.if_icmp .ne 11, 3) := by decide +kernel
theorem dX6_item_61 : decode cX6_item 61 = .ok (.lload 4, 2) := by decide +kernel
theorem dX6_item_63 : decode cX6_item 63 = .ok (.l2i, 1) := by decide +kernel
theorem dX6_item_64 : decode cX6_item 64 = .ok (.i2s, 1) := by decide +kernel
theorem dX6_item_65 : decode cX6_item 65 = .ok (.i2l, 1) := by decide +kernel
theorem dX6_item_66 : decode cX6_item 66 = .ok (.goto 17, 3) := by decide +kernel
theorem dX6_item_69 : decode cX6_item 69 = .ok (.iload_n 2, 1) := by decide +kernel
theorem dX6_item_70 : decode cX6_item 70 = .ok (.iconst 2, 1) := by decide +kernel
theorem dX6_item_71 : decode cX6_item 71 = .ok (.if_icmp .ne 10, 3) := by decide +kernel
theorem dX6_item_74 : decode cX6_item 74 = .ok (.lload 4, 2) := by decide +kernel
theorem dX6_item_76 : decode cX6_item 76 = .ok (.l2i, 1) := by decide +kernel
theorem dX6_item_77 : decode cX6_item 77 = .ok (.i2l, 1) := by decide +kernel
theorem dX6_item_78 : decode cX6_item 78 = .ok (.goto 5, 3) := by decide +kernel
theorem dX6_item_81 : decode cX6_item 81 = .ok (.lload 4, 2) := by decide +kernel
theorem dX6_item_83 : decode cX6_item 83 = .ok (.lastore, 1) := by decide +kernel
theorem dX6_item_84 : decode cX6_item 84 = .ok (.iconst 1, 1) := by decide +kernel
theorem dX6_item_85 : decode cX6_item 85 = .ok (.ireturn, 1) := by decide +kernel
theorem dX6_copy_0 : decode cX6_copy 0 = .ok (.iload_n 1, 1) := by decide +kernel
theorem dX6_copy_1 : decode cX6_copy 1 = .ok (.invokestatic 210, 3) := by decide +kernel
theorem dX6_copy_4 : decode cX6_copy 4 = .ok (.ifCond .eq 10, 3) := by decide +kernel
theorem dX6_copy_7 : decode cX6_copy 7 = .ok (.iload_n 3, 1) := by decide +kernel
theorem dX6_copy_8 : decode cX6_copy 8 = .ok (.invokestatic 210, 3) := by decide +kernel
theorem dX6_copy_11 : decode cX6_copy 11 = .ok (.ifCond .ne 5, 3) := by decide +kernel
theorem dX6_copy_14 : decode cX6_copy 14 = .ok (.iconst (-1), 1) := by decide +kernel
theorem dX6_copy_15 : decode cX6_copy 15 = .ok (.ireturn, 1) := by decide +kernel
theorem dX6_copy_16 : decode cX6_copy 16 = .ok (.aload_n 0, 1) := by decide +kernel
theorem dX6_copy_17 : decode cX6_copy 17 = .ok (.getfield 38, 3) := by decide +kernel
theorem dX6_copy_20 : decode cX6_copy 20 = .ok (.iload_n 1, 1) := by decide +kernel
theorem dX6_copy_21 : decode cX6_copy 21 = .ok (.iaload, 1) := by decide +kernel
theorem dX6_copy_22 : decode cX6_copy 22 = .ok (.ifCond .lt 12, 3) := by decide +kernel
theorem dX6_copy_25 : decode cX6_copy 25 = .ok (.aload_n 0, 1) := by decide +kernel
theorem dX6_copy_26 : decode cX6_copy 26 = .ok (.getfield 38, 3) := by decide +kernel
theorem dX6_copy_29 : decode cX6_copy 29 = .ok (.iload_n 3, 1) := by decide +kernel
theorem dX6_copy_30 : decode cX6_copy 30 = .ok (.iaload, 1) := by decide +kernel
theorem dX6_copy_31 : decode cX6_copy 31 = .ok (.ifCond .ge 6, 3) := by decide +kernel
theorem dX6_copy_34 : decode cX6_copy 34 = .ok (.bipush (-11), 2) := by decide +kernel
theorem dX6_copy_36 : decode cX6_copy 36 = .ok (.ireturn, 1) := by decide +kernel
theorem dX6_copy_37 : decode cX6_copy 37 = .ok (.aload_n 0, 1) := by decide +kernel
theorem dX6_copy_38 : decode cX6_copy 38 = .ok (.iload_n 3, 1) := by decide +kernel
theorem dX6_copy_39 : decode cX6_copy 39 = .ok (.aload_n 0, 1) := by decide +kernel
theorem dX6_copy_40 : decode cX6_copy 40 = .ok (.getfield 38, 3) := by decide +kernel
theorem dX6_copy_43 : decode cX6_copy 43 = .ok (.iload_n 1, 1) := by decide +kernel
theorem dX6_copy_44 : decode cX6_copy 44 = .ok (.iaload, 1) := by decide +kernel
theorem dX6_copy_45 : decode cX6_copy 45 = .ok (.iload 4, 2) := by decide +kernel
theorem dX6_copy_47 : decode cX6_copy 47 = .ok (.iload 5, 2) := by decide +kernel
theorem dX6_copy_49 : decode cX6_copy 49 = .ok (.invokevirtual 216, 3) := by decide +kernel
theorem dX6_copy_52 : decode cX6_copy 52 = .ok (.istore 6, 2) := by decide +kernel
theorem dX6_copy_54 : decode cX6_copy 54 = .ok (.iload 6, 2) := by decide +kernel
theorem dX6_copy_56 : decode cX6_copy 56 = .ok (.ifCond .ne 20, 3) := by decide +kernel
theorem dX6_copy_59 : decode cX6_copy 59 = .ok (.aload_n 0, 1) := by decide +kernel
theorem dX6_copy_60 : decode cX6_copy 60 = .ok (.iload_n 1, 1) := by decide +kernel
theorem dX6_copy_61 : decode cX6_copy 61 = .ok (.aload_n 0, 1) := by decide +kernel
theorem dX6_copy_62 : decode cX6_copy 62 = .ok (.getfield 38, 3) := by decide +kernel
theorem dX6_copy_65 : decode cX6_copy 65 = .ok (.iload_n 1, 1) := by decide +kernel
theorem dX6_copy_66 : decode cX6_copy 66 = .ok (.iaload, 1) := by decide +kernel
theorem dX6_copy_67 : decode cX6_copy 67 = .ok (.iload_n 2, 1) := by decide +kernel
theorem dX6_copy_68 : decode cX6_copy 68 = .ok (.iload 5, 2) := by decide +kernel
theorem dX6_copy_70 : decode cX6_copy 70 = .ok (.invokevirtual 216, 3) := by decide +kernel
theorem dX6_copy_73 : decode cX6_copy 73 = .ok (.goto 5, 3) := by decide +kernel
theorem dX6_copy_76 : decode cX6_copy 76 = .ok (.iload 6, 2) := by decide +kernel
theorem dX6_copy_78 : decode cX6_copy 78 = .ok (.istore 6, 2) := by decide +kernel
theorem dX6_copy_80 : decode cX6_copy 80 = .ok (.iload 6, 2) := by decide +kernel
theorem dX6_copy_82 : decode cX6_copy 82 = .ok (.ifCond .ge 6, 3) := by decide +kernel
theorem dX6_copy_85 : decode cX6_copy 85 = .ok (.iload 6, 2) := by decide +kernel
theorem dX6_copy_87 : decode cX6_copy 87 = .ok (.ireturn, 1) := by decide +kernel
end
section
theorem dX6_copy_88 : decode cX6_copy 88 = .ok (.iconst 0, 1) := by decide +kernel
theorem dX6_copy_89 : decode cX6_copy 89 = .ok (.istore 7, 2) := by decide +kernel
theorem dX6_copy_91 : decode cX6_copy 91 = .ok (.iload 7, 2) := by decide +kernel
theorem dX6_copy_93 : decode cX6_copy 93 = .ok (.iload 5, 2) := by decide +kernel
theorem dX6_copy_95 : decode cX6_copy 95 = .ok (.if_icmp .ge 30, 3) := by decide +kernel
theorem dX6_copy_98 : decode cX6_copy 98 = .ok (.aload_n 0, 1) := by decide +kernel
theorem dX6_copy_99 : decode cX6_copy 99 = .ok (.getfield 48, 3) := by decide +kernel
theorem dX6_copy_102 : decode cX6_copy 102 = .ok (.iload 7, 2) := by decide +kernel
theorem dX6_copy_104 : decode cX6_copy 104 = .ok (.aload_n 0, 1) := by decide +kernel
theorem dX6_copy_105 : decode cX6_copy 105 = .ok (.getfield 44, 3) := by decide +kernel
theorem dX6_copy_108 : decode cX6_copy 108 = .ok (.bipush 24, 2) := by decide +kernel
theorem dX6_copy_110 : decode cX6_copy 110 = .ok (.iload_n 1, 1) := by decide +kernel
theorem dX6_copy_111 : decode cX6_copy 111 = .ok (.imul, 1) := by decide +kernel
theorem dX6_copy_112 : decode cX6_copy 112 = .ok (.iload_n 2, 1) := by decide +kernel
theorem dX6_copy_113 : decode cX6_copy 113 = .ok (.iadd, 1) := by decide +kernel
theorem dX6_copy_114 : decode cX6_copy 114 = .ok (.iload 7, 2) := by decide +kernel
theorem dX6_copy_116 : decode cX6_copy 116 = .ok (.iadd, 1) := by decide +kernel
theorem dX6_copy_117 : decode cX6_copy 117 = .ok (.laload, 1) := by decide +kernel
theorem dX6_copy_118 : decode cX6_copy 118 = .ok (.lastore, 1) := by decide +kernel
theorem dX6_copy_119 : decode cX6_copy 119 = .ok (.iinc 7 1, 3) := by decide +kernel
theorem dX6_copy_122 : decode cX6_copy 122 = .ok (.goto (-31), 3) := by decide +kernel
theorem dX6_copy_125 : decode cX6_copy 125 = .ok (.iconst 0, 1) := by decide +kernel
theorem dX6_copy_126 : decode cX6_copy 126 = .ok (.istore 7, 2) := by decide +kernel
theorem dX6_copy_128 : decode cX6_copy 128 = .ok (.iload 7, 2) := by decide +kernel
theorem dX6_copy_130 : decode cX6_copy 130 = .ok (.iload 5, 2) := by decide +kernel
theorem dX6_copy_132 : decode cX6_copy 132 = .ok (.if_icmp .ge 31, 3) := by decide +kernel
theorem dX6_copy_135 : decode cX6_copy 135 = .ok (.aload_n 0, 1) := by decide +kernel
theorem dX6_copy_136 : decode cX6_copy 136 = .ok (.getfield 44, 3) := by decide +kernel
theorem dX6_copy_139 : decode cX6_copy 139 = .ok (.bipush 24, 2) := by decide +kernel
theorem dX6_copy_141 : decode cX6_copy 141 = .ok (.iload_n 3, 1) := by decide +kernel
theorem dX6_copy_142 : decode cX6_copy 142 = .ok (.imul, 1) := by decide +kernel
theorem dX6_copy_143 : decode cX6_copy 143 = .ok (.iload 4, 2) := by decide +kernel
theorem dX6_copy_145 : decode cX6_copy 145 = .ok (.iadd, 1) := by decide +kernel
theorem dX6_copy_146 : decode cX6_copy 146 = .ok (.iload 7, 2) := by decide +kernel
theorem dX6_copy_148 : decode cX6_copy 148 = .ok (.iadd, 1) := by decide +kernel
theorem dX6_copy_149 : decode cX6_copy 149 = .ok (.aload_n 0, 1) := by decide +kernel
theorem dX6_copy_150 : decode cX6_copy 150 = .ok (.getfield 48, 3) := by decide +kernel
theorem dX6_copy_153 : decode cX6_copy 153 = .ok (.iload 7, 2) := by decide +kernel
theorem dX6_copy_155 : decode cX6_copy 155 = .ok (.laload, 1) := by decide +kernel
theorem dX6_copy_156 : decode cX6_copy 156 = .ok (.lastore, 1) := by decide +kernel
theorem dX6_copy_157 : decode cX6_copy 157 = .ok (.iinc 7 1, 3) := by decide +kernel
theorem dX6_copy_160 : decode cX6_copy 160 = .ok (.goto (-32), 3) := by decide +kernel
theorem dX6_copy_163 : decode cX6_copy 163 = .ok (.iload 5, 2) := by decide +kernel
theorem dX6_copy_165 : decode cX6_copy 165 = .ok (.ireturn, 1) := by decide +kernel
theorem dJ6_bitCount_0f7a4_0 : decode cJ6_bitCount_0f7a4 0 = .ok (.iload_n 0, 1) := by decide +kernel
theorem dJ6_bitCount_0f7a4_1 : decode cJ6_bitCount_0f7a4 1 = .ok (.iload_n 0, 1) := by decide +kernel
theorem dJ6_bitCount_0f7a4_2 : decode cJ6_bitCount_0f7a4 2 = .ok (.iconst 1, 1) := by decide +kernel
theorem dJ6_bitCount_0f7a4_3 : decode cJ6_bitCount_0f7a4 3 = .ok (.iushr, 1) := by decide +kernel
theorem dJ6_bitCount_0f7a4_4 : decode cJ6_bitCount_0f7a4 4 = .ok (.ldc_w 265, 3) := by decide +kernel
theorem dJ6_bitCount_0f7a4_7 : decode cJ6_bitCount_0f7a4 7 = .ok (.iand, 1) := by decide +kernel
theorem dJ6_bitCount_0f7a4_8 : decode cJ6_bitCount_0f7a4 8 = .ok (.isub, 1) := by decide +kernel
theorem dJ6_bitCount_0f7a4_9 : decode cJ6_bitCount_0f7a4 9 = .ok (.istore_n 0, 1) := by decide +kernel
theorem dJ6_bitCount_0f7a4_10 : decode cJ6_bitCount_0f7a4 10 = .ok (.iload_n 0, 1) := by decide +kernel
theorem dJ6_bitCount_0f7a4_11 : decode cJ6_bitCount_0f7a4 11 = .ok (.ldc_w 266, 3) := by decide +kernel
theorem dJ6_bitCount_0f7a4_14 : decode cJ6_bitCount_0f7a4 14 = .ok (.iand, 1) := by decide +kernel
theorem dJ6_bitCount_0f7a4_15 : decode cJ6_bitCount_0f7a4 15 = .ok (.iload_n 0, 1) := by decide +kernel
theorem dJ6_bitCount_0f7a4_16 : decode cJ6_bitCount_0f7a4 16 = .ok (.iconst 2, 1) := by decide +kernel
theorem dJ6_bitCount_0f7a4_17 : decode cJ6_bitCount_0f7a4 17 = .ok (.iushr, 1) := by decide +kernel
theorem dJ6_bitCount_0f7a4_18 : decode cJ6_bitCount_0f7a4 18 = .ok (.ldc_w 266, 3) := by decide +kernel
theorem dJ6_bitCount_0f7a4_21 : decode cJ6_bitCount_0f7a4 21 = .ok (.iand, 1) := by decide +kernel
theorem dJ6_bitCount_0f7a4_22 : decode cJ6_bitCount_0f7a4 22 = .ok (.iadd, 1) := by decide +kernel
theorem dJ6_bitCount_0f7a4_23 : decode cJ6_bitCount_0f7a4 23 = .ok (.istore_n 0, 1) := by decide +kernel
theorem dJ6_bitCount_0f7a4_24 : decode cJ6_bitCount_0f7a4 24 = .ok (.iload_n 0, 1) := by decide +kernel
theorem dJ6_bitCount_0f7a4_25 : decode cJ6_bitCount_0f7a4 25 = .ok (.iload_n 0, 1) := by decide +kernel
theorem dJ6_bitCount_0f7a4_26 : decode cJ6_bitCount_0f7a4 26 = .ok (.iconst 4, 1) := by decide +kernel
theorem dJ6_bitCount_0f7a4_27 : decode cJ6_bitCount_0f7a4 27 = .ok (.iushr, 1) := by decide +kernel
theorem dJ6_bitCount_0f7a4_28 : decode cJ6_bitCount_0f7a4 28 = .ok (.iadd, 1) := by decide +kernel
theorem dJ6_bitCount_0f7a4_29 : decode cJ6_bitCount_0f7a4 29 = .ok (.ldc_w 267, 3) := by decide +kernel
theorem dJ6_bitCount_0f7a4_32 : decode cJ6_bitCount_0f7a4 32 = .ok (.iand, 1) := by decide +kernel
theorem dJ6_bitCount_0f7a4_33 : decode cJ6_bitCount_0f7a4 33 = .ok (.istore_n 0, 1) := by decide +kernel
theorem dJ6_bitCount_0f7a4_34 : decode cJ6_bitCount_0f7a4 34 = .ok (.iload_n 0, 1) := by decide +kernel
theorem dJ6_bitCount_0f7a4_35 : decode cJ6_bitCount_0f7a4 35 = .ok (.iload_n 0, 1) := by decide +kernel
theorem dJ6_bitCount_0f7a4_36 : decode cJ6_bitCount_0f7a4 36 = .ok (.bipush 8, 2) := by decide +kernel
theorem dJ6_bitCount_0f7a4_38 : decode cJ6_bitCount_0f7a4 38 = .ok (.iushr, 1) := by decide +kernel
theorem dJ6_bitCount_0f7a4_39 : decode cJ6_bitCount_0f7a4 39 = .ok (.iadd, 1) := by decide +kernel
theorem dJ6_bitCount_0f7a4_40 : decode cJ6_bitCount_0f7a4 40 = .ok (.istore_n 0, 1) := by decide +kernel
theorem dJ6_bitCount_0f7a4_41 : decode cJ6_bitCount_0f7a4 41 = .ok (.iload_n 0, 1) := by decide +kernel
theorem dJ6_bitCount_0f7a4_42 : decode cJ6_bitCount_0f7a4 42 = .ok (.iload_n 0, 1) := by decide +kernel
theorem dJ6_bitCount_0f7a4_43 : decode cJ6_bitCount_0f7a4 43 = .ok (.bipush 16, 2) := by decide +kernel
theorem dJ6_bitCount_0f7a4_45 : decode cJ6_bitCount_0f7a4 45 = .ok (.iushr, 1) := by decide +kernel
theorem dJ6_bitCount_0f7a4_46 : decode cJ6_bitCount_0f7a4 46 = .ok (.iadd, 1) := by decide +kernel
theorem dJ6_bitCount_0f7a4_47 : decode cJ6_bitCount_0f7a4 47 = .ok (.istore_n 0, 1) := by decide +kernel
theorem dJ6_bitCount_0f7a4_48 : decode cJ6_bitCount_0f7a4 48 = .ok (.iload_n 0, 1) := by decide +kernel
theorem dJ6_bitCount_0f7a4_49 : decode cJ6_bitCount_0f7a4 49 = .ok (.bipush 63, 2) := by decide +kernel
theorem dJ6_bitCount_0f7a4_51 : decode cJ6_bitCount_0f7a4 51 = .ok (.iand, 1) := by decide +kernel
theorem dJ6_bitCount_0f7a4_52 : decode cJ6_bitCount_0f7a4 52 = .ok (.ireturn, 1) := by decide +kernel
theorem dJ9_max_7cf53_0 : decode cJ9_max_7cf53 0 = .ok (.iload_n 0, 1) := by decide +kernel
theorem dJ9_max_7cf53_1 : decode cJ9_max_7cf53 1 = .ok (.iload_n 1, 1) := by decide +kernel
theorem dJ9_max_7cf53_2 : decode cJ9_max_7cf53 2 = .ok (.if_icmp .lt 7, 3) := by decide +kernel
theorem dJ9_max_7cf53_5 : decode cJ9_max_7cf53 5 = .ok (.iload_n 0, 1) := by decide +kernel
theorem dJ9_max_7cf53_6 : decode cJ9_max_7cf53 6 = .ok (.goto 4, 3) := by decide +kernel
theorem dJ9_max_7cf53_9 : decode cJ9_max_7cf53 9 = .ok (.iload_n 1, 1) := by decide +kernel
theorem dJ9_max_7cf53_10 : decode cJ9_max_7cf53 10 = .ok (.ireturn, 1) := by decide +kernel
theorem dJ9_min_7cf53_0 : decode cJ9_min_7cf53 0 = .ok (.iload_n 0, 1) := by decide +kernel
theorem dJ9_min_7cf53_1 : decode cJ9_min_7cf53 1 = .ok (.iload_n 1, 1) := by decide +kernel
theorem dJ9_min_7cf53_2 : decode cJ9_min_7cf53 2 = .ok (.if_icmp .gt 7, 3) := by decide +kernel
theorem dJ9_min_7cf53_5 : decode cJ9_min_7cf53 5 = .ok (.iload_n 0, 1) := by decide +kernel
theorem dJ9_min_7cf53_6 : decode cJ9_min_7cf53 6 = .ok (.goto 4, 3) := by decide +kernel
theorem dJ9_min_7cf53_9 : decode cJ9_min_7cf53 9 = .ok (.iload_n 1, 1) := by decide +kernel
theorem dJ9_min_7cf53_10 : decode cJ9_min_7cf53 10 = .ok (.ireturn, 1) := by decide +kernel
theorem dL_law_0 : decode cL_law 0 = .ok (.new 7, 3) := by decide +kernel
theorem dL_law_3 : decode cL_law 3 = .ok (.dup, 1) := by decide +kernel
theorem dL_law_4 : decode cL_law 4 = .ok (.invokespecial 9, 3) := by decide +kernel
theorem dL_law_7 : decode cL_law 7 = .ok (.astore_n 1, 1) := by decide +kernel
theorem dL_law_8 : decode cL_law 8 = .ok (.new 10, 3) := by decide +kernel
theorem dL_law_11 : decode cL_law 11 = .ok (.dup, 1) := by decide +kernel
theorem dL_law_12 : decode cL_law 12 = .ok (.invokespecial 12, 3) := by decide +kernel
theorem dL_law_15 : decode cL_law 15 = .ok (.astore_n 2, 1) := by decide +kernel
theorem dL_law_16 : decode cL_law 16 = .ok (.iconst 0, 1) := by decide +kernel
theorem dL_law_17 : decode cL_law 17 = .ok (.istore_n 3, 1) := by decide +kernel
theorem dL_law_18 : decode cL_law 18 = .ok (.iload_n 3, 1) := by decide +kernel
theorem dL_law_19 : decode cL_law 19 = .ok (.aload_n 0, 1) := by decide +kernel
theorem dL_law_20 : decode cL_law 20 = .ok (.arraylength, 1) := by decide +kernel
theorem dL_law_21 : decode cL_law 21 = .ok (.bipush 6, 2) := by decide +kernel
theorem dL_law_23 : decode cL_law 23 = .ok (.isub, 1) := by decide +kernel
theorem dL_law_24 : decode cL_law 24 = .ok (.if_icmp .gt 1067, 3) := by decide +kernel
theorem dL_law_27 : decode cL_law 27 = .ok (.aload_n 0, 1) := by decide +kernel
theorem dL_law_28 : decode cL_law 28 = .ok (.iload_n 3, 1) := by decide +kernel
theorem dL_law_29 : decode cL_law 29 = .ok (.iaload, 1) := by decide +kernel
theorem dL_law_30 : decode cL_law 30 = .ok (.bipush 31, 2) := by decide +kernel
theorem dL_law_32 : decode cL_law 32 = .ok (.iand, 1) := by decide +kernel
theorem dL_law_33 : decode cL_law 33 = .ok (.tableswitch 1052 0 30 #[139, 182, 215, 248, 271, 294, 317, 330, 353, 376, 399, 412, 435, 458, 481, 494, 517, 540, 573, 596, 619, 652, 685, 708, 721, 734, 787, 840, 883, 906, 989], 139) := by decide +kernel
theorem dL_law_172 : decode cL_law 172 = .ok (.aload_n 1, 1) := by decide +kernel
theorem dL_law_173 : decode cL_law 173 = .ok (.aload_n 0, 1) := by decide +kernel
theorem dL_law_174 : decode cL_law 174 = .ok (.iload_n 3, 1) := by decide +kernel
theorem dL_law_175 : decode cL_law 175 = .ok (.iconst 1, 1) := by decide +kernel
theorem dL_law_176 : decode cL_law 176 = .ok (.iadd, 1) := by decide +kernel
theorem dL_law_177 : decode cL_law 177 = .ok (.iaload, 1) := by decide +kernel
theorem dL_law_178 : decode cL_law 178 = .ok (.aload_n 0, 1) := by decide +kernel
theorem dL_law_179 : decode cL_law 179 = .ok (.iload_n 3, 1) := by decide +kernel
theorem dL_law_180 : decode cL_law 180 = .ok (.iconst 2, 1) := by decide +kernel
theorem dL_law_181 : decode cL_law 181 = .ok (.iadd, 1) := by decide +kernel
theorem dL_law_182 : decode cL_law 182 = .ok (.iaload, 1) := by decide +kernel
theorem dL_law_183 : decode cL_law 183 = .ok (.aload_n 0, 1) := by decide +kernel
theorem dL_law_184 : decode cL_law 184 = .ok (.iload_n 3, 1) := by decide +kernel
theorem dL_law_185 : decode cL_law 185 = .ok (.iconst 3, 1) := by decide +kernel
theorem dL_law_186 : decode cL_law 186 = .ok (.iadd, 1) := by decide +kernel
theorem dL_law_187 : decode cL_law 187 = .ok (.iaload, 1) := by decide +kernel
theorem dL_law_188 : decode cL_law 188 = .ok (.invokevirtual 13, 3) := by decide +kernel
theorem dL_law_191 : decode cL_law 191 = .ok (.aload_n 2, 1) := by decide +kernel
theorem dL_law_192 : decode cL_law 192 = .ok (.aload_n 0, 1) := by decide +kernel
theorem dL_law_193 : decode cL_law 193 = .ok (.iload_n 3, 1) := by decide +kernel
theorem dL_law_194 : decode cL_law 194 = .ok (.iconst 1, 1) := by decide +kernel
theorem dL_law_195 : decode cL_law 195 = .ok (.iadd, 1) := by decide +kernel
theorem dL_law_196 : decode cL_law 196 = .ok (.iaload, 1) := by decide +kernel
theorem dL_law_197 : decode cL_law 197 = .ok (.aload_n 0, 1) := by decide +kernel
theorem dL_law_198 : decode cL_law 198 = .ok (.iload_n 3, 1) := by decide +kernel
theorem dL_law_199 : decode cL_law 199 = .ok (.iconst 2, 1) := by decide +kernel
theorem dL_law_200 : decode cL_law 200 = .ok (.iadd, 1) := by decide +kernel
theorem dL_law_201 : decode cL_law 201 = .ok (.iaload, 1) := by decide +kernel
theorem dL_law_202 : decode cL_law 202 = .ok (.aload_n 0, 1) := by decide +kernel
theorem dL_law_203 : decode cL_law 203 = .ok (.iload_n 3, 1) := by decide +kernel
theorem dL_law_204 : decode cL_law 204 = .ok (.iconst 3, 1) := by decide +kernel
theorem dL_law_205 : decode cL_law 205 = .ok (.iadd, 1) := by decide +kernel
theorem dL_law_206 : decode cL_law 206 = .ok (.iaload, 1) := by decide +kernel
theorem dL_law_207 : decode cL_law 207 = .ok (.invokevirtual 17, 3) := by decide +kernel
theorem dL_law_210 : decode cL_law 210 = .ok (.if_icmp .eq 875, 3) := by decide +kernel
theorem dL_law_213 : decode cL_law 213 = .ok (.iconst 0, 1) := by decide +kernel
theorem dL_law_214 : decode cL_law 214 = .ok (.ireturn, 1) := by decide +kernel
theorem dL_law_215 : decode cL_law 215 = .ok (.aload_n 1, 1) := by decide +kernel
theorem dL_law_216 : decode cL_law 216 = .ok (.aload_n 0, 1) := by decide +kernel
theorem dL_law_217 : decode cL_law 217 = .ok (.iload_n 3, 1) := by decide +kernel
theorem dL_law_218 : decode cL_law 218 = .ok (.iconst 1, 1) := by decide +kernel
theorem dL_law_219 : decode cL_law 219 = .ok (.iadd, 1) := by decide +kernel
theorem dL_law_220 : decode cL_law 220 = .ok (.iaload, 1) := by decide +kernel
theorem dL_law_221 : decode cL_law 221 = .ok (.aload_n 0, 1) := by decide +kernel
theorem dL_law_222 : decode cL_law 222 = .ok (.iload_n 3, 1) := by decide +kernel
theorem dL_law_223 : decode cL_law 223 = .ok (.iconst 2, 1) := by decide +kernel
theorem dL_law_224 : decode cL_law 224 = .ok (.iadd, 1) := by decide +kernel
theorem dL_law_225 : decode cL_law 225 = .ok (.iaload, 1) := by decide +kernel
theorem dL_law_226 : decode cL_law 226 = .ok (.invokevirtual 18, 3) := by decide +kernel
theorem dL_law_229 : decode cL_law 229 = .ok (.aload_n 2, 1) := by decide +kernel
theorem dL_law_230 : decode cL_law 230 = .ok (.aload_n 0, 1) := by decide +kernel
theorem dL_law_231 : decode cL_law 231 = .ok (.iload_n 3, 1) := by decide +kernel
theorem dL_law_232 : decode cL_law 232 = .ok (.iconst 1, 1) := by decide +kernel
theorem dL_law_233 : decode cL_law 233 = .ok (.iadd, 1) := by decide +kernel
theorem dL_law_234 : decode cL_law 234 = .ok (.iaload, 1) := by decide +kernel
theorem dL_law_235 : decode cL_law 235 = .ok (.aload_n 0, 1) := by decide +kernel
theorem dL_law_236 : decode cL_law 236 = .ok (.iload_n 3, 1) := by decide +kernel
theorem dL_law_237 : decode cL_law 237 = .ok (.iconst 2, 1) := by decide +kernel
theorem dL_law_238 : decode cL_law 238 = .ok (.iadd, 1) := by decide +kernel
theorem dL_law_239 : decode cL_law 239 = .ok (.iaload, 1) := by decide +kernel
theorem dL_law_240 : decode cL_law 240 = .ok (.invokevirtual 22, 3) := by decide +kernel
theorem dL_law_243 : decode cL_law 243 = .ok (.if_icmp .eq 842, 3) := by decide +kernel
theorem dL_law_246 : decode cL_law 246 = .ok (.iconst 0, 1) := by decide +kernel
theorem dL_law_247 : decode cL_law 247 = .ok (.ireturn, 1) := by decide +kernel
theorem dL_law_248 : decode cL_law 248 = .ok (.aload_n 1, 1) := by decide +kernel
theorem dL_law_249 : decode cL_law 249 = .ok (.aload_n 0, 1) := by decide +kernel
theorem dL_law_250 : decode cL_law 250 = .ok (.iload_n 3, 1) := by decide +kernel
theorem dL_law_251 : decode cL_law 251 = .ok (.iconst 1, 1) := by decide +kernel
theorem dL_law_252 : decode cL_law 252 = .ok (.iadd, 1) := by decide +kernel
theorem dL_law_253 : decode cL_law 253 = .ok (.iaload, 1) := by decide +kernel
theorem dL_law_254 : decode cL_law 254 = .ok (.aload_n 0, 1) := by decide +kernel
theorem dL_law_255 : decode cL_law 255 = .ok (.iload_n 3, 1) := by decide +kernel
theorem dL_law_256 : decode cL_law 256 = .ok (.iconst 2, 1) := by decide +kernel
theorem dL_law_257 : decode cL_law 257 = .ok (.iadd, 1) := by decide +kernel
theorem dL_law_258 : decode cL_law 258 = .ok (.iaload, 1) := by decide +kernel
theorem dL_law_259 : decode cL_law 259 = .ok (.invokevirtual 23, 3) := by decide +kernel
theorem dL_law_262 : decode cL_law 262 = .ok (.aload_n 2, 1) := by decide +kernel
theorem dL_law_263 : decode cL_law 263 = .ok (.aload_n 0, 1) := by decide +kernel
theorem dL_law_264 : decode cL_law 264 = .ok (.iload_n 3, 1) := by decide +kernel
theorem dL_law_265 : decode cL_law 265 = .ok (.iconst 1, 1) := by decide +kernel
theorem dL_law_266 : decode cL_law 266 = .ok (.iadd, 1) := by decide +kernel
theorem dL_law_267 : decode cL_law 267 = .ok (.iaload, 1) := by decide +kernel
theorem dL_law_268 : decode cL_law 268 = .ok (.aload_n 0, 1) := by decide +kernel
theorem dL_law_269 : decode cL_law 269 = .ok (.iload_n 3, 1) := by decide +kernel
theorem dL_law_270 : decode cL_law 270 = .ok (.iconst 2, 1) := by decide +kernel
theorem dL_law_271 : decode cL_law 271 = .ok (.iadd, 1) := by decide +kernel
theorem dL_law_272 : decode cL_law 272 = .ok (.iaload, 1) := by decide +kernel
theorem dL_law_273 : decode cL_law 273 = .ok (.invokevirtual 26, 3) := by decide +kernel
theorem dL_law_276 : decode cL_law 276 = .ok (.if_icmp .eq 809, 3) := by decide +kernel
theorem dL_law_279 : decode cL_law 279 = .ok (.iconst 0, 1) := by decide +kernel
theorem dL_law_280 : decode cL_law 280 = .ok (.ireturn, 1) := by decide +kernel
theorem dL_law_281 : decode cL_law 281 = .ok (.aload_n 1, 1) := by decide +kernel
theorem dL_law_282 : decode cL_law 282 = .ok (.aload_n 0, 1) := by decide +kernel
theorem dL_law_283 : decode cL_law 283 = .ok (.iload_n 3, 1) := by decide +kernel
theorem dL_law_284 : decode cL_law 284 = .ok (.iconst 1, 1) := by decide +kernel
theorem dL_law_285 : decode cL_law 285 = .ok (.iadd, 1) := by decide +kernel
theorem dL_law_286 : decode cL_law 286 = .ok (.iaload, 1) := by decide +kernel
theorem dL_law_287 : decode cL_law 287 = .ok (.invokevirtual 27, 3) := by decide +kernel
theorem dL_law_290 : decode cL_law 290 = .ok (.aload_n 2, 1) := by decide +kernel
theorem dL_law_291 : decode cL_law 291 = .ok (.aload_n 0, 1) := by decide +kernel
theorem dL_law_292 : decode cL_law 292 = .ok (.iload_n 3, 1) := by decide +kernel
theorem dL_law_293 : decode cL_law 293 = .ok (.iconst 1, 1) := by decide +kernel
theorem dL_law_294 : decode cL_law 294 = .ok (.iadd, 1) := by decide +kernel
theorem dL_law_295 : decode cL_law 295 = .ok (.iaload, 1) := by decide +kernel
theorem dL_law_296 : decode cL_law 296 = .ok (.invokevirtual 31, 3) := by decide +kernel
theorem dL_law_299 : decode cL_law 299 = .ok (.if_icmp .eq 786, 3) := by decide +kernel
theorem dL_law_302 : decode cL_law 302 = .ok (.iconst 0, 1) := by decide +kernel
theorem dL_law_303 : decode cL_law 303 = .ok (.ireturn, 1) := by decide +kernel
theorem dL_law_304 : decode cL_law 304 = .ok (.aload_n 1, 1) := by decide +kernel
theorem dL_law_305 : decode cL_law 305 = .ok (.aload_n 0, 1) := by decide +kernel
theorem dL_law_306 : decode cL_law 306 = .ok (.iload_n 3, 1) := by decide +kernel
theorem dL_law_307 : decode cL_law 307 = .ok (.iconst 1, 1) := by decide +kernel
theorem dL_law_308 : decode cL_law 308 = .ok (.iadd, 1) := by decide +kernel
theorem dL_law_309 : decode cL_law 309 = .ok (.iaload, 1) := by decide +kernel
theorem dL_law_310 : decode cL_law 310 = .ok (.invokevirtual 32, 3) := by decide +kernel
theorem dL_law_313 : decode cL_law 313 = .ok (.aload_n 2, 1) := by decide +kernel
theorem dL_law_314 : decode cL_law 314 = .ok (.aload_n 0, 1) := by decide +kernel
theorem dL_law_315 : decode cL_law 315 = .ok (.iload_n 3, 1) := by decide +kernel
theorem dL_law_316 : decode cL_law 316 = .ok (.iconst 1, 1) := by decide +kernel
theorem dL_law_317 : decode cL_law 317 = .ok (.iadd, 1) := by decide +kernel
theorem dL_law_318 : decode cL_law 318 = .ok (.iaload, 1) := by decide +kernel
theorem dL_law_319 : decode cL_law 319 = .ok (.invokevirtual 35, 3) := by decide +kernel
theorem dL_law_322 : decode cL_law 322 = .ok (.if_icmp .eq 763, 3) := by decide +kernel
theorem dL_law_325 : decode cL_law 325 = .ok (.iconst 0, 1) := by decide +kernel
theorem dL_law_326 : decode cL_law 326 = .ok (.ireturn, 1) := by decide +kernel
theorem dL_law_327 : decode cL_law 327 = .ok (.aload_n 1, 1) := by decide +kernel
theorem dL_law_328 : decode cL_law 328 = .ok (.aload_n 0, 1) := by decide +kernel
theorem dL_law_329 : decode cL_law 329 = .ok (.iload_n 3, 1) := by decide +kernel
theorem dL_law_330 : decode cL_law 330 = .ok (.iconst 1, 1) := by decide +kernel
theorem dL_law_331 : decode cL_law 331 = .ok (.iadd, 1) := by decide +kernel
theorem dL_law_332 : decode cL_law 332 = .ok (.iaload, 1) := by decide +kernel
theorem dL_law_333 : decode cL_law 333 = .ok (.invokevirtual 36, 3) := by decide +kernel
theorem dL_law_336 : decode cL_law 336 = .ok (.aload_n 2, 1) := by decide +kernel
theorem dL_law_337 : decode cL_law 337 = .ok (.aload_n 0, 1) := by decide +kernel
theorem dL_law_338 : decode cL_law 338 = .ok (.iload_n 3, 1) := by decide +kernel
theorem dL_law_339 : decode cL_law 339 = .ok (.iconst 1, 1) := by decide +kernel
theorem dL_law_340 : decode cL_law 340 = .ok (.iadd, 1) := by decide +kernel
theorem dL_law_341 : decode cL_law 341 = .ok (.iaload, 1) := by decide +kernel
theorem dL_law_342 : decode cL_law 342 = .ok (.invokevirtual 39, 3) := by decide +kernel
theorem dL_law_345 : decode cL_law 345 = .ok (.if_icmp .eq 740, 3) := by decide +kernel
theorem dL_law_348 : decode cL_law 348 = .ok (.iconst 0, 1) := by decide +kernel
theorem dL_law_349 : decode cL_law 349 = .ok (.ireturn, 1) := by decide +kernel
theorem dL_law_350 : decode cL_law 350 = .ok (.aload_n 1, 1) := by decide +kernel
theorem dL_law_351 : decode cL_law 351 = .ok (.invokevirtual 40, 3) := by decide +kernel
theorem dL_law_354 : decode cL_law 354 = .ok (.aload_n 2, 1) := by decide +kernel
theorem dL_law_355 : decode cL_law 355 = .ok (.invokevirtual 44, 3) := by decide +kernel
theorem dL_law_358 : decode cL_law 358 = .ok (.if_icmp .eq 727, 3) := by decide +kernel
theorem dL_law_361 : decode cL_law 361 = .ok (.iconst 0, 1) := by decide +kernel
theorem dL_law_362 : decode cL_law 362 = .ok (.ireturn, 1) := by decide +kernel
theorem dL_law_363 : decode cL_law 363 = .ok (.aload_n 1, 1) := by decide +kernel
theorem dL_law_364 : decode cL_law 364 = .ok (.aload_n 0, 1) := by decide +kernel
theorem dL_law_365 : decode cL_law 365 = .ok (.iload_n 3, 1) := by decide +kernel
theorem dL_law_366 : decode cL_law 366 = .ok (.iconst 1, 1) := by decide +kernel
theorem dL_law_367 : decode cL_law 367 = .ok (.iadd, 1) := by decide +kernel
theorem dL_law_368 : decode cL_law 368 = .ok (.iaload, 1) := by decide +kernel
theorem dL_law_369 : decode cL_law 369 = .ok (.invokevirtual 45, 3) := by decide +kernel
theorem dL_law_372 : decode cL_law 372 = .ok (.aload_n 2, 1) := by decide +kernel
theorem dL_law_373 : decode cL_law 373 = .ok (.aload_n 0, 1) := by decide +kernel
theorem dL_law_374 : decode cL_law 374 = .ok (.iload_n 3, 1) := by decide +kernel
theorem dL_law_375 : decode cL_law 375 = .ok (.iconst 1, 1) := by decide +kernel
theorem dL_law_376 : decode cL_law 376 = .ok (.iadd, 1) := by decide +kernel
theorem dL_law_377 : decode cL_law 377 = .ok (.iaload, 1) := by decide +kernel
theorem dL_law_378 : decode cL_law 378 = .ok (.invokevirtual 48, 3) := by decide +kernel
theorem dL_law_381 : decode cL_law 381 = .ok (.if_icmp .eq 704, 3) := by decide +kernel
theorem dL_law_384 : decode cL_law 384 = .ok (.iconst 0, 1) := by decide +kernel
theorem dL_law_385 : decode cL_law 385 = .ok (.ireturn, 1) := by decide +kernel
theorem dL_law_386 : decode cL_law 386 = .ok (.aload_n 1, 1) := by decide +kernel
theorem dL_law_387 : decode cL_law 387 = .ok (.aload_n 0, 1) := by decide +kernel
theorem dL_law_388 : decode cL_law 388 = .ok (.iload_n 3, 1) := by decide +kernel
theorem dL_law_389 : decode cL_law 389 = .ok (.iconst 1, 1) := by decide +kernel
theorem dL_law_390 : decode cL_law 390 = .ok (.iadd, 1) := by decide +kernel
theorem dL_law_391 : decode cL_law 391 = .ok (.iaload, 1) := by decide +kernel
theorem dL_law_392 : decode cL_law 392 = .ok (.invokevirtual 49, 3) := by decide +kernel
theorem dL_law_395 : decode cL_law 395 = .ok (.aload_n 2, 1) := by decide +kernel
theorem dL_law_396 : decode cL_law 396 = .ok (.aload_n 0, 1) := by decide +kernel
theorem dL_law_397 : decode cL_law 397 = .ok (.iload_n 3, 1) := by decide +kernel
theorem dL_law_398 : decode cL_law 398 = .ok (.iconst 1, 1) := by decide +kernel
theorem dL_law_399 : decode cL_law 399 = .ok (.iadd, 1) := by decide +kernel
theorem dL_law_400 : decode cL_law 400 = .ok (.iaload, 1) := by decide +kernel
theorem dL_law_401 : decode cL_law 401 = .ok (.invokevirtual 52, 3) := by decide +kernel
theorem dL_law_404 : decode cL_law 404 = .ok (.if_icmp .eq 681, 3) := by decide +kernel
theorem dL_law_407 : decode cL_law 407 = .ok (.iconst 0, 1) := by decide +kernel
theorem dL_law_408 : decode cL_law 408 = .ok (.ireturn, 1) := by decide +kernel
theorem dL_law_409 : decode cL_law 409 = .ok (.aload_n 1, 1) := by decide +kernel
theorem dL_law_410 : decode cL_law 410 = .ok (.aload_n 0, 1) := by decide +kernel
theorem dL_law_411 : decode cL_law 411 = .ok (.iload_n 3, 1) := by decide +kernel
theorem dL_law_412 : decode cL_law 412 = .ok (.iconst 1, 1) := by decide +kernel
theorem dL_law_413 : decode cL_law 413 = .ok (.iadd, 1) := by decide +kernel
theorem dL_law_414 : decode cL_law 414 = .ok (.iaload, 1) := by decide +kernel
theorem dL_law_415 : decode cL_law 415 = .ok (.invokevirtual 53, 3) := by decide +kernel
theorem dL_law_418 : decode cL_law 418 = .ok (.aload_n 2, 1) := by decide +kernel
theorem dL_law_419 : decode cL_law 419 = .ok (.aload_n 0, 1) := by decide +kernel
theorem dL_law_420 : decode cL_law 420 = .ok (.iload_n 3, 1) := by decide +kernel
theorem dL_law_421 : decode cL_law 421 = .ok (.iconst 1, 1) := by decide +kernel
theorem dL_law_422 : decode cL_law 422 = .ok (.iadd, 1) := by decide +kernel
theorem dL_law_423 : decode cL_law 423 = .ok (.iaload, 1) := by decide +kernel
theorem dL_law_424 : decode cL_law 424 = .ok (.invokevirtual 56, 3) := by decide +kernel
theorem dL_law_427 : decode cL_law 427 = .ok (.if_icmp .eq 658, 3) := by decide +kernel
theorem dL_law_430 : decode cL_law 430 = .ok (.iconst 0, 1) := by decide +kernel
theorem dL_law_431 : decode cL_law 431 = .ok (.ireturn, 1) := by decide +kernel
theorem dL_law_432 : decode cL_law 432 = .ok (.aload_n 1, 1) := by decide +kernel
theorem dL_law_433 : decode cL_law 433 = .ok (.invokevirtual 57, 3) := by decide +kernel
theorem dL_law_436 : decode cL_law 436 = .ok (.aload_n 2, 1) := by decide +kernel
theorem dL_law_437 : decode cL_law 437 = .ok (.invokevirtual 60, 3) := by decide +kernel
theorem dL_law_440 : decode cL_law 440 = .ok (.if_icmp .eq 645, 3) := by decide +kernel
theorem dL_law_443 : decode cL_law 443 = .ok (.iconst 0, 1) := by decide +kernel
theorem dL_law_444 : decode cL_law 444 = .ok (.ireturn, 1) := by decide +kernel
theorem dL_law_445 : decode cL_law 445 = .ok (.aload_n 1, 1) := by decide +kernel
theorem dL_law_446 : decode cL_law 446 = .ok (.aload_n 0, 1) := by decide +kernel
theorem dL_law_447 : decode cL_law 447 = .ok (.iload_n 3, 1) := by decide +kernel
theorem dL_law_448 : decode cL_law 448 = .ok (.iconst 1, 1) := by decide +kernel
theorem dL_law_449 : decode cL_law 449 = .ok (.iadd, 1) := by decide +kernel
theorem dL_law_450 : decode cL_law 450 = .ok (.iaload, 1) := by decide +kernel
theorem dL_law_451 : decode cL_law 451 = .ok (.invokevirtual 61, 3) := by decide +kernel
theorem dL_law_454 : decode cL_law 454 = .ok (.aload_n 2, 1) := by decide +kernel
theorem dL_law_455 : decode cL_law 455 = .ok (.aload_n 0, 1) := by decide +kernel
theorem dL_law_456 : decode cL_law 456 = .ok (.iload_n 3, 1) := by decide +kernel
theorem dL_law_457 : decode cL_law 457 = .ok (.iconst 1, 1) := by decide +kernel
theorem dL_law_458 : decode cL_law 458 = .ok (.iadd, 1) := by decide +kernel
theorem dL_law_459 : decode cL_law 459 = .ok (.iaload, 1) := by decide +kernel
theorem dL_law_460 : decode cL_law 460 = .ok (.invokevirtual 64, 3) := by decide +kernel
theorem dL_law_463 : decode cL_law 463 = .ok (.if_icmp .eq 622, 3) := by decide +kernel
theorem dL_law_466 : decode cL_law 466 = .ok (.iconst 0, 1) := by decide +kernel
theorem dL_law_467 : decode cL_law 467 = .ok (.ireturn, 1) := by decide +kernel
theorem dL_law_468 : decode cL_law 468 = .ok (.aload_n 1, 1) := by decide +kernel
theorem dL_law_469 : decode cL_law 469 = .ok (.aload_n 0, 1) := by decide +kernel
theorem dL_law_470 : decode cL_law 470 = .ok (.iload_n 3, 1) := by decide +kernel
theorem dL_law_471 : decode cL_law 471 = .ok (.iconst 1, 1) := by decide +kernel
theorem dL_law_472 : decode cL_law 472 = .ok (.iadd, 1) := by decide +kernel
theorem dL_law_473 : decode cL_law 473 = .ok (.iaload, 1) := by decide +kernel
theorem dL_law_474 : decode cL_law 474 = .ok (.invokevirtual 65, 3) := by decide +kernel
theorem dL_law_477 : decode cL_law 477 = .ok (.aload_n 2, 1) := by decide +kernel
theorem dL_law_478 : decode cL_law 478 = .ok (.aload_n 0, 1) := by decide +kernel
theorem dL_law_479 : decode cL_law 479 = .ok (.iload_n 3, 1) := by decide +kernel
theorem dL_law_480 : decode cL_law 480 = .ok (.iconst 1, 1) := by decide +kernel
theorem dL_law_481 : decode cL_law 481 = .ok (.iadd, 1) := by decide +kernel
theorem dL_law_482 : decode cL_law 482 = .ok (.iaload, 1) := by decide +kernel
theorem dL_law_483 : decode cL_law 483 = .ok (.invokevirtual 68, 3) := by decide +kernel
theorem dL_law_486 : decode cL_law 486 = .ok (.if_icmp .eq 599, 3) := by decide +kernel
theorem dL_law_489 : decode cL_law 489 = .ok (.iconst 0, 1) := by decide +kernel
theorem dL_law_490 : decode cL_law 490 = .ok (.ireturn, 1) := by decide +kernel
theorem dL_law_491 : decode cL_law 491 = .ok (.aload_n 1, 1) := by decide +kernel
theorem dL_law_492 : decode cL_law 492 = .ok (.aload_n 0, 1) := by decide +kernel
theorem dL_law_493 : decode cL_law 493 = .ok (.iload_n 3, 1) := by decide +kernel
theorem dL_law_494 : decode cL_law 494 = .ok (.iconst 1, 1) := by decide +kernel
theorem dL_law_495 : decode cL_law 495 = .ok (.iadd, 1) := by decide +kernel
theorem dL_law_496 : decode cL_law 496 = .ok (.iaload, 1) := by decide +kernel
theorem dL_law_497 : decode cL_law 497 = .ok (.invokevirtual 69, 3) := by decide +kernel
theorem dL_law_500 : decode cL_law 500 = .ok (.aload_n 2, 1) := by decide +kernel
theorem dL_law_501 : decode cL_law 501 = .ok (.aload_n 0, 1) := by decide +kernel
theorem dL_law_502 : decode cL_law 502 = .ok (.iload_n 3, 1) := by decide +kernel
theorem dL_law_503 : decode cL_law 503 = .ok (.iconst 1, 1) := by decide +kernel
theorem dL_law_504 : decode cL_law 504 = .ok (.iadd, 1) := by decide +kernel
theorem dL_law_505 : decode cL_law 505 = .ok (.iaload, 1) := by decide +kernel
theorem dL_law_506 : decode cL_law 506 = .ok (.invokevirtual 72, 3) := by decide +kernel
theorem dL_law_509 : decode cL_law 509 = .ok (.if_icmp .eq 576, 3) := by decide +kernel
theorem dL_law_512 : decode cL_law 512 = .ok (.iconst 0, 1) := by decide +kernel
theorem dL_law_513 : decode cL_law 513 = .ok (.ireturn, 1) := by decide +kernel
theorem dL_law_514 : decode cL_law 514 = .ok (.aload_n 1, 1) := by decide +kernel
theorem dL_law_515 : decode cL_law 515 = .ok (.invokevirtual 73, 3) := by decide +kernel
theorem dL_law_518 : decode cL_law 518 = .ok (.aload_n 2, 1) := by decide +kernel
theorem dL_law_519 : decode cL_law 519 = .ok (.invokevirtual 76, 3) := by decide +kernel
theorem dL_law_522 : decode cL_law 522 = .ok (.if_icmp .eq 563, 3) := by decide +kernel
theorem dL_law_525 : decode cL_law 525 = .ok (.iconst 0, 1) := by decide +kernel
theorem dL_law_526 : decode cL_law 526 = .ok (.ireturn, 1) := by decide +kernel
theorem dL_law_527 : decode cL_law 527 = .ok (.aload_n 1, 1) := by decide +kernel
theorem dL_law_528 : decode cL_law 528 = .ok (.aload_n 0, 1) := by decide +kernel
theorem dL_law_529 : decode cL_law 529 = .ok (.iload_n 3, 1) := by decide +kernel
theorem dL_law_530 : decode cL_law 530 = .ok (.iconst 1, 1) := by decide +kernel
theorem dL_law_531 : decode cL_law 531 = .ok (.iadd, 1) := by decide +kernel
theorem dL_law_532 : decode cL_law 532 = .ok (.iaload, 1) := by decide +kernel
theorem dL_law_533 : decode cL_law 533 = .ok (.invokevirtual 77, 3) := by decide +kernel
theorem dL_law_536 : decode cL_law 536 = .ok (.aload_n 2, 1) := by decide +kernel
theorem dL_law_537 : decode cL_law 537 = .ok (.aload_n 0, 1) := by decide +kernel
theorem dL_law_538 : decode cL_law 538 = .ok (.iload_n 3, 1) := by decide +kernel
theorem dL_law_539 : decode cL_law 539 = .ok (.iconst 1, 1) := by decide +kernel
theorem dL_law_540 : decode cL_law 540 = .ok (.iadd, 1) := by decide +kernel
theorem dL_law_541 : decode cL_law 541 = .ok (.iaload, 1) := by decide +kernel
theorem dL_law_542 : decode cL_law 542 = .ok (.invokevirtual 80, 3) := by decide +kernel
theorem dL_law_545 : decode cL_law 545 = .ok (.if_icmp .eq 540, 3) := by decide +kernel
theorem dL_law_548 : decode cL_law 548 = .ok (.iconst 0, 1) := by decide +kernel
theorem dL_law_549 : decode cL_law 549 = .ok (.ireturn, 1) := by decide +kernel
theorem dL_law_550 : decode cL_law 550 = .ok (.aload_n 1, 1) := by decide +kernel
theorem dL_law_551 : decode cL_law 551 = .ok (.aload_n 0, 1) := by decide +kernel
theorem dL_law_552 : decode cL_law 552 = .ok (.iload_n 3, 1) := by decide +kernel
theorem dL_law_553 : decode cL_law 553 = .ok (.iconst 1, 1) := by decide +kernel
theorem dL_law_554 : decode cL_law 554 = .ok (.iadd, 1) := by decide +kernel
theorem dL_law_555 : decode cL_law 555 = .ok (.iaload, 1) := by decide +kernel
theorem dL_law_556 : decode cL_law 556 = .ok (.invokevirtual 81, 3) := by decide +kernel
theorem dL_law_559 : decode cL_law 559 = .ok (.aload_n 2, 1) := by decide +kernel
theorem dL_law_560 : decode cL_law 560 = .ok (.aload_n 0, 1) := by decide +kernel
theorem dL_law_561 : decode cL_law 561 = .ok (.iload_n 3, 1) := by decide +kernel
theorem dL_law_562 : decode cL_law 562 = .ok (.iconst 1, 1) := by decide +kernel
theorem dL_law_563 : decode cL_law 563 = .ok (.iadd, 1) := by decide +kernel
theorem dL_law_564 : decode cL_law 564 = .ok (.iaload, 1) := by decide +kernel
theorem dL_law_565 : decode cL_law 565 = .ok (.invokevirtual 84, 3) := by decide +kernel
theorem dL_law_568 : decode cL_law 568 = .ok (.if_icmp .eq 517, 3) := by decide +kernel
theorem dL_law_571 : decode cL_law 571 = .ok (.iconst 0, 1) := by decide +kernel
theorem dL_law_572 : decode cL_law 572 = .ok (.ireturn, 1) := by decide +kernel
theorem dL_law_573 : decode cL_law 573 = .ok (.aload_n 1, 1) := by decide +kernel
theorem dL_law_574 : decode cL_law 574 = .ok (.aload_n 0, 1) := by decide +kernel
theorem dL_law_575 : decode cL_law 575 = .ok (.iload_n 3, 1) := by decide +kernel
theorem dL_law_576 : decode cL_law 576 = .ok (.iconst 1, 1) := by decide +kernel
theorem dL_law_577 : decode cL_law 577 = .ok (.iadd, 1) := by decide +kernel
theorem dL_law_578 : decode cL_law 578 = .ok (.iaload, 1) := by decide +kernel
theorem dL_law_579 : decode cL_law 579 = .ok (.aload_n 0, 1) := by decide +kernel
theorem dL_law_580 : decode cL_law 580 = .ok (.iload_n 3, 1) := by decide +kernel
theorem dL_law_581 : decode cL_law 581 = .ok (.iconst 2, 1) := by decide +kernel
theorem dL_law_582 : decode cL_law 582 = .ok (.iadd, 1) := by decide +kernel
theorem dL_law_583 : decode cL_law 583 = .ok (.iaload, 1) := by decide +kernel
theorem dL_law_584 : decode cL_law 584 = .ok (.invokevirtual 85, 3) := by decide +kernel
theorem dL_law_587 : decode cL_law 587 = .ok (.aload_n 2, 1) := by decide +kernel
theorem dL_law_588 : decode cL_law 588 = .ok (.aload_n 0, 1) := by decide +kernel
theorem dL_law_589 : decode cL_law 589 = .ok (.iload_n 3, 1) := by decide +kernel
theorem dL_law_590 : decode cL_law 590 = .ok (.iconst 1, 1) := by decide +kernel
theorem dL_law_591 : decode cL_law 591 = .ok (.iadd, 1) := by decide +kernel
theorem dL_law_592 : decode cL_law 592 = .ok (.iaload, 1) := by decide +kernel
theorem dL_law_593 : decode cL_law 593 = .ok (.aload_n 0, 1) := by decide +kernel
theorem dL_law_594 : decode cL_law 594 = .ok (.iload_n 3, 1) := by decide +kernel
theorem dL_law_595 : decode cL_law 595 = .ok (.iconst 2, 1) := by decide +kernel
theorem dL_law_596 : decode cL_law 596 = .ok (.iadd, 1) := by decide +kernel
theorem dL_law_597 : decode cL_law 597 = .ok (.iaload, 1) := by decide +kernel
theorem dL_law_598 : decode cL_law 598 = .ok (.invokevirtual 88, 3) := by decide +kernel
theorem dL_law_601 : decode cL_law 601 = .ok (.if_icmp .eq 484, 3) := by decide +kernel
theorem dL_law_604 : decode cL_law 604 = .ok (.iconst 0, 1) := by decide +kernel
theorem dL_law_605 : decode cL_law 605 = .ok (.ireturn, 1) := by decide +kernel
theorem dL_law_606 : decode cL_law 606 = .ok (.aload_n 1, 1) := by decide +kernel
theorem dL_law_607 : decode cL_law 607 = .ok (.aload_n 0, 1) := by decide +kernel
theorem dL_law_608 : decode cL_law 608 = .ok (.iload_n 3, 1) := by decide +kernel
theorem dL_law_609 : decode cL_law 609 = .ok (.iconst 1, 1) := by decide +kernel
theorem dL_law_610 : decode cL_law 610 = .ok (.iadd, 1) := by decide +kernel
theorem dL_law_611 : decode cL_law 611 = .ok (.iaload, 1) := by decide +kernel
theorem dL_law_612 : decode cL_law 612 = .ok (.invokevirtual 89, 3) := by decide +kernel
theorem dL_law_615 : decode cL_law 615 = .ok (.aload_n 2, 1) := by decide +kernel
theorem dL_law_616 : decode cL_law 616 = .ok (.aload_n 0, 1) := by decide +kernel
theorem dL_law_617 : decode cL_law 617 = .ok (.iload_n 3, 1) := by decide +kernel
theorem dL_law_618 : decode cL_law 618 = .ok (.iconst 1, 1) := by decide +kernel
theorem dL_law_619 : decode cL_law 619 = .ok (.iadd, 1) := by decide +kernel
theorem dL_law_620 : decode cL_law 620 = .ok (.iaload, 1) := by decide +kernel
theorem dL_law_621 : decode cL_law 621 = .ok (.invokevirtual 92, 3) := by decide +kernel
theorem dL_law_624 : decode cL_law 624 = .ok (.if_icmp .eq 461, 3) := by decide +kernel
theorem dL_law_627 : decode cL_law 627 = .ok (.iconst 0, 1) := by decide +kernel
theorem dL_law_628 : decode cL_law 628 = .ok (.ireturn, 1) := by decide +kernel
theorem dL_law_629 : decode cL_law 629 = .ok (.aload_n 1, 1) := by decide +kernel
theorem dL_law_630 : decode cL_law 630 = .ok (.aload_n 0, 1) := by decide +kernel
theorem dL_law_631 : decode cL_law 631 = .ok (.iload_n 3, 1) := by decide +kernel
theorem dL_law_632 : decode cL_law 632 = .ok (.iconst 1, 1) := by decide +kernel
theorem dL_law_633 : decode cL_law 633 = .ok (.iadd, 1) := by decide +kernel
theorem dL_law_634 : decode cL_law 634 = .ok (.iaload, 1) := by decide +kernel
theorem dL_law_635 : decode cL_law 635 = .ok (.invokevirtual 93, 3) := by decide +kernel
theorem dL_law_638 : decode cL_law 638 = .ok (.aload_n 2, 1) := by decide +kernel
theorem dL_law_639 : decode cL_law 639 = .ok (.aload_n 0, 1) := by decide +kernel
theorem dL_law_640 : decode cL_law 640 = .ok (.iload_n 3, 1) := by decide +kernel
theorem dL_law_641 : decode cL_law 641 = .ok (.iconst 1, 1) := by decide +kernel
theorem dL_law_642 : decode cL_law 642 = .ok (.iadd, 1) := by decide +kernel
theorem dL_law_643 : decode cL_law 643 = .ok (.iaload, 1) := by decide +kernel
theorem dL_law_644 : decode cL_law 644 = .ok (.invokevirtual 96, 3) := by decide +kernel
theorem dL_law_647 : decode cL_law 647 = .ok (.if_icmp .eq 438, 3) := by decide +kernel
theorem dL_law_650 : decode cL_law 650 = .ok (.iconst 0, 1) := by decide +kernel
theorem dL_law_651 : decode cL_law 651 = .ok (.ireturn, 1) := by decide +kernel
theorem dL_law_652 : decode cL_law 652 = .ok (.aload_n 1, 1) := by decide +kernel
theorem dL_law_653 : decode cL_law 653 = .ok (.aload_n 0, 1) := by decide +kernel
theorem dL_law_654 : decode cL_law 654 = .ok (.iload_n 3, 1) := by decide +kernel
theorem dL_law_655 : decode cL_law 655 = .ok (.iconst 1, 1) := by decide +kernel
theorem dL_law_656 : decode cL_law 656 = .ok (.iadd, 1) := by decide +kernel
theorem dL_law_657 : decode cL_law 657 = .ok (.iaload, 1) := by decide +kernel
theorem dL_law_658 : decode cL_law 658 = .ok (.aload_n 0, 1) := by decide +kernel
theorem dL_law_659 : decode cL_law 659 = .ok (.iload_n 3, 1) := by decide +kernel
theorem dL_law_660 : decode cL_law 660 = .ok (.iconst 2, 1) := by decide +kernel
theorem dL_law_661 : decode cL_law 661 = .ok (.iadd, 1) := by decide +kernel
theorem dL_law_662 : decode cL_law 662 = .ok (.iaload, 1) := by decide +kernel
theorem dL_law_663 : decode cL_law 663 = .ok (.invokevirtual 97, 3) := by decide +kernel
theorem dL_law_666 : decode cL_law 666 = .ok (.aload_n 2, 1) := by decide +kernel
theorem dL_law_667 : decode cL_law 667 = .ok (.aload_n 0, 1) := by decide +kernel
theorem dL_law_668 : decode cL_law 668 = .ok (.iload_n 3, 1) := by decide +kernel
theorem dL_law_669 : decode cL_law 669 = .ok (.iconst 1, 1) := by decide +kernel
theorem dL_law_670 : decode cL_law 670 = .ok (.iadd, 1) := by decide +kernel
theorem dL_law_671 : decode cL_law 671 = .ok (.iaload, 1) := by decide +kernel
theorem dL_law_672 : decode cL_law 672 = .ok (.aload_n 0, 1) := by decide +kernel
theorem dL_law_673 : decode cL_law 673 = .ok (.iload_n 3, 1) := by decide +kernel
theorem dL_law_674 : decode cL_law 674 = .ok (.iconst 2, 1) := by decide +kernel
theorem dL_law_675 : decode cL_law 675 = .ok (.iadd, 1) := by decide +kernel
theorem dL_law_676 : decode cL_law 676 = .ok (.iaload, 1) := by decide +kernel
theorem dL_law_677 : decode cL_law 677 = .ok (.invokevirtual 100, 3) := by decide +kernel
theorem dL_law_680 : decode cL_law 680 = .ok (.if_icmp .eq 405, 3) := by decide +kernel
theorem dL_law_683 : decode cL_law 683 = .ok (.iconst 0, 1) := by decide +kernel
theorem dL_law_684 : decode cL_law 684 = .ok (.ireturn, 1) := by decide +kernel
theorem dL_law_685 : decode cL_law 685 = .ok (.aload_n 1, 1) := by decide +kernel
theorem dL_law_686 : decode cL_law 686 = .ok (.aload_n 0, 1) := by decide +kernel
theorem dL_law_687 : decode cL_law 687 = .ok (.iload_n 3, 1) := by decide +kernel
theorem dL_law_688 : decode cL_law 688 = .ok (.iconst 1, 1) := by decide +kernel
theorem dL_law_689 : decode cL_law 689 = .ok (.iadd, 1) := by decide +kernel
theorem dL_law_690 : decode cL_law 690 = .ok (.iaload, 1) := by decide +kernel
theorem dL_law_691 : decode cL_law 691 = .ok (.aload_n 0, 1) := by decide +kernel
theorem dL_law_692 : decode cL_law 692 = .ok (.iload_n 3, 1) := by decide +kernel
theorem dL_law_693 : decode cL_law 693 = .ok (.iconst 2, 1) := by decide +kernel
theorem dL_law_694 : decode cL_law 694 = .ok (.iadd, 1) := by decide +kernel
theorem dL_law_695 : decode cL_law 695 = .ok (.iaload, 1) := by decide +kernel
theorem dL_law_696 : decode cL_law 696 = .ok (.invokevirtual 101, 3) := by decide +kernel
theorem dL_law_699 : decode cL_law 699 = .ok (.aload_n 2, 1) := by decide +kernel
theorem dL_law_700 : decode cL_law 700 = .ok (.aload_n 0, 1) := by decide +kernel
theorem dL_law_701 : decode cL_law 701 = .ok (.iload_n 3, 1) := by decide +kernel
theorem dL_law_702 : decode cL_law 702 = .ok (.iconst 1, 1) := by decide +kernel
theorem dL_law_703 : decode cL_law 703 = .ok (.iadd, 1) := by decide +kernel
theorem dL_law_704 : decode cL_law 704 = .ok (.iaload, 1) := by decide +kernel
theorem dL_law_705 : decode cL_law 705 = .ok (.aload_n 0, 1) := by decide +kernel
theorem dL_law_706 : decode cL_law 706 = .ok (.iload_n 3, 1) := by decide +kernel
theorem dL_law_707 : decode cL_law 707 = .ok (.iconst 2, 1) := by decide +kernel
theorem dL_law_708 : decode cL_law 708 = .ok (.iadd, 1) := by decide +kernel
theorem dL_law_709 : decode cL_law 709 = .ok (.iaload, 1) := by decide +kernel
theorem dL_law_710 : decode cL_law 710 = .ok (.invokevirtual 104, 3) := by decide +kernel
theorem dL_law_713 : decode cL_law 713 = .ok (.if_icmp .eq 372, 3) := by decide +kernel
theorem dL_law_716 : decode cL_law 716 = .ok (.iconst 0, 1) := by decide +kernel
theorem dL_law_717 : decode cL_law 717 = .ok (.ireturn, 1) := by decide +kernel
theorem dL_law_718 : decode cL_law 718 = .ok (.aload_n 1, 1) := by decide +kernel
theorem dL_law_719 : decode cL_law 719 = .ok (.aload_n 0, 1) := by decide +kernel
theorem dL_law_720 : decode cL_law 720 = .ok (.iload_n 3, 1) := by decide +kernel
theorem dL_law_721 : decode cL_law 721 = .ok (.iconst 1, 1) := by decide +kernel
theorem dL_law_722 : decode cL_law 722 = .ok (.iadd, 1) := by decide +kernel
theorem dL_law_723 : decode cL_law 723 = .ok (.iaload, 1) := by decide +kernel
theorem dL_law_724 : decode cL_law 724 = .ok (.invokevirtual 105, 3) := by decide +kernel
theorem dL_law_727 : decode cL_law 727 = .ok (.aload_n 2, 1) := by decide +kernel
theorem dL_law_728 : decode cL_law 728 = .ok (.aload_n 0, 1) := by decide +kernel
theorem dL_law_729 : decode cL_law 729 = .ok (.iload_n 3, 1) := by decide +kernel
theorem dL_law_730 : decode cL_law 730 = .ok (.iconst 1, 1) := by decide +kernel
theorem dL_law_731 : decode cL_law 731 = .ok (.iadd, 1) := by decide +kernel
theorem dL_law_732 : decode cL_law 732 = .ok (.iaload, 1) := by decide +kernel
theorem dL_law_733 : decode cL_law 733 = .ok (.invokevirtual 108, 3) := by decide +kernel
theorem dL_law_736 : decode cL_law 736 = .ok (.if_icmp .eq 349, 3) := by decide +kernel
theorem dL_law_739 : decode cL_law 739 = .ok (.iconst 0, 1) := by decide +kernel
theorem dL_law_740 : decode cL_law 740 = .ok (.ireturn, 1) := by decide +kernel
theorem dL_law_741 : decode cL_law 741 = .ok (.aload_n 1, 1) := by decide +kernel
theorem dL_law_742 : decode cL_law 742 = .ok (.invokevirtual 109, 3) := by decide +kernel
theorem dL_law_745 : decode cL_law 745 = .ok (.aload_n 2, 1) := by decide +kernel
theorem dL_law_746 : decode cL_law 746 = .ok (.invokevirtual 112, 3) := by decide +kernel
theorem dL_law_749 : decode cL_law 749 = .ok (.if_icmp .eq 336, 3) := by decide +kernel
theorem dL_law_752 : decode cL_law 752 = .ok (.iconst 0, 1) := by decide +kernel
theorem dL_law_753 : decode cL_law 753 = .ok (.ireturn, 1) := by decide +kernel
theorem dL_law_754 : decode cL_law 754 = .ok (.aload_n 1, 1) := by decide +kernel
theorem dL_law_755 : decode cL_law 755 = .ok (.invokevirtual 113, 3) := by decide +kernel
theorem dL_law_758 : decode cL_law 758 = .ok (.aload_n 2, 1) := by decide +kernel
theorem dL_law_759 : decode cL_law 759 = .ok (.invokevirtual 116, 3) := by decide +kernel
theorem dL_law_762 : decode cL_law 762 = .ok (.if_icmp .eq 323, 3) := by decide +kernel
theorem dL_law_765 : decode cL_law 765 = .ok (.iconst 0, 1) := by decide +kernel
theorem dL_law_766 : decode cL_law 766 = .ok (.ireturn, 1) := by decide +kernel
theorem dL_law_767 : decode cL_law 767 = .ok (.aload_n 1, 1) := by decide +kernel
theorem dL_law_768 : decode cL_law 768 = .ok (.aload_n 0, 1) := by decide +kernel
theorem dL_law_769 : decode cL_law 769 = .ok (.iload_n 3, 1) := by decide +kernel
theorem dL_law_770 : decode cL_law 770 = .ok (.iconst 1, 1) := by decide +kernel
theorem dL_law_771 : decode cL_law 771 = .ok (.iadd, 1) := by decide +kernel
theorem dL_law_772 : decode cL_law 772 = .ok (.iaload, 1) := by decide +kernel
theorem dL_law_773 : decode cL_law 773 = .ok (.aload_n 0, 1) := by decide +kernel
theorem dL_law_774 : decode cL_law 774 = .ok (.iload_n 3, 1) := by decide +kernel
theorem dL_law_775 : decode cL_law 775 = .ok (.iconst 2, 1) := by decide +kernel
theorem dL_law_776 : decode cL_law 776 = .ok (.iadd, 1) := by decide +kernel
theorem dL_law_777 : decode cL_law 777 = .ok (.iaload, 1) := by decide +kernel
theorem dL_law_778 : decode cL_law 778 = .ok (.aload_n 0, 1) := by decide +kernel
theorem dL_law_779 : decode cL_law 779 = .ok (.iload_n 3, 1) := by decide +kernel
theorem dL_law_780 : decode cL_law 780 = .ok (.iconst 3, 1) := by decide +kernel
theorem dL_law_781 : decode cL_law 781 = .ok (.iadd, 1) := by decide +kernel
theorem dL_law_782 : decode cL_law 782 = .ok (.iaload, 1) := by decide +kernel
theorem dL_law_783 : decode cL_law 783 = .ok (.aload_n 0, 1) := by decide +kernel
theorem dL_law_784 : decode cL_law 784 = .ok (.iload_n 3, 1) := by decide +kernel
theorem dL_law_785 : decode cL_law 785 = .ok (.iconst 4, 1) := by decide +kernel
theorem dL_law_786 : decode cL_law 786 = .ok (.iadd, 1) := by decide +kernel
theorem dL_law_787 : decode cL_law 787 = .ok (.iaload, 1) := by decide +kernel
theorem dL_law_788 : decode cL_law 788 = .ok (.invokevirtual 117, 3) := by decide +kernel
theorem dL_law_791 : decode cL_law 791 = .ok (.aload_n 2, 1) := by decide +kernel
theorem dL_law_792 : decode cL_law 792 = .ok (.aload_n 0, 1) := by decide +kernel
theorem dL_law_793 : decode cL_law 793 = .ok (.iload_n 3, 1) := by decide +kernel
theorem dL_law_794 : decode cL_law 794 = .ok (.iconst 1, 1) := by decide +kernel
theorem dL_law_795 : decode cL_law 795 = .ok (.iadd, 1) := by decide +kernel
theorem dL_law_796 : decode cL_law 796 = .ok (.iaload, 1) := by decide +kernel
theorem dL_law_797 : decode cL_law 797 = .ok (.aload_n 0, 1) := by decide +kernel
theorem dL_law_798 : decode cL_law 798 = .ok (.iload_n 3, 1) := by decide +kernel
theorem dL_law_799 : decode cL_law 799 = .ok (.iconst 2, 1) := by decide +kernel
theorem dL_law_800 : decode cL_law 800 = .ok (.iadd, 1) := by decide +kernel
theorem dL_law_801 : decode cL_law 801 = .ok (.iaload, 1) := by decide +kernel
theorem dL_law_802 : decode cL_law 802 = .ok (.aload_n 0, 1) := by decide +kernel
theorem dL_law_803 : decode cL_law 803 = .ok (.iload_n 3, 1) := by decide +kernel
theorem dL_law_804 : decode cL_law 804 = .ok (.iconst 3, 1) := by decide +kernel
theorem dL_law_805 : decode cL_law 805 = .ok (.iadd, 1) := by decide +kernel
theorem dL_law_806 : decode cL_law 806 = .ok (.iaload, 1) := by decide +kernel
theorem dL_law_807 : decode cL_law 807 = .ok (.aload_n 0, 1) := by decide +kernel
theorem dL_law_808 : decode cL_law 808 = .ok (.iload_n 3, 1) := by decide +kernel
theorem dL_law_809 : decode cL_law 809 = .ok (.iconst 4, 1) := by decide +kernel
theorem dL_law_810 : decode cL_law 810 = .ok (.iadd, 1) := by decide +kernel
theorem dL_law_811 : decode cL_law 811 = .ok (.iaload, 1) := by decide +kernel
theorem dL_law_812 : decode cL_law 812 = .ok (.invokevirtual 121, 3) := by decide +kernel
theorem dL_law_815 : decode cL_law 815 = .ok (.if_icmp .eq 270, 3) := by decide +kernel
theorem dL_law_818 : decode cL_law 818 = .ok (.iconst 0, 1) := by decide +kernel
theorem dL_law_819 : decode cL_law 819 = .ok (.ireturn, 1) := by decide +kernel
theorem dL_law_820 : decode cL_law 820 = .ok (.aload_n 1, 1) := by decide +kernel
theorem dL_law_821 : decode cL_law 821 = .ok (.aload_n 0, 1) := by decide +kernel
theorem dL_law_822 : decode cL_law 822 = .ok (.iload_n 3, 1) := by decide +kernel
theorem dL_law_823 : decode cL_law 823 = .ok (.iconst 1, 1) := by decide +kernel
theorem dL_law_824 : decode cL_law 824 = .ok (.iadd, 1) := by decide +kernel
theorem dL_law_825 : decode cL_law 825 = .ok (.iaload, 1) := by decide +kernel
theorem dL_law_826 : decode cL_law 826 = .ok (.aload_n 0, 1) := by decide +kernel
theorem dL_law_827 : decode cL_law 827 = .ok (.iload_n 3, 1) := by decide +kernel
theorem dL_law_828 : decode cL_law 828 = .ok (.iconst 2, 1) := by decide +kernel
theorem dL_law_829 : decode cL_law 829 = .ok (.iadd, 1) := by decide +kernel
theorem dL_law_830 : decode cL_law 830 = .ok (.iaload, 1) := by decide +kernel
theorem dL_law_831 : decode cL_law 831 = .ok (.aload_n 0, 1) := by decide +kernel
theorem dL_law_832 : decode cL_law 832 = .ok (.iload_n 3, 1) := by decide +kernel
theorem dL_law_833 : decode cL_law 833 = .ok (.iconst 3, 1) := by decide +kernel
theorem dL_law_834 : decode cL_law 834 = .ok (.iadd, 1) := by decide +kernel
theorem dL_law_835 : decode cL_law 835 = .ok (.iaload, 1) := by decide +kernel
theorem dL_law_836 : decode cL_law 836 = .ok (.aload_n 0, 1) := by decide +kernel
theorem dL_law_837 : decode cL_law 837 = .ok (.iload_n 3, 1) := by decide +kernel
theorem dL_law_838 : decode cL_law 838 = .ok (.iconst 4, 1) := by decide +kernel
theorem dL_law_839 : decode cL_law 839 = .ok (.iadd, 1) := by decide +kernel
theorem dL_law_840 : decode cL_law 840 = .ok (.iaload, 1) := by decide +kernel
theorem dL_law_841 : decode cL_law 841 = .ok (.invokevirtual 122, 3) := by decide +kernel
theorem dL_law_844 : decode cL_law 844 = .ok (.aload_n 2, 1) := by decide +kernel
theorem dL_law_845 : decode cL_law 845 = .ok (.aload_n 0, 1) := by decide +kernel
theorem dL_law_846 : decode cL_law 846 = .ok (.iload_n 3, 1) := by decide +kernel
theorem dL_law_847 : decode cL_law 847 = .ok (.iconst 1, 1) := by decide +kernel
theorem dL_law_848 : decode cL_law 848 = .ok (.iadd, 1) := by decide +kernel
theorem dL_law_849 : decode cL_law 849 = .ok (.iaload, 1) := by decide +kernel
theorem dL_law_850 : decode cL_law 850 = .ok (.aload_n 0, 1) := by decide +kernel
theorem dL_law_851 : decode cL_law 851 = .ok (.iload_n 3, 1) := by decide +kernel
theorem dL_law_852 : decode cL_law 852 = .ok (.iconst 2, 1) := by decide +kernel
theorem dL_law_853 : decode cL_law 853 = .ok (.iadd, 1) := by decide +kernel
theorem dL_law_854 : decode cL_law 854 = .ok (.iaload, 1) := by decide +kernel
theorem dL_law_855 : decode cL_law 855 = .ok (.aload_n 0, 1) := by decide +kernel
theorem dL_law_856 : decode cL_law 856 = .ok (.iload_n 3, 1) := by decide +kernel
theorem dL_law_857 : decode cL_law 857 = .ok (.iconst 3, 1) := by decide +kernel
theorem dL_law_858 : decode cL_law 858 = .ok (.iadd, 1) := by decide +kernel
theorem dL_law_859 : decode cL_law 859 = .ok (.iaload, 1) := by decide +kernel
theorem dL_law_860 : decode cL_law 860 = .ok (.aload_n 0, 1) := by decide +kernel
theorem dL_law_861 : decode cL_law 861 = .ok (.iload_n 3, 1) := by decide +kernel
theorem dL_law_862 : decode cL_law 862 = .ok (.iconst 4, 1) := by decide +kernel
theorem dL_law_863 : decode cL_law 863 = .ok (.iadd, 1) := by decide +kernel
theorem dL_law_864 : decode cL_law 864 = .ok (.iaload, 1) := by decide +kernel
theorem dL_law_865 : decode cL_law 865 = .ok (.invokevirtual 125, 3) := by decide +kernel
theorem dL_law_868 : decode cL_law 868 = .ok (.if_icmp .eq 217, 3) := by decide +kernel
theorem dL_law_871 : decode cL_law 871 = .ok (.iconst 0, 1) := by decide +kernel
theorem dL_law_872 : decode cL_law 872 = .ok (.ireturn, 1) := by decide +kernel
theorem dL_law_873 : decode cL_law 873 = .ok (.aload_n 1, 1) := by decide +kernel
theorem dL_law_874 : decode cL_law 874 = .ok (.aload_n 0, 1) := by decide +kernel
theorem dL_law_875 : decode cL_law 875 = .ok (.iload_n 3, 1) := by decide +kernel
theorem dL_law_876 : decode cL_law 876 = .ok (.iconst 1, 1) := by decide +kernel
theorem dL_law_877 : decode cL_law 877 = .ok (.iadd, 1) := by decide +kernel
theorem dL_law_878 : decode cL_law 878 = .ok (.iaload, 1) := by decide +kernel
theorem dL_law_879 : decode cL_law 879 = .ok (.aload_n 0, 1) := by decide +kernel
theorem dL_law_880 : decode cL_law 880 = .ok (.iload_n 3, 1) := by decide +kernel
theorem dL_law_881 : decode cL_law 881 = .ok (.iconst 2, 1) := by decide +kernel
theorem dL_law_882 : decode cL_law 882 = .ok (.iadd, 1) := by decide +kernel
theorem dL_law_883 : decode cL_law 883 = .ok (.iaload, 1) := by decide +kernel
theorem dL_law_884 : decode cL_law 884 = .ok (.aload_n 0, 1) := by decide +kernel
theorem dL_law_885 : decode cL_law 885 = .ok (.iload_n 3, 1) := by decide +kernel
theorem dL_law_886 : decode cL_law 886 = .ok (.iconst 3, 1) := by decide +kernel
theorem dL_law_887 : decode cL_law 887 = .ok (.iadd, 1) := by decide +kernel
theorem dL_law_888 : decode cL_law 888 = .ok (.iaload, 1) := by decide +kernel
theorem dL_law_889 : decode cL_law 889 = .ok (.invokevirtual 126, 3) := by decide +kernel
theorem dL_law_892 : decode cL_law 892 = .ok (.aload_n 2, 1) := by decide +kernel
theorem dL_law_893 : decode cL_law 893 = .ok (.aload_n 0, 1) := by decide +kernel
theorem dL_law_894 : decode cL_law 894 = .ok (.iload_n 3, 1) := by decide +kernel
theorem dL_law_895 : decode cL_law 895 = .ok (.iconst 1, 1) := by decide +kernel
theorem dL_law_896 : decode cL_law 896 = .ok (.iadd, 1) := by decide +kernel
theorem dL_law_897 : decode cL_law 897 = .ok (.iaload, 1) := by decide +kernel
theorem dL_law_898 : decode cL_law 898 = .ok (.aload_n 0, 1) := by decide +kernel
theorem dL_law_899 : decode cL_law 899 = .ok (.iload_n 3, 1) := by decide +kernel
theorem dL_law_900 : decode cL_law 900 = .ok (.iconst 2, 1) := by decide +kernel
theorem dL_law_901 : decode cL_law 901 = .ok (.iadd, 1) := by decide +kernel
theorem dL_law_902 : decode cL_law 902 = .ok (.iaload, 1) := by decide +kernel
theorem dL_law_903 : decode cL_law 903 = .ok (.aload_n 0, 1) := by decide +kernel
theorem dL_law_904 : decode cL_law 904 = .ok (.iload_n 3, 1) := by decide +kernel
theorem dL_law_905 : decode cL_law 905 = .ok (.iconst 3, 1) := by decide +kernel
theorem dL_law_906 : decode cL_law 906 = .ok (.iadd, 1) := by decide +kernel
theorem dL_law_907 : decode cL_law 907 = .ok (.iaload, 1) := by decide +kernel
theorem dL_law_908 : decode cL_law 908 = .ok (.invokevirtual 129, 3) := by decide +kernel
theorem dL_law_911 : decode cL_law 911 = .ok (.if_icmp .eq 174, 3) := by decide +kernel
theorem dL_law_914 : decode cL_law 914 = .ok (.iconst 0, 1) := by decide +kernel
theorem dL_law_915 : decode cL_law 915 = .ok (.ireturn, 1) := by decide +kernel
theorem dL_law_916 : decode cL_law 916 = .ok (.aload_n 1, 1) := by decide +kernel
theorem dL_law_917 : decode cL_law 917 = .ok (.aload_n 0, 1) := by decide +kernel
theorem dL_law_918 : decode cL_law 918 = .ok (.iload_n 3, 1) := by decide +kernel
theorem dL_law_919 : decode cL_law 919 = .ok (.iconst 1, 1) := by decide +kernel
theorem dL_law_920 : decode cL_law 920 = .ok (.iadd, 1) := by decide +kernel
theorem dL_law_921 : decode cL_law 921 = .ok (.iaload, 1) := by decide +kernel
theorem dL_law_922 : decode cL_law 922 = .ok (.invokevirtual 130, 3) := by decide +kernel
theorem dL_law_925 : decode cL_law 925 = .ok (.aload_n 2, 1) := by decide +kernel
theorem dL_law_926 : decode cL_law 926 = .ok (.aload_n 0, 1) := by decide +kernel
theorem dL_law_927 : decode cL_law 927 = .ok (.iload_n 3, 1) := by decide +kernel
theorem dL_law_928 : decode cL_law 928 = .ok (.iconst 1, 1) := by decide +kernel
theorem dL_law_929 : decode cL_law 929 = .ok (.iadd, 1) := by decide +kernel
theorem dL_law_930 : decode cL_law 930 = .ok (.iaload, 1) := by decide +kernel
theorem dL_law_931 : decode cL_law 931 = .ok (.invokevirtual 133, 3) := by decide +kernel
theorem dL_law_934 : decode cL_law 934 = .ok (.if_icmp .eq 151, 3) := by decide +kernel
theorem dL_law_937 : decode cL_law 937 = .ok (.iconst 0, 1) := by decide +kernel
theorem dL_law_938 : decode cL_law 938 = .ok (.ireturn, 1) := by decide +kernel
theorem dL_law_939 : decode cL_law 939 = .ok (.aload_n 1, 1) := by decide +kernel
theorem dL_law_940 : decode cL_law 940 = .ok (.aload_n 0, 1) := by decide +kernel
theorem dL_law_941 : decode cL_law 941 = .ok (.iload_n 3, 1) := by decide +kernel
theorem dL_law_942 : decode cL_law 942 = .ok (.iconst 1, 1) := by decide +kernel
theorem dL_law_943 : decode cL_law 943 = .ok (.iadd, 1) := by decide +kernel
theorem dL_law_944 : decode cL_law 944 = .ok (.iaload, 1) := by decide +kernel
theorem dL_law_945 : decode cL_law 945 = .ok (.aload_n 0, 1) := by decide +kernel
theorem dL_law_946 : decode cL_law 946 = .ok (.iload_n 3, 1) := by decide +kernel
theorem dL_law_947 : decode cL_law 947 = .ok (.iconst 2, 1) := by decide +kernel
theorem dL_law_948 : decode cL_law 948 = .ok (.iadd, 1) := by decide +kernel
theorem dL_law_949 : decode cL_law 949 = .ok (.iaload, 1) := by decide +kernel
theorem dL_law_950 : decode cL_law 950 = .ok (.aload_n 0, 1) := by decide +kernel
theorem dL_law_951 : decode cL_law 951 = .ok (.iload_n 3, 1) := by decide +kernel
theorem dL_law_952 : decode cL_law 952 = .ok (.iconst 3, 1) := by decide +kernel
theorem dL_law_953 : decode cL_law 953 = .ok (.iadd, 1) := by decide +kernel
theorem dL_law_954 : decode cL_law 954 = .ok (.iaload, 1) := by decide +kernel
theorem dL_law_955 : decode cL_law 955 = .ok (.aload_n 0, 1) := by decide +kernel
theorem dL_law_956 : decode cL_law 956 = .ok (.iload_n 3, 1) := by decide +kernel
theorem dL_law_957 : decode cL_law 957 = .ok (.iconst 4, 1) := by decide +kernel
theorem dL_law_958 : decode cL_law 958 = .ok (.iadd, 1) := by decide +kernel
theorem dL_law_959 : decode cL_law 959 = .ok (.iaload, 1) := by decide +kernel
theorem dL_law_960 : decode cL_law 960 = .ok (.i2l, 1) := by decide +kernel
theorem dL_law_961 : decode cL_law 961 = .ok (.bipush 32, 2) := by decide +kernel
theorem dL_law_963 : decode cL_law 963 = .ok (.lshl, 1) := by decide +kernel
theorem dL_law_964 : decode cL_law 964 = .ok (.aload_n 0, 1) := by decide +kernel
theorem dL_law_965 : decode cL_law 965 = .ok (.iload_n 3, 1) := by decide +kernel
theorem dL_law_966 : decode cL_law 966 = .ok (.iconst 5, 1) := by decide +kernel
theorem dL_law_967 : decode cL_law 967 = .ok (.iadd, 1) := by decide +kernel
theorem dL_law_968 : decode cL_law 968 = .ok (.iaload, 1) := by decide +kernel
theorem dL_law_969 : decode cL_law 969 = .ok (.i2l, 1) := by decide +kernel
theorem dL_law_970 : decode cL_law 970 = .ok (.ldc2_w 134, 3) := by decide +kernel
theorem dL_law_973 : decode cL_law 973 = .ok (.land, 1) := by decide +kernel
theorem dL_law_974 : decode cL_law 974 = .ok (.lor, 1) := by decide +kernel
theorem dL_law_975 : decode cL_law 975 = .ok (.invokevirtual 136, 3) := by decide +kernel
theorem dL_law_978 : decode cL_law 978 = .ok (.aload_n 2, 1) := by decide +kernel
theorem dL_law_979 : decode cL_law 979 = .ok (.aload_n 0, 1) := by decide +kernel
theorem dL_law_980 : decode cL_law 980 = .ok (.iload_n 3, 1) := by decide +kernel
theorem dL_law_981 : decode cL_law 981 = .ok (.iconst 1, 1) := by decide +kernel
theorem dL_law_982 : decode cL_law 982 = .ok (.iadd, 1) := by decide +kernel
theorem dL_law_983 : decode cL_law 983 = .ok (.iaload, 1) := by decide +kernel
theorem dL_law_984 : decode cL_law 984 = .ok (.aload_n 0, 1) := by decide +kernel
theorem dL_law_985 : decode cL_law 985 = .ok (.iload_n 3, 1) := by decide +kernel
theorem dL_law_986 : decode cL_law 986 = .ok (.iconst 2, 1) := by decide +kernel
theorem dL_law_987 : decode cL_law 987 = .ok (.iadd, 1) := by decide +kernel
theorem dL_law_988 : decode cL_law 988 = .ok (.iaload, 1) := by decide +kernel
theorem dL_law_989 : decode cL_law 989 = .ok (.aload_n 0, 1) := by decide +kernel
theorem dL_law_990 : decode cL_law 990 = .ok (.iload_n 3, 1) := by decide +kernel
theorem dL_law_991 : decode cL_law 991 = .ok (.iconst 3, 1) := by decide +kernel
theorem dL_law_992 : decode cL_law 992 = .ok (.iadd, 1) := by decide +kernel
theorem dL_law_993 : decode cL_law 993 = .ok (.iaload, 1) := by decide +kernel
theorem dL_law_994 : decode cL_law 994 = .ok (.aload_n 0, 1) := by decide +kernel
theorem dL_law_995 : decode cL_law 995 = .ok (.iload_n 3, 1) := by decide +kernel
theorem dL_law_996 : decode cL_law 996 = .ok (.iconst 4, 1) := by decide +kernel
theorem dL_law_997 : decode cL_law 997 = .ok (.iadd, 1) := by decide +kernel
theorem dL_law_998 : decode cL_law 998 = .ok (.iaload, 1) := by decide +kernel
theorem dL_law_999 : decode cL_law 999 = .ok (.i2l, 1) := by decide +kernel
theorem dL_law_1000 : decode cL_law 1000 = .ok (.bipush 32, 2) := by decide +kernel
theorem dL_law_1002 : decode cL_law 1002 = .ok (.lshl, 1) := by decide +kernel
theorem dL_law_1003 : decode cL_law 1003 = .ok (.aload_n 0, 1) := by decide +kernel
theorem dL_law_1004 : decode cL_law 1004 = .ok (.iload_n 3, 1) := by decide +kernel
theorem dL_law_1005 : decode cL_law 1005 = .ok (.iconst 5, 1) := by decide +kernel
theorem dL_law_1006 : decode cL_law 1006 = .ok (.iadd, 1) := by decide +kernel
theorem dL_law_1007 : decode cL_law 1007 = .ok (.iaload, 1) := by decide +kernel
theorem dL_law_1008 : decode cL_law 1008 = .ok (.i2l, 1) := by decide +kernel
theorem dL_law_1009 : decode cL_law 1009 = .ok (.ldc2_w 134, 3) := by decide +kernel
theorem dL_law_1012 : decode cL_law 1012 = .ok (.land, 1) := by decide +kernel
theorem dL_law_1013 : decode cL_law 1013 = .ok (.lor, 1) := by decide +kernel
theorem dL_law_1014 : decode cL_law 1014 = .ok (.invokevirtual 140, 3) := by decide +kernel
theorem dL_law_1017 : decode cL_law 1017 = .ok (.if_icmp .eq 68, 3) := by decide +kernel
theorem dL_law_1020 : decode cL_law 1020 = .ok (.iconst 0, 1) := by decide +kernel
theorem dL_law_1021 : decode cL_law 1021 = .ok (.ireturn, 1) := by decide +kernel
theorem dL_law_1022 : decode cL_law 1022 = .ok (.aload_n 1, 1) := by decide +kernel
theorem dL_law_1023 : decode cL_law 1023 = .ok (.aload_n 0, 1) := by decide +kernel
theorem dL_law_1024 : decode cL_law 1024 = .ok (.iload_n 3, 1) := by decide +kernel
theorem dL_law_1025 : decode cL_law 1025 = .ok (.iconst 1, 1) := by decide +kernel
theorem dL_law_1026 : decode cL_law 1026 = .ok (.iadd, 1) := by decide +kernel
theorem dL_law_1027 : decode cL_law 1027 = .ok (.iaload, 1) := by decide +kernel
theorem dL_law_1028 : decode cL_law 1028 = .ok (.aload_n 0, 1) := by decide +kernel
theorem dL_law_1029 : decode cL_law 1029 = .ok (.iload_n 3, 1) := by decide +kernel
theorem dL_law_1030 : decode cL_law 1030 = .ok (.iconst 2, 1) := by decide +kernel
theorem dL_law_1031 : decode cL_law 1031 = .ok (.iadd, 1) := by decide +kernel
theorem dL_law_1032 : decode cL_law 1032 = .ok (.iaload, 1) := by decide +kernel
theorem dL_law_1033 : decode cL_law 1033 = .ok (.aload_n 0, 1) := by decide +kernel
theorem dL_law_1034 : decode cL_law 1034 = .ok (.iload_n 3, 1) := by decide +kernel
theorem dL_law_1035 : decode cL_law 1035 = .ok (.iconst 3, 1) := by decide +kernel
theorem dL_law_1036 : decode cL_law 1036 = .ok (.iadd, 1) := by decide +kernel
theorem dL_law_1037 : decode cL_law 1037 = .ok (.iaload, 1) := by decide +kernel
theorem dL_law_1038 : decode cL_law 1038 = .ok (.aload_n 0, 1) := by decide +kernel
theorem dL_law_1039 : decode cL_law 1039 = .ok (.iload_n 3, 1) := by decide +kernel
theorem dL_law_1040 : decode cL_law 1040 = .ok (.iconst 4, 1) := by decide +kernel
theorem dL_law_1041 : decode cL_law 1041 = .ok (.iadd, 1) := by decide +kernel
theorem dL_law_1042 : decode cL_law 1042 = .ok (.iaload, 1) := by decide +kernel
theorem dL_law_1043 : decode cL_law 1043 = .ok (.aload_n 0, 1) := by decide +kernel
theorem dL_law_1044 : decode cL_law 1044 = .ok (.iload_n 3, 1) := by decide +kernel
theorem dL_law_1045 : decode cL_law 1045 = .ok (.iconst 5, 1) := by decide +kernel
theorem dL_law_1046 : decode cL_law 1046 = .ok (.iadd, 1) := by decide +kernel
theorem dL_law_1047 : decode cL_law 1047 = .ok (.iaload, 1) := by decide +kernel
theorem dL_law_1048 : decode cL_law 1048 = .ok (.invokevirtual 141, 3) := by decide +kernel
theorem dL_law_1051 : decode cL_law 1051 = .ok (.aload_n 2, 1) := by decide +kernel
theorem dL_law_1052 : decode cL_law 1052 = .ok (.aload_n 0, 1) := by decide +kernel
theorem dL_law_1053 : decode cL_law 1053 = .ok (.iload_n 3, 1) := by decide +kernel
theorem dL_law_1054 : decode cL_law 1054 = .ok (.iconst 1, 1) := by decide +kernel
theorem dL_law_1055 : decode cL_law 1055 = .ok (.iadd, 1) := by decide +kernel
theorem dL_law_1056 : decode cL_law 1056 = .ok (.iaload, 1) := by decide +kernel
theorem dL_law_1057 : decode cL_law 1057 = .ok (.aload_n 0, 1) := by decide +kernel
theorem dL_law_1058 : decode cL_law 1058 = .ok (.iload_n 3, 1) := by decide +kernel
theorem dL_law_1059 : decode cL_law 1059 = .ok (.iconst 2, 1) := by decide +kernel
theorem dL_law_1060 : decode cL_law 1060 = .ok (.iadd, 1) := by decide +kernel
theorem dL_law_1061 : decode cL_law 1061 = .ok (.iaload, 1) := by decide +kernel
theorem dL_law_1062 : decode cL_law 1062 = .ok (.aload_n 0, 1) := by decide +kernel
theorem dL_law_1063 : decode cL_law 1063 = .ok (.iload_n 3, 1) := by decide +kernel
theorem dL_law_1064 : decode cL_law 1064 = .ok (.iconst 3, 1) := by decide +kernel
theorem dL_law_1065 : decode cL_law 1065 = .ok (.iadd, 1) := by decide +kernel
theorem dL_law_1066 : decode cL_law 1066 = .ok (.iaload, 1) := by decide +kernel
theorem dL_law_1067 : decode cL_law 1067 = .ok (.aload_n 0, 1) := by decide +kernel
theorem dL_law_1068 : decode cL_law 1068 = .ok (.iload_n 3, 1) := by decide +kernel
theorem dL_law_1069 : decode cL_law 1069 = .ok (.iconst 4, 1) := by decide +kernel
theorem dL_law_1070 : decode cL_law 1070 = .ok (.iadd, 1) := by decide +kernel
theorem dL_law_1071 : decode cL_law 1071 = .ok (.iaload, 1) := by decide +kernel
theorem dL_law_1072 : decode cL_law 1072 = .ok (.aload_n 0, 1) := by decide +kernel
theorem dL_law_1073 : decode cL_law 1073 = .ok (.iload_n 3, 1) := by decide +kernel
theorem dL_law_1074 : decode cL_law 1074 = .ok (.iconst 5, 1) := by decide +kernel
theorem dL_law_1075 : decode cL_law 1075 = .ok (.iadd, 1) := by decide +kernel
theorem dL_law_1076 : decode cL_law 1076 = .ok (.iaload, 1) := by decide +kernel
theorem dL_law_1077 : decode cL_law 1077 = .ok (.invokevirtual 145, 3) := by decide +kernel
theorem dL_law_1080 : decode cL_law 1080 = .ok (.if_icmp .eq 5, 3) := by decide +kernel
theorem dL_law_1083 : decode cL_law 1083 = .ok (.iconst 0, 1) := by decide +kernel
theorem dL_law_1084 : decode cL_law 1084 = .ok (.ireturn, 1) := by decide +kernel
theorem dL_law_1085 : decode cL_law 1085 = .ok (.iinc 3 6, 3) := by decide +kernel
theorem dL_law_1088 : decode cL_law 1088 = .ok (.goto (-1070), 3) := by decide +kernel
theorem dL_law_1091 : decode cL_law 1091 = .ok (.iconst 1, 1) := by decide +kernel
theorem dL_law_1092 : decode cL_law 1092 = .ok (.ireturn, 1) := by decide +kernel
end
section
/-! the layout of the cells that the two constructors make, by virtual addresses: kind (0..6 an object of that number in vcl; 7 ints, 8 longs, 9, 10 rows of references), places, where its references point -/
abbrev vcl : List vw_C := [(RX0, TX0, 14), (RX1, TX1, 10), (RX2, TX2, 3), (RX3, TX3, 3), (RX4, TX4, 4), (RX5, TX5, 14), (RX6, TX6, 20)]
def lay0 : List (Nat × Nat × List Nat) := [(5, 14, [1, 7, 12, 0, 54, 60, 65, 107, 113, 118, 119, 120, 121, 123]), (0, 14, [0, 0, 0, 0, 0, 0, 0, 0, 2, 3, 4, 5, 6, 0]), (7, 7, []), (7, 7, []), (7, 7, []), (7, 7, []), (7, 7, []), (1, 10, [0, 0, 0, 0, 0, 0, 8, 9, 10, 11]), (7, 7, []), (7, 7, []), (7, 7, []), (7, 7, []), (2, 3, [13, 0, 0]), (9, 8, [14, 19, 24, 29, 34, 39, 44, 49]), (1, 10, [0, 0, 0, 0, 0, 0, 15, 16, 17, 18]), (7, 7, []), (7, 7, []), (7, 7, []), (7, 7, []), (1, 10, [0, 0, 0, 0, 0, 0, 20, 21, 22, 23]), (7, 7, []), (7, 7, []), (7, 7, []), (7, 7, []), (1, 10, [0, 0, 0, 0, 0, 0, 25, 26, 27, 28]), (7, 7, []), (7, 7, []), (7, 7, []), (7, 7, []), (1, 10, [0, 0, 0, 0, 0, 0, 30, 31, 32, 33])]
def lay1 : List (Nat × Nat × List Nat) := [(7, 7, []), (7, 7, []), (7, 7, []), (7, 7, []), (1, 10, [0, 0, 0, 0, 0, 0, 35, 36, 37, 38]), (7, 7, []), (7, 7, []), (7, 7, []), (7, 7, []), (1, 10, [0, 0, 0, 0, 0, 0, 40, 41, 42, 43]), (7, 7, []), (7, 7, []), (7, 7, []), (7, 7, []), (1, 10, [0, 0, 0, 0, 0, 0, 45, 46, 47, 48]), (7, 7, []), (7, 7, []), (7, 7, []), (7, 7, []), (1, 10, [0, 0, 0, 0, 0, 0, 50, 51, 52, 53]), (7, 7, []), (7, 7, []), (7, 7, []), (7, 7, []), (0, 14, [0, 0, 0, 0, 0, 0, 0, 0, 55, 56, 57, 58, 59, 0]), (7, 7, []), (7, 7, []), (7, 7, []), (7, 7, []), (7, 7, [])]
def lay2 : List (Nat × Nat × List Nat) := [(1, 10, [0, 0, 0, 0, 0, 0, 61, 62, 63, 64]), (7, 7, []), (7, 7, []), (7, 7, []), (7, 7, []), (2, 3, [66, 0, 0]), (9, 8, [67, 72, 77, 82, 87, 92, 97, 102]), (1, 10, [0, 0, 0, 0, 0, 0, 68, 69, 70, 71]), (7, 7, []), (7, 7, []), (7, 7, []), (7, 7, []), (1, 10, [0, 0, 0, 0, 0, 0, 73, 74, 75, 76]), (7, 7, []), (7, 7, []), (7, 7, []), (7, 7, []), (1, 10, [0, 0, 0, 0, 0, 0, 78, 79, 80, 81]), (7, 7, []), (7, 7, []), (7, 7, []), (7, 7, []), (1, 10, [0, 0, 0, 0, 0, 0, 83, 84, 85, 86]), (7, 7, []), (7, 7, []), (7, 7, []), (7, 7, []), (1, 10, [0, 0, 0, 0, 0, 0, 88, 89, 90, 91]), (7, 7, []), (7, 7, [])]
def lay3 : List (Nat × Nat × List Nat) := [(7, 7, []), (7, 7, []), (1, 10, [0, 0, 0, 0, 0, 0, 93, 94, 95, 96]), (7, 7, []), (7, 7, []), (7, 7, []), (7, 7, []), (1, 10, [0, 0, 0, 0, 0, 0, 98, 99, 100, 101]), (7, 7, []), (7, 7, []), (7, 7, []), (7, 7, []), (1, 10, [0, 0, 0, 0, 0, 0, 103, 104, 105, 106]), (7, 7, []), (7, 7, []), (7, 7, []), (7, 7, []), (0, 14, [0, 0, 0, 0, 0, 0, 0, 0, 108, 109, 110, 111, 112, 0]), (7, 7, []), (7, 7, []), (7, 7, []), (7, 7, []), (7, 7, []), (1, 10, [0, 0, 0, 0, 0, 0, 114, 115, 116, 117]), (7, 7, []), (7, 7, []), (7, 7, []), (7, 7, []), (7, 7, []), (7, 8, [])]
def lay4 : List (Nat × Nat × List Nat) := [(7, 8, []), (4, 4, [122, 0, 0, 0]), (7, 60, []), (10, 4, [124, 126, 128, 130]), (3, 3, [0, 0, 125]), (8, 24, []), (3, 3, [0, 0, 127]), (8, 24, []), (3, 3, [0, 0, 129]), (8, 24, []), (3, 3, [0, 0, 131]), (8, 24, []), (6, 20, [133, 134, 0, 0, 135, 0, 136, 137, 138, 0, 0, 0, 139, 140, 0, 0, 141, 142, 143, 144]), (7, 63, []), (7, 7, []), (7, 504, []), (7, 63, []), (7, 7, []), (7, 60, []), (7, 21, []), (7, 567, []), (7, 4, []), (7, 4, []), (8, 96, []), (8, 24, [])]
def lay : List (Nat × Nat × List Nat) := lay0 ++ lay1 ++ lay2 ++ lay3 ++ lay4
def la (k : Nat) : Nat × Nat × List Nat := lay.getD k (99, 0, [])
def ky (k : Nat) : Nat := (la k).1
def ln (k : Nat) : Nat := (la k).2.1
def rf (k j : Nat) : Nat := (la k).2.2.getD j 0
def frL : List (List Nat) := [[8, 9, 10, 11, 12], [6, 7, 8, 9], [0], [2], [0], [0, 1, 2, 4, 5, 6, 7, 8, 9, 10, 11, 12, 13], [0, 1, 4, 6, 7, 8, 12, 13, 16, 17, 18, 19]]
/-- which fields are references -/
def fr (ci j : Nat) : Bool := (frL.getD ci []).contains j
def nf (ci : Nat) : Nat := ([14, 10, 3, 3, 4, 14, 20] : List Nat).getD ci 0
theorem lay_len : lay.length = 145 := by decide +kernel
theorem ky_big {k : Nat} (h : 145 ≤ k) : ky k = 99 := by unfold ky la; rw [List.getD_eq_getElem?_getD, List.getElem?_eq_none (by rw [lay_len]; exact h)]; rfl
theorem ky_lt {k : Nat} (h : ky k < 99) : k < 145 := by rcases Nat.lt_or_ge k 145 with g | g; exact g; rw [ky_big g] at h; omega
theorem kY0 : ky 0 = 5 := by decide +kernel
theorem rF0_0 : rf 0 0 = 1 := by decide +kernel
theorem rF0_1 : rf 0 1 = 7 := by decide +kernel
theorem rF0_2 : rf 0 2 = 12 := by decide +kernel
theorem rF0_4 : rf 0 4 = 54 := by decide +kernel
theorem rF0_5 : rf 0 5 = 60 := by decide +kernel
theorem rF0_6 : rf 0 6 = 65 := by decide +kernel
theorem rF0_7 : rf 0 7 = 107 := by decide +kernel
theorem rF0_8 : rf 0 8 = 113 := by decide +kernel
theorem rF0_9 : rf 0 9 = 118 := by decide +kernel
theorem rF0_10 : rf 0 10 = 119 := by decide +kernel
theorem rF0_11 : rf 0 11 = 120 := by decide +kernel
theorem rF0_12 : rf 0 12 = 121 := by decide +kernel
theorem rF0_13 : rf 0 13 = 123 := by decide +kernel
theorem kY1 : ky 1 = 0 := by decide +kernel
theorem rF1_8 : rf 1 8 = 2 := by decide +kernel
theorem rF1_9 : rf 1 9 = 3 := by decide +kernel
theorem rF1_10 : rf 1 10 = 4 := by decide +kernel
theorem rF1_11 : rf 1 11 = 5 := by decide +kernel
theorem rF1_12 : rf 1 12 = 6 := by decide +kernel
theorem kY2 : ky 2 = 7 := by decide +kernel
theorem lN2 : ln 2 = 7 := by decide +kernel
theorem kY3 : ky 3 = 7 := by decide +kernel
theorem lN3 : ln 3 = 7 := by decide +kernel
theorem kY4 : ky 4 = 7 := by decide +kernel
theorem lN4 : ln 4 = 7 := by decide +kernel
theorem kY5 : ky 5 = 7 := by decide +kernel
theorem lN5 : ln 5 = 7 := by decide +kernel
theorem kY6 : ky 6 = 7 := by decide +kernel
theorem lN6 : ln 6 = 7 := by decide +kernel
theorem kY7 : ky 7 = 1 := by decide +kernel
theorem rF7_6 : rf 7 6 = 8 := by decide +kernel
theorem rF7_7 : rf 7 7 = 9 := by decide +kernel
theorem rF7_8 : rf 7 8 = 10 := by decide +kernel
theorem rF7_9 : rf 7 9 = 11 := by decide +kernel
theorem kY8 : ky 8 = 7 := by decide +kernel
theorem lN8 : ln 8 = 7 := by decide +kernel
theorem kY9 : ky 9 = 7 := by decide +kernel
theorem lN9 : ln 9 = 7 := by decide +kernel
theorem kY10 : ky 10 = 7 := by decide +kernel
theorem lN10 : ln 10 = 7 := by decide +kernel
theorem kY11 : ky 11 = 7 := by decide +kernel
theorem lN11 : ln 11 = 7 := by decide +kernel
theorem kY12 : ky 12 = 2 := by decide +kernel
theorem rF12_0 : rf 12 0 = 13 := by decide +kernel
theorem kY13 : ky 13 = 9 := by decide +kernel
theorem lN13 : ln 13 = 8 := by decide +kernel
theorem kY14 : ky 14 = 1 := by decide +kernel
theorem rF14_6 : rf 14 6 = 15 := by decide +kernel
theorem rF14_7 : rf 14 7 = 16 := by decide +kernel
theorem rF14_8 : rf 14 8 = 17 := by decide +kernel
theorem rF14_9 : rf 14 9 = 18 := by decide +kernel
theorem kY15 : ky 15 = 7 := by decide +kernel
theorem lN15 : ln 15 = 7 := by decide +kernel
theorem kY16 : ky 16 = 7 := by decide +kernel
theorem lN16 : ln 16 = 7 := by decide +kernel
theorem kY17 : ky 17 = 7 := by decide +kernel
theorem lN17 : ln 17 = 7 := by decide +kernel
theorem kY18 : ky 18 = 7 := by decide +kernel
theorem lN18 : ln 18 = 7 := by decide +kernel
theorem kY19 : ky 19 = 1 := by decide +kernel
theorem rF19_6 : rf 19 6 = 20 := by decide +kernel
theorem rF19_7 : rf 19 7 = 21 := by decide +kernel
theorem rF19_8 : rf 19 8 = 22 := by decide +kernel
theorem rF19_9 : rf 19 9 = 23 := by decide +kernel
theorem kY20 : ky 20 = 7 := by decide +kernel
theorem lN20 : ln 20 = 7 := by decide +kernel
theorem kY21 : ky 21 = 7 := by decide +kernel
theorem lN21 : ln 21 = 7 := by decide +kernel
theorem kY22 : ky 22 = 7 := by decide +kernel
theorem lN22 : ln 22 = 7 := by decide +kernel
theorem kY23 : ky 23 = 7 := by decide +kernel
theorem lN23 : ln 23 = 7 := by decide +kernel
theorem kY24 : ky 24 = 1 := by decide +kernel
theorem rF24_6 : rf 24 6 = 25 := by decide +kernel
theorem rF24_7 : rf 24 7 = 26 := by decide +kernel
theorem rF24_8 : rf 24 8 = 27 := by decide +kernel
theorem rF24_9 : rf 24 9 = 28 := by decide +kernel
theorem kY25 : ky 25 = 7 := by decide +kernel
theorem lN25 : ln 25 = 7 := by decide +kernel
theorem kY26 : ky 26 = 7 := by decide +kernel
theorem lN26 : ln 26 = 7 := by decide +kernel
theorem kY27 : ky 27 = 7 := by decide +kernel
theorem lN27 : ln 27 = 7 := by decide +kernel
theorem kY28 : ky 28 = 7 := by decide +kernel
theorem lN28 : ln 28 = 7 := by decide +kernel
theorem kY29 : ky 29 = 1 := by decide +kernel
theorem rF29_6 : rf 29 6 = 30 := by decide +kernel
theorem rF29_7 : rf 29 7 = 31 := by decide +kernel
theorem rF29_8 : rf 29 8 = 32 := by decide +kernel
theorem rF29_9 : rf 29 9 = 33 := by decide +kernel
theorem kY30 : ky 30 = 7 := by decide +kernel
theorem lN30 : ln 30 = 7 := by decide +kernel
theorem kY31 : ky 31 = 7 := by decide +kernel
theorem lN31 : ln 31 = 7 := by decide +kernel
theorem kY32 : ky 32 = 7 := by decide +kernel
theorem lN32 : ln 32 = 7 := by decide +kernel
theorem kY33 : ky 33 = 7 := by decide +kernel
theorem lN33 : ln 33 = 7 := by decide +kernel
theorem kY34 : ky 34 = 1 := by decide +kernel
theorem rF34_6 : rf 34 6 = 35 := by decide +kernel
theorem rF34_7 : rf 34 7 = 36 := by decide +kernel
theorem rF34_8 : rf 34 8 = 37 := by decide +kernel
theorem rF34_9 : rf 34 9 = 38 := by decide +kernel
theorem kY35 : ky 35 = 7 := by decide +kernel
theorem lN35 : ln 35 = 7 := by decide +kernel
theorem kY36 : ky 36 = 7 := by decide +kernel
theorem lN36 : ln 36 = 7 := by decide +kernel
theorem kY37 : ky 37 = 7 := by decide +kernel
theorem lN37 : ln 37 = 7 := by decide +kernel
theorem kY38 : ky 38 = 7 := by decide +kernel
theorem lN38 : ln 38 = 7 := by decide +kernel
theorem kY39 : ky 39 = 1 := by decide +kernel
theorem rF39_6 : rf 39 6 = 40 := by decide +kernel
theorem rF39_7 : rf 39 7 = 41 := by decide +kernel
theorem rF39_8 : rf 39 8 = 42 := by decide +kernel
theorem rF39_9 : rf 39 9 = 43 := by decide +kernel
theorem kY40 : ky 40 = 7 := by decide +kernel
theorem lN40 : ln 40 = 7 := by decide +kernel
theorem kY41 : ky 41 = 7 := by decide +kernel
theorem lN41 : ln 41 = 7 := by decide +kernel
theorem kY42 : ky 42 = 7 := by decide +kernel
theorem lN42 : ln 42 = 7 := by decide +kernel
theorem kY43 : ky 43 = 7 := by decide +kernel
theorem lN43 : ln 43 = 7 := by decide +kernel
theorem kY44 : ky 44 = 1 := by decide +kernel
theorem rF44_6 : rf 44 6 = 45 := by decide +kernel
theorem rF44_7 : rf 44 7 = 46 := by decide +kernel
theorem rF44_8 : rf 44 8 = 47 := by decide +kernel
theorem rF44_9 : rf 44 9 = 48 := by decide +kernel
theorem kY45 : ky 45 = 7 := by decide +kernel
theorem lN45 : ln 45 = 7 := by decide +kernel
theorem kY46 : ky 46 = 7 := by decide +kernel
theorem lN46 : ln 46 = 7 := by decide +kernel
theorem kY47 : ky 47 = 7 := by decide +kernel
theorem lN47 : ln 47 = 7 := by decide +kernel
theorem kY48 : ky 48 = 7 := by decide +kernel
theorem lN48 : ln 48 = 7 := by decide +kernel
theorem kY49 : ky 49 = 1 := by decide +kernel
theorem rF49_6 : rf 49 6 = 50 := by decide +kernel
theorem rF49_7 : rf 49 7 = 51 := by decide +kernel
theorem rF49_8 : rf 49 8 = 52 := by decide +kernel
theorem rF49_9 : rf 49 9 = 53 := by decide +kernel
theorem kY50 : ky 50 = 7 := by decide +kernel
theorem lN50 : ln 50 = 7 := by decide +kernel
theorem kY51 : ky 51 = 7 := by decide +kernel
theorem lN51 : ln 51 = 7 := by decide +kernel
theorem kY52 : ky 52 = 7 := by decide +kernel
theorem lN52 : ln 52 = 7 := by decide +kernel
theorem kY53 : ky 53 = 7 := by decide +kernel
theorem lN53 : ln 53 = 7 := by decide +kernel
theorem kY54 : ky 54 = 0 := by decide +kernel
theorem rF54_8 : rf 54 8 = 55 := by decide +kernel
theorem rF54_9 : rf 54 9 = 56 := by decide +kernel
theorem rF54_10 : rf 54 10 = 57 := by decide +kernel
theorem rF54_11 : rf 54 11 = 58 := by decide +kernel
theorem rF54_12 : rf 54 12 = 59 := by decide +kernel
theorem kY55 : ky 55 = 7 := by decide +kernel
theorem lN55 : ln 55 = 7 := by decide +kernel
theorem kY56 : ky 56 = 7 := by decide +kernel
theorem lN56 : ln 56 = 7 := by decide +kernel
theorem kY57 : ky 57 = 7 := by decide +kernel
theorem lN57 : ln 57 = 7 := by decide +kernel
theorem kY58 : ky 58 = 7 := by decide +kernel
theorem lN58 : ln 58 = 7 := by decide +kernel
theorem kY59 : ky 59 = 7 := by decide +kernel
theorem lN59 : ln 59 = 7 := by decide +kernel
theorem kY60 : ky 60 = 1 := by decide +kernel
theorem rF60_6 : rf 60 6 = 61 := by decide +kernel
theorem rF60_7 : rf 60 7 = 62 := by decide +kernel
theorem rF60_8 : rf 60 8 = 63 := by decide +kernel
theorem rF60_9 : rf 60 9 = 64 := by decide +kernel
theorem kY61 : ky 61 = 7 := by decide +kernel
theorem lN61 : ln 61 = 7 := by decide +kernel
theorem kY62 : ky 62 = 7 := by decide +kernel
theorem lN62 : ln 62 = 7 := by decide +kernel
theorem kY63 : ky 63 = 7 := by decide +kernel
theorem lN63 : ln 63 = 7 := by decide +kernel
theorem kY64 : ky 64 = 7 := by decide +kernel
theorem lN64 : ln 64 = 7 := by decide +kernel
theorem kY65 : ky 65 = 2 := by decide +kernel
theorem rF65_0 : rf 65 0 = 66 := by decide +kernel
theorem kY66 : ky 66 = 9 := by decide +kernel
theorem lN66 : ln 66 = 8 := by decide +kernel
theorem kY67 : ky 67 = 1 := by decide +kernel
theorem rF67_6 : rf 67 6 = 68 := by decide +kernel
theorem rF67_7 : rf 67 7 = 69 := by decide +kernel
theorem rF67_8 : rf 67 8 = 70 := by decide +kernel
theorem rF67_9 : rf 67 9 = 71 := by decide +kernel
theorem kY68 : ky 68 = 7 := by decide +kernel
theorem lN68 : ln 68 = 7 := by decide +kernel
theorem kY69 : ky 69 = 7 := by decide +kernel
theorem lN69 : ln 69 = 7 := by decide +kernel
theorem kY70 : ky 70 = 7 := by decide +kernel
theorem lN70 : ln 70 = 7 := by decide +kernel
theorem kY71 : ky 71 = 7 := by decide +kernel
theorem lN71 : ln 71 = 7 := by decide +kernel
theorem kY72 : ky 72 = 1 := by decide +kernel
theorem rF72_6 : rf 72 6 = 73 := by decide +kernel
theorem rF72_7 : rf 72 7 = 74 := by decide +kernel
theorem rF72_8 : rf 72 8 = 75 := by decide +kernel
theorem rF72_9 : rf 72 9 = 76 := by decide +kernel
theorem kY73 : ky 73 = 7 := by decide +kernel
theorem lN73 : ln 73 = 7 := by decide +kernel
theorem kY74 : ky 74 = 7 := by decide +kernel
theorem lN74 : ln 74 = 7 := by decide +kernel
theorem kY75 : ky 75 = 7 := by decide +kernel
theorem lN75 : ln 75 = 7 := by decide +kernel
theorem kY76 : ky 76 = 7 := by decide +kernel
theorem lN76 : ln 76 = 7 := by decide +kernel
theorem kY77 : ky 77 = 1 := by decide +kernel
theorem rF77_6 : rf 77 6 = 78 := by decide +kernel
theorem rF77_7 : rf 77 7 = 79 := by decide +kernel
theorem rF77_8 : rf 77 8 = 80 := by decide +kernel
theorem rF77_9 : rf 77 9 = 81 := by decide +kernel
theorem kY78 : ky 78 = 7 := by decide +kernel
theorem lN78 : ln 78 = 7 := by decide +kernel
theorem kY79 : ky 79 = 7 := by decide +kernel
theorem lN79 : ln 79 = 7 := by decide +kernel
theorem kY80 : ky 80 = 7 := by decide +kernel
theorem lN80 : ln 80 = 7 := by decide +kernel
theorem kY81 : ky 81 = 7 := by decide +kernel
theorem lN81 : ln 81 = 7 := by decide +kernel
theorem kY82 : ky 82 = 1 := by decide +kernel
theorem rF82_6 : rf 82 6 = 83 := by decide +kernel
theorem rF82_7 : rf 82 7 = 84 := by decide +kernel
theorem rF82_8 : rf 82 8 = 85 := by decide +kernel
theorem rF82_9 : rf 82 9 = 86 := by decide +kernel
theorem kY83 : ky 83 = 7 := by decide +kernel
theorem lN83 : ln 83 = 7 := by decide +kernel
theorem kY84 : ky 84 = 7 := by decide +kernel
theorem lN84 : ln 84 = 7 := by decide +kernel
theorem kY85 : ky 85 = 7 := by decide +kernel
theorem lN85 : ln 85 = 7 := by decide +kernel
theorem kY86 : ky 86 = 7 := by decide +kernel
theorem lN86 : ln 86 = 7 := by decide +kernel
theorem kY87 : ky 87 = 1 := by decide +kernel
theorem rF87_6 : rf 87 6 = 88 := by decide +kernel
theorem rF87_7 : rf 87 7 = 89 := by decide +kernel
theorem rF87_8 : rf 87 8 = 90 := by decide +kernel
theorem rF87_9 : rf 87 9 = 91 := by decide +kernel
theorem kY88 : ky 88 = 7 := by decide +kernel
theorem lN88 : ln 88 = 7 := by decide +kernel
theorem kY89 : ky 89 = 7 := by decide +kernel
theorem lN89 : ln 89 = 7 := by decide +kernel
theorem kY90 : ky 90 = 7 := by decide +kernel
theorem lN90 : ln 90 = 7 := by decide +kernel
theorem kY91 : ky 91 = 7 := by decide +kernel
theorem lN91 : ln 91 = 7 := by decide +kernel
theorem kY92 : ky 92 = 1 := by decide +kernel
theorem rF92_6 : rf 92 6 = 93 := by decide +kernel
theorem rF92_7 : rf 92 7 = 94 := by decide +kernel
theorem rF92_8 : rf 92 8 = 95 := by decide +kernel
theorem rF92_9 : rf 92 9 = 96 := by decide +kernel
theorem kY93 : ky 93 = 7 := by decide +kernel
theorem lN93 : ln 93 = 7 := by decide +kernel
theorem kY94 : ky 94 = 7 := by decide +kernel
theorem lN94 : ln 94 = 7 := by decide +kernel
theorem kY95 : ky 95 = 7 := by decide +kernel
theorem lN95 : ln 95 = 7 := by decide +kernel
theorem kY96 : ky 96 = 7 := by decide +kernel
theorem lN96 : ln 96 = 7 := by decide +kernel
theorem kY97 : ky 97 = 1 := by decide +kernel
theorem rF97_6 : rf 97 6 = 98 := by decide +kernel
theorem rF97_7 : rf 97 7 = 99 := by decide +kernel
theorem rF97_8 : rf 97 8 = 100 := by decide +kernel
theorem rF97_9 : rf 97 9 = 101 := by decide +kernel
theorem kY98 : ky 98 = 7 := by decide +kernel
theorem lN98 : ln 98 = 7 := by decide +kernel
theorem kY99 : ky 99 = 7 := by decide +kernel
theorem lN99 : ln 99 = 7 := by decide +kernel
theorem kY100 : ky 100 = 7 := by decide +kernel
theorem lN100 : ln 100 = 7 := by decide +kernel
theorem kY101 : ky 101 = 7 := by decide +kernel
theorem lN101 : ln 101 = 7 := by decide +kernel
theorem kY102 : ky 102 = 1 := by decide +kernel
theorem rF102_6 : rf 102 6 = 103 := by decide +kernel
theorem rF102_7 : rf 102 7 = 104 := by decide +kernel
theorem rF102_8 : rf 102 8 = 105 := by decide +kernel
theorem rF102_9 : rf 102 9 = 106 := by decide +kernel
theorem kY103 : ky 103 = 7 := by decide +kernel
theorem lN103 : ln 103 = 7 := by decide +kernel
theorem kY104 : ky 104 = 7 := by decide +kernel
theorem lN104 : ln 104 = 7 := by decide +kernel
theorem kY105 : ky 105 = 7 := by decide +kernel
theorem lN105 : ln 105 = 7 := by decide +kernel
theorem kY106 : ky 106 = 7 := by decide +kernel
theorem lN106 : ln 106 = 7 := by decide +kernel
theorem kY107 : ky 107 = 0 := by decide +kernel
theorem rF107_8 : rf 107 8 = 108 := by decide +kernel
theorem rF107_9 : rf 107 9 = 109 := by decide +kernel
theorem rF107_10 : rf 107 10 = 110 := by decide +kernel
theorem rF107_11 : rf 107 11 = 111 := by decide +kernel
theorem rF107_12 : rf 107 12 = 112 := by decide +kernel
theorem kY108 : ky 108 = 7 := by decide +kernel
theorem lN108 : ln 108 = 7 := by decide +kernel
theorem kY109 : ky 109 = 7 := by decide +kernel
theorem lN109 : ln 109 = 7 := by decide +kernel
theorem kY110 : ky 110 = 7 := by decide +kernel
theorem lN110 : ln 110 = 7 := by decide +kernel
theorem kY111 : ky 111 = 7 := by decide +kernel
theorem lN111 : ln 111 = 7 := by decide +kernel
theorem kY112 : ky 112 = 7 := by decide +kernel
theorem lN112 : ln 112 = 7 := by decide +kernel
theorem kY113 : ky 113 = 1 := by decide +kernel
theorem rF113_6 : rf 113 6 = 114 := by decide +kernel
theorem rF113_7 : rf 113 7 = 115 := by decide +kernel
theorem rF113_8 : rf 113 8 = 116 := by decide +kernel
theorem rF113_9 : rf 113 9 = 117 := by decide +kernel
theorem kY114 : ky 114 = 7 := by decide +kernel
theorem lN114 : ln 114 = 7 := by decide +kernel
theorem kY115 : ky 115 = 7 := by decide +kernel
theorem lN115 : ln 115 = 7 := by decide +kernel
theorem kY116 : ky 116 = 7 := by decide +kernel
theorem lN116 : ln 116 = 7 := by decide +kernel
theorem kY117 : ky 117 = 7 := by decide +kernel
theorem lN117 : ln 117 = 7 := by decide +kernel
theorem kY118 : ky 118 = 7 := by decide +kernel
theorem lN118 : ln 118 = 7 := by decide +kernel
theorem kY119 : ky 119 = 7 := by decide +kernel
theorem lN119 : ln 119 = 8 := by decide +kernel
theorem kY120 : ky 120 = 7 := by decide +kernel
theorem lN120 : ln 120 = 8 := by decide +kernel
theorem kY121 : ky 121 = 4 := by decide +kernel
theorem rF121_0 : rf 121 0 = 122 := by decide +kernel
theorem kY122 : ky 122 = 7 := by decide +kernel
theorem lN122 : ln 122 = 60 := by decide +kernel
theorem kY123 : ky 123 = 10 := by decide +kernel
theorem lN123 : ln 123 = 4 := by decide +kernel
theorem kY124 : ky 124 = 3 := by decide +kernel
theorem rF124_2 : rf 124 2 = 125 := by decide +kernel
theorem kY125 : ky 125 = 8 := by decide +kernel
theorem lN125 : ln 125 = 24 := by decide +kernel
theorem kY126 : ky 126 = 3 := by decide +kernel
theorem rF126_2 : rf 126 2 = 127 := by decide +kernel
theorem kY127 : ky 127 = 8 := by decide +kernel
theorem lN127 : ln 127 = 24 := by decide +kernel
theorem kY128 : ky 128 = 3 := by decide +kernel
theorem rF128_2 : rf 128 2 = 129 := by decide +kernel
theorem kY129 : ky 129 = 8 := by decide +kernel
theorem lN129 : ln 129 = 24 := by decide +kernel
theorem kY130 : ky 130 = 3 := by decide +kernel
theorem rF130_2 : rf 130 2 = 131 := by decide +kernel
theorem kY131 : ky 131 = 8 := by decide +kernel
theorem lN131 : ln 131 = 24 := by decide +kernel
theorem kY132 : ky 132 = 6 := by decide +kernel
theorem rF132_0 : rf 132 0 = 133 := by decide +kernel
theorem rF132_1 : rf 132 1 = 134 := by decide +kernel
theorem rF132_4 : rf 132 4 = 135 := by decide +kernel
theorem rF132_6 : rf 132 6 = 136 := by decide +kernel
theorem rF132_7 : rf 132 7 = 137 := by decide +kernel
theorem rF132_8 : rf 132 8 = 138 := by decide +kernel
theorem rF132_12 : rf 132 12 = 139 := by decide +kernel
theorem rF132_13 : rf 132 13 = 140 := by decide +kernel
theorem rF132_16 : rf 132 16 = 141 := by decide +kernel
theorem rF132_17 : rf 132 17 = 142 := by decide +kernel
theorem rF132_18 : rf 132 18 = 143 := by decide +kernel
theorem rF132_19 : rf 132 19 = 144 := by decide +kernel
theorem kY133 : ky 133 = 7 := by decide +kernel
theorem lN133 : ln 133 = 63 := by decide +kernel
theorem kY134 : ky 134 = 7 := by decide +kernel
theorem lN134 : ln 134 = 7 := by decide +kernel
theorem kY135 : ky 135 = 7 := by decide +kernel
theorem lN135 : ln 135 = 504 := by decide +kernel
theorem kY136 : ky 136 = 7 := by decide +kernel
theorem lN136 : ln 136 = 63 := by decide +kernel
theorem kY137 : ky 137 = 7 := by decide +kernel
theorem lN137 : ln 137 = 7 := by decide +kernel
theorem kY138 : ky 138 = 7 := by decide +kernel
theorem lN138 : ln 138 = 60 := by decide +kernel
theorem kY139 : ky 139 = 7 := by decide +kernel
theorem lN139 : ln 139 = 21 := by decide +kernel
theorem kY140 : ky 140 = 7 := by decide +kernel
theorem lN140 : ln 140 = 567 := by decide +kernel
theorem kY141 : ky 141 = 7 := by decide +kernel
theorem lN141 : ln 141 = 4 := by decide +kernel
theorem kY142 : ky 142 = 7 := by decide +kernel
theorem lN142 : ln 142 = 4 := by decide +kernel
theorem kY143 : ky 143 = 8 := by decide +kernel
theorem lN143 : ln 143 = 96 := by decide +kernel
theorem kY144 : ky 144 = 8 := by decide +kernel
theorem lN144 : ln 144 = 24 := by decide +kernel
def IsCamp (a : Nat) : Prop := a ∈ ([1, 54, 107] : List Nat)
theorem IsCamp.k {a : Nat} (h : IsCamp a) : ky a = 0 := (by decide +kernel : ∀ a ∈ ([1, 54, 107] : List Nat), ky a = 0) a h
theorem IsCamp.r8 {a : Nat} (h : IsCamp a) : rf a 8 = a + 1 := (by decide +kernel : ∀ a ∈ ([1, 54, 107] : List Nat), rf a 8 = a + 1) a h
theorem IsCamp.k1 {a : Nat} (h : IsCamp a) : ky (a + 1) = 7 := (by decide +kernel : ∀ a ∈ ([1, 54, 107] : List Nat), ky (a + 1) = 7) a h
theorem IsCamp.l1 {a : Nat} (h : IsCamp a) : ln (a + 1) = 7 := (by decide +kernel : ∀ a ∈ ([1, 54, 107] : List Nat), ln (a + 1) = 7) a h
theorem IsCamp.r9 {a : Nat} (h : IsCamp a) : rf a 9 = a + 2 := (by decide +kernel : ∀ a ∈ ([1, 54, 107] : List Nat), rf a 9 = a + 2) a h
theorem IsCamp.k2 {a : Nat} (h : IsCamp a) : ky (a + 2) = 7 := (by decide +kernel : ∀ a ∈ ([1, 54, 107] : List Nat), ky (a + 2) = 7) a h
theorem IsCamp.l2 {a : Nat} (h : IsCamp a) : ln (a + 2) = 7 := (by decide +kernel : ∀ a ∈ ([1, 54, 107] : List Nat), ln (a + 2) = 7) a h
theorem IsCamp.r10 {a : Nat} (h : IsCamp a) : rf a 10 = a + 3 := (by decide +kernel : ∀ a ∈ ([1, 54, 107] : List Nat), rf a 10 = a + 3) a h
theorem IsCamp.k3 {a : Nat} (h : IsCamp a) : ky (a + 3) = 7 := (by decide +kernel : ∀ a ∈ ([1, 54, 107] : List Nat), ky (a + 3) = 7) a h
theorem IsCamp.l3 {a : Nat} (h : IsCamp a) : ln (a + 3) = 7 := (by decide +kernel : ∀ a ∈ ([1, 54, 107] : List Nat), ln (a + 3) = 7) a h
theorem IsCamp.r11 {a : Nat} (h : IsCamp a) : rf a 11 = a + 4 := (by decide +kernel : ∀ a ∈ ([1, 54, 107] : List Nat), rf a 11 = a + 4) a h
theorem IsCamp.k4 {a : Nat} (h : IsCamp a) : ky (a + 4) = 7 := (by decide +kernel : ∀ a ∈ ([1, 54, 107] : List Nat), ky (a + 4) = 7) a h
theorem IsCamp.l4 {a : Nat} (h : IsCamp a) : ln (a + 4) = 7 := (by decide +kernel : ∀ a ∈ ([1, 54, 107] : List Nat), ln (a + 4) = 7) a h
theorem IsCamp.r12 {a : Nat} (h : IsCamp a) : rf a 12 = a + 5 := (by decide +kernel : ∀ a ∈ ([1, 54, 107] : List Nat), rf a 12 = a + 5) a h
theorem IsCamp.k5 {a : Nat} (h : IsCamp a) : ky (a + 5) = 7 := (by decide +kernel : ∀ a ∈ ([1, 54, 107] : List Nat), ky (a + 5) = 7) a h
theorem IsCamp.l5 {a : Nat} (h : IsCamp a) : ln (a + 5) = 7 := (by decide +kernel : ∀ a ∈ ([1, 54, 107] : List Nat), ln (a + 5) = 7) a h
def IsMom (a : Nat) : Prop := a ∈ ([7, 14, 19, 24, 29, 34, 39, 44, 49, 60, 67, 72, 77, 82, 87, 92, 97, 102, 113] : List Nat)
theorem IsMom.k {a : Nat} (h : IsMom a) : ky a = 1 := (by decide +kernel : ∀ a ∈ ([7, 14, 19, 24, 29, 34, 39, 44, 49, 60, 67, 72, 77, 82, 87, 92, 97, 102, 113] : List Nat), ky a = 1) a h
theorem IsMom.r6 {a : Nat} (h : IsMom a) : rf a 6 = a + 1 := (by decide +kernel : ∀ a ∈ ([7, 14, 19, 24, 29, 34, 39, 44, 49, 60, 67, 72, 77, 82, 87, 92, 97, 102, 113] : List Nat), rf a 6 = a + 1) a h
theorem IsMom.k1 {a : Nat} (h : IsMom a) : ky (a + 1) = 7 := (by decide +kernel : ∀ a ∈ ([7, 14, 19, 24, 29, 34, 39, 44, 49, 60, 67, 72, 77, 82, 87, 92, 97, 102, 113] : List Nat), ky (a + 1) = 7) a h
theorem IsMom.l1 {a : Nat} (h : IsMom a) : ln (a + 1) = 7 := (by decide +kernel : ∀ a ∈ ([7, 14, 19, 24, 29, 34, 39, 44, 49, 60, 67, 72, 77, 82, 87, 92, 97, 102, 113] : List Nat), ln (a + 1) = 7) a h
theorem IsMom.r7 {a : Nat} (h : IsMom a) : rf a 7 = a + 2 := (by decide +kernel : ∀ a ∈ ([7, 14, 19, 24, 29, 34, 39, 44, 49, 60, 67, 72, 77, 82, 87, 92, 97, 102, 113] : List Nat), rf a 7 = a + 2) a h
theorem IsMom.k2 {a : Nat} (h : IsMom a) : ky (a + 2) = 7 := (by decide +kernel : ∀ a ∈ ([7, 14, 19, 24, 29, 34, 39, 44, 49, 60, 67, 72, 77, 82, 87, 92, 97, 102, 113] : List Nat), ky (a + 2) = 7) a h
theorem IsMom.l2 {a : Nat} (h : IsMom a) : ln (a + 2) = 7 := (by decide +kernel : ∀ a ∈ ([7, 14, 19, 24, 29, 34, 39, 44, 49, 60, 67, 72, 77, 82, 87, 92, 97, 102, 113] : List Nat), ln (a + 2) = 7) a h
theorem IsMom.r8 {a : Nat} (h : IsMom a) : rf a 8 = a + 3 := (by decide +kernel : ∀ a ∈ ([7, 14, 19, 24, 29, 34, 39, 44, 49, 60, 67, 72, 77, 82, 87, 92, 97, 102, 113] : List Nat), rf a 8 = a + 3) a h
theorem IsMom.k3 {a : Nat} (h : IsMom a) : ky (a + 3) = 7 := (by decide +kernel : ∀ a ∈ ([7, 14, 19, 24, 29, 34, 39, 44, 49, 60, 67, 72, 77, 82, 87, 92, 97, 102, 113] : List Nat), ky (a + 3) = 7) a h
theorem IsMom.l3 {a : Nat} (h : IsMom a) : ln (a + 3) = 7 := (by decide +kernel : ∀ a ∈ ([7, 14, 19, 24, 29, 34, 39, 44, 49, 60, 67, 72, 77, 82, 87, 92, 97, 102, 113] : List Nat), ln (a + 3) = 7) a h
theorem IsMom.r9 {a : Nat} (h : IsMom a) : rf a 9 = a + 4 := (by decide +kernel : ∀ a ∈ ([7, 14, 19, 24, 29, 34, 39, 44, 49, 60, 67, 72, 77, 82, 87, 92, 97, 102, 113] : List Nat), rf a 9 = a + 4) a h
theorem IsMom.k4 {a : Nat} (h : IsMom a) : ky (a + 4) = 7 := (by decide +kernel : ∀ a ∈ ([7, 14, 19, 24, 29, 34, 39, 44, 49, 60, 67, 72, 77, 82, 87, 92, 97, 102, 113] : List Nat), ky (a + 4) = 7) a h
theorem IsMom.l4 {a : Nat} (h : IsMom a) : ln (a + 4) = 7 := (by decide +kernel : ∀ a ∈ ([7, 14, 19, 24, 29, 34, 39, 44, 49, 60, 67, 72, 77, 82, 87, 92, 97, 102, 113] : List Nat), ln (a + 4) = 7) a h
def IsPast (a : Nat) : Prop := a ∈ ([12, 65] : List Nat)
theorem IsPast.k {a : Nat} (h : IsPast a) : ky a = 2 := (by decide +kernel : ∀ a ∈ ([12, 65] : List Nat), ky a = 2) a h
theorem IsPast.r0 {a : Nat} (h : IsPast a) : rf a 0 = a + 1 := (by decide +kernel : ∀ a ∈ ([12, 65] : List Nat), rf a 0 = a + 1) a h
theorem IsPast.k1 {a : Nat} (h : IsPast a) : ky (a + 1) = 9 := (by decide +kernel : ∀ a ∈ ([12, 65] : List Nat), ky (a + 1) = 9) a h
theorem IsPast.l1 {a : Nat} (h : IsPast a) : ln (a + 1) = 8 := (by decide +kernel : ∀ a ∈ ([12, 65] : List Nat), ln (a + 1) = 8) a h
def IsSheet (a : Nat) : Prop := a ∈ ([124, 126, 128, 130] : List Nat)
theorem IsSheet.k {a : Nat} (h : IsSheet a) : ky a = 3 := (by decide +kernel : ∀ a ∈ ([124, 126, 128, 130] : List Nat), ky a = 3) a h
theorem IsSheet.r2 {a : Nat} (h : IsSheet a) : rf a 2 = a + 1 := (by decide +kernel : ∀ a ∈ ([124, 126, 128, 130] : List Nat), rf a 2 = a + 1) a h
theorem IsSheet.k1 {a : Nat} (h : IsSheet a) : ky (a + 1) = 8 := (by decide +kernel : ∀ a ∈ ([124, 126, 128, 130] : List Nat), ky (a + 1) = 8) a h
theorem IsSheet.l1 {a : Nat} (h : IsSheet a) : ln (a + 1) = 24 := (by decide +kernel : ∀ a ∈ ([124, 126, 128, 130] : List Nat), ln (a + 1) = 24) a h
theorem IsPast.ring {a : Nat} (h : IsPast a) {j : Nat} (hj : j < 8) : rf (a + 1) j = a + 2 + 5 * j ∧ IsMom (a + 2 + 5 * j) := (by decide +kernel : ∀ a ∈ ([12, 65] : List Nat), ∀ j, j < 8 → rf (a + 1) j = a + 2 + 5 * j ∧ (a + 2 + 5 * j) ∈ ([7, 14, 19, 24, 29, 34, 39, 44, 49, 60, 67, 72, 77, 82, 87, 92, 97, 102, 113] : List Nat)) a h j hj
theorem sheet_at {j : Nat} (hj : j < 4) : rf 123 j = 124 + 2 * j ∧ IsSheet (124 + 2 * j) := (by decide +kernel : ∀ j, j < 4 → rf 123 j = 124 + 2 * j ∧ (124 + 2 * j) ∈ ([124, 126, 128, 130] : List Nat)) j hj
end
section
/-! THE LAYER: a small logic over the machine. Values are whole numbers (II an int, JJ a long) and virtual addresses (RR); the memory is one function. V: the method M, at pc, with locals ls, stack st, memory t, comes to its end with Q. Ex: a call of M ends so. -/
abbrev VV : Type := Int ⊕ (Int ⊕ Nat)
abbrev II (z : Int) : VV := Sum.inl z
abbrev JJ (z : Int) : VV := Sum.inr (Sum.inl z)
abbrev RR (k : Nat) : VV := Sum.inr (Sum.inr k)
abbrev Mem : Type := Nat → Nat → Int
def wr (t : Mem) (a j : Nat) (v : Int) : Mem := fun x y => if x = a ∧ y = j then v else t x y
/-- n items of the row a, from i on, come to the row b from j on -/
def cpy (t : Mem) (a i b j n : Nat) : Mem := fun x y => if x = b ∧ j ≤ y ∧ y < j + n then t a (i + (y - j)) else t x y
/-- launch; class numbers; slots; array classes; numbers (0 the first cell's address, 1 the script's, 2 LOWEST's, 3 HIGHEST's, 4 the script's length); the script -/
abbrev GG : Type := Launch × (Nat → ClassId) × (Nat → Nat → Nat) × (Nat → ClassId) × (Nat → Nat) × (Nat → Int32)
abbrev gL (G : GG) : Launch := G.1
abbrev gD (G : GG) : va_G := (G.2.1, G.2.2.1)
abbrev gT (G : GG) : Nat → ClassId := G.2.2.2.1
abbrev gN (G : GG) : Nat → Nat := G.2.2.2.2.1
abbrev gX (G : GG) : Nat → Int32 := G.2.2.2.2.2
def rlA (G : GG) (k : Nat) : Nat := if k < 900 then gN G 0 + k else if k = 900 then gN G 1 else if k = 901 then gN G 2 else gN G 3
def rl (G : GG) : VV → Value
  | .inl z => .int (Int32.ofInt z)
  | .inr (.inl z) => .long (Int64.ofInt z)
  | .inr (.inr k) => .ref (rlA G k)
def ent (G : GG) (t : Mem) (k : Nat) : va_E :=
  if ky k < 7 then .inr (ky k, (List.range (nf (ky k))).map (fun j => if fr (ky k) j then Value.ref (gN G 0 + rf k j) else .int (Int32.ofInt (t k j))))
  else if ky k = 7 then .inl (gT G 0, ln k, .inl (fun j => Int32.ofInt (t k j)))
  else if ky k = 8 then .inl (gT G 1, ln k, .inr (.inl (fun j => Int64.ofInt (t k j))))
  else if ky k = 9 then .inl (gT G 2, ln k, .inr (.inr (.inr (.inr (fun j => some (gN G 0 + rf k j))))))
  else .inl (gT G 3, ln k, .inr (.inr (.inr (.inr (fun j => some (gN G 0 + rf k j))))))
def cells (G : GG) (t : Mem) : va_W := (List.range 145).map (fun k => (gN G 0 + k, ent G t k))
abbrev tysG (G : GG) : List (ClassId × FieldType) := [(gT G 0, .int), (gT G 1, .long), (gT G 2, .object "WellTurns$Moment"), (gT G 3, .object "WellTurns$Sheet")]
def Rep (G : GG) (t : Mem) (H : Heap) : Prop := va_P (gD G) vcl (cells G t) H
def AA (G : GG) : Nat → Prop := fun q => gN G 0 ≤ q
def lowV (j : Nat) : Int := ([0, 0, 1, 1, 1, 0, 0] : List Int).getD j 0
def highV (j : Nat) : Int := ([60, 20, 40, 9, 7, 60, 3] : List Int).getD j 0
/-- the tables' words, at a state -/
def okT (w : Cond) : Bool := w.onTables && (w.keeps || (match w with | .fieldLinkNest .. => true | .methodLinkNest .. => true | _ => false))
theorem okT.on {w : Cond} (h : okT w = true) : w.onTables = true := (Bool.and_eq_true_iff.mp h).1
def TB (s : State) : Prop := ∀ w ∈ lw_tbl, okT w = true → ∀ a : Array Value, w.before a s = true
def Ctx (G : GG) (U : State) : Prop := TB U ∧ va_K (gD G) vcl (tysG G) U ∧ (va_X (gN G 1) (gN G 4) (gX G) U U.heap ∧ gN G 1 < U.heap.size ∧ gN G 1 < gN G 0 ∧ gN G 4 ≤ 384) ∧
  (va_Z "WellTurns" "LOWEST" "[I" (.ref (gN G 2)) (AA G) U U.heap ∧ va_T .int (gN G 2) 7 (fun j => .int (Int32.ofInt (lowV j))) (AA G) U U.heap) ∧
  (va_Z "WellTurns" "HIGHEST" "[I" (.ref (gN G 3)) (AA G) U U.heap ∧ va_T .int (gN G 3) 7 (fun j => .int (Int32.ofInt (highV j))) (AA G) U U.heap)
theorem cells_at {G : GG} {t : Mem} {k : Nat} (h : k < 145) : (cells G t)[k]? = some (gN G 0 + k, ent G t k) := by
  unfold cells; rw [List.getElem?_map, List.getElem?_range h]; rfl
theorem cells_set {G : GG} {t u : Mem} {k : Nat} (hk : k < 145) {en : va_E} (he : en = ent G u k) (ho : ∀ x, x ≠ k → t x = u x) : (cells G t).set k (gN G 0 + k, en) = cells G u := by
  apply List.ext_getElem?
  intro i
  rw [List.getElem?_set]
  by_cases h : k = i
  · subst h
    simp only [if_true, cells, List.length_map, List.length_range, hk, List.getElem?_map, List.getElem?_range hk, he, Option.map_some]
  · rw [if_neg h]
    rcases Nat.lt_or_ge i 145 with g | g
    · rw [cells_at g, cells_at g]
      unfold ent
      rw [ho i (fun e => h e.symm)]
    · rw [List.getElem?_eq_none (by simp [cells]; exact g), List.getElem?_eq_none (by simp [cells]; exact g)]
theorem cells_D (G : GG) (t : Mem) : va_D (AA G) (cells G t) := by
  refine ⟨fun i j p q hi hj hpq => ?_, fun k q hk => ?_⟩
  · rcases Nat.lt_or_ge i 145 with g | g
    · rcases Nat.lt_or_ge j 145 with g2 | g2
      · rw [cells_at g] at hi; rw [cells_at g2] at hj
        cases hi; cases hj
        have : gN G 0 + i = gN G 0 + j := hpq
        omega
      · rw [List.getElem?_eq_none (by simp [cells]; exact g2)] at hj; cases hj
    · rw [List.getElem?_eq_none (by simp [cells]; exact g)] at hi; cases hi
  · rcases Nat.lt_or_ge k 145 with g | g
    · rw [cells_at g] at hk; cases hk; exact Nat.le_add_right _ _
    · rw [List.getElem?_eq_none (by simp [cells]; exact g)] at hk; cases hk
theorem TB.warm {s U : State} (hW : s.WarmedH U.vm) (h : TB s) : TB U := by
  intro w hw ht a
  have h1 := (Bool.and_eq_true_iff.mp ht).2
  rcases hk : w.keeps with _ | _
  · rw [hk] at h1
    have h2 := h w hw ht #[]
    cases w <;> first | (exact va_Nw.use rfl (va_Nw.warmF hW h2)) | (exact va_Nw.use rfl (va_Nw.warmM hW h2)) | (simp at h1)
  · exact word_at hW (Or.inl (by rw [okT.on ht, hk]; rfl)) (h w hw ht a)
theorem TB.same {s U : State} (e : s.vm = U.vm) (h : TB s) : TB U := fun w hw ht a => va_tabs (okT.on ht) e (h w hw ht a)
theorem Ctx.move {G : GG} {s U : State} {locs : List Loc} (hW : s.WarmedH U.vm) (hS : va_S (AA G) s.heap U.heap locs) (h : Ctx G s) : Ctx G U := by
  obtain ⟨h1, h2, ⟨x1, x2, x3, x4⟩, ⟨z1, z2⟩, z3, z4⟩ := h
  have ha := hW.alike
  have hq : ∀ a : Nat, a < s.heap.size → ¬ AA G a → U.heap[a]? = s.heap[a]? := fun a q1 q2 => hS.2.1 a q1 q2
  refine ⟨h1.warm hW, va_K.moved ha h2, ⟨(x1.kept (hq _ x2 (fun q => Nat.lt_irrefl _ (Nat.lt_of_lt_of_le x3 q)))).moved ha, Nat.lt_of_lt_of_le x2 hS.1, x3, x4⟩, ⟨(z1.kept hq).moved ha, (z2.kept hq).moved ha⟩, (z3.kept hq).moved ha, (z4.kept hq).moved ha⟩
theorem Ctx.call {G : GG} {U : State} (g : JFrame) (mk : MethodId) (a : Array Value) (h : Ctx G U) : Ctx G (U.calling g mk a) := by
  obtain ⟨h1, h2, ⟨x1, x2, x3, x4⟩, ⟨z1, z2⟩, z3, z4⟩ := h
  have ha : U.vm.Alike (U.calling g mk a).vm := Vm.Alike.refl U.vm
  exact ⟨TB.same (s := U) (U := U.calling g mk a) rfl h1, va_K.moved ha h2, ⟨x1.moved ha, x2, x3, x4⟩, ⟨z1.moved ha, z2.moved ha⟩, z3.moved ha, z4.moved ha⟩
/-- a method: name, code, locals, what it returns, its height over the leaves -/
abbrev MI : Type := MethodName × ByteArray × Nat × Option FieldType × Nat
def rmL (d : Nat) : Room := { frames := d, cells := 0, slots := 0, locals := 40 * d }
def rok (ret : Option FieldType) (r : Int) : Prop := ret = some .int ∨ (ret = some .boolean ∧ (r = 0 ∨ r = 1))
def vls (G : GG) (ls : List (Nat × VV)) : List (Nat × Value) := ls.map (fun q => (q.1, rl G q.2))
def VX (G : GG) (M : MI) (Q : Int → Mem → Prop) (p : Program) (e : Env) (R : Room) (s : State) (m : MethodId) (args : Array Value) (below : List Frame) (meth : Method) (c : Code) (cl sl : Nat) (Z : State → Prop) : Prop :=
  p.tables.exec = Jvm.exec ∧ c.code = M.2.1 ∧ c.maxLocals = M.2.2.1 ∧ s.vm.findClass M.1.cls = some m.cls ∧ Ctx G s ∧ M.2.2.2.2 ≤ R.frames ∧ 40 * M.2.2.2.2 ≤ R.locals ∧ cl ≤ R.cells ∧ sl ≤ R.slots ∧
  (∀ (H : Heap) (locs : List Loc) (la : Array Slot) (pc : Nat) (r : Int) (t : Mem), Rep G t H → va_S (AA G) s.heap H locs → Q r t →
    (decode M.2.1 pc = .ok (.ireturn, 1) → rok M.2.2.2.1 r → W p (gL G) e R s m args below meth c H locs cl sl Z (F0 m pc la [.int (Int32.ofInt r)])) ∧
    (decode M.2.1 pc = .ok (.return_, 1) → M.2.2.2.1 = none → r = 0 → W p (gL G) e R s m args below meth c H locs cl sl Z (F0 m pc la [])))
def V (G : GG) (M : MI) (pc : Nat) (ls : List (Nat × VV)) (st : List VV) (t : Mem) (Q : Int → Mem → Prop) : Prop :=
  ∀ (p : Program) (e : Env) (R : Room) (s : State) (m : MethodId) (args : Array Value) (below : List Frame) (meth : Method) (c : Code) (cl sl : Nat) (Z : State → Prop),
    VX G M Q p e R s m args below meth c cl sl Z → ∀ (H : Heap) (locs : List Loc) (la : Array Slot), Rep G t H → va_S (AA G) s.heap H locs → lv_has la M.2.2.1 (vls G ls) →
    W p (gL G) e R s m args below meth c H locs cl sl Z (F0 m pc la (st.map (rl G)))
def QE (G : GG) (ret : Option FieldType) (Q : Int → Mem → Prop) : Array Value → State → Outcome → State → Prop := match ret with
  | none => va_Qv (fun u : Mem => Q 0 u) (fun u t => Rep G u t.heap) (AA G)
  | some _ => va_Qi (fun (r : Int32) (u : Mem) => ∃ z : Int, r = Int32.ofInt z ∧ Q z u) (fun u t => Rep G u t.heap) (AA G)
def PE (G : GG) (as : List VV) (t : Mem) : Array Value → State → Prop := fun v U => v = (as.map (rl G)).toArray ∧ Rep G t U.heap ∧ Ctx G U
def Ex (G : GG) (M : MI) (as : List VV) (t : Mem) (Q : Int → Mem → Prop) : Prop :=
  Met (gL G) M.1 [.code M.1 M.2.1 M.2.2.1 M.2.2.2.1] (rmL M.2.2.2.2) (PE G as t) (QE G M.2.2.2.1 Q) 0 0 (AA G)
theorem PE.blind (G : GG) (as : List VV) (t : Mem) : FrameBlind (PE G as t) := fun a U g mk h => ⟨h.1, h.2.1, h.2.2.call g mk a⟩
def vc (v : VV) : Nat := match v with | .inr (.inl _) => 2 | _ => 1
theorem rl_cat (G : GG) (v : VV) : (rl G v).category = vc v := by
  rcases v with z | z | z <;> rfl
def vargs : Nat → List VV → List (Nat × VV)
  | _, [] => []
  | i, v :: vs => (i, v) :: vargs (if vc v = 2 then i + 2 else i + 1) vs
theorem vargs_rl (G : GG) : ∀ (vs : List VV) (i : Nat), lv_args i (vs.map (rl G)) = vls G (vargs i vs)
  | [], i => rfl
  | v :: vs, i => by
    show (i, rl G v) :: lv_args (if (rl G v).category = 2 then i + 2 else i + 1) (vs.map (rl G)) = (i, rl G v) :: vls G (vargs (if vc v = 2 then i + 2 else i + 1) vs)
    rw [rl_cat, vargs_rl G vs]
def vsz : List VV → Nat
  | [] => 0
  | v :: vs => vc v + vsz vs
theorem lg_len (G : GG) : ∀ vs : List VV, (lg_sl (vs.map (rl G))).length = vsz vs
  | [] => rfl
  | v :: vs => by
    have h := lg_len G vs
    unfold lg_sl at h ⊢
    rw [List.map_cons, List.flatMap_cons, List.length_append, h, rl_cat]
    rcases v with z | z | z <;> simp [vc, vsz]
theorem vcs_rl (G : GG) : ∀ vs : List VV, ((vs.map (rl G)).map fun v => v.category).sum = vsz vs
  | [] => rfl
  | v :: vs => by
    rw [List.map_cons, List.map_cons, List.sum_cons, vcs_rl G vs, rl_cat]; rfl
/-- a contract out of a walk -/
theorem Ex.of {G : GG} {M : MI} {as : List VV} {t : Mem} {Q : Int → Mem → Prop} {ls : List (Nat × VV)} (hy : plainName M.1.cls = true) (hr : M.2.2.2.1 = none ∨ M.2.2.2.1 = some .int ∨ M.2.2.2.1 = some .boolean) (hn : vsz as ≤ M.2.2.1) (hls : vargs 0 as = ls) (k : V G M 0 ls [] t Q) : Ex G M as t Q := by
  refine Met.ofW (cc := M.2.1) (maxL := M.2.2.1) (ret := M.2.2.2.1) hy rfl ?_
  intro p e s m args below meth c s₁ B hml hv
  obtain ⟨rfl, hR, hC⟩ := hv
  rw [lg_entry_eq]
  have hlocks := B.notSynchronized
  refine k p e (rmL M.2.2.2.2) s m _ below meth c 0 0 _ ⟨B.exec, B.bytes, hml, findClass_of_methodNamed B.named, hC, Nat.le_refl _, Nat.le_refl _, Nat.zero_le _, Nat.zero_le _, ?_⟩ s.heap [] _ hR va_S.rf ?_
  · intro H locs la pc r u hu hS hq
    refine ⟨fun hd hk => ?_, fun hd hk hz => ?_⟩
    · rcases hk with h1 | ⟨h1, h2⟩
      · have hr1 : meth.sig.returnType = some .int := by rw [← h1]; exact B.returns
        have hQ : ∀ t2 : State, t2.heap = H → s.WarmedH t2.vm → QE G M.2.2.2.1 Q (List.map (rl G) as).toArray s (.returned (some (.int (Int32.ofInt r)))) t2 := by
          intro t2 e2 _
          rw [h1]
          exact ⟨⟨_, u, rfl, ⟨r, rfl, hq⟩, by show Rep G u t2.heap; rw [e2]; exact hu⟩, hS.F e2⟩
        exact W.iret B.exec B.bytes hr1 hQ hS.2.2 hd
      · have hr1 : meth.sig.returnType = some .boolean := by rw [← h1]; exact B.returns
        have hQ : ∀ t2 : State, t2.heap = H → s.WarmedH t2.vm → QE G M.2.2.2.1 Q (List.map (rl G) as).toArray s (.returned (some (.int (Int32.ofInt r)))) t2 := by
          intro t2 e2 _
          rw [h1]
          exact ⟨⟨_, u, rfl, ⟨r, rfl, hq⟩, by show Rep G u t2.heap; rw [e2]; exact hu⟩, hS.F e2⟩
        exact W.zret B.exec B.bytes hr1 (by rcases h2 with rfl | rfl <;> rfl) hQ hS.2.2 hd
    · have hr1 : meth.sig.returnType = none := by rw [← hk]; exact B.returns
      subst hz
      have hQ : ∀ t2 : State, t2.heap = H → s.WarmedH t2.vm → QE G M.2.2.2.1 Q (List.map (rl G) as).toArray s (.returned none) t2 := by
        intro t2 e2 _
        rw [hk]
        exact ⟨⟨u, rfl, hq, by show Rep G u t2.heap; rw [e2]; exact hu⟩, hS.F e2⟩
      exact W.vret B.exec B.bytes hr1 hQ hS.2.2 hd
  · have h := lv_entry (as.map (rl G)) (n := M.2.2.1) (by rw [lg_len]; exact hn)
    rw [vargs_rl, hls] at h
    exact h
end
section
def In32 (z : Int) : Prop := -2147483648 ≤ z ∧ z < 2147483648
def In64 (z : Int) : Prop := -9223372036854775808 ≤ z ∧ z < 9223372036854775808
theorem bm32 {z : Int} (h1 : -2147483648 ≤ z) (h2 : z < 2147483648) : z.bmod Int32.size = z := by
  show z.bmod (2 ^ 32) = z; rw [Int.bmod_eq_of_le (by omega) (by omega)]
theorem bm64 {z : Int} (h1 : -9223372036854775808 ≤ z) (h2 : z < 9223372036854775808) : z.bmod Int64.size = z := by
  show z.bmod (2 ^ 64) = z; rw [Int.bmod_eq_of_le (by omega) (by omega)]
theorem bm8 {z : Int} (h1 : -128 ≤ z) (h2 : z < 128) : z.bmod Int8.size = z := by
  show z.bmod (2 ^ 8) = z; rw [Int.bmod_eq_of_le (by omega) (by omega)]
theorem bm16 {z : Int} (h1 : -32768 ≤ z) (h2 : z < 32768) : z.bmod Int16.size = z := by
  show z.bmod (2 ^ 16) = z; rw [Int.bmod_eq_of_le (by omega) (by omega)]
theorem oI {z : Int} (h : In32 z) : (Int32.ofInt z).toInt = z := by
  rw [Int32.toInt_ofInt, bm32 h.1 h.2]
theorem oJ {z : Int} (h : In64 z) : (Int64.ofInt z).toInt = z := by
  rw [Int64.toInt_ofInt, bm64 h.1 h.2]
theorem oI0 : Int32.ofInt 0 = 0 := rfl
theorem z0 : (0 : Int32).toInt = 0 := rfl
theorem oClamp {z : Int} (h : In32 z) (h0 : 0 ≤ z) : (Int32.ofInt z).toNatClampNeg = z.toNat := by
  show (Int32.ofInt z).toInt.toNat = z.toNat
  rw [oI h]
theorem oIn {z : Int} {n : Nat} (h : In32 z) (h0 : 0 ≤ z) (h1 : z < n) : vp_in (Int32.ofInt z) n := by
  intro q
  rcases q with q | q
  · rw [Int32.lt_iff_toInt_lt, oI h, z0] at q; omega
  · rw [oClamp h h0] at q; omega
def iOr (x y : Int) : Int := (Int32.ofInt x ||| Int32.ofInt y).toInt
def iAnd (x y : Int) : Int := (Int32.ofInt x &&& Int32.ofInt y).toInt
def iXor (x y : Int) : Int := (Int32.ofInt x ^^^ Int32.ofInt y).toInt
def iShl (x y : Int) : Int := (Int32.ofInt x <<< (Int32.ofInt y &&& 31)).toInt
def iShr (x y : Int) : Int := (Int32.ofInt x >>> (Int32.ofInt y &&& 31)).toInt
def iUshr (x y : Int) : Int := (((Int32.ofInt x).toUInt32 >>> ((Int32.ofInt y).toUInt32 &&& Int32.toUInt32 31)).toInt32).toInt
def lOr (x y : Int) : Int := (Int64.ofInt x ||| Int64.ofInt y).toInt
def lAnd (x y : Int) : Int := (Int64.ofInt x &&& Int64.ofInt y).toInt
def lShl (x y : Int) : Int := (Int64.ofInt x <<< ((Int32.ofInt y).toInt64 &&& 63)).toInt
def lCmp (x y : Int) : Int := if y < x then 1 else if x = y then 0 else -1
def iB (x : Int) : Int := ((Int32.ofInt x).toInt8.toInt32).toInt
def iS (x : Int) : Int := ((Int32.ofInt x).toInt16.toInt32).toInt
theorem oEq {x y : Int} (hx : In32 x) (hy : In32 y) : Int32.ofInt x = Int32.ofInt y ↔ x = y := by rw [← Int32.toInt_inj, oI hx, oI hy]
theorem oLt {x y : Int} (hx : In32 x) (hy : In32 y) : Int32.ofInt x < Int32.ofInt y ↔ x < y := by rw [Int32.lt_iff_toInt_lt, oI hx, oI hy]
theorem oLe {x y : Int} (hx : In32 x) (hy : In32 y) : Int32.ofInt x ≤ Int32.ofInt y ↔ x ≤ y := by rw [Int32.le_iff_toInt_le, oI hx, oI hy]
theorem i0 : In32 0 := ⟨by decide, by decide⟩
theorem oDiv {x y : Int} (h0 : 0 ≤ x) (hx : In32 x) (h1 : 0 < y) (hy : In32 y) : Int32.ofInt x / Int32.ofInt y = Int32.ofInt (x / y) := by
  apply Int32.toInt_inj.mp
  have h2 : x / y ≤ x := Int.ediv_le_self y h0
  have h3 : 0 ≤ x / y := Int.ediv_nonneg h0 (by omega)
  rw [lg_idiv_nonneg (by rw [oI hx]; exact h0) (by rw [oI hy]; exact h1), oI hx, oI hy, oI ⟨by omega, by have := hx.2; omega⟩]
theorem oRem {x y : Int} (h0 : 0 ≤ x) (hx : In32 x) (h1 : 0 < y) (hy : In32 y) : Int32.ofInt x - Int32.ofInt x / Int32.ofInt y * Int32.ofInt y = Int32.ofInt (x % y) := by
  rw [oDiv h0 hx h1 hy, ← Int32.ofInt_mul, ← Int32.ofInt_sub, Int.emod_def, Int.mul_comm]
theorem oByte {z : Int} (h : -128 ≤ z) (h2 : z < 128) : (Int8.ofInt z).toInt32 = Int32.ofInt z := by
  apply Int32.toInt_inj.mp
  rw [Int8.toInt_toInt32, Int8.toInt_ofInt, oI ⟨by omega, by omega⟩, bm8 h h2]
theorem oShort {z : Int} (h : -32768 ≤ z) (h2 : z < 32768) : (Int16.ofInt z).toInt32 = Int32.ofInt z := by
  apply Int32.toInt_inj.mp
  rw [Int16.toInt_toInt32, Int16.toInt_ofInt, oI ⟨by omega, by omega⟩, bm16 h h2]
theorem oL2I (x : Int) : (Int64.ofInt x).toInt32 = Int32.ofInt x := by
  apply Int32.toInt_inj.mp
  rw [Int64.toInt_toInt32, Int64.toInt_ofInt, Int32.toInt_ofInt]
  exact Int.bmod_bmod_of_dvd (by decide)
section VR
variable {G : GG} {M : MI} {pc pc2 : Nat} {ls ls2 : List (Nat × VV)} {st : List VV} {t : Mem} {Q : Int → Mem → Prop} {x y : Int}
theorem V_iconst {z : Int} (hd : decode M.2.1 pc = .ok (.iconst z, 1)) (hp : pc + 1 = pc2) (k : V G M pc2 ls (II z :: st) t Q) : V G M pc ls (st) t Q := by
  subst hp
  intro p e R s m args below meth c cl sl Z hc H locs la hR hS hl
  exact lv_iconst hc.1 hc.2.1 hd rfl (k p e R s m args below meth c cl sl Z hc H locs la hR hS hl)
theorem V_bipush {z : Int} (hz : -128 ≤ z ∧ z < 128) (hd : decode M.2.1 pc = .ok (.bipush z, 2)) (hp : pc + 2 = pc2) (k : V G M pc2 ls (II z :: st) t Q) : V G M pc ls (st) t Q := by
  subst hp
  intro p e R s m args below meth c cl sl Z hc H locs la hR hS hl
  exact lv_bipush hc.1 hc.2.1 hd (oByte hz.1 hz.2) (k p e R s m args below meth c cl sl Z hc H locs la hR hS hl)
theorem V_sipush {z : Int} (hz : -32768 ≤ z ∧ z < 32768) (hd : decode M.2.1 pc = .ok (.sipush z, 3)) (hp : pc + 3 = pc2) (k : V G M pc2 ls (II z :: st) t Q) : V G M pc ls (st) t Q := by
  subst hp
  intro p e R s m args below meth c cl sl Z hc H locs la hR hS hl
  exact lv_sipush hc.1 hc.2.1 hd (oShort hz.1 hz.2) (k p e R s m args below meth c cl sl Z hc H locs la hR hS hl)
theorem V_lconst {n : Fin 2} {z : Int} (hz : Int64.ofNat (n : Nat) = Int64.ofInt z) (hd : decode M.2.1 pc = .ok (.lconst n, 1)) (hp : pc + 1 = pc2) (k : V G M pc2 ls (JJ z :: st) t Q) : V G M pc ls (st) t Q := by
  subst hp
  intro p e R s m args below meth c cl sl Z hc H locs la hR hS hl
  exact lv_lconst hc.1 hc.2.1 hd hz (k p e R s m args below meth c cl sl Z hc H locs la hR hS hl)
theorem vls_at {i j : Nat} {v : VV} (h : ls[j]? = some (i, v)) : (vls G ls)[j]? = some (i, rl G v) := by
  unfold vls; rw [List.getElem?_map, h]; rfl
theorem V_iload_n {q : Fin 4} (j : Nat) (hj : ls[j]? = some ((q : Nat), II x)) (hd : decode M.2.1 pc = .ok (.iload_n q, 1)) (hp : pc + 1 = pc2) (k : V G M pc2 ls (II x :: st) t Q) : V G M pc ls (st) t Q := by
  subst hp
  intro p e R s m args below meth c cl sl Z hc H locs la hR hS hl
  exact lv_iload_n hc.1 hc.2.1 hd rfl (lv_at hl j (vls_at hj)) (k p e R s m args below meth c cl sl Z hc H locs la hR hS hl)
theorem V_iload {i : Nat} (j : Nat) (hj : ls[j]? = some (i, II x)) (hd : decode M.2.1 pc = .ok (.iload i, 2)) (hp : pc + 2 = pc2) (k : V G M pc2 ls (II x :: st) t Q) : V G M pc ls (st) t Q := by
  subst hp
  intro p e R s m args below meth c cl sl Z hc H locs la hR hS hl
  exact lv_iload hc.1 hc.2.1 hd (lv_at hl j (vls_at hj)) (k p e R s m args below meth c cl sl Z hc H locs la hR hS hl)
theorem V_lload_n {q : Fin 4} (j : Nat) (hj : ls[j]? = some ((q : Nat), JJ x)) (hd : decode M.2.1 pc = .ok (.lload_n q, 1)) (hp : pc + 1 = pc2) (k : V G M pc2 ls (JJ x :: st) t Q) : V G M pc ls (st) t Q := by
  subst hp
  intro p e R s m args below meth c cl sl Z hc H locs la hR hS hl
  exact lv_lload_n hc.1 hc.2.1 hd rfl (lv_at hl j (vls_at hj)) (k p e R s m args below meth c cl sl Z hc H locs la hR hS hl)
theorem V_lload {i : Nat} (j : Nat) (hj : ls[j]? = some (i, JJ x)) (hd : decode M.2.1 pc = .ok (.lload i, 2)) (hp : pc + 2 = pc2) (k : V G M pc2 ls (JJ x :: st) t Q) : V G M pc ls (st) t Q := by
  subst hp
  intro p e R s m args below meth c cl sl Z hc H locs la hR hS hl
  exact lv_lload hc.1 hc.2.1 hd (lv_at hl j (vls_at hj)) (k p e R s m args below meth c cl sl Z hc H locs la hR hS hl)
theorem V_aload_n {q : Fin 4} {a : Nat} (j : Nat) (hj : ls[j]? = some ((q : Nat), RR a)) (hd : decode M.2.1 pc = .ok (.aload_n q, 1)) (hp : pc + 1 = pc2) (k : V G M pc2 ls (RR a :: st) t Q) : V G M pc ls (st) t Q := by
  subst hp
  intro p e R s m args below meth c cl sl Z hc H locs la hR hS hl
  exact lv_aload_n hc.1 hc.2.1 hd rfl (lv_at hl j (vls_at hj)) (k p e R s m args below meth c cl sl Z hc H locs la hR hS hl)
theorem V_aload {i : Nat} {a : Nat} (j : Nat) (hj : ls[j]? = some (i, RR a)) (hd : decode M.2.1 pc = .ok (.aload i, 2)) (hp : pc + 2 = pc2) (k : V G M pc2 ls (RR a :: st) t Q) : V G M pc ls (st) t Q := by
  subst hp
  intro p e R s m args below meth c cl sl Z hc H locs la hR hS hl
  exact lv_aload hc.1 hc.2.1 hd (lv_at hl j (vls_at hj)) (k p e R s m args below meth c cl sl Z hc H locs la hR hS hl)
def vins (q : Nat × VV) : List (Nat × VV) → List (Nat × VV)
  | [] => [q]
  | r :: l => if q.1 < r.1 then q :: r :: l else r :: vins q l
theorem vins_mem {q z : Nat × VV} : ∀ {l : List (Nat × VV)}, z ∈ vins q l → z = q ∨ z ∈ l
  | [], h => Or.inl (by simpa [vins] using h)
  | r :: l, h => by
    unfold vins at h
    split at h
    · exact List.mem_cons.mp h
    · rcases List.mem_cons.mp h with h | h
      · exact Or.inr (by rw [h]; exact List.mem_cons_self)
      · rcases vins_mem h with h | h
        · exact Or.inl h
        · exact Or.inr (List.mem_cons_of_mem _ h)
def vset (ls : List (Nat × VV)) (i : Nat) (v : VV) : List (Nat × VV) := vins (i, v) (ls.filter (fun q => !(q.1 == i) && !(q.1 + 1 == i && vc q.2 == 2)))
def vset2 (ls : List (Nat × VV)) (i : Nat) (v : VV) : List (Nat × VV) := vins (i, v) (ls.filter (fun q => !(q.1 == i) && (!(q.1 == i + 1) && !(q.1 + 1 == i && vc q.2 == 2))))
theorem lvh_sub {a : Array Slot} {n : Nat} {l l2 : List (Nat × Value)} (h : lv_has a n l) (hs : ∀ q ∈ l2, q ∈ l) : lv_has a n l2 := ⟨h.1, h.2.1, fun q hq => h.2.2 q (hs q hq)⟩
theorem vset_sub {i : Nat} {v : VV} : ∀ q ∈ vls G (vset ls i v), q ∈ (i, rl G v) :: (vls G ls).filter (fun q => !(q.1 == i) && !(q.1 + 1 == i && q.2.category == 2)) := by
  intro q hq
  obtain ⟨z, hz, rfl⟩ := List.mem_map.mp hq
  rcases vins_mem hz with rfl | hz
  · exact List.mem_cons_self
  · obtain ⟨h1, h2⟩ := List.mem_filter.mp hz
    refine List.mem_cons_of_mem _ (List.mem_filter.mpr ⟨List.mem_map.mpr ⟨z, h1, rfl⟩, ?_⟩)
    rw [rl_cat]; exact h2
theorem vset2_sub {i : Nat} {v : VV} : ∀ q ∈ vls G (vset2 ls i v), q ∈ (i, rl G v) :: (vls G ls).filter (fun q => !(q.1 == i) && (!(q.1 == i + 1) && !(q.1 + 1 == i && q.2.category == 2))) := by
  intro q hq
  obtain ⟨z, hz, rfl⟩ := List.mem_map.mp hq
  rcases vins_mem hz with rfl | hz
  · exact List.mem_cons_self
  · obtain ⟨h1, h2⟩ := List.mem_filter.mp hz
    refine List.mem_cons_of_mem _ (List.mem_filter.mpr ⟨List.mem_map.mpr ⟨z, h1, rfl⟩, ?_⟩)
    rw [rl_cat]; exact h2
/-- fewer locals, or in another order -/
theorem V_sub (hs : ∀ q ∈ ls2, q ∈ ls) (k : V G M pc ls2 st t Q) : V G M pc ls st t Q := by
  intro p e R s m args below meth c cl sl Z hc H locs la hR hS hl
  exact k p e R s m args below meth c cl sl Z hc H locs la hR hS (lvh_sub hl (fun q hq => by
    obtain ⟨z, hz, rfl⟩ := List.mem_map.mp hq
    exact List.mem_map.mpr ⟨z, hs z hz, rfl⟩))
theorem V_istore_n {q : Fin 4} (hd : decode M.2.1 pc = .ok (.istore_n q, 1)) (hp : pc + 1 = pc2) (hn : (q : Nat) < M.2.2.1) (hls : vset ls q (II x) = ls2) (k : V G M pc2 ls2 st t Q) : V G M pc ls (II x :: st) t Q := by
  subst hp
  intro p e R s m args below meth c cl sl Z hc H locs la hR hS hl
  exact lv_istore_n hc.1 hc.2.1 hd rfl hl hn rfl (fun la2 h2 => k p e R s m args below meth c cl sl Z hc H locs la2 hR hS (hls ▸ lvh_sub h2 vset_sub))
theorem V_istore {i : Nat} (hd : decode M.2.1 pc = .ok (.istore i, 2)) (hp : pc + 2 = pc2) (hn : i < M.2.2.1) (hls : vset ls i (II x) = ls2) (k : V G M pc2 ls2 st t Q) : V G M pc ls (II x :: st) t Q := by
  subst hp
  intro p e R s m args below meth c cl sl Z hc H locs la hR hS hl
  exact lv_istore hc.1 hc.2.1 hd hl hn rfl (fun la2 h2 => k p e R s m args below meth c cl sl Z hc H locs la2 hR hS (hls ▸ lvh_sub h2 vset_sub))
theorem V_astore_n {q : Fin 4} {a : Nat} (hd : decode M.2.1 pc = .ok (.astore_n q, 1)) (hp : pc + 1 = pc2) (hn : (q : Nat) < M.2.2.1) (hls : vset ls q (RR a) = ls2) (k : V G M pc2 ls2 st t Q) : V G M pc ls (RR a :: st) t Q := by
  subst hp
  intro p e R s m args below meth c cl sl Z hc H locs la hR hS hl
  exact lv_astore_n hc.1 hc.2.1 hd rfl hl hn rfl (fun la2 h2 => k p e R s m args below meth c cl sl Z hc H locs la2 hR hS (hls ▸ lvh_sub h2 vset_sub))
theorem V_astore {i : Nat} {a : Nat} (hd : decode M.2.1 pc = .ok (.astore i, 2)) (hp : pc + 2 = pc2) (hn : i < M.2.2.1) (hls : vset ls i (RR a) = ls2) (k : V G M pc2 ls2 st t Q) : V G M pc ls (RR a :: st) t Q := by
  subst hp
  intro p e R s m args below meth c cl sl Z hc H locs la hR hS hl
  exact lv_astore hc.1 hc.2.1 hd hl hn rfl (fun la2 h2 => k p e R s m args below meth c cl sl Z hc H locs la2 hR hS (hls ▸ lvh_sub h2 vset_sub))
theorem V_lstore {i : Nat} (hd : decode M.2.1 pc = .ok (.lstore i, 2)) (hp : pc + 2 = pc2) (hn : i + 1 < M.2.2.1) (hls : vset2 ls i (JJ x) = ls2) (k : V G M pc2 ls2 st t Q) : V G M pc ls (JJ x :: st) t Q := by
  subst hp
  intro p e R s m args below meth c cl sl Z hc H locs la hR hS hl
  exact lv_lstore hc.1 hc.2.1 hd hl hn rfl (fun la2 h2 => k p e R s m args below meth c cl sl Z hc H locs la2 hR hS (hls ▸ lvh_sub h2 vset2_sub))
theorem V_iinc {i : Nat} {n : Int} (j : Nat) (hj : ls[j]? = some (i, II x)) (hd : decode M.2.1 pc = .ok (.iinc i n, 3)) (hp : pc + 3 = pc2) (hn : i < M.2.2.1) (hls : vset ls i (II (x + n)) = ls2) (k : V G M pc2 ls2 st t Q) : V G M pc ls st t Q := by
  subst hp
  intro p e R s m args below meth c cl sl Z hc H locs la hR hS hl
  exact lv_iinc hc.1 hc.2.1 hd hl (vls_at hj) (Int32.ofInt_add x n).symm hn rfl (fun la2 h2 => k p e R s m args below meth c cl sl Z hc H locs la2 hR hS (hls ▸ lvh_sub h2 vset_sub))
theorem V_iadd (hd : decode M.2.1 pc = .ok (.iadd, 1)) (hp : pc + 1 = pc2) (k : V G M pc2 ls (II (x + y) :: st) t Q) : V G M pc ls (II y :: II x :: st) t Q := by
  subst hp
  intro p e R s m args below meth c cl sl Z hc H locs la hR hS hl
  have k2 := k p e R s m args below meth c cl sl Z hc H locs la hR hS hl
  rw [List.map_cons, show rl G (II (x + y)) = .int (Int32.ofInt x + Int32.ofInt y) from congrArg _ (Int32.ofInt_add x y)] at k2
  exact lv_iadd hc.1 hc.2.1 hd k2
theorem V_isub (hd : decode M.2.1 pc = .ok (.isub, 1)) (hp : pc + 1 = pc2) (k : V G M pc2 ls (II (x - y) :: st) t Q) : V G M pc ls (II y :: II x :: st) t Q := by
  subst hp
  intro p e R s m args below meth c cl sl Z hc H locs la hR hS hl
  have k2 := k p e R s m args below meth c cl sl Z hc H locs la hR hS hl
  rw [List.map_cons, show rl G (II (x - y)) = .int (Int32.ofInt x - Int32.ofInt y) from congrArg _ (Int32.ofInt_sub x y)] at k2
  exact lv_isub hc.1 hc.2.1 hd k2
theorem V_imul (hd : decode M.2.1 pc = .ok (.imul, 1)) (hp : pc + 1 = pc2) (k : V G M pc2 ls (II (x * y) :: st) t Q) : V G M pc ls (II y :: II x :: st) t Q := by
  subst hp
  intro p e R s m args below meth c cl sl Z hc H locs la hR hS hl
  have k2 := k p e R s m args below meth c cl sl Z hc H locs la hR hS hl
  rw [List.map_cons, show rl G (II (x * y)) = .int (Int32.ofInt x * Int32.ofInt y) from congrArg _ (Int32.ofInt_mul x y)] at k2
  exact lv_imul hc.1 hc.2.1 hd k2
theorem V_iand (hd : decode M.2.1 pc = .ok (.iand, 1)) (hp : pc + 1 = pc2) (k : V G M pc2 ls (II (iAnd x y) :: st) t Q) : V G M pc ls (II y :: II x :: st) t Q := by
  subst hp
  intro p e R s m args below meth c cl sl Z hc H locs la hR hS hl
  have k2 := k p e R s m args below meth c cl sl Z hc H locs la hR hS hl
  rw [List.map_cons, show rl G (II (iAnd x y)) = .int (Int32.ofInt x &&& Int32.ofInt y) from congrArg _ (Int32.ofInt_toInt _)] at k2
  exact lv_iand hc.1 hc.2.1 hd k2
theorem V_ior (hd : decode M.2.1 pc = .ok (.ior, 1)) (hp : pc + 1 = pc2) (k : V G M pc2 ls (II (iOr x y) :: st) t Q) : V G M pc ls (II y :: II x :: st) t Q := by
  subst hp
  intro p e R s m args below meth c cl sl Z hc H locs la hR hS hl
  have k2 := k p e R s m args below meth c cl sl Z hc H locs la hR hS hl
  rw [List.map_cons, show rl G (II (iOr x y)) = .int (Int32.ofInt x ||| Int32.ofInt y) from congrArg _ (Int32.ofInt_toInt _)] at k2
  exact lv_ior hc.1 hc.2.1 hd k2
theorem V_ixor (hd : decode M.2.1 pc = .ok (.ixor, 1)) (hp : pc + 1 = pc2) (k : V G M pc2 ls (II (iXor x y) :: st) t Q) : V G M pc ls (II y :: II x :: st) t Q := by
  subst hp
  intro p e R s m args below meth c cl sl Z hc H locs la hR hS hl
  have k2 := k p e R s m args below meth c cl sl Z hc H locs la hR hS hl
  rw [List.map_cons, show rl G (II (iXor x y)) = .int (Int32.ofInt x ^^^ Int32.ofInt y) from congrArg _ (Int32.ofInt_toInt _)] at k2
  exact lv_ixor hc.1 hc.2.1 hd k2
theorem V_ishl (hd : decode M.2.1 pc = .ok (.ishl, 1)) (hp : pc + 1 = pc2) (k : V G M pc2 ls (II (iShl x y) :: st) t Q) : V G M pc ls (II y :: II x :: st) t Q := by
  subst hp
  intro p e R s m args below meth c cl sl Z hc H locs la hR hS hl
  have k2 := k p e R s m args below meth c cl sl Z hc H locs la hR hS hl
  rw [List.map_cons, show rl G (II (iShl x y)) = .int (Int32.ofInt x <<< (Int32.ofInt y &&& 31)) from congrArg _ (Int32.ofInt_toInt _)] at k2
  exact lv_ishl hc.1 hc.2.1 hd k2
theorem V_ishr (hd : decode M.2.1 pc = .ok (.ishr, 1)) (hp : pc + 1 = pc2) (k : V G M pc2 ls (II (iShr x y) :: st) t Q) : V G M pc ls (II y :: II x :: st) t Q := by
  subst hp
  intro p e R s m args below meth c cl sl Z hc H locs la hR hS hl
  have k2 := k p e R s m args below meth c cl sl Z hc H locs la hR hS hl
  rw [List.map_cons, show rl G (II (iShr x y)) = .int (Int32.ofInt x >>> (Int32.ofInt y &&& 31)) from congrArg _ (Int32.ofInt_toInt _)] at k2
  exact lv_ishr hc.1 hc.2.1 hd k2
theorem V_ladd (hd : decode M.2.1 pc = .ok (.ladd, 1)) (hp : pc + 1 = pc2) (k : V G M pc2 ls (JJ (x + y) :: st) t Q) : V G M pc ls (JJ y :: JJ x :: st) t Q := by
  subst hp
  intro p e R s m args below meth c cl sl Z hc H locs la hR hS hl
  have k2 := k p e R s m args below meth c cl sl Z hc H locs la hR hS hl
  rw [List.map_cons, show rl G (JJ (x + y)) = .long (Int64.ofInt x + Int64.ofInt y) from congrArg _ (Int64.ofInt_add x y)] at k2
  exact lv_ladd hc.1 hc.2.1 hd k2
theorem V_lmul (hd : decode M.2.1 pc = .ok (.lmul, 1)) (hp : pc + 1 = pc2) (k : V G M pc2 ls (JJ (x * y) :: st) t Q) : V G M pc ls (JJ y :: JJ x :: st) t Q := by
  subst hp
  intro p e R s m args below meth c cl sl Z hc H locs la hR hS hl
  have k2 := k p e R s m args below meth c cl sl Z hc H locs la hR hS hl
  rw [List.map_cons, show rl G (JJ (x * y)) = .long (Int64.ofInt x * Int64.ofInt y) from congrArg _ (Int64.ofInt_mul x y)] at k2
  exact lv_lmul hc.1 hc.2.1 hd k2
theorem V_land (hd : decode M.2.1 pc = .ok (.land, 1)) (hp : pc + 1 = pc2) (k : V G M pc2 ls (JJ (lAnd x y) :: st) t Q) : V G M pc ls (JJ y :: JJ x :: st) t Q := by
  subst hp
  intro p e R s m args below meth c cl sl Z hc H locs la hR hS hl
  have k2 := k p e R s m args below meth c cl sl Z hc H locs la hR hS hl
  rw [List.map_cons, show rl G (JJ (lAnd x y)) = .long (Int64.ofInt x &&& Int64.ofInt y) from congrArg _ (Int64.ofInt_toInt _)] at k2
  exact lv_land hc.1 hc.2.1 hd k2
theorem V_lor (hd : decode M.2.1 pc = .ok (.lor, 1)) (hp : pc + 1 = pc2) (k : V G M pc2 ls (JJ (lOr x y) :: st) t Q) : V G M pc ls (JJ y :: JJ x :: st) t Q := by
  subst hp
  intro p e R s m args below meth c cl sl Z hc H locs la hR hS hl
  have k2 := k p e R s m args below meth c cl sl Z hc H locs la hR hS hl
  rw [List.map_cons, show rl G (JJ (lOr x y)) = .long (Int64.ofInt x ||| Int64.ofInt y) from congrArg _ (Int64.ofInt_toInt _)] at k2
  exact lv_lor hc.1 hc.2.1 hd k2
theorem V_iushr (hd : decode M.2.1 pc = .ok (.iushr, 1)) (hp : pc + 1 = pc2) (k : V G M pc2 ls (II (iUshr x y) :: st) t Q) : V G M pc ls (II y :: II x :: st) t Q := by
  subst hp
  intro p e R s m args below meth c cl sl Z hc H locs la hR hS hl
  exact lv_iushr hc.1 hc.2.1 hd (Int32.ofInt_toInt _).symm (k p e R s m args below meth c cl sl Z hc H locs la hR hS hl)
theorem V_lshl (hd : decode M.2.1 pc = .ok (.lshl, 1)) (hp : pc + 1 = pc2) (k : V G M pc2 ls (JJ (lShl x y) :: st) t Q) : V G M pc ls (II y :: JJ x :: st) t Q := by
  subst hp
  intro p e R s m args below meth c cl sl Z hc H locs la hR hS hl
  exact lv_lshl hc.1 hc.2.1 hd (Int64.ofInt_toInt _).symm (k p e R s m args below meth c cl sl Z hc H locs la hR hS hl)
theorem V_idiv (h0 : 0 ≤ x ∧ In32 x) (h1 : 0 < y ∧ In32 y) (hd : decode M.2.1 pc = .ok (.idiv, 1)) (hp : pc + 1 = pc2) (k : V G M pc2 ls (II (x / y) :: st) t Q) : V G M pc ls (II y :: II x :: st) t Q := by
  subst hp
  intro p e R s m args below meth c cl sl Z hc H locs la hR hS hl
  have k2 := k p e R s m args below meth c cl sl Z hc H locs la hR hS hl
  rw [List.map_cons, show rl G (II (x / y)) = .int (Int32.ofInt x / Int32.ofInt y) from congrArg _ (oDiv h0.1 h0.2 h1.1 h1.2).symm] at k2
  exact lv_idiv hc.1 hc.2.1 hd (fun h => by rw [show (0 : Int32) = Int32.ofInt 0 from rfl, oEq h1.2 i0] at h; have := h1.1; omega) k2
theorem V_irem (h0 : 0 ≤ x ∧ In32 x) (h1 : 0 < y ∧ In32 y) (hd : decode M.2.1 pc = .ok (.irem, 1)) (hp : pc + 1 = pc2) (k : V G M pc2 ls (II (x % y) :: st) t Q) : V G M pc ls (II y :: II x :: st) t Q := by
  subst hp
  intro p e R s m args below meth c cl sl Z hc H locs la hR hS hl
  have k2 := k p e R s m args below meth c cl sl Z hc H locs la hR hS hl
  rw [List.map_cons, show rl G (II (x % y)) = .int (Int32.ofInt x - Int32.ofInt x / Int32.ofInt y * Int32.ofInt y) from congrArg _ (oRem h0.1 h0.2 h1.1 h1.2).symm] at k2
  exact lv_irem hc.1 hc.2.1 hd (fun h => by rw [show (0 : Int32) = Int32.ofInt 0 from rfl, oEq h1.2 i0] at h; have := h1.1; omega) k2
theorem V_i2l (hx : In32 x) (hd : decode M.2.1 pc = .ok (.i2l, 1)) (hp : pc + 1 = pc2) (k : V G M pc2 ls (JJ (x) :: st) t Q) : V G M pc ls (II x :: st) t Q := by
  subst hp
  intro p e R s m args below meth c cl sl Z hc H locs la hR hS hl
  exact lv_i2l hc.1 hc.2.1 hd (Int64.toInt_inj.mp (by rw [Int32.toInt_toInt64, oI hx, oJ ⟨by have := hx.1; omega, by have := hx.2; omega⟩])) (k p e R s m args below meth c cl sl Z hc H locs la hR hS hl)
theorem V_l2i (hd : decode M.2.1 pc = .ok (.l2i, 1)) (hp : pc + 1 = pc2) (k : V G M pc2 ls (II (x) :: st) t Q) : V G M pc ls (JJ x :: st) t Q := by
  subst hp
  intro p e R s m args below meth c cl sl Z hc H locs la hR hS hl
  exact lv_l2i hc.1 hc.2.1 hd (oL2I x) (k p e R s m args below meth c cl sl Z hc H locs la hR hS hl)
theorem V_i2b (hd : decode M.2.1 pc = .ok (.i2b, 1)) (hp : pc + 1 = pc2) (k : V G M pc2 ls (II (iB x) :: st) t Q) : V G M pc ls (II x :: st) t Q := by
  subst hp
  intro p e R s m args below meth c cl sl Z hc H locs la hR hS hl
  exact lv_i2b hc.1 hc.2.1 hd ((Int32.ofInt_toInt _).symm) (k p e R s m args below meth c cl sl Z hc H locs la hR hS hl)
theorem V_i2s (hd : decode M.2.1 pc = .ok (.i2s, 1)) (hp : pc + 1 = pc2) (k : V G M pc2 ls (II (iS x) :: st) t Q) : V G M pc ls (II x :: st) t Q := by
  subst hp
  intro p e R s m args below meth c cl sl Z hc H locs la hR hS hl
  exact lv_i2s hc.1 hc.2.1 hd ((Int32.ofInt_toInt _).symm) (k p e R s m args below meth c cl sl Z hc H locs la hR hS hl)
theorem V_lcmp (hx : In64 x) (hy : In64 y) (hd : decode M.2.1 pc = .ok (.lcmp, 1)) (hp : pc + 1 = pc2) (k : V G M pc2 ls (II (lCmp x y) :: st) t Q) : V G M pc ls (JJ y :: JJ x :: st) t Q := by
  subst hp
  intro p e R s m args below meth c cl sl Z hc H locs la hR hS hl
  have k2 := k p e R s m args below meth c cl sl Z hc H locs la hR hS hl
  rw [List.map_cons, show rl G (II (lCmp x y)) = .int (lg_cmp (Int64.ofInt x) (Int64.ofInt y)) from congrArg Value.int (show Int32.ofInt (lCmp x y) = lg_cmp (Int64.ofInt x) (Int64.ofInt y) from by unfold lCmp lg_cmp; simp only [GT.gt, Int64.lt_iff_toInt_lt, ← Int64.toInt_inj, oJ hx, oJ hy]; split; rfl; split <;> rfl)] at k2
  exact W.lcmp hc.1 hc.2.1 hd k2
theorem V_dup {v : VV} (hv : vc v = 1) (hd : decode M.2.1 pc = .ok (.dup, 1)) (hp : pc + 1 = pc2) (k : V G M pc2 ls (v :: v :: st) t Q) : V G M pc ls (v :: st) t Q := by
  subst hp
  intro p e R s m args below meth c cl sl Z hc H locs la hR hS hl
  exact lv_dup hc.1 hc.2.1 hd (by rw [rl_cat]; exact hv) (k p e R s m args below meth c cl sl Z hc H locs la hR hS hl)
theorem V_pop {v : VV} (hv : vc v = 1) (hd : decode M.2.1 pc = .ok (.pop, 1)) (hp : pc + 1 = pc2) (k : V G M pc2 ls st t Q) : V G M pc ls (v :: st) t Q := by
  subst hp
  intro p e R s m args below meth c cl sl Z hc H locs la hR hS hl
  exact lv_pop hc.1 hc.2.1 hd (by rw [rl_cat]; exact hv) (k p e R s m args below meth c cl sl Z hc H locs la hR hS hl)
theorem V_dup2 {v w : VV} (hv : vc v = 1) (hw : vc w = 1) (hd : decode M.2.1 pc = .ok (.dup2, 1)) (hp : pc + 1 = pc2) (k : V G M pc2 ls (v :: w :: v :: w :: st) t Q) : V G M pc ls (v :: w :: st) t Q := by
  subst hp
  intro p e R s m args below meth c cl sl Z hc H locs la hR hS hl
  exact lv_dup2_11 hc.1 hc.2.1 hd (by rw [rl_cat]; exact hv) (by rw [rl_cat]; exact hw) (k p e R s m args below meth c cl sl Z hc H locs la hR hS hl)
theorem V_goto {f : Int} {g : Nat} (hd : decode M.2.1 pc = .ok (.goto f, 3)) (ht : (pc : Int) + f = (g : Int)) (k : V G M g ls st t Q) : V G M pc ls st t Q := by
  intro p e R s m args below meth c cl sl Z hc H locs la hR hS hl
  exact lv_goto hc.1 hc.2.1 hd ht (k p e R s m args below meth c cl sl Z hc H locs la hR hS hl)
theorem V_icmp_eq {f : Int} {g : Nat} (hx : In32 x) (hy : In32 y) (hd : decode M.2.1 pc = .ok (.if_icmp .eq f, 3)) (ht : (pc : Int) + f = (g : Int)) (hp : pc + 3 = pc2) (k : (x = y → V G M g ls st t Q) ∧ (¬ x = y → V G M pc2 ls st t Q)) : V G M pc ls (II y :: II x :: st) t Q := by
  subst hp
  intro p e R s m args below meth c cl sl Z hc H locs la hR hS hl
  exact lv_icmp_eq hc.1 hc.2.1 hd ht (fun h => (k.1 ((oEq hx hy).mp h)) p e R s m args below meth c cl sl Z hc H locs la hR hS hl) (fun h => (k.2 ((fun q => h ((oEq hx hy).mpr q)))) p e R s m args below meth c cl sl Z hc H locs la hR hS hl)
theorem V_if_eq {f : Int} {g : Nat} (hx : In32 x) (hd : decode M.2.1 pc = .ok (.ifCond .eq f, 3)) (ht : (pc : Int) + f = (g : Int)) (hp : pc + 3 = pc2) (k : (x = 0 → V G M g ls st t Q) ∧ (¬ x = 0 → V G M pc2 ls st t Q)) : V G M pc ls (II x :: st) t Q := by
  subst hp
  intro p e R s m args below meth c cl sl Z hc H locs la hR hS hl
  exact lv_if_eq hc.1 hc.2.1 hd ht (fun h => (k.1 ((oEq hx i0).mp h)) p e R s m args below meth c cl sl Z hc H locs la hR hS hl) (fun h => (k.2 ((fun q => h ((oEq hx i0).mpr q)))) p e R s m args below meth c cl sl Z hc H locs la hR hS hl)
theorem V_icmp_ne {f : Int} {g : Nat} (hx : In32 x) (hy : In32 y) (hd : decode M.2.1 pc = .ok (.if_icmp .ne f, 3)) (ht : (pc : Int) + f = (g : Int)) (hp : pc + 3 = pc2) (k : (¬ x = y → V G M g ls st t Q) ∧ (x = y → V G M pc2 ls st t Q)) : V G M pc ls (II y :: II x :: st) t Q := by
  subst hp
  intro p e R s m args below meth c cl sl Z hc H locs la hR hS hl
  exact lv_icmp_ne hc.1 hc.2.1 hd ht (fun h => (k.1 ((fun q => h ((oEq hx hy).mpr q)))) p e R s m args below meth c cl sl Z hc H locs la hR hS hl) (fun h => (k.2 ((oEq hx hy).mp h)) p e R s m args below meth c cl sl Z hc H locs la hR hS hl)
theorem V_if_ne {f : Int} {g : Nat} (hx : In32 x) (hd : decode M.2.1 pc = .ok (.ifCond .ne f, 3)) (ht : (pc : Int) + f = (g : Int)) (hp : pc + 3 = pc2) (k : (¬ x = 0 → V G M g ls st t Q) ∧ (x = 0 → V G M pc2 ls st t Q)) : V G M pc ls (II x :: st) t Q := by
  subst hp
  intro p e R s m args below meth c cl sl Z hc H locs la hR hS hl
  exact lv_if_ne hc.1 hc.2.1 hd ht (fun h => (k.1 ((fun q => h ((oEq hx i0).mpr q)))) p e R s m args below meth c cl sl Z hc H locs la hR hS hl) (fun h => (k.2 ((oEq hx i0).mp h)) p e R s m args below meth c cl sl Z hc H locs la hR hS hl)
theorem V_icmp_lt {f : Int} {g : Nat} (hx : In32 x) (hy : In32 y) (hd : decode M.2.1 pc = .ok (.if_icmp .lt f, 3)) (ht : (pc : Int) + f = (g : Int)) (hp : pc + 3 = pc2) (k : (x < y → V G M g ls st t Q) ∧ (¬ x < y → V G M pc2 ls st t Q)) : V G M pc ls (II y :: II x :: st) t Q := by
  subst hp
  intro p e R s m args below meth c cl sl Z hc H locs la hR hS hl
  exact lv_icmp_lt hc.1 hc.2.1 hd ht (fun h => (k.1 ((oLt hx hy).mp h)) p e R s m args below meth c cl sl Z hc H locs la hR hS hl) (fun h => (k.2 ((fun q => h ((oLt hx hy).mpr q)))) p e R s m args below meth c cl sl Z hc H locs la hR hS hl)
theorem V_if_lt {f : Int} {g : Nat} (hx : In32 x) (hd : decode M.2.1 pc = .ok (.ifCond .lt f, 3)) (ht : (pc : Int) + f = (g : Int)) (hp : pc + 3 = pc2) (k : (x < 0 → V G M g ls st t Q) ∧ (¬ x < 0 → V G M pc2 ls st t Q)) : V G M pc ls (II x :: st) t Q := by
  subst hp
  intro p e R s m args below meth c cl sl Z hc H locs la hR hS hl
  exact lv_if_lt hc.1 hc.2.1 hd ht (fun h => (k.1 ((oLt hx i0).mp h)) p e R s m args below meth c cl sl Z hc H locs la hR hS hl) (fun h => (k.2 ((fun q => h ((oLt hx i0).mpr q)))) p e R s m args below meth c cl sl Z hc H locs la hR hS hl)
theorem V_icmp_ge {f : Int} {g : Nat} (hx : In32 x) (hy : In32 y) (hd : decode M.2.1 pc = .ok (.if_icmp .ge f, 3)) (ht : (pc : Int) + f = (g : Int)) (hp : pc + 3 = pc2) (k : (y ≤ x → V G M g ls st t Q) ∧ (¬ y ≤ x → V G M pc2 ls st t Q)) : V G M pc ls (II y :: II x :: st) t Q := by
  subst hp
  intro p e R s m args below meth c cl sl Z hc H locs la hR hS hl
  exact lv_icmp_ge hc.1 hc.2.1 hd ht (fun h => (k.1 ((oLe hy hx).mp h)) p e R s m args below meth c cl sl Z hc H locs la hR hS hl) (fun h => (k.2 ((fun q => h ((oLe hy hx).mpr q)))) p e R s m args below meth c cl sl Z hc H locs la hR hS hl)
theorem V_if_ge {f : Int} {g : Nat} (hx : In32 x) (hd : decode M.2.1 pc = .ok (.ifCond .ge f, 3)) (ht : (pc : Int) + f = (g : Int)) (hp : pc + 3 = pc2) (k : (0 ≤ x → V G M g ls st t Q) ∧ (¬ 0 ≤ x → V G M pc2 ls st t Q)) : V G M pc ls (II x :: st) t Q := by
  subst hp
  intro p e R s m args below meth c cl sl Z hc H locs la hR hS hl
  exact lv_if_ge hc.1 hc.2.1 hd ht (fun h => (k.1 ((oLe i0 hx).mp h)) p e R s m args below meth c cl sl Z hc H locs la hR hS hl) (fun h => (k.2 ((fun q => h ((oLe i0 hx).mpr q)))) p e R s m args below meth c cl sl Z hc H locs la hR hS hl)
theorem V_icmp_gt {f : Int} {g : Nat} (hx : In32 x) (hy : In32 y) (hd : decode M.2.1 pc = .ok (.if_icmp .gt f, 3)) (ht : (pc : Int) + f = (g : Int)) (hp : pc + 3 = pc2) (k : (y < x → V G M g ls st t Q) ∧ (¬ y < x → V G M pc2 ls st t Q)) : V G M pc ls (II y :: II x :: st) t Q := by
  subst hp
  intro p e R s m args below meth c cl sl Z hc H locs la hR hS hl
  exact lv_icmp_gt hc.1 hc.2.1 hd ht (fun h => (k.1 ((oLt hy hx).mp h)) p e R s m args below meth c cl sl Z hc H locs la hR hS hl) (fun h => (k.2 ((fun q => h ((oLt hy hx).mpr q)))) p e R s m args below meth c cl sl Z hc H locs la hR hS hl)
theorem V_if_gt {f : Int} {g : Nat} (hx : In32 x) (hd : decode M.2.1 pc = .ok (.ifCond .gt f, 3)) (ht : (pc : Int) + f = (g : Int)) (hp : pc + 3 = pc2) (k : (0 < x → V G M g ls st t Q) ∧ (¬ 0 < x → V G M pc2 ls st t Q)) : V G M pc ls (II x :: st) t Q := by
  subst hp
  intro p e R s m args below meth c cl sl Z hc H locs la hR hS hl
  exact lv_if_gt hc.1 hc.2.1 hd ht (fun h => (k.1 ((oLt i0 hx).mp h)) p e R s m args below meth c cl sl Z hc H locs la hR hS hl) (fun h => (k.2 ((fun q => h ((oLt i0 hx).mpr q)))) p e R s m args below meth c cl sl Z hc H locs la hR hS hl)
theorem V_icmp_le {f : Int} {g : Nat} (hx : In32 x) (hy : In32 y) (hd : decode M.2.1 pc = .ok (.if_icmp .le f, 3)) (ht : (pc : Int) + f = (g : Int)) (hp : pc + 3 = pc2) (k : (x ≤ y → V G M g ls st t Q) ∧ (¬ x ≤ y → V G M pc2 ls st t Q)) : V G M pc ls (II y :: II x :: st) t Q := by
  subst hp
  intro p e R s m args below meth c cl sl Z hc H locs la hR hS hl
  exact lv_icmp_le hc.1 hc.2.1 hd ht (fun h => (k.1 ((oLe hx hy).mp h)) p e R s m args below meth c cl sl Z hc H locs la hR hS hl) (fun h => (k.2 ((fun q => h ((oLe hx hy).mpr q)))) p e R s m args below meth c cl sl Z hc H locs la hR hS hl)
theorem V_if_le {f : Int} {g : Nat} (hx : In32 x) (hd : decode M.2.1 pc = .ok (.ifCond .le f, 3)) (ht : (pc : Int) + f = (g : Int)) (hp : pc + 3 = pc2) (k : (x ≤ 0 → V G M g ls st t Q) ∧ (¬ x ≤ 0 → V G M pc2 ls st t Q)) : V G M pc ls (II x :: st) t Q := by
  subst hp
  intro p e R s m args below meth c cl sl Z hc H locs la hR hS hl
  exact lv_if_le hc.1 hc.2.1 hd ht (fun h => (k.1 ((oLe hx i0).mp h)) p e R s m args below meth c cl sl Z hc H locs la hR hS hl) (fun h => (k.2 ((fun q => h ((oLe hx i0).mpr q)))) p e R s m args below meth c cl sl Z hc H locs la hR hS hl)
theorem V_iret (hd : decode M.2.1 pc = .ok (.ireturn, 1)) (hr : rok M.2.2.2.1 x) (k : Q x t) : V G M pc ls [II x] t Q := by
  intro p e R s m args below meth c cl sl Z hc H locs la hR hS hl
  exact (hc.2.2.2.2.2.2.2.2.2 H locs la pc x t hR hS k).1 hd hr
theorem V_ret (hd : decode M.2.1 pc = .ok (.return_, 1)) (hr : M.2.2.2.1 = none) (k : Q 0 t) : V G M pc ls [] t Q := by
  intro p e R s m args below meth c cl sl Z hc H locs la hR hS hl
  exact (hc.2.2.2.2.2.2.2.2.2 H locs la pc 0 t hR hS k).2 hd hr rfl
end VR
end
section
/-! rules for memory and calls -/
def FW (ci : Nat) (C : String) (T : u_T) (N : Nat) : Prop := vcl[ci]? = some (C, T, N) ∧ nf ci = N ∧ ci < 7 ∧ ∀ w ∈ u_ws C T N, w ∈ lw_tbl ∧ okT w = true
def FL (own : String) (ix : Nat) (C n d : String) : Prop := Cond.fieldLink own ix C n d ∈ lw_tbl ∨ ∃ host, Cond.fieldLinkNest own ix C n d host ∈ lw_tbl
def ML (own : String) (ix : Nat) (y : MethodName) : Prop := Cond.methodLink own ix y ∈ lw_tbl ∨ ∃ host, Cond.methodLinkNest own ix y host ∈ lw_tbl
theorem ln_le (k : Nat) : ln k ≤ 1000 := by
  rcases Nat.lt_or_ge k 145 with g | g
  · exact (by decide +kernel : ∀ k, k < 145 → ln k ≤ 1000) k g
  · unfold ln la; rw [List.getD_eq_getElem?_getD, List.getElem?_eq_none (by rw [lay_len]; exact g)]; decide
theorem rf_lt {k j : Nat} (h : ky k < 99) : rf k j < 145 := by
  have hk := ky_lt h
  have h1 := (by decide +kernel : ∀ k, k < 145 → (la k).2.2.all (fun z => decide (z < 145)) = true) k hk
  unfold rf
  rw [List.getD_eq_getElem?_getD]
  cases h2 : (la k).2.2[j]? with
  | none => show 0 < 145; decide
  | some z => exact of_decide_eq_true (List.all_eq_true.mp h1 z (List.mem_of_getElem? h2))
theorem rlA_lt {G : GG} {a : Nat} (h : a < 145) : rlA G a = gN G 0 + a := by unfold rlA; rw [if_pos (by omega)]
def flds (G : GG) (t : Mem) (k : Nat) : List Value := (List.range (nf (ky k))).map (fun j => if fr (ky k) j then Value.ref (gN G 0 + rf k j) else .int (Int32.ofInt (t k j)))
theorem ent_obj {G : GG} {t : Mem} {k : Nat} (h : ky k < 7) : ent G t k = .inr (ky k, flds G t k) := by unfold ent flds; rw [if_pos h]
theorem ent_7 {G : GG} {t : Mem} {k : Nat} (h : ky k = 7) : ent G t k = .inl (gT G 0, ln k, .inl (fun j => Int32.ofInt (t k j))) := by unfold ent; rw [if_neg (by omega), if_pos h]
theorem ent_8 {G : GG} {t : Mem} {k : Nat} (h : ky k = 8) : ent G t k = .inl (gT G 1, ln k, .inr (.inl (fun j => Int64.ofInt (t k j)))) := by unfold ent; rw [if_neg (by omega), if_neg (by omega), if_pos h]
theorem ent_9 {G : GG} {t : Mem} {k : Nat} (h : ky k = 9) : ent G t k = .inl (gT G 2, ln k, .inr (.inr (.inr (.inr (fun j => some (gN G 0 + rf k j)))))) := by unfold ent; rw [if_neg (by omega), if_neg (by omega), if_neg (by omega), if_pos h]
theorem ent_10 {G : GG} {t : Mem} {k : Nat} (h : ky k = 10) : ent G t k = .inl (gT G 3, ln k, .inr (.inr (.inr (.inr (fun j => some (gN G 0 + rf k j)))))) := by unfold ent; rw [if_neg (by omega), if_neg (by omega), if_neg (by omega), if_neg (by omega)]
theorem flds_at {G : GG} {t : Mem} {k j : Nat} (h : j < nf (ky k)) : (flds G t k)[j]? = some (if fr (ky k) j then Value.ref (gN G 0 + rf k j) else .int (Int32.ofInt (t k j))) := by
  unfold flds; rw [List.getElem?_map, List.getElem?_range h]; rfl
theorem flds_len {G : GG} {t : Mem} {k : Nat} : (flds G t k).length = nf (ky k) := by simp [flds]
theorem flds_set {G : GG} {t : Mem} {k j : Nat} {v : Int} (h : j < nf (ky k)) (hf : fr (ky k) j = false) : (flds G t k).set j (.int (Int32.ofInt v)) = flds G (wr t k j v) k := by
  apply List.ext_getElem?
  intro i
  rw [List.getElem?_set]
  by_cases e : j = i
  · subst e
    rw [if_pos rfl, if_pos (by rw [flds_len]; exact h), flds_at h, hf]
    simp [wr]
  · rw [if_neg e]
    rcases Nat.lt_or_ge i (nf (ky k)) with g | g
    · rw [flds_at g, flds_at g]
      have : wr t k j v k i = t k i := by unfold wr; rw [if_neg (fun q => e q.2.symm)]
      rw [this]
    · rw [List.getElem?_eq_none (by rw [flds_len]; exact g), List.getElem?_eq_none (by rw [flds_len]; exact g)]
theorem wr_ne {t : Mem} {a j x : Nat} {v : Int} (h : x ≠ a) : t x = wr t a j v x := by
  funext y; unfold wr; rw [if_neg (fun q => h q.1)]
theorem cpy_ne {t : Mem} {a i b j n x : Nat} (h : x ≠ b) : t x = cpy t a i b j n x := by
  funext y; unfold cpy; rw [if_neg (fun q => h q.1)]
section VM
variable {G : GG} {M : MI} {pc pc2 : Nat} {ls ls2 : List (Nat × VV)} {st : List VV} {t : Mem} {Q : Int → Mem → Prop} {x y : Int} {a : Nat}
theorem TB.ws {s : State} {ci : Nat} {C : String} {T : u_T} {N : Nat} {args : Array Value} (h : TB s) (hF : FW ci C T N) : ∀ w ∈ u_ws C T N, w.before args s = true := fun w hw => h w (hF.2.2.2 w hw).1 (hF.2.2.2 w hw).2 args
theorem V_get {ci j ix N : Nat} {C : String} {T : u_T} (hF : FW ci C T N) (hj : j < N) (hv : ∀ (G : GG) (t : Mem) (a : Nat), ky a = ci → a < 145 → (flds G t a)[j]? = some (rl G (if fr ci j then RR (rf a j) else II (t a j)))) (hL : FL M.1.cls ix (T j).1 (T j).2.1 (T j).2.2.1) (hk : ky a = ci) (hd : decode M.2.1 pc = .ok (.getfield ix, 3)) (hp : pc + 3 = pc2) (k : V G M pc2 ls ((if fr ci j then RR (rf a j) else II (t a j)) :: st) t Q) : V G M pc ls (RR a :: st) t Q := by
  subst hp
  intro p e R s m args below meth c cl sl Z hc H locs la hR hS hl
  have ha : a < 145 := ky_lt (by rw [hk]; have := hF.2.2.1; omega)
  have he : (cells G t)[a]? = some (rlA G a, .inr (ci, flds G t a)) := by rw [cells_at ha, ent_obj (by rw [hk]; exact hF.2.2.1), rlA_lt ha, hk]
  have hts := hc.2.2.2.2.1.1
  have k2 := k p e R s m args below meth c cl sl Z hc H locs la hR hS hl
  rcases hL with hL | ⟨host, hL⟩
  · exact va_get hc.1 hc.2.1 (TB.ws hts hF) (fun w h => h) hc.2.2.2.1 hc.2.2.2.2.1.2.1 hR a he hF.1 j hj (hts _ hL rfl args) (fun _ h => h) (hv G t a hk ha) hd k2
  · exact va_getN hc.1 hc.2.1 (TB.ws hts hF) (fun w h => h) hc.2.2.2.1 hc.2.2.2.2.1.2.1 hR a he hF.1 j hj (hts _ hL rfl args) (fun _ h => h) (hv G t a hk ha) hd k2
theorem flds_rl {ci j : Nat} (hj : j < nf ci) : ∀ (G : GG) (t : Mem) (a : Nat), ky a = ci → a < 145 → (flds G t a)[j]? = some (rl G (if fr ci j then RR (rf a j) else II (t a j))) := by
  intro G t a hk ha
  have hci : ky a < 99 := by
    rcases Nat.lt_or_ge (ky a) 99 with g | g
    · exact g
    · exfalso; have := (by decide +kernel : ∀ k, k < 145 → ky k < 99) a ha; omega
  subst hk
  rw [flds_at hj]
  cases h : fr (ky a) j with
  | true => simp only [if_true, rl]; rw [rlA_lt (rf_lt hci)]
  | false => simp [rl]
theorem V_putX {ci j ix N : Nat} {C : String} {T : u_T} {ty0 : Nat → FieldType} {ty : FieldType} {v : Int} (hF : FW ci C T N) (hty : ∀ k, k < N → parseFieldDescriptor (T k).2.2.1 = some (ty0 k)) (hnm : ∀ a, a < N → ∀ b, b < N → a ≠ b → (T a).2.1 ≠ (T b).2.1) (hj : j < N) (hfr : fr ci j = false) (hfin : (T j).2.2.2 = false) (hT : parseFieldDescriptor (T j).2.2.1 = some ty) (hL : FL M.1.cls ix (T j).1 (T j).2.1 (T j).2.2.1) (hn : narrow ty (.int (Int32.ofInt v)) = .int (Int32.ofInt v)) (hfit : fits ty (.int (Int32.ofInt v)) = true) (hk : ky a = ci) (hd : decode M.2.1 pc = .ok (.putfield ix, 3)) (hp : pc + 3 = pc2) (k : ∀ u, u = wr t a j v → V G M pc2 ls st u Q) : V G M pc ls (II v :: RR a :: st) t Q := by
  subst hp
  intro p e R s m args below meth c cl sl Z hc H locs la hR hS hl
  have ha : a < 145 := ky_lt (by rw [hk]; have := hF.2.2.1; omega)
  have h7 : ky a < 7 := by rw [hk]; exact hF.2.2.1
  have hjn : j < nf (ky a) := by rw [hk, hF.2.1]; exact hj
  have he : (cells G t)[a]? = some (rlA G a, .inr (ci, flds G t a)) := by rw [cells_at ha, ent_obj h7, rlA_lt ha, hk]
  have hts := hc.2.2.2.2.1.1
  have hset : (cells G t).set a (rlA G a, .inr (ci, (flds G t a).set j (.int (Int32.ofInt v)))) = cells G (wr t a j v) := by
    rw [rlA_lt ha]
    refine cells_set ha ?_ (fun z hz => wr_ne hz)
    rw [ent_obj h7, flds_set hjn (by rw [hk]; exact hfr), hk]
  have kk : ∀ (H1 : Heap) (locs1 : List Loc), va_P (gD G) vcl ((cells G t).set a (rlA G a, .inr (ci, (flds G t a).set j (.int (Int32.ofInt v))))) H1 → va_D (AA G) ((cells G t).set a (rlA G a, .inr (ci, (flds G t a).set j (.int (Int32.ofInt v))))) → va_S (AA G) s.heap H1 locs1 → W p (gL G) e R s m args below meth c H1 locs1 cl sl Z (F0 m (pc + 3) la (st.map (rl G))) := by
    intro H1 locs1 hP _ hS1
    rw [hset] at hP
    exact k _ rfl p e R s m args below meth c cl sl Z hc H1 locs1 la hP hS1 hl
  rcases hL with hL | ⟨host, hL⟩
  · exact va_put hc.1 hc.2.1 (TB.ws hts hF) (fun w h => h) ty0 hty hnm hc.2.2.2.1 hc.2.2.2.2.1.2.1 hR (cells_D G t) hS a he hF.1 j hj (hts _ hL rfl args) (fun _ h => h) hfin hT hn hfit (by rw [flds_len]; exact hjn) hd kk
  · exact va_putN hc.1 hc.2.1 (TB.ws hts hF) (fun w h => h) ty0 hty hnm hc.2.2.2.1 hc.2.2.2.2.1.2.1 hR (cells_D G t) hS a he hF.1 j hj (hts _ hL rfl args) (fun _ h => h) hfin hT hn hfit (by rw [flds_len]; exact hjn) hd kk
theorem inR {z : Int} {n : Nat} (hn : n ≤ 1000) (h : 0 ≤ z ∧ z < n) : In32 z := ⟨by omega, by omega⟩
theorem V_iald (hk : ky a = 7) (hx : 0 ≤ x ∧ x < (ln a : Int)) (hd : decode M.2.1 pc = .ok (.iaload, 1)) (hp : pc + 1 = pc2) (k : V G M pc2 ls (II (t a x.toNat) :: st) t Q) : V G M pc ls (II x :: RR a :: st) t Q := by
  subst hp
  intro p e R s m args below meth c cl sl Z hc H locs la hR hS hl
  have ha : a < 145 := ky_lt (by omega)
  have he : (cells G t)[a]? = some (rlA G a, .inl (gT G 0, ln a, .inl (fun j => Int32.ofInt (t a j)))) := by rw [cells_at ha, ent_7 hk, rlA_lt ha]
  have hi := inR (ln_le a) hx
  have k2 := k p e R s m args below meth c cl sl Z hc H locs la hR hS hl
  refine va_iald hc.1 hc.2.1 hc.2.2.2.2.1.2.1 hR a 0 he rfl (oIn hi hx.1 hx.2) hd ?_
  rw [oClamp hi hx.1]; exact k2
theorem V_lald (hk : ky a = 8) (hx : 0 ≤ x ∧ x < (ln a : Int)) (hd : decode M.2.1 pc = .ok (.laload, 1)) (hp : pc + 1 = pc2) (k : V G M pc2 ls (JJ (t a x.toNat) :: st) t Q) : V G M pc ls (II x :: RR a :: st) t Q := by
  subst hp
  intro p e R s m args below meth c cl sl Z hc H locs la hR hS hl
  have ha : a < 145 := ky_lt (by omega)
  have he : (cells G t)[a]? = some (rlA G a, .inl (gT G 1, ln a, .inr (.inl (fun j => Int64.ofInt (t a j))))) := by rw [cells_at ha, ent_8 hk, rlA_lt ha]
  have hi := inR (ln_le a) hx
  have k2 := k p e R s m args below meth c cl sl Z hc H locs la hR hS hl
  refine va_lald hc.1 hc.2.1 hc.2.2.2.2.1.2.1 hR a 1 he rfl (oIn hi hx.1 hx.2) hd ?_
  rw [oClamp hi hx.1]; exact k2
theorem V_aald (hk : ky a = 9 ∨ ky a = 10) (hx : 0 ≤ x ∧ x < (ln a : Int)) (hd : decode M.2.1 pc = .ok (.aaload, 1)) (hp : pc + 1 = pc2) (k : V G M pc2 ls (RR (rf a x.toNat) :: st) t Q) : V G M pc ls (II x :: RR a :: st) t Q := by
  subst hp
  intro p e R s m args below meth c cl sl Z hc H locs la hR hS hl
  have ha : a < 145 := ky_lt (by omega)
  have hi := inR (ln_le a) hx
  have k2 := k p e R s m args below meth c cl sl Z hc H locs la hR hS hl
  rw [List.map_cons, show rl G (RR (rf a x.toNat)) = va_rf (some (gN G 0 + rf a x.toNat)) from congrArg Value.ref (rlA_lt (rf_lt (by omega)))] at k2
  rcases hk with hk | hk
  · have he : (cells G t)[a]? = some (rlA G a, .inl (gT G 2, ln a, .inr (.inr (.inr (.inr (fun j => some (gN G 0 + rf a j))))))) := by rw [cells_at ha, ent_9 hk, rlA_lt ha]
    refine va_aldq hc.1 hc.2.1 hc.2.2.2.2.1.2.1 hR a 2 he rfl (oIn hi hx.1 hx.2) hd ?_
    rw [oClamp hi hx.1]; exact k2
  · have he : (cells G t)[a]? = some (rlA G a, .inl (gT G 3, ln a, .inr (.inr (.inr (.inr (fun j => some (gN G 0 + rf a j))))))) := by rw [cells_at ha, ent_10 hk, rlA_lt ha]
    refine va_aldq hc.1 hc.2.1 hc.2.2.2.2.1.2.1 hR a 3 he rfl (oIn hi hx.1 hx.2) hd ?_
    rw [oClamp hi hx.1]; exact k2
theorem upd_wr {k j : Nat} {v : Int} : upd (fun j => Int32.ofInt (t k j)) j (Int32.ofInt v) = fun i => Int32.ofInt (wr t k j v k i) := by
  funext i; unfold upd wr
  by_cases h : i = j
  · rw [if_pos h, if_pos ⟨rfl, h⟩]
  · rw [if_neg h, if_neg (fun q => h q.2)]
theorem updL_wr {k j : Nat} {v : Int} : vp_updL (fun j => Int64.ofInt (t k j)) j (Int64.ofInt v) = fun i => Int64.ofInt (wr t k j v k i) := by
  funext i; unfold vp_updL wr
  by_cases h : i = j
  · rw [if_pos h, if_pos ⟨rfl, h⟩]
  · rw [if_neg h, if_neg (fun q => h q.2)]
theorem V_iast {v : Int} (hk : ky a = 7) (hx : 0 ≤ x ∧ x < (ln a : Int)) (hd : decode M.2.1 pc = .ok (.iastore, 1)) (hp : pc + 1 = pc2) (k : ∀ u, u = wr t a x.toNat v → V G M pc2 ls st u Q) : V G M pc ls (II v :: II x :: RR a :: st) t Q := by
  subst hp
  intro p e R s m args below meth c cl sl Z hc H locs la hR hS hl
  have ha : a < 145 := ky_lt (by omega)
  have he : (cells G t)[a]? = some (rlA G a, .inl (gT G 0, ln a, .inl (fun j => Int32.ofInt (t a j)))) := by rw [cells_at ha, ent_7 hk, rlA_lt ha]
  have hi := inR (ln_le a) hx
  refine va_iast hc.1 hc.2.1 hc.2.2.2.2.1.2.1 hR (cells_D G t) hS a 0 he rfl (oIn hi hx.1 hx.2) hd (fun H1 locs1 hP _ hS1 => ?_)
  rw [oClamp hi hx.1, upd_wr, rlA_lt ha, cells_set ha (u := wr t a x.toNat v) (by rw [ent_7 hk]) (fun z hz => wr_ne hz)] at hP
  exact k _ rfl p e R s m args below meth c cl sl Z hc H1 locs1 la hP hS1 hl
theorem V_last {v : Int} (hk : ky a = 8) (hx : 0 ≤ x ∧ x < (ln a : Int)) (hd : decode M.2.1 pc = .ok (.lastore, 1)) (hp : pc + 1 = pc2) (k : ∀ u, u = wr t a x.toNat v → V G M pc2 ls st u Q) : V G M pc ls (JJ v :: II x :: RR a :: st) t Q := by
  subst hp
  intro p e R s m args below meth c cl sl Z hc H locs la hR hS hl
  have ha : a < 145 := ky_lt (by omega)
  have he : (cells G t)[a]? = some (rlA G a, .inl (gT G 1, ln a, .inr (.inl (fun j => Int64.ofInt (t a j))))) := by rw [cells_at ha, ent_8 hk, rlA_lt ha]
  have hi := inR (ln_le a) hx
  refine va_last hc.1 hc.2.1 hc.2.2.2.2.1.2.1 hR (cells_D G t) hS a 1 he rfl (oIn hi hx.1 hx.2) hd (fun H1 locs1 hP _ hS1 => ?_)
  rw [oClamp hi hx.1, updL_wr, rlA_lt ha, cells_set ha (u := wr t a x.toNat v) (by rw [ent_8 hk]) (fun z hz => wr_ne hz)] at hP
  exact k _ rfl p e R s m args below meth c cl sl Z hc H1 locs1 la hP hS1 hl
end VM
end
section
/-! rules: copies of rows, constants, the script, the two static rows, switches, calls -/
section VA
variable {G : GG} {M : MI} {pc pc2 : Nat} {ls ls2 : List (Nat × VV)} {st : List VV} {t : Mem} {Q : Int → Mem → Prop} {x y : Int} {a : Nat}
theorem cpy_row {b i j n : Nat} : va_cpy (fun k => Int32.ofInt (t a k)) (fun k => Int32.ofInt (t b k)) i j n = fun k => Int32.ofInt (cpy t a i b j n b k) := by
  funext k; unfold va_cpy cpy
  by_cases h : j ≤ k ∧ k < j + n
  · rw [if_pos h, if_pos ⟨rfl, h⟩]
  · rw [if_neg h, if_neg (fun q => h q.2)]
theorem cpy_rowL {b i j n : Nat} : va_cpy (fun k => Int64.ofInt (t a k)) (fun k => Int64.ofInt (t b k)) i j n = fun k => Int64.ofInt (cpy t a i b j n b k) := by
  funext k; unfold va_cpy cpy
  by_cases h : j ≤ k ∧ k < j + n
  · rw [if_pos h, if_pos ⟨rfl, h⟩]
  · rw [if_neg h, if_neg (fun q => h q.2)]
theorem onn {z : Int} (h : In32 z) (h0 : 0 ≤ z) : ¬ Int32.ofInt z < 0 := by
  rw [Int32.lt_iff_toInt_lt, oI h, z0]; omega
theorem cpw : nativeFrameWords "java/lang/System" "arraycopy" 5 + 11 ≤ 32 := by decide
def ACN : MethodName := arraycopyName
theorem V_copyI {b ix : Nat} {i j n : Int} (hL : Cond.methodLink M.1.cls ix arraycopyName ∈ lw_tbl) (hlev : 0 < M.2.2.2.2) (hw : vsz st ≤ 8) (hk : ky a = 7) (hk2 : ky b = 7) (hi : 0 ≤ i) (hj : 0 ≤ j) (hn : 0 ≤ n) (h1 : i + n ≤ (ln a : Int)) (h2 : j + n ≤ (ln b : Int)) (hd : decode M.2.1 pc = .ok (.invokestatic ix, 3)) (hp : pc + 3 = pc2) (k : ∀ u, u = cpy t a i.toNat b j.toNat n.toNat → V G M pc2 ls st u Q) : V G M pc ls (II n :: II j :: RR b :: II i :: RR a :: st) t Q := by
  subst hp
  intro p e R s m args below meth c cl sl Z hc H locs la hR hS hl
  have hts := hc.2.2.2.2.1.1
  have ha : a < 145 := ky_lt (by omega)
  have hb : b < 145 := ky_lt (by omega)
  have la1 := ln_le a
  have lb1 := ln_le b
  have ii : In32 i := ⟨by omega, by omega⟩
  have ij : In32 j := ⟨by omega, by omega⟩
  have inn : In32 n := ⟨by omega, by omega⟩
  have he : (cells G t)[a]? = some (rlA G a, .inl (gT G 0, ln a, .inl (fun j => Int32.ofInt (t a j)))) := by rw [cells_at ha, ent_7 hk, rlA_lt ha]
  have he2 : (cells G t)[b]? = some (rlA G b, .inl (gT G 0, ln b, .inl (fun j => Int32.ofInt (t b j)))) := by rw [cells_at hb, ent_7 hk2, rlA_lt hb]
  have hfr := hc.2.2.2.2.2.1
  have hlo := hc.2.2.2.2.2.2.1
  refine va_copyi (ty := .int) (rest := st.map (rl G)) hc.1 hc.2.1 (hc.2.2.1.trans hl.1.symm) hc.2.2.2.1 (hts _ hL rfl args) (hts (.native arraycopyName) (by decide +kernel) rfl args) (hts (.static arraycopyName) (by decide +kernel) rfl args) (hts (.initialized "java/lang/System") (by decide +kernel) rfl args) hc.2.2.2.2.1.2.1 hR (cells_D G t) hS a b 0 0 he he2 rfl rfl rfl (onn ii hi) (onn ij hj) (onn inn hn) (by rw [oClamp ii hi, oClamp inn hn]; omega) (by rw [oClamp ij hj, oClamp inn hn]; omega) (fun _ _ => rfl) (by omega) (by rw [vcs_rl]; have := cpw; omega) hd (fun H1 locs1 hP _ hS1 => ?_)
  rw [oClamp ii hi, oClamp ij hj, oClamp inn hn, cpy_row, rlA_lt hb, cells_set hb (u := cpy t a i.toNat b j.toNat n.toNat) (by rw [ent_7 hk2]) (fun z hz => cpy_ne hz)] at hP
  exact k _ rfl p e R s m args below meth c cl sl Z hc H1 locs1 la hP hS1 hl
theorem V_copyL {b ix : Nat} {i j n : Int} (hL : Cond.methodLink M.1.cls ix arraycopyName ∈ lw_tbl) (hlev : 0 < M.2.2.2.2) (hw : vsz st ≤ 8) (hk : ky a = 8) (hk2 : ky b = 8) (hi : 0 ≤ i) (hj : 0 ≤ j) (hn : 0 ≤ n) (h1 : i + n ≤ (ln a : Int)) (h2 : j + n ≤ (ln b : Int)) (hd : decode M.2.1 pc = .ok (.invokestatic ix, 3)) (hp : pc + 3 = pc2) (k : ∀ u, u = cpy t a i.toNat b j.toNat n.toNat → V G M pc2 ls st u Q) : V G M pc ls (II n :: II j :: RR b :: II i :: RR a :: st) t Q := by
  subst hp
  intro p e R s m args below meth c cl sl Z hc H locs la hR hS hl
  have hts := hc.2.2.2.2.1.1
  have ha : a < 145 := ky_lt (by omega)
  have hb : b < 145 := ky_lt (by omega)
  have la1 := ln_le a
  have lb1 := ln_le b
  have ii : In32 i := ⟨by omega, by omega⟩
  have ij : In32 j := ⟨by omega, by omega⟩
  have inn : In32 n := ⟨by omega, by omega⟩
  have he : (cells G t)[a]? = some (rlA G a, .inl (gT G 1, ln a, .inr (.inl (fun j => Int64.ofInt (t a j))))) := by rw [cells_at ha, ent_8 hk, rlA_lt ha]
  have he2 : (cells G t)[b]? = some (rlA G b, .inl (gT G 1, ln b, .inr (.inl (fun j => Int64.ofInt (t b j))))) := by rw [cells_at hb, ent_8 hk2, rlA_lt hb]
  have hfr := hc.2.2.2.2.2.1
  have hlo := hc.2.2.2.2.2.2.1
  refine va_copyl (ty := .long) (rest := st.map (rl G)) hc.1 hc.2.1 (hc.2.2.1.trans hl.1.symm) hc.2.2.2.1 (hts _ hL rfl args) (hts (.native arraycopyName) (by decide +kernel) rfl args) (hts (.static arraycopyName) (by decide +kernel) rfl args) (hts (.initialized "java/lang/System") (by decide +kernel) rfl args) hc.2.2.2.2.1.2.1 hR (cells_D G t) hS a b 1 1 he he2 rfl rfl rfl (onn ii hi) (onn ij hj) (onn inn hn) (by rw [oClamp ii hi, oClamp inn hn]; omega) (by rw [oClamp ij hj, oClamp inn hn]; omega) (fun _ _ => rfl) (by omega) (by rw [vcs_rl]; have := cpw; omega) hd (fun H1 locs1 hP _ hS1 => ?_)
  rw [oClamp ii hi, oClamp ij hj, oClamp inn hn, cpy_rowL, rlA_lt hb, cells_set hb (u := cpy t a i.toNat b j.toNat n.toNat) (by rw [ent_8 hk2]) (fun z hz => cpy_ne hz)] at hP
  exact k _ rfl p e R s m args below meth c cl sl Z hc H1 locs1 la hP hS1 hl
theorem V_ldc {ix : Nat} {v : Int32} (hL : Cond.constant M.1.cls ix v ∈ lw_tbl) (hv : Int32.ofInt x = v) (hd : decode M.2.1 pc = .ok (.ldc ix, 2)) (hp : pc + 2 = pc2) (k : V G M pc2 ls (II x :: st) t Q) : V G M pc ls st t Q := by
  subst hp; subst hv
  intro p e R s m args below meth c cl sl Z hc H locs la hR hS hl
  exact lv_ldc hc.1 hc.2.1 hc.2.2.2.1 (hc.2.2.2.2.1.1 _ hL rfl args) hd (k p e R s m args below meth c cl sl Z hc H locs la hR hS hl)
theorem V_ldcw {ix : Nat} {v : Int32} (hL : Cond.constant M.1.cls ix v ∈ lw_tbl) (hv : Int32.ofInt x = v) (hd : decode M.2.1 pc = .ok (.ldc_w ix, 3)) (hp : pc + 3 = pc2) (k : V G M pc2 ls (II x :: st) t Q) : V G M pc ls st t Q := by
  subst hp; subst hv
  intro p e R s m args below meth c cl sl Z hc H locs la hR hS hl
  exact lv_ldcw hc.1 hc.2.1 hc.2.2.2.1 (hc.2.2.2.2.1.1 _ hL rfl args) hd (k p e R s m args below meth c cl sl Z hc H locs la hR hS hl)
theorem V_ldc2 {ix : Nat} {v : Int64} (hL : Cond.constantLong M.1.cls ix v ∈ lw_tbl) (hv : Int64.ofInt x = v) (hd : decode M.2.1 pc = .ok (.ldc2_w ix, 3)) (hp : pc + 3 = pc2) (k : V G M pc2 ls (JJ x :: st) t Q) : V G M pc ls st t Q := by
  subst hp; subst hv
  intro p e R s m args below meth c cl sl Z hc H locs la hR hS hl
  exact lv_ldc2 hc.1 hc.2.1 hc.2.2.2.1 (hc.2.2.2.2.1.1 _ hL rfl args) hd (k p e R s m args below meth c cl sl Z hc H locs la hR hS hl)
/-- the script -/
theorem V_sld (hx : 0 ≤ x ∧ x < (gN G 4 : Int)) (hd : decode M.2.1 pc = .ok (.iaload, 1)) (hp : pc + 1 = pc2) (k : V G M pc2 ls (II (gX G x.toNat).toInt :: st) t Q) : V G M pc ls (II x :: RR 900 :: st) t Q := by
  subst hp
  intro p e R s m args below meth c cl sl Z hc H locs la hR hS hl
  obtain ⟨x1, x2, x3, x4⟩ := hc.2.2.2.2.1.2.2.1
  have hi : In32 x := ⟨by omega, by omega⟩
  have k2 := k p e R s m args below meth c cl sl Z hc H locs la hR hS hl
  rw [List.map_cons, show rl G (II (gX G x.toNat).toInt) = .int (gX G x.toNat) from congrArg Value.int (Int32.ofInt_toInt _)] at k2
  refine va_sld (A := AA G) hc.1 hc.2.1 x1 x2 (fun q => Nat.lt_irrefl _ (Nat.lt_of_lt_of_le x3 q)) hS (i := Int32.ofInt x) (oIn hi hx.1 hx.2) hd ?_
  rw [oClamp hi hx.1]; exact k2
theorem V_slen (hd : decode M.2.1 pc = .ok (.arraylength, 1)) (hp : pc + 1 = pc2) (k : V G M pc2 ls (II (gN G 4 : Int) :: st) t Q) : V G M pc ls (RR 900 :: st) t Q := by
  subst hp
  intro p e R s m args below meth c cl sl Z hc H locs la hR hS hl
  obtain ⟨x1, x2, x3, x4⟩ := hc.2.2.2.2.1.2.2.1
  have k2 := k p e R s m args below meth c cl sl Z hc H locs la hR hS hl
  rw [List.map_cons, show rl G (II (gN G 4 : Int)) = .int (Int32.ofNat (gN G 4)) from congrArg Value.int (Int32.ofInt_eq_ofNat)] at k2
  exact va_slen (A := AA G) hc.1 hc.2.1 x1 x2 (fun q => Nat.lt_irrefl _ (Nat.lt_of_lt_of_le x3 q)) hS hd k2
theorem V_getLow {ix : Nat} (hL : Cond.fieldLink M.1.cls ix "WellTurns" "LOWEST" "[I" ∈ lw_tbl) (hd : decode M.2.1 pc = .ok (.getstatic ix, 3)) (hp : pc + 3 = pc2) (k : V G M pc2 ls (RR 901 :: st) t Q) : V G M pc ls st t Q := by
  subst hp
  intro p e R s m args below meth c cl sl Z hc H locs la hR hS hl
  exact va_gets hc.1 hc.2.1 hc.2.2.2.2.1.2.2.2.1.1 hS hc.2.2.2.1 (hc.2.2.2.2.1.1 _ hL rfl args) (fun _ h => h) hd (k p e R s m args below meth c cl sl Z hc H locs la hR hS hl)
theorem V_getHigh {ix : Nat} (hL : Cond.fieldLink M.1.cls ix "WellTurns" "HIGHEST" "[I" ∈ lw_tbl) (hd : decode M.2.1 pc = .ok (.getstatic ix, 3)) (hp : pc + 3 = pc2) (k : V G M pc2 ls (RR 902 :: st) t Q) : V G M pc ls st t Q := by
  subst hp
  intro p e R s m args below meth c cl sl Z hc H locs la hR hS hl
  exact va_gets hc.1 hc.2.1 hc.2.2.2.2.1.2.2.2.2.1 hS hc.2.2.2.1 (hc.2.2.2.2.1.1 _ hL rfl args) (fun _ h => h) hd (k p e R s m args below meth c cl sl Z hc H locs la hR hS hl)
theorem V_lowLen (hd : decode M.2.1 pc = .ok (.arraylength, 1)) (hp : pc + 1 = pc2) (k : V G M pc2 ls (II 7 :: st) t Q) : V G M pc ls (RR 901 :: st) t Q := by
  subst hp
  intro p e R s m args below meth c cl sl Z hc H locs la hR hS hl
  exact va_tlen hc.1 hc.2.1 hc.2.2.2.2.1.2.2.2.1.2 hS rfl hd (k p e R s m args below meth c cl sl Z hc H locs la hR hS hl)
theorem V_lowAt (hx : 0 ≤ x ∧ x < 7) (hd : decode M.2.1 pc = .ok (.iaload, 1)) (hp : pc + 1 = pc2) (k : V G M pc2 ls (II (lowV x.toNat) :: st) t Q) : V G M pc ls (II x :: RR 901 :: st) t Q := by
  subst hp
  intro p e R s m args below meth c cl sl Z hc H locs la hR hS hl
  have hi : In32 x := ⟨by omega, by omega⟩
  exact va_ti hc.1 hc.2.1 hc.2.2.2.2.1.2.2.2.1.2 hS (oIn hi hx.1 hx.2) (by rw [oClamp hi hx.1]; rfl) hd (k p e R s m args below meth c cl sl Z hc H locs la hR hS hl)
theorem V_highAt (hx : 0 ≤ x ∧ x < 7) (hd : decode M.2.1 pc = .ok (.iaload, 1)) (hp : pc + 1 = pc2) (k : V G M pc2 ls (II (highV x.toNat) :: st) t Q) : V G M pc ls (II x :: RR 902 :: st) t Q := by
  subst hp
  intro p e R s m args below meth c cl sl Z hc H locs la hR hS hl
  have hi : In32 x := ⟨by omega, by omega⟩
  exact va_ti hc.1 hc.2.1 hc.2.2.2.2.1.2.2.2.2.2 hS (oIn hi hx.1 hx.2) (by rw [oClamp hi hx.1]; rfl) hd (k p e R s m args below meth c cl sl Z hc H locs la hR hS hl)
/-- a switch by a table: the place i of it -/
theorem V_tsIn {dflt lo hi : Int} {offs : Array Int} {len i g : Nat} {f : Int} (hd : decode M.2.1 pc = .ok (.tableswitch dflt lo hi offs, len)) (hx : x = lo + i) (h2 : lo + i ≤ hi) (hin : In32 (lo + i)) (ho : offs[i]? = some f) (ht : (pc : Int) + f = (g : Int)) (k : V G M g ls st t Q) : V G M pc ls (II x :: st) t Q := by
  intro p e R s m args below meth c cl sl Z hc H locs la hR hS hl
  have e1 : (Int32.ofInt x).toInt = x := oI (hx ▸ hin)
  refine lv_tableIn hc.1 hc.2.1 hd (x := Int32.ofInt x) (by rw [e1]; omega) (by rw [e1]; omega) (off := f) ?_ ht (k p e R s m args below meth c cl sl Z hc H locs la hR hS hl)
  rw [e1, show (x - lo).toNat = i by omega]; exact ho
theorem V_tsOut {dflt lo hi : Int} {offs : Array Int} {len g : Nat} (hd : decode M.2.1 pc = .ok (.tableswitch dflt lo hi offs, len)) (hi2 : In32 x) (hx : x < lo ∨ hi < x) (ht : (pc : Int) + dflt = (g : Int)) (k : V G M g ls st t Q) : V G M pc ls (II x :: st) t Q := by
  intro p e R s m args below meth c cl sl Z hc H locs la hR hS hl
  exact lv_tableOut hc.1 hc.2.1 hd (x := Int32.ofInt x) (by rw [oI hi2]; exact hx) ht (k p e R s m args below meth c cl sl Z hc H locs la hR hS hl)
theorem V_look {dflt f : Int} {ps : Array (Int × Int)} {len g : Nat} (hd : decode M.2.1 pc = .ok (.lookupswitch dflt ps, len)) (hi : In32 x) (hs : (ps.toList.zip (ps.toList.drop 1)).all (fun (a, next) => a.1 < next.1) = true) (ho : Op.lookupswitch.offset ps.toList dflt x = f) (ht : (pc : Int) + f = (g : Int)) (k : V G M g ls st t Q) : V G M pc ls (II x :: st) t Q := by
  intro p e R s m args below meth c cl sl Z hc H locs la hR hS hl
  exact lv_lookup hc.1 hc.2.1 hd (x := Int32.ofInt x) hs (by rw [oI hi]; exact ho) ht (k p e R s m args below meth c cl sl Z hc H locs la hR hS hl)
end VA
def OkM (N : MI) (n : Nat) : Prop := Cond.code N.1 N.2.1 N.2.2.1 N.2.2.2.1 ∈ lw_tbl ∧ Cond.initialized N.1.cls ∈ lw_tbl ∧ (N.1.cls ≠ "java/lang/invoke/MethodHandle" ∧ N.1.cls ≠ "java/lang/invoke/VarHandle") ∧ (parseMethodDescriptor N.1.desc).map (fun d => d.parameters.length) = some n ∧ N.2.2.1 ≤ 21
def OkV (N : MI) (n ci : Nat) : Prop := OkM N n ∧ Cond.instanceMethod N.1 ∈ lw_tbl ∧ Cond.selects N.1.cls N.1 N.1 ∈ lw_tbl ∧ ci < 7 ∧ (vcl[ci]?).map (fun q => q.1) = some N.1.cls
def OkS (N : MI) (n : Nat) : Prop := OkM N n ∧ Cond.static N.1 ∈ lw_tbl
section VCL
variable {G : GG} {M N : MI} {pc pc2 n ci ix a : Nat} {ls : List (Nat × VV)} {st st0 as : List VV} {t : Mem} {Q Pq : Int → Mem → Prop} {ty : FieldType}
theorem ex_paid {s : State} (h : TB s) (hO : OkM N n) : ∀ w ∈ [Cond.code N.1 N.2.1 N.2.2.1 N.2.2.2.1], ∀ (a' : Array Value) (U : State), s.WarmedH U.vm → w.before a' U = true := by
  intro w hw a' U hW
  rw [List.mem_singleton.mp hw]
  exact h.warm hW _ hO.1 rfl a'
theorem rev_rl : (as.reverse ++ RR a :: st).map (rl G) = (as.map (rl G)).reverse ++ .ref (rlA G a) :: st.map (rl G) := by
  rw [List.map_append, List.map_reverse, List.map_cons]; rfl
theorem rev_rlS : (as.reverse ++ st).map (rl G) = (as.map (rl G)).reverse ++ st.map (rl G) := by
  rw [List.map_append, List.map_reverse]
theorem pre_ok {s : State} {H : Heap} {locs : List Loc} (hC : Ctx G s) (hR : Rep G t H) (hS : va_S (AA G) s.heap H locs) : ∀ U : State, U.heap = H → s.WarmedH U.vm → PE G as t ((as.map (rl G)).toArray) U := by
  intro U e hW
  exact ⟨rfl, by rw [e]; exact hR, hC.move hW (by rw [e]; exact hS)⟩
theorem V_runV (hO : OkV N n ci) (hL : ML M.1.cls ix N.1) (hlev : N.2.2.2.2 < M.2.2.2.2) (hk : ky a = ci) (hn : as.length = n) (hw : vsz st ≤ 8) (hd : decode M.2.1 pc = .ok (.invokevirtual ix, 3)) (hE : Ex G N (RR a :: as) t Pq) {p : Program} {e : Env} {R : Room} {s : State} {m : MethodId} {args : Array Value} {below : List Frame} {meth : Method} {c : Code} {cl sl : Nat} {Z : State → Prop} (hc : VX G M Q p e R s m args below meth c cl sl Z) {H : Heap} {locs : List Loc} {la : Array Slot} (hR : Rep G t H) (hS : va_S (AA G) s.heap H locs) (hl : lv_has la M.2.2.1 (vls G ls)) :
    va_Run p (gL G) e R s m args below meth c H locs cl sl 0 0 (F0 m pc la ((as.reverse ++ RR a :: st).map (rl G))) (st.map (rl G)) (QE G N.2.2.2.1 Pq (Value.ref (rlA G a) :: as.map (rl G)).toArray) (AA G) := by
  have hts := hc.2.2.2.2.1.1
  have ha : a < 145 := ky_lt (by have := hO.2.2.2.1; omega)
  have he : (cells G t)[a]? = some (rlA G a, .inr (ci, flds G t a)) := by rw [cells_at ha, ent_obj (by rw [hk]; exact hO.2.2.2.1), rlA_lt ha, hk]
  obtain ⟨q, hq, hq2⟩ : ∃ q, vcl[ci]? = some q ∧ q.1 = N.1.cls := by
    have h := hO.2.2.2.2
    cases h1 : vcl[ci]? with
    | none => rw [h1] at h; cases h
    | some q => rw [h1] at h; exact ⟨q, rfl, Option.some.inj h⟩
  have hrec := va_recv hc.2.2.2.2.1.2.1 hR hq he
  rw [hq2] at hrec
  have hfr := hc.2.2.2.2.2.1
  have hlo := hc.2.2.2.2.2.2.1
  have hm := hO.1.2.2.2.2
  have hpar : ∀ sig, parseMethodDescriptor N.1.desc = some sig → n = sig.parameters.length := fun sig h => by
    have h2 := hO.1.2.2.2.1
    rw [h] at h2
    exact (Option.some.inj h2).symm
  have hroom : (rmL N.2.2.2.2).frames + 1 ≤ R.frames ∧ 8 + (N.2.2.1 + 11) + (rmL N.2.2.2.2).locals ≤ R.locals := ⟨by show N.2.2.2.2 + 1 ≤ R.frames; omega, by show 8 + (N.2.2.1 + 11) + 40 * N.2.2.2.2 ≤ R.locals; omega⟩
  have hst : (F0 m pc la ((as.reverse ++ RR a :: st).map (rl G))).stack = (as.map (rl G)).reverse ++ .ref (rlA G a) :: st.map (rl G) := rev_rl
  have hPre : PreV s H N.1.cls (rlA G a) (PE G (RR a :: as) t) (as.map (rl G)) := ⟨PE.blind G _ t, hrec, pre_ok hc.2.2.2.2.1 hR hS⟩
  have hcd := hts _ hO.1.1 rfl args
  have hini := hts _ hO.1.2.1 rfl args
  have hin := hts _ hO.2.1 rfl args
  have hse := hts _ hO.2.2.1 rfl args
  have hroomW : 2 * (F0 m pc la ((as.reverse ++ RR a :: st).map (rl G))).monitorRoom + ((st.map (rl G)).map fun v => v.category).sum ≤ 8 := lv_room (by rw [vcs_rl]; exact hw)
  rcases hL with hL | ⟨host, hL⟩
  · exact va_runV (Ts := []) (nL := M.2.2.1) (own := M.1.cls) ⟨hc.1, hc.2.1, hc.2.2.1, hc.2.2.2.1, fun _ h => absurd h List.not_mem_nil⟩ hE
      ⟨⟨rfl, rfl, hroom.1, hroom.2, ex_paid hts hO.1, List.mem_cons_self, hcd, hini, hO.1.2.2.1, hpar, hts _ hL rfl args⟩, hin, hse⟩ hPre rfl (by rw [List.length_map]; exact hn) hl.1 hst hroomW hd ⟨hc.2.2.2.2.2.2.2.1, hc.2.2.2.2.2.2.2.2.1⟩
  · exact va_runVN (Ts := []) (nL := M.2.2.1) (own := M.1.cls) (host := host) ⟨hc.1, hc.2.1, hc.2.2.1, hc.2.2.2.1, fun _ h => absurd h List.not_mem_nil⟩ hE
      ⟨⟨⟨rfl, rfl, hroom.1, hroom.2, ex_paid hts hO.1, List.mem_cons_self⟩, hcd, hini, hO.1.2.2.1, hpar, hts _ hL rfl args⟩, hin, hse⟩ hPre rfl (by rw [List.length_map]; exact hn) hl.1 hst hroomW hd ⟨hc.2.2.2.2.2.2.2.1, hc.2.2.2.2.2.2.2.2.1⟩
theorem V_callVi (hO : OkV N n ci) (hr : N.2.2.2.1 = some ty) (hL : ML M.1.cls ix N.1) (hlev : N.2.2.2.2 < M.2.2.2.2) (hk : ky a = ci) (hn : as.length = n) (hw : vsz st ≤ 8) (hst : st0 = as.reverse ++ RR a :: st) (hd : decode M.2.1 pc = .ok (.invokevirtual ix, 3)) (hp : pc + 3 = pc2) (hE : Ex G N (RR a :: as) t Pq) (k : ∀ r u, Pq r u → V G M pc2 ls (II r :: st) u Q) : V G M pc ls st0 t Q := by
  subst hp; subst hst
  intro p e R s m args below meth c cl sl Z hc H locs la hR hS hl
  have hrun := V_runV (st := st) hO hL hlev hk hn hw hd hE hc hR hS hl
  rw [hr] at hrun
  refine va_calli (a := #[]) hrun hS (fun q _ h => h) (fun q h => h) (fun r u t2 H1 locs1 ht hvm hpost hB hz hk2 hS1 => ?_)
  obtain ⟨z, rfl, hz2⟩ := hpost
  have hB : Rep G u t2.heap := hB
  rw [ht] at hB
  exact k z u hz2 p e R s m args below meth c cl sl Z hc H1 locs1 la hB hS1 hl
theorem V_callVv (hO : OkV N n ci) (hr : N.2.2.2.1 = none) (hL : ML M.1.cls ix N.1) (hlev : N.2.2.2.2 < M.2.2.2.2) (hk : ky a = ci) (hn : as.length = n) (hw : vsz st ≤ 8) (hst : st0 = as.reverse ++ RR a :: st) (hd : decode M.2.1 pc = .ok (.invokevirtual ix, 3)) (hp : pc + 3 = pc2) (hE : Ex G N (RR a :: as) t Pq) (k : ∀ u, Pq 0 u → V G M pc2 ls st u Q) : V G M pc ls st0 t Q := by
  subst hp; subst hst
  intro p e R s m args below meth c cl sl Z hc H locs la hR hS hl
  have hrun := V_runV (st := st) hO hL hlev hk hn hw hd hE hc hR hS hl
  rw [hr] at hrun
  refine va_callv (a := #[]) hrun hS (fun q _ h => h) (fun q h => h) (fun u t2 H1 locs1 ht hvm hpost hB hz hk2 hS1 => ?_)
  have hB : Rep G u t2.heap := hB
  rw [ht] at hB
  exact k u hpost p e R s m args below meth c cl sl Z hc H1 locs1 la hB hS1 hl
theorem V_runS (hO : OkS N n) (hL : ML M.1.cls ix N.1) (hlev : N.2.2.2.2 < M.2.2.2.2) (hn : as.length = n) (hw : vsz st ≤ 8) (hd : decode M.2.1 pc = .ok (.invokestatic ix, 3)) (hE : Ex G N as t Pq) {p : Program} {e : Env} {R : Room} {s : State} {m : MethodId} {args : Array Value} {below : List Frame} {meth : Method} {c : Code} {cl sl : Nat} {Z : State → Prop} (hc : VX G M Q p e R s m args below meth c cl sl Z) {H : Heap} {locs : List Loc} {la : Array Slot} (hR : Rep G t H) (hS : va_S (AA G) s.heap H locs) (hl : lv_has la M.2.2.1 (vls G ls)) :
    va_Run p (gL G) e R s m args below meth c H locs cl sl 0 0 (F0 m pc la ((as.reverse ++ st).map (rl G))) (st.map (rl G)) (QE G N.2.2.2.1 Pq (as.map (rl G)).toArray) (AA G) := by
  have hts := hc.2.2.2.2.1.1
  have hfr := hc.2.2.2.2.2.1
  have hlo := hc.2.2.2.2.2.2.1
  have hm := hO.1.2.2.2.2
  have hpar : ∀ sig, parseMethodDescriptor N.1.desc = some sig → n = sig.parameters.length := fun sig h => by
    have h2 := hO.1.2.2.2.1
    rw [h] at h2
    exact (Option.some.inj h2).symm
  have hroom : (rmL N.2.2.2.2).frames + 1 ≤ R.frames ∧ 8 + (N.2.2.1 + 11) + (rmL N.2.2.2.2).locals ≤ R.locals := ⟨by show N.2.2.2.2 + 1 ≤ R.frames; omega, by show 8 + (N.2.2.1 + 11) + 40 * N.2.2.2.2 ≤ R.locals; omega⟩
  have hst : (F0 m pc la ((as.reverse ++ st).map (rl G))).stack = (as.map (rl G)).reverse ++ st.map (rl G) := rev_rlS
  have hPre : PreS s H (PE G as t) (as.map (rl G)) := ⟨PE.blind G _ t, pre_ok hc.2.2.2.2.1 hR hS⟩
  have hcd := hts _ hO.1.1 rfl args
  have hini := hts _ hO.1.2.1 rfl args
  have hin := hts _ hO.2 rfl args
  have hroomW : 2 * (F0 m pc la ((as.reverse ++ st).map (rl G))).monitorRoom + ((st.map (rl G)).map fun v => v.category).sum ≤ 8 := lv_room (by rw [vcs_rl]; exact hw)
  rcases hL with hL | ⟨host, hL⟩
  · exact va_runS (Ts := []) (nL := M.2.2.1) (own := M.1.cls) ⟨hc.1, hc.2.1, hc.2.2.1, hc.2.2.2.1, fun _ h => absurd h List.not_mem_nil⟩ hE
      ⟨⟨rfl, rfl, hroom.1, hroom.2, ex_paid hts hO.1, List.mem_cons_self, hcd, hini, hO.1.2.2.1, hpar, hts _ hL rfl args⟩, hin⟩ hPre rfl (by rw [List.length_map]; exact hn) hl.1 hst hroomW hd ⟨hc.2.2.2.2.2.2.2.1, hc.2.2.2.2.2.2.2.2.1⟩
  · exact va_runSN (Ts := []) (nL := M.2.2.1) (own := M.1.cls) (host := host) ⟨hc.1, hc.2.1, hc.2.2.1, hc.2.2.2.1, fun _ h => absurd h List.not_mem_nil⟩ hE
      ⟨⟨⟨rfl, rfl, hroom.1, hroom.2, ex_paid hts hO.1, List.mem_cons_self⟩, hcd, hini, hO.1.2.2.1, hpar, hts _ hL rfl args⟩, hin, trivial⟩ hPre rfl (by rw [List.length_map]; exact hn) hl.1 hst hroomW hd ⟨hc.2.2.2.2.2.2.2.1, hc.2.2.2.2.2.2.2.2.1⟩
theorem V_callSi (hO : OkS N n) (hr : N.2.2.2.1 = some ty) (hL : ML M.1.cls ix N.1) (hlev : N.2.2.2.2 < M.2.2.2.2) (hn : as.length = n) (hw : vsz st ≤ 8) (hst : st0 = as.reverse ++ st) (hd : decode M.2.1 pc = .ok (.invokestatic ix, 3)) (hp : pc + 3 = pc2) (hE : Ex G N as t Pq) (k : ∀ r u, Pq r u → V G M pc2 ls (II r :: st) u Q) : V G M pc ls st0 t Q := by
  subst hp; subst hst
  intro p e R s m args below meth c cl sl Z hc H locs la hR hS hl
  have hrun := V_runS (st := st) hO hL hlev hn hw hd hE hc hR hS hl
  rw [hr] at hrun
  refine va_calli (a := #[]) hrun hS (fun q _ h => h) (fun q h => h) (fun r u t2 H1 locs1 ht hvm hpost hB hz hk2 hS1 => ?_)
  obtain ⟨z, rfl, hz2⟩ := hpost
  have hB : Rep G u t2.heap := hB
  rw [ht] at hB
  exact k z u hz2 p e R s m args below meth c cl sl Z hc H1 locs1 la hB hS1 hl
end VCL
end
section
theorem fwX0 : FW 0 RX0 TX0 14 := ⟨rfl, rfl, by decide, by decide +kernel⟩
theorem fwX1 : FW 1 RX1 TX1 10 := ⟨rfl, rfl, by decide, by decide +kernel⟩
theorem fwX2 : FW 2 RX2 TX2 3 := ⟨rfl, rfl, by decide, by decide +kernel⟩
theorem fwX3 : FW 3 RX3 TX3 3 := ⟨rfl, rfl, by decide, by decide +kernel⟩
theorem fwX4 : FW 4 RX4 TX4 4 := ⟨rfl, rfl, by decide, by decide +kernel⟩
theorem fwX5 : FW 5 RX5 TX5 14 := ⟨rfl, rfl, by decide, by decide +kernel⟩
theorem fwX6 : FW 6 RX6 TX6 20 := ⟨rfl, rfl, by decide, by decide +kernel⟩
theorem iL {z : Int} (h : decide (-2147483648 ≤ z ∧ z < 2147483648) = true) : In32 z := show -2147483648 ≤ z ∧ z < 2147483648 from of_decide_eq_true h
theorem jL {z : Int} (h : decide (-9223372036854775808 ≤ z ∧ z < 9223372036854775808) = true) : In64 z := show -9223372036854775808 ≤ z ∧ z < 9223372036854775808 from of_decide_eq_true h
theorem j32 {z : Int} (h : In32 z) : In64 z := ⟨by have := h.1; omega, by have := h.2; omega⟩
section LK
variable {G : GG} {M : MI} {pc pc2 : Nat} {ls : List (Nat × VV)} {st : List VV} {t : Mem} {Q : Int → Mem → Prop} {x v N : Int} {a b : Nat}
theorem V_ialdn (hk : ky a = 7) (hl : (ln a : Int) = N) (hx : 0 ≤ x ∧ x < N) (hd : decode M.2.1 pc = .ok (.iaload, 1)) (hp : pc + 1 = pc2) (k : V G M pc2 ls (II (t a x.toNat) :: st) t Q) : V G M pc ls (II x :: RR a :: st) t Q := V_iald hk (by rw [hl]; exact hx) hd hp k
theorem V_ialdL (j : Nat) (hj : x.toNat = j) (hk : ky a = 7) (hl : (ln a : Int) = N) (hx : decide (0 ≤ x ∧ x < N) = true) (hd : decode M.2.1 pc = .ok (.iaload, 1)) (hp : pc + 1 = pc2) (k : V G M pc2 ls (II (t a j) :: st) t Q) : V G M pc ls (II x :: RR a :: st) t Q := V_iald hk (by rw [hl]; exact of_decide_eq_true hx) hd hp (by rw [hj]; exact k)
theorem V_laldn (hk : ky a = 8) (hl : (ln a : Int) = N) (hx : 0 ≤ x ∧ x < N) (hd : decode M.2.1 pc = .ok (.laload, 1)) (hp : pc + 1 = pc2) (k : V G M pc2 ls (JJ (t a x.toNat) :: st) t Q) : V G M pc ls (II x :: RR a :: st) t Q := V_lald hk (by rw [hl]; exact hx) hd hp k
theorem V_iastn (hk : ky a = 7) (hl : (ln a : Int) = N) (hx : 0 ≤ x ∧ x < N) (hd : decode M.2.1 pc = .ok (.iastore, 1)) (hp : pc + 1 = pc2) (k : ∀ u, u = wr t a x.toNat v → V G M pc2 ls st u Q) : V G M pc ls (II v :: II x :: RR a :: st) t Q := V_iast hk (by rw [hl]; exact hx) hd hp k
theorem V_iastL (j : Nat) (hj : x.toNat = j) (hk : ky a = 7) (hl : (ln a : Int) = N) (hx : decide (0 ≤ x ∧ x < N) = true) (hd : decode M.2.1 pc = .ok (.iastore, 1)) (hp : pc + 1 = pc2) (k : ∀ u, u = wr t a j v → V G M pc2 ls st u Q) : V G M pc ls (II v :: II x :: RR a :: st) t Q := V_iast hk (by rw [hl]; exact of_decide_eq_true hx) hd hp (by rw [hj]; exact k)
theorem V_lastn (hk : ky a = 8) (hl : (ln a : Int) = N) (hx : 0 ≤ x ∧ x < N) (hd : decode M.2.1 pc = .ok (.lastore, 1)) (hp : pc + 1 = pc2) (k : ∀ u, u = wr t a x.toNat v → V G M pc2 ls st u Q) : V G M pc ls (JJ v :: II x :: RR a :: st) t Q := V_last hk (by rw [hl]; exact hx) hd hp k
theorem V_aaldn (hk : ky a = 9 ∨ ky a = 10) (hl : (ln a : Int) = N) (hx : 0 ≤ x ∧ x < N) (hb : rf a x.toNat = b) (hd : decode M.2.1 pc = .ok (.aaload, 1)) (hp : pc + 1 = pc2) (k : V G M pc2 ls (RR b :: st) t Q) : V G M pc ls (II x :: RR a :: st) t Q := V_aald hk (by rw [hl]; exact hx) hd hp (by rw [hb]; exact k)
theorem V_copyIn {N2 i j n : Int} {ix : Nat} (hL : Cond.methodLink M.1.cls ix arraycopyName ∈ lw_tbl) (hlev : 0 < M.2.2.2.2) (hw : vsz st ≤ 8) (hk : ky a = 7) (hk2 : ky b = 7) (hl : (ln a : Int) = N) (hl2 : (ln b : Int) = N2) (h : 0 ≤ i ∧ 0 ≤ j ∧ 0 ≤ n ∧ i + n ≤ N ∧ j + n ≤ N2) (hd : decode M.2.1 pc = .ok (.invokestatic ix, 3)) (hp : pc + 3 = pc2) (k : ∀ u, u = cpy t a i.toNat b j.toNat n.toNat → V G M pc2 ls st u Q) : V G M pc ls (II n :: II j :: RR b :: II i :: RR a :: st) t Q :=
  V_copyI hL hlev hw hk hk2 h.1 h.2.1 h.2.2.1 (by rw [hl]; exact h.2.2.2.1) (by rw [hl2]; exact h.2.2.2.2) hd hp k
theorem V_copyLn {N2 i j n : Int} {ix : Nat} (hL : Cond.methodLink M.1.cls ix arraycopyName ∈ lw_tbl) (hlev : 0 < M.2.2.2.2) (hw : vsz st ≤ 8) (hk : ky a = 8) (hk2 : ky b = 8) (hl : (ln a : Int) = N) (hl2 : (ln b : Int) = N2) (h : 0 ≤ i ∧ 0 ≤ j ∧ 0 ≤ n ∧ i + n ≤ N ∧ j + n ≤ N2) (hd : decode M.2.1 pc = .ok (.invokestatic ix, 3)) (hp : pc + 3 = pc2) (k : ∀ u, u = cpy t a i.toNat b j.toNat n.toNat → V G M pc2 ls st u Q) : V G M pc ls (II n :: II j :: RR b :: II i :: RR a :: st) t Q :=
  V_copyL hL hlev hw hk hk2 h.1 h.2.1 h.2.2.1 (by rw [hl]; exact h.2.2.2.1) (by rw [hl2]; exact h.2.2.2.2) hd hp k
theorem tn {x : Int} {n : Nat} (h : 0 ≤ x ∧ x < (n : Int)) : x.toNat < n := by omega
theorem flX0_9 : FL RX0 9 (TX0 0).1 (TX0 0).2.1 (TX0 0).2.2.1 := Or.inl (by decide +kernel)
theorem gX0_9 (hM : M.1.cls = RX0) (hk : ky a = 0) (hd : decode M.2.1 pc = .ok (.getfield 9, 3)) (hp : pc + 3 = pc2) (k : V G M pc2 ls (II (t a 0) :: st) t Q) : V G M pc ls (RR a :: st) t Q := V_get fwX0 (j := 0) (by decide) (flds_rl (by decide)) (hM ▸ flX0_9) hk hd hp k
theorem pX0_9 (hM : M.1.cls = RX0) (hk : ky a = 0) (hd : decode M.2.1 pc = .ok (.putfield 9, 3)) (hp : pc + 3 = pc2) (k : ∀ u, u = wr t a 0 v → V G M pc2 ls st u Q) : V G M pc ls (II v :: RR a :: st) t Q := V_putX fwX0 tyX0_ok nmX0 (j := 0) (ty := .int) (by decide) rfl rfl (by decide +kernel) (hM ▸ flX0_9) rfl rfl hk hd hp k
theorem flX0_15 : FL RX0 15 (TX0 1).1 (TX0 1).2.1 (TX0 1).2.2.1 := Or.inl (by decide +kernel)
theorem gX0_15 (hM : M.1.cls = RX0) (hk : ky a = 0) (hd : decode M.2.1 pc = .ok (.getfield 15, 3)) (hp : pc + 3 = pc2) (k : V G M pc2 ls (II (t a 1) :: st) t Q) : V G M pc ls (RR a :: st) t Q := V_get fwX0 (j := 1) (by decide) (flds_rl (by decide)) (hM ▸ flX0_15) hk hd hp k
theorem pX0_15 (hM : M.1.cls = RX0) (hk : ky a = 0) (hd : decode M.2.1 pc = .ok (.putfield 15, 3)) (hp : pc + 3 = pc2) (k : ∀ u, u = wr t a 1 v → V G M pc2 ls st u Q) : V G M pc ls (II v :: RR a :: st) t Q := V_putX fwX0 tyX0_ok nmX0 (j := 1) (ty := .int) (by decide) rfl rfl (by decide +kernel) (hM ▸ flX0_15) rfl rfl hk hd hp k
theorem flX0_18 : FL RX0 18 (TX0 2).1 (TX0 2).2.1 (TX0 2).2.2.1 := Or.inl (by decide +kernel)
theorem gX0_18 (hM : M.1.cls = RX0) (hk : ky a = 0) (hd : decode M.2.1 pc = .ok (.getfield 18, 3)) (hp : pc + 3 = pc2) (k : V G M pc2 ls (II (t a 2) :: st) t Q) : V G M pc ls (RR a :: st) t Q := V_get fwX0 (j := 2) (by decide) (flds_rl (by decide)) (hM ▸ flX0_18) hk hd hp k
theorem pX0_18 (hM : M.1.cls = RX0) (hk : ky a = 0) (hd : decode M.2.1 pc = .ok (.putfield 18, 3)) (hp : pc + 3 = pc2) (k : ∀ u, u = wr t a 2 v → V G M pc2 ls st u Q) : V G M pc ls (II v :: RR a :: st) t Q := V_putX fwX0 tyX0_ok nmX0 (j := 2) (ty := .int) (by decide) rfl rfl (by decide +kernel) (hM ▸ flX0_18) rfl rfl hk hd hp k
theorem flX0_21 : FL RX0 21 (TX0 3).1 (TX0 3).2.1 (TX0 3).2.2.1 := Or.inl (by decide +kernel)
theorem gX0_21 (hM : M.1.cls = RX0) (hk : ky a = 0) (hd : decode M.2.1 pc = .ok (.getfield 21, 3)) (hp : pc + 3 = pc2) (k : V G M pc2 ls (II (t a 3) :: st) t Q) : V G M pc ls (RR a :: st) t Q := V_get fwX0 (j := 3) (by decide) (flds_rl (by decide)) (hM ▸ flX0_21) hk hd hp k
theorem pX0_21 (hM : M.1.cls = RX0) (hk : ky a = 0) (hd : decode M.2.1 pc = .ok (.putfield 21, 3)) (hp : pc + 3 = pc2) (k : ∀ u, u = wr t a 3 v → V G M pc2 ls st u Q) : V G M pc ls (II v :: RR a :: st) t Q := V_putX fwX0 tyX0_ok nmX0 (j := 3) (ty := .int) (by decide) rfl rfl (by decide +kernel) (hM ▸ flX0_21) rfl rfl hk hd hp k
theorem flX0_24 : FL RX0 24 (TX0 6).1 (TX0 6).2.1 (TX0 6).2.2.1 := Or.inl (by decide +kernel)
theorem gX0_24 (hM : M.1.cls = RX0) (hk : ky a = 0) (hd : decode M.2.1 pc = .ok (.getfield 24, 3)) (hp : pc + 3 = pc2) (k : V G M pc2 ls (II (t a 6) :: st) t Q) : V G M pc ls (RR a :: st) t Q := V_get fwX0 (j := 6) (by decide) (flds_rl (by decide)) (hM ▸ flX0_24) hk hd hp k
theorem pX0_24 (hM : M.1.cls = RX0) (hk : ky a = 0) (hd : decode M.2.1 pc = .ok (.putfield 24, 3)) (hp : pc + 3 = pc2) (k : ∀ u, u = wr t a 6 v → V G M pc2 ls st u Q) : V G M pc ls (II v :: RR a :: st) t Q := V_putX fwX0 tyX0_ok nmX0 (j := 6) (ty := .int) (by decide) rfl rfl (by decide +kernel) (hM ▸ flX0_24) rfl rfl hk hd hp k
theorem flX0_27 : FL RX0 27 (TX0 8).1 (TX0 8).2.1 (TX0 8).2.2.1 := Or.inl (by decide +kernel)
theorem gX0_27 (hM : M.1.cls = RX0) (hk : ky a = 0) (hr : rf a 8 = b) (hd : decode M.2.1 pc = .ok (.getfield 27, 3)) (hp : pc + 3 = pc2) (k : V G M pc2 ls (RR b :: st) t Q) : V G M pc ls (RR a :: st) t Q := V_get fwX0 (j := 8) (by decide) (flds_rl (by decide)) (hM ▸ flX0_27) hk hd hp (by rw [show fr 0 8 = true from rfl, hr]; exact k)
theorem flX0_31 : FL RX0 31 (TX0 9).1 (TX0 9).2.1 (TX0 9).2.2.1 := Or.inl (by decide +kernel)
theorem gX0_31 (hM : M.1.cls = RX0) (hk : ky a = 0) (hr : rf a 9 = b) (hd : decode M.2.1 pc = .ok (.getfield 31, 3)) (hp : pc + 3 = pc2) (k : V G M pc2 ls (RR b :: st) t Q) : V G M pc ls (RR a :: st) t Q := V_get fwX0 (j := 9) (by decide) (flds_rl (by decide)) (hM ▸ flX0_31) hk hd hp (by rw [show fr 0 9 = true from rfl, hr]; exact k)
theorem flX0_34 : FL RX0 34 (TX0 10).1 (TX0 10).2.1 (TX0 10).2.2.1 := Or.inl (by decide +kernel)
theorem gX0_34 (hM : M.1.cls = RX0) (hk : ky a = 0) (hr : rf a 10 = b) (hd : decode M.2.1 pc = .ok (.getfield 34, 3)) (hp : pc + 3 = pc2) (k : V G M pc2 ls (RR b :: st) t Q) : V G M pc ls (RR a :: st) t Q := V_get fwX0 (j := 10) (by decide) (flds_rl (by decide)) (hM ▸ flX0_34) hk hd hp (by rw [show fr 0 10 = true from rfl, hr]; exact k)
theorem flX0_37 : FL RX0 37 (TX0 11).1 (TX0 11).2.1 (TX0 11).2.2.1 := Or.inl (by decide +kernel)
theorem gX0_37 (hM : M.1.cls = RX0) (hk : ky a = 0) (hr : rf a 11 = b) (hd : decode M.2.1 pc = .ok (.getfield 37, 3)) (hp : pc + 3 = pc2) (k : V G M pc2 ls (RR b :: st) t Q) : V G M pc ls (RR a :: st) t Q := V_get fwX0 (j := 11) (by decide) (flds_rl (by decide)) (hM ▸ flX0_37) hk hd hp (by rw [show fr 0 11 = true from rfl, hr]; exact k)
theorem flX0_40 : FL RX0 40 (TX0 12).1 (TX0 12).2.1 (TX0 12).2.2.1 := Or.inl (by decide +kernel)
theorem gX0_40 (hM : M.1.cls = RX0) (hk : ky a = 0) (hr : rf a 12 = b) (hd : decode M.2.1 pc = .ok (.getfield 40, 3)) (hp : pc + 3 = pc2) (k : V G M pc2 ls (RR b :: st) t Q) : V G M pc ls (RR a :: st) t Q := V_get fwX0 (j := 12) (by decide) (flds_rl (by decide)) (hM ▸ flX0_40) hk hd hp (by rw [show fr 0 12 = true from rfl, hr]; exact k)
theorem flX0_43 : FL RX0 43 (TX0 4).1 (TX0 4).2.1 (TX0 4).2.2.1 := Or.inl (by decide +kernel)
theorem gX0_43 (hM : M.1.cls = RX0) (hk : ky a = 0) (hd : decode M.2.1 pc = .ok (.getfield 43, 3)) (hp : pc + 3 = pc2) (k : V G M pc2 ls (II (t a 4) :: st) t Q) : V G M pc ls (RR a :: st) t Q := V_get fwX0 (j := 4) (by decide) (flds_rl (by decide)) (hM ▸ flX0_43) hk hd hp k
theorem pX0_43 (hM : M.1.cls = RX0) (hk : ky a = 0) (hd : decode M.2.1 pc = .ok (.putfield 43, 3)) (hp : pc + 3 = pc2) (k : ∀ u, u = wr t a 4 v → V G M pc2 ls st u Q) : V G M pc ls (II v :: RR a :: st) t Q := V_putX fwX0 tyX0_ok nmX0 (j := 4) (ty := .int) (by decide) rfl rfl (by decide +kernel) (hM ▸ flX0_43) rfl rfl hk hd hp k
theorem flX0_46 : FL RX0 46 (TX0 5).1 (TX0 5).2.1 (TX0 5).2.2.1 := Or.inl (by decide +kernel)
theorem gX0_46 (hM : M.1.cls = RX0) (hk : ky a = 0) (hd : decode M.2.1 pc = .ok (.getfield 46, 3)) (hp : pc + 3 = pc2) (k : V G M pc2 ls (II (t a 5) :: st) t Q) : V G M pc ls (RR a :: st) t Q := V_get fwX0 (j := 5) (by decide) (flds_rl (by decide)) (hM ▸ flX0_46) hk hd hp k
theorem pX0_46 (hM : M.1.cls = RX0) (hk : ky a = 0) (hd : decode M.2.1 pc = .ok (.putfield 46, 3)) (hp : pc + 3 = pc2) (k : ∀ u, u = wr t a 5 v → V G M pc2 ls st u Q) : V G M pc ls (II v :: RR a :: st) t Q := V_putX fwX0 tyX0_ok nmX0 (j := 5) (ty := .int) (by decide) rfl rfl (by decide +kernel) (hM ▸ flX0_46) rfl rfl hk hd hp k
theorem flX0_49 : FL RX0 49 (TX0 7).1 (TX0 7).2.1 (TX0 7).2.2.1 := Or.inl (by decide +kernel)
theorem gX0_49 (hM : M.1.cls = RX0) (hk : ky a = 0) (hd : decode M.2.1 pc = .ok (.getfield 49, 3)) (hp : pc + 3 = pc2) (k : V G M pc2 ls (II (t a 7) :: st) t Q) : V G M pc ls (RR a :: st) t Q := V_get fwX0 (j := 7) (by decide) (flds_rl (by decide)) (hM ▸ flX0_49) hk hd hp k
theorem pX0_49 (hM : M.1.cls = RX0) (hk : ky a = 0) (hd : decode M.2.1 pc = .ok (.putfield 49, 3)) (hp : pc + 3 = pc2) (k : ∀ u, u = wr t a 7 v → V G M pc2 ls st u Q) : V G M pc ls (II v :: RR a :: st) t Q := V_putX fwX0 tyX0_ok nmX0 (j := 7) (ty := .int) (by decide) rfl rfl (by decide +kernel) (hM ▸ flX0_49) rfl rfl hk hd hp k
theorem flX0_62 : FL RX0 62 (TX0 13).1 (TX0 13).2.1 (TX0 13).2.2.1 := Or.inl (by decide +kernel)
theorem gX0_62 (hM : M.1.cls = RX0) (hk : ky a = 0) (hd : decode M.2.1 pc = .ok (.getfield 62, 3)) (hp : pc + 3 = pc2) (k : V G M pc2 ls (II (t a 13) :: st) t Q) : V G M pc ls (RR a :: st) t Q := V_get fwX0 (j := 13) (by decide) (flds_rl (by decide)) (hM ▸ flX0_62) hk hd hp k
theorem pX0_62 (hM : M.1.cls = RX0) (hk : ky a = 0) (hd : decode M.2.1 pc = .ok (.putfield 62, 3)) (hp : pc + 3 = pc2) (k : ∀ u, u = wr t a 13 v → V G M pc2 ls st u Q) : V G M pc ls (II v :: RR a :: st) t Q := V_putX fwX0 tyX0_ok nmX0 (j := 13) (ty := .int) (by decide) rfl rfl (by decide +kernel) (hM ▸ flX0_62) rfl rfl hk hd hp k
theorem flX1_9 : FL RX1 9 (TX1 0).1 (TX1 0).2.1 (TX1 0).2.2.1 := Or.inl (by decide +kernel)
theorem gX1_9 (hM : M.1.cls = RX1) (hk : ky a = 1) (hd : decode M.2.1 pc = .ok (.getfield 9, 3)) (hp : pc + 3 = pc2) (k : V G M pc2 ls (II (t a 0) :: st) t Q) : V G M pc ls (RR a :: st) t Q := V_get fwX1 (j := 0) (by decide) (flds_rl (by decide)) (hM ▸ flX1_9) hk hd hp k
theorem pX1_9 (hM : M.1.cls = RX1) (hk : ky a = 1) (hd : decode M.2.1 pc = .ok (.putfield 9, 3)) (hp : pc + 3 = pc2) (k : ∀ u, u = wr t a 0 v → V G M pc2 ls st u Q) : V G M pc ls (II v :: RR a :: st) t Q := V_putX fwX1 tyX1_ok nmX1 (j := 0) (ty := .int) (by decide) rfl rfl (by decide +kernel) (hM ▸ flX1_9) rfl rfl hk hd hp k
theorem flX1_15 : FL RX1 15 (TX1 5).1 (TX1 5).2.1 (TX1 5).2.2.1 := Or.inl (by decide +kernel)
theorem gX1_15 (hM : M.1.cls = RX1) (hk : ky a = 1) (hd : decode M.2.1 pc = .ok (.getfield 15, 3)) (hp : pc + 3 = pc2) (k : V G M pc2 ls (II (t a 5) :: st) t Q) : V G M pc ls (RR a :: st) t Q := V_get fwX1 (j := 5) (by decide) (flds_rl (by decide)) (hM ▸ flX1_15) hk hd hp k
theorem pX1_15 (hM : M.1.cls = RX1) (hk : ky a = 1) (hd : decode M.2.1 pc = .ok (.putfield 15, 3)) (hp : pc + 3 = pc2) (k : ∀ u, u = wr t a 5 v → V G M pc2 ls st u Q) : V G M pc ls (II v :: RR a :: st) t Q := V_putX fwX1 tyX1_ok nmX1 (j := 5) (ty := .int) (by decide) rfl rfl (by decide +kernel) (hM ▸ flX1_15) rfl rfl hk hd hp k
theorem flX1_18 : FL RX1 18 (TX1 6).1 (TX1 6).2.1 (TX1 6).2.2.1 := Or.inl (by decide +kernel)
theorem gX1_18 (hM : M.1.cls = RX1) (hk : ky a = 1) (hr : rf a 6 = b) (hd : decode M.2.1 pc = .ok (.getfield 18, 3)) (hp : pc + 3 = pc2) (k : V G M pc2 ls (RR b :: st) t Q) : V G M pc ls (RR a :: st) t Q := V_get fwX1 (j := 6) (by decide) (flds_rl (by decide)) (hM ▸ flX1_18) hk hd hp (by rw [show fr 1 6 = true from rfl, hr]; exact k)
theorem flX1_22 : FL RX1 22 (TX1 7).1 (TX1 7).2.1 (TX1 7).2.2.1 := Or.inl (by decide +kernel)
theorem gX1_22 (hM : M.1.cls = RX1) (hk : ky a = 1) (hr : rf a 7 = b) (hd : decode M.2.1 pc = .ok (.getfield 22, 3)) (hp : pc + 3 = pc2) (k : V G M pc2 ls (RR b :: st) t Q) : V G M pc ls (RR a :: st) t Q := V_get fwX1 (j := 7) (by decide) (flds_rl (by decide)) (hM ▸ flX1_22) hk hd hp (by rw [show fr 1 7 = true from rfl, hr]; exact k)
theorem flX1_25 : FL RX1 25 (TX1 8).1 (TX1 8).2.1 (TX1 8).2.2.1 := Or.inl (by decide +kernel)
theorem gX1_25 (hM : M.1.cls = RX1) (hk : ky a = 1) (hr : rf a 8 = b) (hd : decode M.2.1 pc = .ok (.getfield 25, 3)) (hp : pc + 3 = pc2) (k : V G M pc2 ls (RR b :: st) t Q) : V G M pc ls (RR a :: st) t Q := V_get fwX1 (j := 8) (by decide) (flds_rl (by decide)) (hM ▸ flX1_25) hk hd hp (by rw [show fr 1 8 = true from rfl, hr]; exact k)
theorem flX1_28 : FL RX1 28 (TX1 9).1 (TX1 9).2.1 (TX1 9).2.2.1 := Or.inl (by decide +kernel)
theorem gX1_28 (hM : M.1.cls = RX1) (hk : ky a = 1) (hr : rf a 9 = b) (hd : decode M.2.1 pc = .ok (.getfield 28, 3)) (hp : pc + 3 = pc2) (k : V G M pc2 ls (RR b :: st) t Q) : V G M pc ls (RR a :: st) t Q := V_get fwX1 (j := 9) (by decide) (flds_rl (by decide)) (hM ▸ flX1_28) hk hd hp (by rw [show fr 1 9 = true from rfl, hr]; exact k)
theorem flX1_31 : FL RX1 31 (TX1 1).1 (TX1 1).2.1 (TX1 1).2.2.1 := Or.inl (by decide +kernel)
theorem gX1_31 (hM : M.1.cls = RX1) (hk : ky a = 1) (hd : decode M.2.1 pc = .ok (.getfield 31, 3)) (hp : pc + 3 = pc2) (k : V G M pc2 ls (II (t a 1) :: st) t Q) : V G M pc ls (RR a :: st) t Q := V_get fwX1 (j := 1) (by decide) (flds_rl (by decide)) (hM ▸ flX1_31) hk hd hp k
theorem pX1_31 (hM : M.1.cls = RX1) (hk : ky a = 1) (hd : decode M.2.1 pc = .ok (.putfield 31, 3)) (hp : pc + 3 = pc2) (k : ∀ u, u = wr t a 1 v → V G M pc2 ls st u Q) : V G M pc ls (II v :: RR a :: st) t Q := V_putX fwX1 tyX1_ok nmX1 (j := 1) (ty := .int) (by decide) rfl rfl (by decide +kernel) (hM ▸ flX1_31) rfl rfl hk hd hp k
theorem flX1_34 : FL RX1 34 (TX1 2).1 (TX1 2).2.1 (TX1 2).2.2.1 := Or.inl (by decide +kernel)
theorem gX1_34 (hM : M.1.cls = RX1) (hk : ky a = 1) (hd : decode M.2.1 pc = .ok (.getfield 34, 3)) (hp : pc + 3 = pc2) (k : V G M pc2 ls (II (t a 2) :: st) t Q) : V G M pc ls (RR a :: st) t Q := V_get fwX1 (j := 2) (by decide) (flds_rl (by decide)) (hM ▸ flX1_34) hk hd hp k
theorem pX1_34 (hM : M.1.cls = RX1) (hk : ky a = 1) (hd : decode M.2.1 pc = .ok (.putfield 34, 3)) (hp : pc + 3 = pc2) (k : ∀ u, u = wr t a 2 v → V G M pc2 ls st u Q) : V G M pc ls (II v :: RR a :: st) t Q := V_putX fwX1 tyX1_ok nmX1 (j := 2) (ty := .int) (by decide) rfl rfl (by decide +kernel) (hM ▸ flX1_34) rfl rfl hk hd hp k
theorem flX1_37 : FL RX1 37 (TX1 3).1 (TX1 3).2.1 (TX1 3).2.2.1 := Or.inl (by decide +kernel)
theorem gX1_37 (hM : M.1.cls = RX1) (hk : ky a = 1) (hd : decode M.2.1 pc = .ok (.getfield 37, 3)) (hp : pc + 3 = pc2) (k : V G M pc2 ls (II (t a 3) :: st) t Q) : V G M pc ls (RR a :: st) t Q := V_get fwX1 (j := 3) (by decide) (flds_rl (by decide)) (hM ▸ flX1_37) hk hd hp k
theorem pX1_37 (hM : M.1.cls = RX1) (hk : ky a = 1) (hd : decode M.2.1 pc = .ok (.putfield 37, 3)) (hp : pc + 3 = pc2) (k : ∀ u, u = wr t a 3 v → V G M pc2 ls st u Q) : V G M pc ls (II v :: RR a :: st) t Q := V_putX fwX1 tyX1_ok nmX1 (j := 3) (ty := .int) (by decide) rfl rfl (by decide +kernel) (hM ▸ flX1_37) rfl rfl hk hd hp k
theorem flX1_40 : FL RX1 40 (TX1 4).1 (TX1 4).2.1 (TX1 4).2.2.1 := Or.inl (by decide +kernel)
theorem gX1_40 (hM : M.1.cls = RX1) (hk : ky a = 1) (hd : decode M.2.1 pc = .ok (.getfield 40, 3)) (hp : pc + 3 = pc2) (k : V G M pc2 ls (II (t a 4) :: st) t Q) : V G M pc ls (RR a :: st) t Q := V_get fwX1 (j := 4) (by decide) (flds_rl (by decide)) (hM ▸ flX1_40) hk hd hp k
theorem pX1_40 (hM : M.1.cls = RX1) (hk : ky a = 1) (hd : decode M.2.1 pc = .ok (.putfield 40, 3)) (hp : pc + 3 = pc2) (k : ∀ u, u = wr t a 4 v → V G M pc2 ls st u Q) : V G M pc ls (II v :: RR a :: st) t Q := V_putX fwX1 tyX1_ok nmX1 (j := 4) (ty := .int) (by decide) rfl rfl (by decide +kernel) (hM ▸ flX1_40) rfl rfl hk hd hp k
theorem flX1_49 : FL RX1 49 (TX0 11).1 (TX0 11).2.1 (TX0 11).2.2.1 := Or.inr ⟨"WellTurns", by decide +kernel⟩
theorem gX1_49 (hM : M.1.cls = RX1) (hk : ky a = 0) (hr : rf a 11 = b) (hd : decode M.2.1 pc = .ok (.getfield 49, 3)) (hp : pc + 3 = pc2) (k : V G M pc2 ls (RR b :: st) t Q) : V G M pc ls (RR a :: st) t Q := V_get fwX0 (j := 11) (by decide) (flds_rl (by decide)) (hM ▸ flX1_49) hk hd hp (by rw [show fr 0 11 = true from rfl, hr]; exact k)
theorem flX1_64 : FL RX1 64 (TX0 7).1 (TX0 7).2.1 (TX0 7).2.2.1 := Or.inr ⟨"WellTurns", by decide +kernel⟩
theorem gX1_64 (hM : M.1.cls = RX1) (hk : ky a = 0) (hd : decode M.2.1 pc = .ok (.getfield 64, 3)) (hp : pc + 3 = pc2) (k : V G M pc2 ls (II (t a 7) :: st) t Q) : V G M pc ls (RR a :: st) t Q := V_get fwX0 (j := 7) (by decide) (flds_rl (by decide)) (hM ▸ flX1_64) hk hd hp k
theorem flX1_74 : FL RX1 74 (TX0 6).1 (TX0 6).2.1 (TX0 6).2.2.1 := Or.inr ⟨"WellTurns", by decide +kernel⟩
theorem gX1_74 (hM : M.1.cls = RX1) (hk : ky a = 0) (hd : decode M.2.1 pc = .ok (.getfield 74, 3)) (hp : pc + 3 = pc2) (k : V G M pc2 ls (II (t a 6) :: st) t Q) : V G M pc ls (RR a :: st) t Q := V_get fwX0 (j := 6) (by decide) (flds_rl (by decide)) (hM ▸ flX1_74) hk hd hp k
theorem flX1_81 : FL RX1 81 (TX0 1).1 (TX0 1).2.1 (TX0 1).2.2.1 := Or.inr ⟨"WellTurns", by decide +kernel⟩
theorem gX1_81 (hM : M.1.cls = RX1) (hk : ky a = 0) (hd : decode M.2.1 pc = .ok (.getfield 81, 3)) (hp : pc + 3 = pc2) (k : V G M pc2 ls (II (t a 1) :: st) t Q) : V G M pc ls (RR a :: st) t Q := V_get fwX0 (j := 1) (by decide) (flds_rl (by decide)) (hM ▸ flX1_81) hk hd hp k
theorem flX1_91 : FL RX1 91 (TX0 4).1 (TX0 4).2.1 (TX0 4).2.2.1 := Or.inr ⟨"WellTurns", by decide +kernel⟩
theorem gX1_91 (hM : M.1.cls = RX1) (hk : ky a = 0) (hd : decode M.2.1 pc = .ok (.getfield 91, 3)) (hp : pc + 3 = pc2) (k : V G M pc2 ls (II (t a 4) :: st) t Q) : V G M pc ls (RR a :: st) t Q := V_get fwX0 (j := 4) (by decide) (flds_rl (by decide)) (hM ▸ flX1_91) hk hd hp k
theorem flX1_94 : FL RX1 94 (TX0 2).1 (TX0 2).2.1 (TX0 2).2.2.1 := Or.inr ⟨"WellTurns", by decide +kernel⟩
theorem gX1_94 (hM : M.1.cls = RX1) (hk : ky a = 0) (hd : decode M.2.1 pc = .ok (.getfield 94, 3)) (hp : pc + 3 = pc2) (k : V G M pc2 ls (II (t a 2) :: st) t Q) : V G M pc ls (RR a :: st) t Q := V_get fwX0 (j := 2) (by decide) (flds_rl (by decide)) (hM ▸ flX1_94) hk hd hp k
theorem flX1_97 : FL RX1 97 (TX0 0).1 (TX0 0).2.1 (TX0 0).2.2.1 := Or.inr ⟨"WellTurns", by decide +kernel⟩
theorem gX1_97 (hM : M.1.cls = RX1) (hk : ky a = 0) (hd : decode M.2.1 pc = .ok (.getfield 97, 3)) (hp : pc + 3 = pc2) (k : V G M pc2 ls (II (t a 0) :: st) t Q) : V G M pc ls (RR a :: st) t Q := V_get fwX0 (j := 0) (by decide) (flds_rl (by decide)) (hM ▸ flX1_97) hk hd hp k
theorem flX1_107 : FL RX1 107 (TX0 3).1 (TX0 3).2.1 (TX0 3).2.2.1 := Or.inr ⟨"WellTurns", by decide +kernel⟩
theorem gX1_107 (hM : M.1.cls = RX1) (hk : ky a = 0) (hd : decode M.2.1 pc = .ok (.getfield 107, 3)) (hp : pc + 3 = pc2) (k : V G M pc2 ls (II (t a 3) :: st) t Q) : V G M pc ls (RR a :: st) t Q := V_get fwX0 (j := 3) (by decide) (flds_rl (by decide)) (hM ▸ flX1_107) hk hd hp k
theorem flX1_110 : FL RX1 110 (TX0 12).1 (TX0 12).2.1 (TX0 12).2.2.1 := Or.inr ⟨"WellTurns", by decide +kernel⟩
theorem gX1_110 (hM : M.1.cls = RX1) (hk : ky a = 0) (hr : rf a 12 = b) (hd : decode M.2.1 pc = .ok (.getfield 110, 3)) (hp : pc + 3 = pc2) (k : V G M pc2 ls (RR b :: st) t Q) : V G M pc ls (RR a :: st) t Q := V_get fwX0 (j := 12) (by decide) (flds_rl (by decide)) (hM ▸ flX1_110) hk hd hp (by rw [show fr 0 12 = true from rfl, hr]; exact k)
theorem flX1_113 : FL RX1 113 (TX0 8).1 (TX0 8).2.1 (TX0 8).2.2.1 := Or.inr ⟨"WellTurns", by decide +kernel⟩
theorem gX1_113 (hM : M.1.cls = RX1) (hk : ky a = 0) (hr : rf a 8 = b) (hd : decode M.2.1 pc = .ok (.getfield 113, 3)) (hp : pc + 3 = pc2) (k : V G M pc2 ls (RR b :: st) t Q) : V G M pc ls (RR a :: st) t Q := V_get fwX0 (j := 8) (by decide) (flds_rl (by decide)) (hM ▸ flX1_113) hk hd hp (by rw [show fr 0 8 = true from rfl, hr]; exact k)
theorem flX2_11 : FL RX2 11 (TX2 0).1 (TX2 0).2.1 (TX2 0).2.2.1 := Or.inl (by decide +kernel)
theorem gX2_11 (hM : M.1.cls = RX2) (hk : ky a = 2) (hr : rf a 0 = b) (hd : decode M.2.1 pc = .ok (.getfield 11, 3)) (hp : pc + 3 = pc2) (k : V G M pc2 ls (RR b :: st) t Q) : V G M pc ls (RR a :: st) t Q := V_get fwX2 (j := 0) (by decide) (flds_rl (by decide)) (hM ▸ flX2_11) hk hd hp (by rw [show fr 2 0 = true from rfl, hr]; exact k)
theorem flX2_22 : FL RX2 22 (TX2 1).1 (TX2 1).2.1 (TX2 1).2.2.1 := Or.inl (by decide +kernel)
theorem gX2_22 (hM : M.1.cls = RX2) (hk : ky a = 2) (hd : decode M.2.1 pc = .ok (.getfield 22, 3)) (hp : pc + 3 = pc2) (k : V G M pc2 ls (II (t a 1) :: st) t Q) : V G M pc ls (RR a :: st) t Q := V_get fwX2 (j := 1) (by decide) (flds_rl (by decide)) (hM ▸ flX2_22) hk hd hp k
theorem pX2_22 (hM : M.1.cls = RX2) (hk : ky a = 2) (hd : decode M.2.1 pc = .ok (.putfield 22, 3)) (hp : pc + 3 = pc2) (k : ∀ u, u = wr t a 1 v → V G M pc2 ls st u Q) : V G M pc ls (II v :: RR a :: st) t Q := V_putX fwX2 tyX2_ok nmX2 (j := 1) (ty := .int) (by decide) rfl rfl (by decide +kernel) (hM ▸ flX2_22) rfl rfl hk hd hp k
theorem flX2_26 : FL RX2 26 (TX2 2).1 (TX2 2).2.1 (TX2 2).2.2.1 := Or.inl (by decide +kernel)
theorem gX2_26 (hM : M.1.cls = RX2) (hk : ky a = 2) (hd : decode M.2.1 pc = .ok (.getfield 26, 3)) (hp : pc + 3 = pc2) (k : V G M pc2 ls (II (t a 2) :: st) t Q) : V G M pc ls (RR a :: st) t Q := V_get fwX2 (j := 2) (by decide) (flds_rl (by decide)) (hM ▸ flX2_26) hk hd hp k
theorem pX2_26 (hM : M.1.cls = RX2) (hk : ky a = 2) (hd : decode M.2.1 pc = .ok (.putfield 26, 3)) (hp : pc + 3 = pc2) (k : ∀ u, u = wr t a 2 v → V G M pc2 ls st u Q) : V G M pc ls (II v :: RR a :: st) t Q := V_putX fwX2 tyX2_ok nmX2 (j := 2) (ty := .int) (by decide) rfl rfl (by decide +kernel) (hM ▸ flX2_26) rfl rfl hk hd hp k
theorem flX3_9 : FL RX3 9 (TX3 0).1 (TX3 0).2.1 (TX3 0).2.2.1 := Or.inl (by decide +kernel)
theorem gX3_9 (hM : M.1.cls = RX3) (hk : ky a = 3) (hd : decode M.2.1 pc = .ok (.getfield 9, 3)) (hp : pc + 3 = pc2) (k : V G M pc2 ls (II (t a 0) :: st) t Q) : V G M pc ls (RR a :: st) t Q := V_get fwX3 (j := 0) (by decide) (flds_rl (by decide)) (hM ▸ flX3_9) hk hd hp k
theorem pX3_9 (hM : M.1.cls = RX3) (hk : ky a = 3) (hd : decode M.2.1 pc = .ok (.putfield 9, 3)) (hp : pc + 3 = pc2) (k : ∀ u, u = wr t a 0 v → V G M pc2 ls st u Q) : V G M pc ls (II v :: RR a :: st) t Q := V_putX fwX3 tyX3_ok nmX3 (j := 0) (ty := .int) (by decide) rfl rfl (by decide +kernel) (hM ▸ flX3_9) rfl rfl hk hd hp k
theorem flX3_15 : FL RX3 15 (TX3 2).1 (TX3 2).2.1 (TX3 2).2.2.1 := Or.inl (by decide +kernel)
theorem gX3_15 (hM : M.1.cls = RX3) (hk : ky a = 3) (hr : rf a 2 = b) (hd : decode M.2.1 pc = .ok (.getfield 15, 3)) (hp : pc + 3 = pc2) (k : V G M pc2 ls (RR b :: st) t Q) : V G M pc ls (RR a :: st) t Q := V_get fwX3 (j := 2) (by decide) (flds_rl (by decide)) (hM ▸ flX3_15) hk hd hp (by rw [show fr 3 2 = true from rfl, hr]; exact k)
theorem flX3_19 : FL RX3 19 (TX3 1).1 (TX3 1).2.1 (TX3 1).2.2.1 := Or.inl (by decide +kernel)
theorem gX3_19 (hM : M.1.cls = RX3) (hk : ky a = 3) (hd : decode M.2.1 pc = .ok (.getfield 19, 3)) (hp : pc + 3 = pc2) (k : V G M pc2 ls (II (t a 1) :: st) t Q) : V G M pc ls (RR a :: st) t Q := V_get fwX3 (j := 1) (by decide) (flds_rl (by decide)) (hM ▸ flX3_19) hk hd hp k
theorem pX3_19 (hM : M.1.cls = RX3) (hk : ky a = 3) (hd : decode M.2.1 pc = .ok (.putfield 19, 3)) (hp : pc + 3 = pc2) (k : ∀ u, u = wr t a 1 v → V G M pc2 ls st u Q) : V G M pc ls (II v :: RR a :: st) t Q := V_putX fwX3 tyX3_ok nmX3 (j := 1) (ty := .int) (by decide) rfl rfl (by decide +kernel) (hM ▸ flX3_19) rfl rfl hk hd hp k
theorem flX4_9 : FL RX4 9 (TX4 0).1 (TX4 0).2.1 (TX4 0).2.2.1 := Or.inl (by decide +kernel)
theorem gX4_9 (hM : M.1.cls = RX4) (hk : ky a = 4) (hr : rf a 0 = b) (hd : decode M.2.1 pc = .ok (.getfield 9, 3)) (hp : pc + 3 = pc2) (k : V G M pc2 ls (RR b :: st) t Q) : V G M pc ls (RR a :: st) t Q := V_get fwX4 (j := 0) (by decide) (flds_rl (by decide)) (hM ▸ flX4_9) hk hd hp (by rw [show fr 4 0 = true from rfl, hr]; exact k)
theorem flX4_15 : FL RX4 15 (TX4 1).1 (TX4 1).2.1 (TX4 1).2.2.1 := Or.inl (by decide +kernel)
theorem gX4_15 (hM : M.1.cls = RX4) (hk : ky a = 4) (hd : decode M.2.1 pc = .ok (.getfield 15, 3)) (hp : pc + 3 = pc2) (k : V G M pc2 ls (II (t a 1) :: st) t Q) : V G M pc ls (RR a :: st) t Q := V_get fwX4 (j := 1) (by decide) (flds_rl (by decide)) (hM ▸ flX4_15) hk hd hp k
theorem pX4_15 (hM : M.1.cls = RX4) (hk : ky a = 4) (hd : decode M.2.1 pc = .ok (.putfield 15, 3)) (hp : pc + 3 = pc2) (k : ∀ u, u = wr t a 1 v → V G M pc2 ls st u Q) : V G M pc ls (II v :: RR a :: st) t Q := V_putX fwX4 tyX4_ok nmX4 (j := 1) (ty := .int) (by decide) rfl rfl (by decide +kernel) (hM ▸ flX4_15) rfl rfl hk hd hp k
theorem flX4_19 : FL RX4 19 (TX4 2).1 (TX4 2).2.1 (TX4 2).2.2.1 := Or.inl (by decide +kernel)
theorem gX4_19 (hM : M.1.cls = RX4) (hk : ky a = 4) (hd : decode M.2.1 pc = .ok (.getfield 19, 3)) (hp : pc + 3 = pc2) (k : V G M pc2 ls (II (t a 2) :: st) t Q) : V G M pc ls (RR a :: st) t Q := V_get fwX4 (j := 2) (by decide) (flds_rl (by decide)) (hM ▸ flX4_19) hk hd hp k
theorem pX4_19 (hM : M.1.cls = RX4) (hk : ky a = 4) (hd : decode M.2.1 pc = .ok (.putfield 19, 3)) (hp : pc + 3 = pc2) (k : ∀ u, u = wr t a 2 v → V G M pc2 ls st u Q) : V G M pc ls (II v :: RR a :: st) t Q := V_putX fwX4 tyX4_ok nmX4 (j := 2) (ty := .int) (by decide) rfl rfl (by decide +kernel) (hM ▸ flX4_19) rfl rfl hk hd hp k
theorem flX4_22 : FL RX4 22 (TX0 7).1 (TX0 7).2.1 (TX0 7).2.2.1 := Or.inr ⟨"WellTurns", by decide +kernel⟩
theorem gX4_22 (hM : M.1.cls = RX4) (hk : ky a = 0) (hd : decode M.2.1 pc = .ok (.getfield 22, 3)) (hp : pc + 3 = pc2) (k : V G M pc2 ls (II (t a 7) :: st) t Q) : V G M pc ls (RR a :: st) t Q := V_get fwX0 (j := 7) (by decide) (flds_rl (by decide)) (hM ▸ flX4_22) hk hd hp k
theorem pX4_22 (hM : M.1.cls = RX4) (hk : ky a = 0) (hd : decode M.2.1 pc = .ok (.putfield 22, 3)) (hp : pc + 3 = pc2) (k : ∀ u, u = wr t a 7 v → V G M pc2 ls st u Q) : V G M pc ls (II v :: RR a :: st) t Q := V_putX fwX0 tyX0_ok nmX0 (j := 7) (ty := .int) (by decide) rfl rfl (by decide +kernel) (hM ▸ flX4_22) rfl rfl hk hd hp k
theorem flX4_27 : FL RX4 27 (TX0 6).1 (TX0 6).2.1 (TX0 6).2.2.1 := Or.inr ⟨"WellTurns", by decide +kernel⟩
theorem pX4_27 (hM : M.1.cls = RX4) (hk : ky a = 0) (hd : decode M.2.1 pc = .ok (.putfield 27, 3)) (hp : pc + 3 = pc2) (k : ∀ u, u = wr t a 6 v → V G M pc2 ls st u Q) : V G M pc ls (II v :: RR a :: st) t Q := V_putX fwX0 tyX0_ok nmX0 (j := 6) (ty := .int) (by decide) rfl rfl (by decide +kernel) (hM ▸ flX4_27) rfl rfl hk hd hp k
theorem flX4_41 : FL RX4 41 (TX4 3).1 (TX4 3).2.1 (TX4 3).2.2.1 := Or.inl (by decide +kernel)
theorem gX4_41 (hM : M.1.cls = RX4) (hk : ky a = 4) (hd : decode M.2.1 pc = .ok (.getfield 41, 3)) (hp : pc + 3 = pc2) (k : V G M pc2 ls (II (t a 3) :: st) t Q) : V G M pc ls (RR a :: st) t Q := V_get fwX4 (j := 3) (by decide) (flds_rl (by decide)) (hM ▸ flX4_41) hk hd hp k
theorem pX4_41 (hM : M.1.cls = RX4) (hk : ky a = 4) (hd : decode M.2.1 pc = .ok (.putfield 41, 3)) (hp : pc + 3 = pc2) (k : ∀ u, u = wr t a 3 v → V G M pc2 ls st u Q) : V G M pc ls (II v :: RR a :: st) t Q := V_putX fwX4 tyX4_ok nmX4 (j := 3) (ty := .int) (by decide) rfl rfl (by decide +kernel) (hM ▸ flX4_41) rfl rfl hk hd hp k
theorem flX4_48 : FL RX4 48 (TX0 0).1 (TX0 0).2.1 (TX0 0).2.2.1 := Or.inr ⟨"WellTurns", by decide +kernel⟩
theorem gX4_48 (hM : M.1.cls = RX4) (hk : ky a = 0) (hd : decode M.2.1 pc = .ok (.getfield 48, 3)) (hp : pc + 3 = pc2) (k : V G M pc2 ls (II (t a 0) :: st) t Q) : V G M pc ls (RR a :: st) t Q := V_get fwX0 (j := 0) (by decide) (flds_rl (by decide)) (hM ▸ flX4_48) hk hd hp k
theorem pX4_48 (hM : M.1.cls = RX4) (hk : ky a = 0) (hd : decode M.2.1 pc = .ok (.putfield 48, 3)) (hp : pc + 3 = pc2) (k : ∀ u, u = wr t a 0 v → V G M pc2 ls st u Q) : V G M pc ls (II v :: RR a :: st) t Q := V_putX fwX0 tyX0_ok nmX0 (j := 0) (ty := .int) (by decide) rfl rfl (by decide +kernel) (hM ▸ flX4_48) rfl rfl hk hd hp k
theorem flX5_10 : FL RX5 10 (TX5 0).1 (TX5 0).2.1 (TX5 0).2.2.1 := Or.inl (by decide +kernel)
theorem gX5_10 (hM : M.1.cls = RX5) (hk : ky a = 5) (hr : rf a 0 = b) (hd : decode M.2.1 pc = .ok (.getfield 10, 3)) (hp : pc + 3 = pc2) (k : V G M pc2 ls (RR b :: st) t Q) : V G M pc ls (RR a :: st) t Q := V_get fwX5 (j := 0) (by decide) (flds_rl (by decide)) (hM ▸ flX5_10) hk hd hp (by rw [show fr 5 0 = true from rfl, hr]; exact k)
theorem flX5_19 : FL RX5 19 (TX5 1).1 (TX5 1).2.1 (TX5 1).2.2.1 := Or.inl (by decide +kernel)
theorem gX5_19 (hM : M.1.cls = RX5) (hk : ky a = 5) (hr : rf a 1 = b) (hd : decode M.2.1 pc = .ok (.getfield 19, 3)) (hp : pc + 3 = pc2) (k : V G M pc2 ls (RR b :: st) t Q) : V G M pc ls (RR a :: st) t Q := V_get fwX5 (j := 1) (by decide) (flds_rl (by decide)) (hM ▸ flX5_19) hk hd hp (by rw [show fr 5 1 = true from rfl, hr]; exact k)
theorem flX5_26 : FL RX5 26 (TX5 2).1 (TX5 2).2.1 (TX5 2).2.2.1 := Or.inl (by decide +kernel)
theorem gX5_26 (hM : M.1.cls = RX5) (hk : ky a = 5) (hr : rf a 2 = b) (hd : decode M.2.1 pc = .ok (.getfield 26, 3)) (hp : pc + 3 = pc2) (k : V G M pc2 ls (RR b :: st) t Q) : V G M pc ls (RR a :: st) t Q := V_get fwX5 (j := 2) (by decide) (flds_rl (by decide)) (hM ▸ flX5_26) hk hd hp (by rw [show fr 5 2 = true from rfl, hr]; exact k)
theorem flX5_30 : FL RX5 30 (TX5 4).1 (TX5 4).2.1 (TX5 4).2.2.1 := Or.inl (by decide +kernel)
theorem gX5_30 (hM : M.1.cls = RX5) (hk : ky a = 5) (hr : rf a 4 = b) (hd : decode M.2.1 pc = .ok (.getfield 30, 3)) (hp : pc + 3 = pc2) (k : V G M pc2 ls (RR b :: st) t Q) : V G M pc ls (RR a :: st) t Q := V_get fwX5 (j := 4) (by decide) (flds_rl (by decide)) (hM ▸ flX5_30) hk hd hp (by rw [show fr 5 4 = true from rfl, hr]; exact k)
theorem flX5_33 : FL RX5 33 (TX5 5).1 (TX5 5).2.1 (TX5 5).2.2.1 := Or.inl (by decide +kernel)
theorem gX5_33 (hM : M.1.cls = RX5) (hk : ky a = 5) (hr : rf a 5 = b) (hd : decode M.2.1 pc = .ok (.getfield 33, 3)) (hp : pc + 3 = pc2) (k : V G M pc2 ls (RR b :: st) t Q) : V G M pc ls (RR a :: st) t Q := V_get fwX5 (j := 5) (by decide) (flds_rl (by decide)) (hM ▸ flX5_33) hk hd hp (by rw [show fr 5 5 = true from rfl, hr]; exact k)
theorem flX5_36 : FL RX5 36 (TX5 6).1 (TX5 6).2.1 (TX5 6).2.2.1 := Or.inl (by decide +kernel)
theorem gX5_36 (hM : M.1.cls = RX5) (hk : ky a = 5) (hr : rf a 6 = b) (hd : decode M.2.1 pc = .ok (.getfield 36, 3)) (hp : pc + 3 = pc2) (k : V G M pc2 ls (RR b :: st) t Q) : V G M pc ls (RR a :: st) t Q := V_get fwX5 (j := 6) (by decide) (flds_rl (by decide)) (hM ▸ flX5_36) hk hd hp (by rw [show fr 5 6 = true from rfl, hr]; exact k)
theorem flX5_39 : FL RX5 39 (TX5 7).1 (TX5 7).2.1 (TX5 7).2.2.1 := Or.inl (by decide +kernel)
theorem gX5_39 (hM : M.1.cls = RX5) (hk : ky a = 5) (hr : rf a 7 = b) (hd : decode M.2.1 pc = .ok (.getfield 39, 3)) (hp : pc + 3 = pc2) (k : V G M pc2 ls (RR b :: st) t Q) : V G M pc ls (RR a :: st) t Q := V_get fwX5 (j := 7) (by decide) (flds_rl (by decide)) (hM ▸ flX5_39) hk hd hp (by rw [show fr 5 7 = true from rfl, hr]; exact k)
theorem flX5_42 : FL RX5 42 (TX5 8).1 (TX5 8).2.1 (TX5 8).2.2.1 := Or.inl (by decide +kernel)
theorem gX5_42 (hM : M.1.cls = RX5) (hk : ky a = 5) (hr : rf a 8 = b) (hd : decode M.2.1 pc = .ok (.getfield 42, 3)) (hp : pc + 3 = pc2) (k : V G M pc2 ls (RR b :: st) t Q) : V G M pc ls (RR a :: st) t Q := V_get fwX5 (j := 8) (by decide) (flds_rl (by decide)) (hM ▸ flX5_42) hk hd hp (by rw [show fr 5 8 = true from rfl, hr]; exact k)
theorem flX5_45 : FL RX5 45 (TX5 9).1 (TX5 9).2.1 (TX5 9).2.2.1 := Or.inl (by decide +kernel)
theorem gX5_45 (hM : M.1.cls = RX5) (hk : ky a = 5) (hr : rf a 9 = b) (hd : decode M.2.1 pc = .ok (.getfield 45, 3)) (hp : pc + 3 = pc2) (k : V G M pc2 ls (RR b :: st) t Q) : V G M pc ls (RR a :: st) t Q := V_get fwX5 (j := 9) (by decide) (flds_rl (by decide)) (hM ▸ flX5_45) hk hd hp (by rw [show fr 5 9 = true from rfl, hr]; exact k)
theorem flX5_49 : FL RX5 49 (TX5 10).1 (TX5 10).2.1 (TX5 10).2.2.1 := Or.inl (by decide +kernel)
theorem gX5_49 (hM : M.1.cls = RX5) (hk : ky a = 5) (hr : rf a 10 = b) (hd : decode M.2.1 pc = .ok (.getfield 49, 3)) (hp : pc + 3 = pc2) (k : V G M pc2 ls (RR b :: st) t Q) : V G M pc ls (RR a :: st) t Q := V_get fwX5 (j := 10) (by decide) (flds_rl (by decide)) (hM ▸ flX5_49) hk hd hp (by rw [show fr 5 10 = true from rfl, hr]; exact k)
theorem flX5_52 : FL RX5 52 (TX5 11).1 (TX5 11).2.1 (TX5 11).2.2.1 := Or.inl (by decide +kernel)
theorem gX5_52 (hM : M.1.cls = RX5) (hk : ky a = 5) (hr : rf a 11 = b) (hd : decode M.2.1 pc = .ok (.getfield 52, 3)) (hp : pc + 3 = pc2) (k : V G M pc2 ls (RR b :: st) t Q) : V G M pc ls (RR a :: st) t Q := V_get fwX5 (j := 11) (by decide) (flds_rl (by decide)) (hM ▸ flX5_52) hk hd hp (by rw [show fr 5 11 = true from rfl, hr]; exact k)
theorem flX5_58 : FL RX5 58 (TX5 12).1 (TX5 12).2.1 (TX5 12).2.2.1 := Or.inl (by decide +kernel)
theorem gX5_58 (hM : M.1.cls = RX5) (hk : ky a = 5) (hr : rf a 12 = b) (hd : decode M.2.1 pc = .ok (.getfield 58, 3)) (hp : pc + 3 = pc2) (k : V G M pc2 ls (RR b :: st) t Q) : V G M pc ls (RR a :: st) t Q := V_get fwX5 (j := 12) (by decide) (flds_rl (by decide)) (hM ▸ flX5_58) hk hd hp (by rw [show fr 5 12 = true from rfl, hr]; exact k)
theorem flX5_64 : FL RX5 64 (TX5 13).1 (TX5 13).2.1 (TX5 13).2.2.1 := Or.inl (by decide +kernel)
theorem gX5_64 (hM : M.1.cls = RX5) (hk : ky a = 5) (hr : rf a 13 = b) (hd : decode M.2.1 pc = .ok (.getfield 64, 3)) (hp : pc + 3 = pc2) (k : V G M pc2 ls (RR b :: st) t Q) : V G M pc ls (RR a :: st) t Q := V_get fwX5 (j := 13) (by decide) (flds_rl (by decide)) (hM ▸ flX5_64) hk hd hp (by rw [show fr 5 13 = true from rfl, hr]; exact k)
theorem flX5_73 : FL RX5 73 (TX0 7).1 (TX0 7).2.1 (TX0 7).2.2.1 := Or.inr ⟨"WellTurns", by decide +kernel⟩
theorem gX5_73 (hM : M.1.cls = RX5) (hk : ky a = 0) (hd : decode M.2.1 pc = .ok (.getfield 73, 3)) (hp : pc + 3 = pc2) (k : V G M pc2 ls (II (t a 7) :: st) t Q) : V G M pc ls (RR a :: st) t Q := V_get fwX0 (j := 7) (by decide) (flds_rl (by decide)) (hM ▸ flX5_73) hk hd hp k
theorem flX5_88 : FL RX5 88 (TX0 8).1 (TX0 8).2.1 (TX0 8).2.2.1 := Or.inr ⟨"WellTurns", by decide +kernel⟩
theorem gX5_88 (hM : M.1.cls = RX5) (hk : ky a = 0) (hr : rf a 8 = b) (hd : decode M.2.1 pc = .ok (.getfield 88, 3)) (hp : pc + 3 = pc2) (k : V G M pc2 ls (RR b :: st) t Q) : V G M pc ls (RR a :: st) t Q := V_get fwX0 (j := 8) (by decide) (flds_rl (by decide)) (hM ▸ flX5_88) hk hd hp (by rw [show fr 0 8 = true from rfl, hr]; exact k)
theorem flX5_91 : FL RX5 91 (TX0 9).1 (TX0 9).2.1 (TX0 9).2.2.1 := Or.inr ⟨"WellTurns", by decide +kernel⟩
theorem gX5_91 (hM : M.1.cls = RX5) (hk : ky a = 0) (hr : rf a 9 = b) (hd : decode M.2.1 pc = .ok (.getfield 91, 3)) (hp : pc + 3 = pc2) (k : V G M pc2 ls (RR b :: st) t Q) : V G M pc ls (RR a :: st) t Q := V_get fwX0 (j := 9) (by decide) (flds_rl (by decide)) (hM ▸ flX5_91) hk hd hp (by rw [show fr 0 9 = true from rfl, hr]; exact k)
theorem flX5_94 : FL RX5 94 (TX0 10).1 (TX0 10).2.1 (TX0 10).2.2.1 := Or.inr ⟨"WellTurns", by decide +kernel⟩
theorem gX5_94 (hM : M.1.cls = RX5) (hk : ky a = 0) (hr : rf a 10 = b) (hd : decode M.2.1 pc = .ok (.getfield 94, 3)) (hp : pc + 3 = pc2) (k : V G M pc2 ls (RR b :: st) t Q) : V G M pc ls (RR a :: st) t Q := V_get fwX0 (j := 10) (by decide) (flds_rl (by decide)) (hM ▸ flX5_94) hk hd hp (by rw [show fr 0 10 = true from rfl, hr]; exact k)
theorem flX5_101 : FL RX5 101 (TX1 6).1 (TX1 6).2.1 (TX1 6).2.2.1 := Or.inr ⟨"WellTurns", by decide +kernel⟩
theorem gX5_101 (hM : M.1.cls = RX5) (hk : ky a = 1) (hr : rf a 6 = b) (hd : decode M.2.1 pc = .ok (.getfield 101, 3)) (hp : pc + 3 = pc2) (k : V G M pc2 ls (RR b :: st) t Q) : V G M pc ls (RR a :: st) t Q := V_get fwX1 (j := 6) (by decide) (flds_rl (by decide)) (hM ▸ flX5_101) hk hd hp (by rw [show fr 1 6 = true from rfl, hr]; exact k)
theorem flX5_104 : FL RX5 104 (TX1 7).1 (TX1 7).2.1 (TX1 7).2.2.1 := Or.inr ⟨"WellTurns", by decide +kernel⟩
theorem gX5_104 (hM : M.1.cls = RX5) (hk : ky a = 1) (hr : rf a 7 = b) (hd : decode M.2.1 pc = .ok (.getfield 104, 3)) (hp : pc + 3 = pc2) (k : V G M pc2 ls (RR b :: st) t Q) : V G M pc ls (RR a :: st) t Q := V_get fwX1 (j := 7) (by decide) (flds_rl (by decide)) (hM ▸ flX5_104) hk hd hp (by rw [show fr 1 7 = true from rfl, hr]; exact k)
theorem flX5_111 : FL RX5 111 (TX1 8).1 (TX1 8).2.1 (TX1 8).2.2.1 := Or.inr ⟨"WellTurns", by decide +kernel⟩
theorem gX5_111 (hM : M.1.cls = RX5) (hk : ky a = 1) (hr : rf a 8 = b) (hd : decode M.2.1 pc = .ok (.getfield 111, 3)) (hp : pc + 3 = pc2) (k : V G M pc2 ls (RR b :: st) t Q) : V G M pc ls (RR a :: st) t Q := V_get fwX1 (j := 8) (by decide) (flds_rl (by decide)) (hM ▸ flX5_111) hk hd hp (by rw [show fr 1 8 = true from rfl, hr]; exact k)
theorem flX5_127 : FL RX5 127 (TX1 0).1 (TX1 0).2.1 (TX1 0).2.2.1 := Or.inr ⟨"WellTurns", by decide +kernel⟩
theorem gX5_127 (hM : M.1.cls = RX5) (hk : ky a = 1) (hd : decode M.2.1 pc = .ok (.getfield 127, 3)) (hp : pc + 3 = pc2) (k : V G M pc2 ls (II (t a 0) :: st) t Q) : V G M pc ls (RR a :: st) t Q := V_get fwX1 (j := 0) (by decide) (flds_rl (by decide)) (hM ▸ flX5_127) hk hd hp k
theorem pX5_127 (hM : M.1.cls = RX5) (hk : ky a = 1) (hd : decode M.2.1 pc = .ok (.putfield 127, 3)) (hp : pc + 3 = pc2) (k : ∀ u, u = wr t a 0 v → V G M pc2 ls st u Q) : V G M pc ls (II v :: RR a :: st) t Q := V_putX fwX1 tyX1_ok nmX1 (j := 0) (ty := .int) (by decide) rfl rfl (by decide +kernel) (hM ▸ flX5_127) rfl rfl hk hd hp k
theorem flX5_130 : FL RX5 130 (TX0 0).1 (TX0 0).2.1 (TX0 0).2.2.1 := Or.inr ⟨"WellTurns", by decide +kernel⟩
theorem gX5_130 (hM : M.1.cls = RX5) (hk : ky a = 0) (hd : decode M.2.1 pc = .ok (.getfield 130, 3)) (hp : pc + 3 = pc2) (k : V G M pc2 ls (II (t a 0) :: st) t Q) : V G M pc ls (RR a :: st) t Q := V_get fwX0 (j := 0) (by decide) (flds_rl (by decide)) (hM ▸ flX5_130) hk hd hp k
theorem pX5_130 (hM : M.1.cls = RX5) (hk : ky a = 0) (hd : decode M.2.1 pc = .ok (.putfield 130, 3)) (hp : pc + 3 = pc2) (k : ∀ u, u = wr t a 0 v → V G M pc2 ls st u Q) : V G M pc ls (II v :: RR a :: st) t Q := V_putX fwX0 tyX0_ok nmX0 (j := 0) (ty := .int) (by decide) rfl rfl (by decide +kernel) (hM ▸ flX5_130) rfl rfl hk hd hp k
theorem flX5_133 : FL RX5 133 (TX0 1).1 (TX0 1).2.1 (TX0 1).2.2.1 := Or.inr ⟨"WellTurns", by decide +kernel⟩
theorem gX5_133 (hM : M.1.cls = RX5) (hk : ky a = 0) (hd : decode M.2.1 pc = .ok (.getfield 133, 3)) (hp : pc + 3 = pc2) (k : V G M pc2 ls (II (t a 1) :: st) t Q) : V G M pc ls (RR a :: st) t Q := V_get fwX0 (j := 1) (by decide) (flds_rl (by decide)) (hM ▸ flX5_133) hk hd hp k
theorem pX5_133 (hM : M.1.cls = RX5) (hk : ky a = 0) (hd : decode M.2.1 pc = .ok (.putfield 133, 3)) (hp : pc + 3 = pc2) (k : ∀ u, u = wr t a 1 v → V G M pc2 ls st u Q) : V G M pc ls (II v :: RR a :: st) t Q := V_putX fwX0 tyX0_ok nmX0 (j := 1) (ty := .int) (by decide) rfl rfl (by decide +kernel) (hM ▸ flX5_133) rfl rfl hk hd hp k
theorem flX5_136 : FL RX5 136 (TX0 2).1 (TX0 2).2.1 (TX0 2).2.2.1 := Or.inr ⟨"WellTurns", by decide +kernel⟩
theorem gX5_136 (hM : M.1.cls = RX5) (hk : ky a = 0) (hd : decode M.2.1 pc = .ok (.getfield 136, 3)) (hp : pc + 3 = pc2) (k : V G M pc2 ls (II (t a 2) :: st) t Q) : V G M pc ls (RR a :: st) t Q := V_get fwX0 (j := 2) (by decide) (flds_rl (by decide)) (hM ▸ flX5_136) hk hd hp k
theorem pX5_136 (hM : M.1.cls = RX5) (hk : ky a = 0) (hd : decode M.2.1 pc = .ok (.putfield 136, 3)) (hp : pc + 3 = pc2) (k : ∀ u, u = wr t a 2 v → V G M pc2 ls st u Q) : V G M pc ls (II v :: RR a :: st) t Q := V_putX fwX0 tyX0_ok nmX0 (j := 2) (ty := .int) (by decide) rfl rfl (by decide +kernel) (hM ▸ flX5_136) rfl rfl hk hd hp k
theorem flX5_139 : FL RX5 139 (TX0 3).1 (TX0 3).2.1 (TX0 3).2.2.1 := Or.inr ⟨"WellTurns", by decide +kernel⟩
theorem gX5_139 (hM : M.1.cls = RX5) (hk : ky a = 0) (hd : decode M.2.1 pc = .ok (.getfield 139, 3)) (hp : pc + 3 = pc2) (k : V G M pc2 ls (II (t a 3) :: st) t Q) : V G M pc ls (RR a :: st) t Q := V_get fwX0 (j := 3) (by decide) (flds_rl (by decide)) (hM ▸ flX5_139) hk hd hp k
theorem pX5_139 (hM : M.1.cls = RX5) (hk : ky a = 0) (hd : decode M.2.1 pc = .ok (.putfield 139, 3)) (hp : pc + 3 = pc2) (k : ∀ u, u = wr t a 3 v → V G M pc2 ls st u Q) : V G M pc ls (II v :: RR a :: st) t Q := V_putX fwX0 tyX0_ok nmX0 (j := 3) (ty := .int) (by decide) rfl rfl (by decide +kernel) (hM ▸ flX5_139) rfl rfl hk hd hp k
theorem flX5_142 : FL RX5 142 (TX0 4).1 (TX0 4).2.1 (TX0 4).2.2.1 := Or.inr ⟨"WellTurns", by decide +kernel⟩
theorem gX5_142 (hM : M.1.cls = RX5) (hk : ky a = 0) (hd : decode M.2.1 pc = .ok (.getfield 142, 3)) (hp : pc + 3 = pc2) (k : V G M pc2 ls (II (t a 4) :: st) t Q) : V G M pc ls (RR a :: st) t Q := V_get fwX0 (j := 4) (by decide) (flds_rl (by decide)) (hM ▸ flX5_142) hk hd hp k
theorem pX5_142 (hM : M.1.cls = RX5) (hk : ky a = 0) (hd : decode M.2.1 pc = .ok (.putfield 142, 3)) (hp : pc + 3 = pc2) (k : ∀ u, u = wr t a 4 v → V G M pc2 ls st u Q) : V G M pc ls (II v :: RR a :: st) t Q := V_putX fwX0 tyX0_ok nmX0 (j := 4) (ty := .int) (by decide) rfl rfl (by decide +kernel) (hM ▸ flX5_142) rfl rfl hk hd hp k
theorem flX5_145 : FL RX5 145 (TX0 5).1 (TX0 5).2.1 (TX0 5).2.2.1 := Or.inr ⟨"WellTurns", by decide +kernel⟩
theorem gX5_145 (hM : M.1.cls = RX5) (hk : ky a = 0) (hd : decode M.2.1 pc = .ok (.getfield 145, 3)) (hp : pc + 3 = pc2) (k : V G M pc2 ls (II (t a 5) :: st) t Q) : V G M pc ls (RR a :: st) t Q := V_get fwX0 (j := 5) (by decide) (flds_rl (by decide)) (hM ▸ flX5_145) hk hd hp k
theorem pX5_145 (hM : M.1.cls = RX5) (hk : ky a = 0) (hd : decode M.2.1 pc = .ok (.putfield 145, 3)) (hp : pc + 3 = pc2) (k : ∀ u, u = wr t a 5 v → V G M pc2 ls st u Q) : V G M pc ls (II v :: RR a :: st) t Q := V_putX fwX0 tyX0_ok nmX0 (j := 5) (ty := .int) (by decide) rfl rfl (by decide +kernel) (hM ▸ flX5_145) rfl rfl hk hd hp k
theorem flX5_148 : FL RX5 148 (TX0 6).1 (TX0 6).2.1 (TX0 6).2.2.1 := Or.inr ⟨"WellTurns", by decide +kernel⟩
theorem gX5_148 (hM : M.1.cls = RX5) (hk : ky a = 0) (hd : decode M.2.1 pc = .ok (.getfield 148, 3)) (hp : pc + 3 = pc2) (k : V G M pc2 ls (II (t a 6) :: st) t Q) : V G M pc ls (RR a :: st) t Q := V_get fwX0 (j := 6) (by decide) (flds_rl (by decide)) (hM ▸ flX5_148) hk hd hp k
theorem pX5_148 (hM : M.1.cls = RX5) (hk : ky a = 0) (hd : decode M.2.1 pc = .ok (.putfield 148, 3)) (hp : pc + 3 = pc2) (k : ∀ u, u = wr t a 6 v → V G M pc2 ls st u Q) : V G M pc ls (II v :: RR a :: st) t Q := V_putX fwX0 tyX0_ok nmX0 (j := 6) (ty := .int) (by decide) rfl rfl (by decide +kernel) (hM ▸ flX5_148) rfl rfl hk hd hp k
theorem flX5_154 : FL RX5 154 (TX0 12).1 (TX0 12).2.1 (TX0 12).2.2.1 := Or.inr ⟨"WellTurns", by decide +kernel⟩
theorem gX5_154 (hM : M.1.cls = RX5) (hk : ky a = 0) (hr : rf a 12 = b) (hd : decode M.2.1 pc = .ok (.getfield 154, 3)) (hp : pc + 3 = pc2) (k : V G M pc2 ls (RR b :: st) t Q) : V G M pc ls (RR a :: st) t Q := V_get fwX0 (j := 12) (by decide) (flds_rl (by decide)) (hM ▸ flX5_154) hk hd hp (by rw [show fr 0 12 = true from rfl, hr]; exact k)
theorem flX5_160 : FL RX5 160 (TX4 1).1 (TX4 1).2.1 (TX4 1).2.2.1 := Or.inr ⟨"WellTurns", by decide +kernel⟩
theorem gX5_160 (hM : M.1.cls = RX5) (hk : ky a = 4) (hd : decode M.2.1 pc = .ok (.getfield 160, 3)) (hp : pc + 3 = pc2) (k : V G M pc2 ls (II (t a 1) :: st) t Q) : V G M pc ls (RR a :: st) t Q := V_get fwX4 (j := 1) (by decide) (flds_rl (by decide)) (hM ▸ flX5_160) hk hd hp k
theorem pX5_160 (hM : M.1.cls = RX5) (hk : ky a = 4) (hd : decode M.2.1 pc = .ok (.putfield 160, 3)) (hp : pc + 3 = pc2) (k : ∀ u, u = wr t a 1 v → V G M pc2 ls st u Q) : V G M pc ls (II v :: RR a :: st) t Q := V_putX fwX4 tyX4_ok nmX4 (j := 1) (ty := .int) (by decide) rfl rfl (by decide +kernel) (hM ▸ flX5_160) rfl rfl hk hd hp k
theorem flX5_171 : FL RX5 171 (TX4 3).1 (TX4 3).2.1 (TX4 3).2.2.1 := Or.inr ⟨"WellTurns", by decide +kernel⟩
theorem gX5_171 (hM : M.1.cls = RX5) (hk : ky a = 4) (hd : decode M.2.1 pc = .ok (.getfield 171, 3)) (hp : pc + 3 = pc2) (k : V G M pc2 ls (II (t a 3) :: st) t Q) : V G M pc ls (RR a :: st) t Q := V_get fwX4 (j := 3) (by decide) (flds_rl (by decide)) (hM ▸ flX5_171) hk hd hp k
theorem flX5_176 : FL RX5 176 (TX1 4).1 (TX1 4).2.1 (TX1 4).2.2.1 := Or.inr ⟨"WellTurns", by decide +kernel⟩
theorem gX5_176 (hM : M.1.cls = RX5) (hk : ky a = 1) (hd : decode M.2.1 pc = .ok (.getfield 176, 3)) (hp : pc + 3 = pc2) (k : V G M pc2 ls (II (t a 4) :: st) t Q) : V G M pc ls (RR a :: st) t Q := V_get fwX1 (j := 4) (by decide) (flds_rl (by decide)) (hM ▸ flX5_176) hk hd hp k
theorem flX5_179 : FL RX5 179 (TX1 1).1 (TX1 1).2.1 (TX1 1).2.2.1 := Or.inr ⟨"WellTurns", by decide +kernel⟩
theorem gX5_179 (hM : M.1.cls = RX5) (hk : ky a = 1) (hd : decode M.2.1 pc = .ok (.getfield 179, 3)) (hp : pc + 3 = pc2) (k : V G M pc2 ls (II (t a 1) :: st) t Q) : V G M pc ls (RR a :: st) t Q := V_get fwX1 (j := 1) (by decide) (flds_rl (by decide)) (hM ▸ flX5_179) hk hd hp k
theorem flX5_182 : FL RX5 182 (TX1 2).1 (TX1 2).2.1 (TX1 2).2.2.1 := Or.inr ⟨"WellTurns", by decide +kernel⟩
theorem gX5_182 (hM : M.1.cls = RX5) (hk : ky a = 1) (hd : decode M.2.1 pc = .ok (.getfield 182, 3)) (hp : pc + 3 = pc2) (k : V G M pc2 ls (II (t a 2) :: st) t Q) : V G M pc ls (RR a :: st) t Q := V_get fwX1 (j := 2) (by decide) (flds_rl (by decide)) (hM ▸ flX5_182) hk hd hp k
theorem flX5_185 : FL RX5 185 (TX1 3).1 (TX1 3).2.1 (TX1 3).2.2.1 := Or.inr ⟨"WellTurns", by decide +kernel⟩
theorem gX5_185 (hM : M.1.cls = RX5) (hk : ky a = 1) (hd : decode M.2.1 pc = .ok (.getfield 185, 3)) (hp : pc + 3 = pc2) (k : V G M pc2 ls (II (t a 3) :: st) t Q) : V G M pc ls (RR a :: st) t Q := V_get fwX1 (j := 3) (by decide) (flds_rl (by decide)) (hM ▸ flX5_185) hk hd hp k
theorem flX5_188 : FL RX5 188 (TX2 2).1 (TX2 2).2.1 (TX2 2).2.2.1 := Or.inr ⟨"WellTurns", by decide +kernel⟩
theorem gX5_188 (hM : M.1.cls = RX5) (hk : ky a = 2) (hd : decode M.2.1 pc = .ok (.getfield 188, 3)) (hp : pc + 3 = pc2) (k : V G M pc2 ls (II (t a 2) :: st) t Q) : V G M pc ls (RR a :: st) t Q := V_get fwX2 (j := 2) (by decide) (flds_rl (by decide)) (hM ▸ flX5_188) hk hd hp k
theorem flX5_216 : FL RX5 216 (TX1 5).1 (TX1 5).2.1 (TX1 5).2.2.1 := Or.inr ⟨"WellTurns", by decide +kernel⟩
theorem gX5_216 (hM : M.1.cls = RX5) (hk : ky a = 1) (hd : decode M.2.1 pc = .ok (.getfield 216, 3)) (hp : pc + 3 = pc2) (k : V G M pc2 ls (II (t a 5) :: st) t Q) : V G M pc ls (RR a :: st) t Q := V_get fwX1 (j := 5) (by decide) (flds_rl (by decide)) (hM ▸ flX5_216) hk hd hp k
theorem pX5_216 (hM : M.1.cls = RX5) (hk : ky a = 1) (hd : decode M.2.1 pc = .ok (.putfield 216, 3)) (hp : pc + 3 = pc2) (k : ∀ u, u = wr t a 5 v → V G M pc2 ls st u Q) : V G M pc ls (II v :: RR a :: st) t Q := V_putX fwX1 tyX1_ok nmX1 (j := 5) (ty := .int) (by decide) rfl rfl (by decide +kernel) (hM ▸ flX5_216) rfl rfl hk hd hp k
theorem flX5_259 : FL RX5 259 (TX5 3).1 (TX5 3).2.1 (TX5 3).2.2.1 := Or.inl (by decide +kernel)
theorem gX5_259 (hM : M.1.cls = RX5) (hk : ky a = 5) (hd : decode M.2.1 pc = .ok (.getfield 259, 3)) (hp : pc + 3 = pc2) (k : V G M pc2 ls (II (t a 3) :: st) t Q) : V G M pc ls (RR a :: st) t Q := V_get fwX5 (j := 3) (by decide) (flds_rl (by decide)) (hM ▸ flX5_259) hk hd hp k
theorem pX5_259 (hM : M.1.cls = RX5) (hv : v = 0 ∨ v = 1) (hk : ky a = 5) (hd : decode M.2.1 pc = .ok (.putfield 259, 3)) (hp : pc + 3 = pc2) (k : ∀ u, u = wr t a 3 v → V G M pc2 ls st u Q) : V G M pc ls (II v :: RR a :: st) t Q := V_putX fwX5 tyX5_ok nmX5 (j := 3) (ty := .boolean) (by decide) rfl rfl (by decide +kernel) (hM ▸ flX5_259) (by rcases hv with rfl | rfl <;> rfl) (by rcases hv with rfl | rfl <;> rfl) hk hd hp k
theorem flX5_287 : FL RX5 287 (TX3 2).1 (TX3 2).2.1 (TX3 2).2.2.1 := Or.inr ⟨"WellTurns", by decide +kernel⟩
theorem gX5_287 (hM : M.1.cls = RX5) (hk : ky a = 3) (hr : rf a 2 = b) (hd : decode M.2.1 pc = .ok (.getfield 287, 3)) (hp : pc + 3 = pc2) (k : V G M pc2 ls (RR b :: st) t Q) : V G M pc ls (RR a :: st) t Q := V_get fwX3 (j := 2) (by decide) (flds_rl (by decide)) (hM ▸ flX5_287) hk hd hp (by rw [show fr 3 2 = true from rfl, hr]; exact k)
theorem flX5_301 : FL RX5 301 (TX3 0).1 (TX3 0).2.1 (TX3 0).2.2.1 := Or.inr ⟨"WellTurns", by decide +kernel⟩
theorem gX5_301 (hM : M.1.cls = RX5) (hk : ky a = 3) (hd : decode M.2.1 pc = .ok (.getfield 301, 3)) (hp : pc + 3 = pc2) (k : V G M pc2 ls (II (t a 0) :: st) t Q) : V G M pc ls (RR a :: st) t Q := V_get fwX3 (j := 0) (by decide) (flds_rl (by decide)) (hM ▸ flX5_301) hk hd hp k
theorem flX5_304 : FL RX5 304 (TX3 1).1 (TX3 1).2.1 (TX3 1).2.2.1 := Or.inr ⟨"WellTurns", by decide +kernel⟩
theorem gX5_304 (hM : M.1.cls = RX5) (hk : ky a = 3) (hd : decode M.2.1 pc = .ok (.getfield 304, 3)) (hp : pc + 3 = pc2) (k : V G M pc2 ls (II (t a 1) :: st) t Q) : V G M pc ls (RR a :: st) t Q := V_get fwX3 (j := 1) (by decide) (flds_rl (by decide)) (hM ▸ flX5_304) hk hd hp k
theorem flX6_7 : FL RX6 7 (TX6 0).1 (TX6 0).2.1 (TX6 0).2.2.1 := Or.inl (by decide +kernel)
theorem gX6_7 (hM : M.1.cls = RX6) (hk : ky a = 6) (hr : rf a 0 = b) (hd : decode M.2.1 pc = .ok (.getfield 7, 3)) (hp : pc + 3 = pc2) (k : V G M pc2 ls (RR b :: st) t Q) : V G M pc ls (RR a :: st) t Q := V_get fwX6 (j := 0) (by decide) (flds_rl (by decide)) (hM ▸ flX6_7) hk hd hp (by rw [show fr 6 0 = true from rfl, hr]; exact k)
theorem flX6_13 : FL RX6 13 (TX6 1).1 (TX6 1).2.1 (TX6 1).2.2.1 := Or.inl (by decide +kernel)
theorem gX6_13 (hM : M.1.cls = RX6) (hk : ky a = 6) (hr : rf a 1 = b) (hd : decode M.2.1 pc = .ok (.getfield 13, 3)) (hp : pc + 3 = pc2) (k : V G M pc2 ls (RR b :: st) t Q) : V G M pc ls (RR a :: st) t Q := V_get fwX6 (j := 1) (by decide) (flds_rl (by decide)) (hM ▸ flX6_13) hk hd hp (by rw [show fr 6 1 = true from rfl, hr]; exact k)
theorem flX6_16 : FL RX6 16 (TX6 2).1 (TX6 2).2.1 (TX6 2).2.2.1 := Or.inl (by decide +kernel)
theorem gX6_16 (hM : M.1.cls = RX6) (hk : ky a = 6) (hd : decode M.2.1 pc = .ok (.getfield 16, 3)) (hp : pc + 3 = pc2) (k : V G M pc2 ls (II (t a 2) :: st) t Q) : V G M pc ls (RR a :: st) t Q := V_get fwX6 (j := 2) (by decide) (flds_rl (by decide)) (hM ▸ flX6_16) hk hd hp k
theorem pX6_16 (hM : M.1.cls = RX6) (hk : ky a = 6) (hd : decode M.2.1 pc = .ok (.putfield 16, 3)) (hp : pc + 3 = pc2) (k : ∀ u, u = wr t a 2 v → V G M pc2 ls st u Q) : V G M pc ls (II v :: RR a :: st) t Q := V_putX fwX6 tyX6_ok nmX6 (j := 2) (ty := .int) (by decide) rfl rfl (by decide +kernel) (hM ▸ flX6_16) rfl rfl hk hd hp k
theorem flX6_20 : FL RX6 20 (TX6 4).1 (TX6 4).2.1 (TX6 4).2.2.1 := Or.inl (by decide +kernel)
theorem gX6_20 (hM : M.1.cls = RX6) (hk : ky a = 6) (hr : rf a 4 = b) (hd : decode M.2.1 pc = .ok (.getfield 20, 3)) (hp : pc + 3 = pc2) (k : V G M pc2 ls (RR b :: st) t Q) : V G M pc ls (RR a :: st) t Q := V_get fwX6 (j := 4) (by decide) (flds_rl (by decide)) (hM ▸ flX6_20) hk hd hp (by rw [show fr 6 4 = true from rfl, hr]; exact k)
theorem flX6_23 : FL RX6 23 (TX6 6).1 (TX6 6).2.1 (TX6 6).2.2.1 := Or.inl (by decide +kernel)
theorem gX6_23 (hM : M.1.cls = RX6) (hk : ky a = 6) (hr : rf a 6 = b) (hd : decode M.2.1 pc = .ok (.getfield 23, 3)) (hp : pc + 3 = pc2) (k : V G M pc2 ls (RR b :: st) t Q) : V G M pc ls (RR a :: st) t Q := V_get fwX6 (j := 6) (by decide) (flds_rl (by decide)) (hM ▸ flX6_23) hk hd hp (by rw [show fr 6 6 = true from rfl, hr]; exact k)
theorem flX6_26 : FL RX6 26 (TX6 7).1 (TX6 7).2.1 (TX6 7).2.2.1 := Or.inl (by decide +kernel)
theorem gX6_26 (hM : M.1.cls = RX6) (hk : ky a = 6) (hr : rf a 7 = b) (hd : decode M.2.1 pc = .ok (.getfield 26, 3)) (hp : pc + 3 = pc2) (k : V G M pc2 ls (RR b :: st) t Q) : V G M pc ls (RR a :: st) t Q := V_get fwX6 (j := 7) (by decide) (flds_rl (by decide)) (hM ▸ flX6_26) hk hd hp (by rw [show fr 6 7 = true from rfl, hr]; exact k)
theorem flX6_29 : FL RX6 29 (TX6 8).1 (TX6 8).2.1 (TX6 8).2.2.1 := Or.inl (by decide +kernel)
theorem gX6_29 (hM : M.1.cls = RX6) (hk : ky a = 6) (hr : rf a 8 = b) (hd : decode M.2.1 pc = .ok (.getfield 29, 3)) (hp : pc + 3 = pc2) (k : V G M pc2 ls (RR b :: st) t Q) : V G M pc ls (RR a :: st) t Q := V_get fwX6 (j := 8) (by decide) (flds_rl (by decide)) (hM ▸ flX6_29) hk hd hp (by rw [show fr 6 8 = true from rfl, hr]; exact k)
theorem flX6_32 : FL RX6 32 (TX6 12).1 (TX6 12).2.1 (TX6 12).2.2.1 := Or.inl (by decide +kernel)
theorem gX6_32 (hM : M.1.cls = RX6) (hk : ky a = 6) (hr : rf a 12 = b) (hd : decode M.2.1 pc = .ok (.getfield 32, 3)) (hp : pc + 3 = pc2) (k : V G M pc2 ls (RR b :: st) t Q) : V G M pc ls (RR a :: st) t Q := V_get fwX6 (j := 12) (by decide) (flds_rl (by decide)) (hM ▸ flX6_32) hk hd hp (by rw [show fr 6 12 = true from rfl, hr]; exact k)
theorem flX6_35 : FL RX6 35 (TX6 13).1 (TX6 13).2.1 (TX6 13).2.2.1 := Or.inl (by decide +kernel)
theorem gX6_35 (hM : M.1.cls = RX6) (hk : ky a = 6) (hr : rf a 13 = b) (hd : decode M.2.1 pc = .ok (.getfield 35, 3)) (hp : pc + 3 = pc2) (k : V G M pc2 ls (RR b :: st) t Q) : V G M pc ls (RR a :: st) t Q := V_get fwX6 (j := 13) (by decide) (flds_rl (by decide)) (hM ▸ flX6_35) hk hd hp (by rw [show fr 6 13 = true from rfl, hr]; exact k)
theorem flX6_38 : FL RX6 38 (TX6 16).1 (TX6 16).2.1 (TX6 16).2.2.1 := Or.inl (by decide +kernel)
theorem gX6_38 (hM : M.1.cls = RX6) (hk : ky a = 6) (hr : rf a 16 = b) (hd : decode M.2.1 pc = .ok (.getfield 38, 3)) (hp : pc + 3 = pc2) (k : V G M pc2 ls (RR b :: st) t Q) : V G M pc ls (RR a :: st) t Q := V_get fwX6 (j := 16) (by decide) (flds_rl (by decide)) (hM ▸ flX6_38) hk hd hp (by rw [show fr 6 16 = true from rfl, hr]; exact k)
theorem flX6_41 : FL RX6 41 (TX6 17).1 (TX6 17).2.1 (TX6 17).2.2.1 := Or.inl (by decide +kernel)
theorem gX6_41 (hM : M.1.cls = RX6) (hk : ky a = 6) (hr : rf a 17 = b) (hd : decode M.2.1 pc = .ok (.getfield 41, 3)) (hp : pc + 3 = pc2) (k : V G M pc2 ls (RR b :: st) t Q) : V G M pc ls (RR a :: st) t Q := V_get fwX6 (j := 17) (by decide) (flds_rl (by decide)) (hM ▸ flX6_41) hk hd hp (by rw [show fr 6 17 = true from rfl, hr]; exact k)
theorem flX6_44 : FL RX6 44 (TX6 18).1 (TX6 18).2.1 (TX6 18).2.2.1 := Or.inl (by decide +kernel)
theorem gX6_44 (hM : M.1.cls = RX6) (hk : ky a = 6) (hr : rf a 18 = b) (hd : decode M.2.1 pc = .ok (.getfield 44, 3)) (hp : pc + 3 = pc2) (k : V G M pc2 ls (RR b :: st) t Q) : V G M pc ls (RR a :: st) t Q := V_get fwX6 (j := 18) (by decide) (flds_rl (by decide)) (hM ▸ flX6_44) hk hd hp (by rw [show fr 6 18 = true from rfl, hr]; exact k)
theorem flX6_48 : FL RX6 48 (TX6 19).1 (TX6 19).2.1 (TX6 19).2.2.1 := Or.inl (by decide +kernel)
theorem gX6_48 (hM : M.1.cls = RX6) (hk : ky a = 6) (hr : rf a 19 = b) (hd : decode M.2.1 pc = .ok (.getfield 48, 3)) (hp : pc + 3 = pc2) (k : V G M pc2 ls (RR b :: st) t Q) : V G M pc ls (RR a :: st) t Q := V_get fwX6 (j := 19) (by decide) (flds_rl (by decide)) (hM ▸ flX6_48) hk hd hp (by rw [show fr 6 19 = true from rfl, hr]; exact k)
theorem flX6_74 : FL RX6 74 (TX6 5).1 (TX6 5).2.1 (TX6 5).2.2.1 := Or.inl (by decide +kernel)
theorem gX6_74 (hM : M.1.cls = RX6) (hk : ky a = 6) (hd : decode M.2.1 pc = .ok (.getfield 74, 3)) (hp : pc + 3 = pc2) (k : V G M pc2 ls (II (t a 5) :: st) t Q) : V G M pc ls (RR a :: st) t Q := V_get fwX6 (j := 5) (by decide) (flds_rl (by decide)) (hM ▸ flX6_74) hk hd hp k
theorem pX6_74 (hM : M.1.cls = RX6) (hk : ky a = 6) (hd : decode M.2.1 pc = .ok (.putfield 74, 3)) (hp : pc + 3 = pc2) (k : ∀ u, u = wr t a 5 v → V G M pc2 ls st u Q) : V G M pc ls (II v :: RR a :: st) t Q := V_putX fwX6 tyX6_ok nmX6 (j := 5) (ty := .int) (by decide) rfl rfl (by decide +kernel) (hM ▸ flX6_74) rfl rfl hk hd hp k
theorem flX6_111 : FL RX6 111 (TX6 3).1 (TX6 3).2.1 (TX6 3).2.2.1 := Or.inl (by decide +kernel)
theorem gX6_111 (hM : M.1.cls = RX6) (hk : ky a = 6) (hd : decode M.2.1 pc = .ok (.getfield 111, 3)) (hp : pc + 3 = pc2) (k : V G M pc2 ls (II (t a 3) :: st) t Q) : V G M pc ls (RR a :: st) t Q := V_get fwX6 (j := 3) (by decide) (flds_rl (by decide)) (hM ▸ flX6_111) hk hd hp k
theorem pX6_111 (hM : M.1.cls = RX6) (hk : ky a = 6) (hd : decode M.2.1 pc = .ok (.putfield 111, 3)) (hp : pc + 3 = pc2) (k : ∀ u, u = wr t a 3 v → V G M pc2 ls st u Q) : V G M pc ls (II v :: RR a :: st) t Q := V_putX fwX6 tyX6_ok nmX6 (j := 3) (ty := .int) (by decide) rfl rfl (by decide +kernel) (hM ▸ flX6_111) rfl rfl hk hd hp k
theorem flX6_170 : FL RX6 170 (TX6 9).1 (TX6 9).2.1 (TX6 9).2.2.1 := Or.inl (by decide +kernel)
theorem gX6_170 (hM : M.1.cls = RX6) (hk : ky a = 6) (hd : decode M.2.1 pc = .ok (.getfield 170, 3)) (hp : pc + 3 = pc2) (k : V G M pc2 ls (II (t a 9) :: st) t Q) : V G M pc ls (RR a :: st) t Q := V_get fwX6 (j := 9) (by decide) (flds_rl (by decide)) (hM ▸ flX6_170) hk hd hp k
theorem pX6_170 (hM : M.1.cls = RX6) (hk : ky a = 6) (hd : decode M.2.1 pc = .ok (.putfield 170, 3)) (hp : pc + 3 = pc2) (k : ∀ u, u = wr t a 9 v → V G M pc2 ls st u Q) : V G M pc ls (II v :: RR a :: st) t Q := V_putX fwX6 tyX6_ok nmX6 (j := 9) (ty := .int) (by decide) rfl rfl (by decide +kernel) (hM ▸ flX6_170) rfl rfl hk hd hp k
theorem flX6_173 : FL RX6 173 (TX6 10).1 (TX6 10).2.1 (TX6 10).2.2.1 := Or.inl (by decide +kernel)
theorem gX6_173 (hM : M.1.cls = RX6) (hk : ky a = 6) (hd : decode M.2.1 pc = .ok (.getfield 173, 3)) (hp : pc + 3 = pc2) (k : V G M pc2 ls (II (t a 10) :: st) t Q) : V G M pc ls (RR a :: st) t Q := V_get fwX6 (j := 10) (by decide) (flds_rl (by decide)) (hM ▸ flX6_173) hk hd hp k
theorem pX6_173 (hM : M.1.cls = RX6) (hk : ky a = 6) (hd : decode M.2.1 pc = .ok (.putfield 173, 3)) (hp : pc + 3 = pc2) (k : ∀ u, u = wr t a 10 v → V G M pc2 ls st u Q) : V G M pc ls (II v :: RR a :: st) t Q := V_putX fwX6 tyX6_ok nmX6 (j := 10) (ty := .int) (by decide) rfl rfl (by decide +kernel) (hM ▸ flX6_173) rfl rfl hk hd hp k
theorem flX6_176 : FL RX6 176 (TX6 11).1 (TX6 11).2.1 (TX6 11).2.2.1 := Or.inl (by decide +kernel)
theorem gX6_176 (hM : M.1.cls = RX6) (hk : ky a = 6) (hd : decode M.2.1 pc = .ok (.getfield 176, 3)) (hp : pc + 3 = pc2) (k : V G M pc2 ls (II (t a 11) :: st) t Q) : V G M pc ls (RR a :: st) t Q := V_get fwX6 (j := 11) (by decide) (flds_rl (by decide)) (hM ▸ flX6_176) hk hd hp k
theorem pX6_176 (hM : M.1.cls = RX6) (hv : v = 0 ∨ v = 1) (hk : ky a = 6) (hd : decode M.2.1 pc = .ok (.putfield 176, 3)) (hp : pc + 3 = pc2) (k : ∀ u, u = wr t a 11 v → V G M pc2 ls st u Q) : V G M pc ls (II v :: RR a :: st) t Q := V_putX fwX6 tyX6_ok nmX6 (j := 11) (ty := .boolean) (by decide) rfl rfl (by decide +kernel) (hM ▸ flX6_176) (by rcases hv with rfl | rfl <;> rfl) (by rcases hv with rfl | rfl <;> rfl) hk hd hp k
theorem flX6_204 : FL RX6 204 (TX6 14).1 (TX6 14).2.1 (TX6 14).2.2.1 := Or.inl (by decide +kernel)
theorem gX6_204 (hM : M.1.cls = RX6) (hk : ky a = 6) (hd : decode M.2.1 pc = .ok (.getfield 204, 3)) (hp : pc + 3 = pc2) (k : V G M pc2 ls (II (t a 14) :: st) t Q) : V G M pc ls (RR a :: st) t Q := V_get fwX6 (j := 14) (by decide) (flds_rl (by decide)) (hM ▸ flX6_204) hk hd hp k
theorem pX6_204 (hM : M.1.cls = RX6) (hk : ky a = 6) (hd : decode M.2.1 pc = .ok (.putfield 204, 3)) (hp : pc + 3 = pc2) (k : ∀ u, u = wr t a 14 v → V G M pc2 ls st u Q) : V G M pc ls (II v :: RR a :: st) t Q := V_putX fwX6 tyX6_ok nmX6 (j := 14) (ty := .int) (by decide) rfl rfl (by decide +kernel) (hM ▸ flX6_204) rfl rfl hk hd hp k
theorem flX6_207 : FL RX6 207 (TX6 15).1 (TX6 15).2.1 (TX6 15).2.2.1 := Or.inl (by decide +kernel)
theorem gX6_207 (hM : M.1.cls = RX6) (hk : ky a = 6) (hd : decode M.2.1 pc = .ok (.getfield 207, 3)) (hp : pc + 3 = pc2) (k : V G M pc2 ls (II (t a 15) :: st) t Q) : V G M pc ls (RR a :: st) t Q := V_get fwX6 (j := 15) (by decide) (flds_rl (by decide)) (hM ▸ flX6_207) hk hd hp k
theorem pX6_207 (hM : M.1.cls = RX6) (hv : v = 0 ∨ v = 1) (hk : ky a = 6) (hd : decode M.2.1 pc = .ok (.putfield 207, 3)) (hp : pc + 3 = pc2) (k : ∀ u, u = wr t a 15 v → V G M pc2 ls st u Q) : V G M pc ls (II v :: RR a :: st) t Q := V_putX fwX6 tyX6_ok nmX6 (j := 15) (ty := .boolean) (by decide) rfl rfl (by decide +kernel) (hM ▸ flX6_207) (by rcases hv with rfl | rfl <;> rfl) (by rcases hv with rfl | rfl <;> rfl) hk hd hp k
end LK
def mX0_takeFrom : MI := (yX0_takeFrom, cX0_takeFrom, 2, none, 1)
theorem okX0_takeFrom : OkV mX0_takeFrom 1 0 := ⟨⟨by decide +kernel, by decide +kernel, by decide +kernel, by decide +kernel, by decide⟩, by decide +kernel, by decide +kernel, by decide, by decide +kernel⟩
def mX0_lacks : MI := (yX0_lacks, cX0_lacks, 2, some .boolean, 0)
theorem okX0_lacks : OkV mX0_lacks 1 0 := ⟨⟨by decide +kernel, by decide +kernel, by decide +kernel, by decide +kernel, by decide⟩, by decide +kernel, by decide +kernel, by decide, by decide +kernel⟩
def mX0_add : MI := (yX0_add, cX0_add, 4, none, 1)
theorem okX0_add : OkV mX0_add 3 0 := ⟨⟨by decide +kernel, by decide +kernel, by decide +kernel, by decide +kernel, by decide⟩, by decide +kernel, by decide +kernel, by decide, by decide +kernel⟩
def mX0_arrange : MI := (yX0_arrange, cX0_arrange, 1, none, 2)
theorem okX0_arrange : OkV mX0_arrange 0 0 := ⟨⟨by decide +kernel, by decide +kernel, by decide +kernel, by decide +kernel, by decide⟩, by decide +kernel, by decide +kernel, by decide, by decide +kernel⟩
def mX0_lineAsTheyCome : MI := (yX0_lineAsTheyCome, cX0_lineAsTheyCome, 2, none, 1)
theorem okX0_lineAsTheyCome : OkV mX0_lineAsTheyCome 0 0 := ⟨⟨by decide +kernel, by decide +kernel, by decide +kernel, by decide +kernel, by decide⟩, by decide +kernel, by decide +kernel, by decide, by decide +kernel⟩
def mX0_lineByDays : MI := (yX0_lineByDays, cX0_lineByDays, 3, none, 1)
theorem okX0_lineByDays : OkV mX0_lineByDays 0 0 := ⟨⟨by decide +kernel, by decide +kernel, by decide +kernel, by decide +kernel, by decide⟩, by decide +kernel, by decide +kernel, by decide, by decide +kernel⟩
def mX0_lineMilky : MI := (yX0_lineMilky, cX0_lineMilky, 3, none, 1)
theorem okX0_lineMilky : OkV mX0_lineMilky 1 0 := ⟨⟨by decide +kernel, by decide +kernel, by decide +kernel, by decide +kernel, by decide⟩, by decide +kernel, by decide +kernel, by decide, by decide +kernel⟩
def mX0_lineByTurns : MI := (yX0_lineByTurns, cX0_lineByTurns, 4, none, 1)
theorem okX0_lineByTurns : OkV mX0_lineByTurns 0 0 := ⟨⟨by decide +kernel, by decide +kernel, by decide +kernel, by decide +kernel, by decide⟩, by decide +kernel, by decide +kernel, by decide, by decide +kernel⟩
def mX0_nextOf : MI := (yX0_nextOf, cX0_nextOf, 4, some .int, 0)
theorem okX0_nextOf : OkV mX0_nextOf 2 0 := ⟨⟨by decide +kernel, by decide +kernel, by decide +kernel, by decide +kernel, by decide⟩, by decide +kernel, by decide +kernel, by decide, by decide +kernel⟩
def mX0_lineUp : MI := (yX0_lineUp, cX0_lineUp, 2, none, 0)
theorem okX0_lineUp : OkV mX0_lineUp 1 0 := ⟨⟨by decide +kernel, by decide +kernel, by decide +kernel, by decide +kernel, by decide⟩, by decide +kernel, by decide +kernel, by decide, by decide +kernel⟩
def mX1_takeFrom : MI := (yX1_takeFrom, cX1_takeFrom, 2, none, 1)
theorem okX1_takeFrom : OkV mX1_takeFrom 1 1 := ⟨⟨by decide +kernel, by decide +kernel, by decide +kernel, by decide +kernel, by decide⟩, by decide +kernel, by decide +kernel, by decide, by decide +kernel⟩
def mX1_begin : MI := (yX1_begin, cX1_begin, 3, none, 0)
theorem okX1_begin : OkV mX1_begin 1 1 := ⟨⟨by decide +kernel, by decide +kernel, by decide +kernel, by decide +kernel, by decide⟩, by decide +kernel, by decide +kernel, by decide, by decide +kernel⟩
def mX1_needs : MI := (yX1_needs, cX1_needs, 3, some .int, 0)
theorem okX1_needs : OkV mX1_needs 2 1 := ⟨⟨by decide +kernel, by decide +kernel, by decide +kernel, by decide +kernel, by decide⟩, by decide +kernel, by decide +kernel, by decide, by decide +kernel⟩
def mX1_needsYet : MI := (yX1_needsYet, cX1_needsYet, 3, some .int, 1)
theorem okX1_needsYet : OkV mX1_needsYet 2 1 := ⟨⟨by decide +kernel, by decide +kernel, by decide +kernel, by decide +kernel, by decide⟩, by decide +kernel, by decide +kernel, by decide, by decide +kernel⟩
def mX1_needsYetOf : MI := (yX1_needsYetOf, cX1_needsYetOf, 5, some .int, 2)
theorem okX1_needsYetOf : OkV mX1_needsYetOf 2 1 := ⟨⟨by decide +kernel, by decide +kernel, by decide +kernel, by decide +kernel, by decide⟩, by decide +kernel, by decide +kernel, by decide, by decide +kernel⟩
def mX1_sated : MI := (yX1_sated, cX1_sated, 3, some .boolean, 1)
theorem okX1_sated : OkV mX1_sated 2 1 := ⟨⟨by decide +kernel, by decide +kernel, by decide +kernel, by decide +kernel, by decide⟩, by decide +kernel, by decide +kernel, by decide, by decide +kernel⟩
def mX1_satedSet : MI := (yX1_satedSet, cX1_satedSet, 4, some .int, 2)
theorem okX1_satedSet : OkV mX1_satedSet 1 1 := ⟨⟨by decide +kernel, by decide +kernel, by decide +kernel, by decide +kernel, by decide⟩, by decide +kernel, by decide +kernel, by decide, by decide +kernel⟩
def mX1_allSated : MI := (yX1_allSated, cX1_allSated, 3, some .boolean, 2)
theorem okX1_allSated : OkV mX1_allSated 1 1 := ⟨⟨by decide +kernel, by decide +kernel, by decide +kernel, by decide +kernel, by decide⟩, by decide +kernel, by decide +kernel, by decide, by decide +kernel⟩
def mX1_drunkTogether : MI := (yX1_drunkTogether, cX1_drunkTogether, 3, some .int, 0)
theorem okX1_drunkTogether : OkV mX1_drunkTogether 0 1 := ⟨⟨by decide +kernel, by decide +kernel, by decide +kernel, by decide +kernel, by decide⟩, by decide +kernel, by decide +kernel, by decide, by decide +kernel⟩
def mX1_step : MI := (yX1_step, cX1_step, 7, some .boolean, 3)
theorem okX1_step : OkV mX1_step 2 1 := ⟨⟨by decide +kernel, by decide +kernel, by decide +kernel, by decide +kernel, by decide⟩, by decide +kernel, by decide +kernel, by decide, by decide +kernel⟩
def mX1_anySwollen : MI := (yX1_anySwollen, cX1_anySwollen, 3, some .boolean, 0)
theorem okX1_anySwollen : OkV mX1_anySwollen 1 1 := ⟨⟨by decide +kernel, by decide +kernel, by decide +kernel, by decide +kernel, by decide⟩, by decide +kernel, by decide +kernel, by decide, by decide +kernel⟩
def mX1_drawBucket : MI := (yX1_drawBucket, cX1_drawBucket, 5, some .int, 1)
theorem okX1_drawBucket : OkV mX1_drawBucket 1 1 := ⟨⟨by decide +kernel, by decide +kernel, by decide +kernel, by decide +kernel, by decide⟩, by decide +kernel, by decide +kernel, by decide, by decide +kernel⟩
def mX1_waterBeasts : MI := (yX1_waterBeasts, cX1_waterBeasts, 9, some .int, 2)
theorem okX1_waterBeasts : OkV mX1_waterBeasts 2 1 := ⟨⟨by decide +kernel, by decide +kernel, by decide +kernel, by decide +kernel, by decide⟩, by decide +kernel, by decide +kernel, by decide, by decide +kernel⟩
def mX1_swell : MI := (yX1_swell, cX1_swell, 4, none, 0)
theorem okX1_swell : OkV mX1_swell 3 1 := ⟨⟨by decide +kernel, by decide +kernel, by decide +kernel, by decide +kernel, by decide⟩, by decide +kernel, by decide +kernel, by decide, by decide +kernel⟩
def mX1_ropeBreaks : MI := (yX1_ropeBreaks, cX1_ropeBreaks, 1, some .boolean, 0)
theorem okX1_ropeBreaks : OkV mX1_ropeBreaks 0 1 := ⟨⟨by decide +kernel, by decide +kernel, by decide +kernel, by decide +kernel, by decide⟩, by decide +kernel, by decide +kernel, by decide, by decide +kernel⟩
def mX2_takeFrom : MI := (yX2_takeFrom, cX2_takeFrom, 3, none, 2)
theorem okX2_takeFrom : OkV mX2_takeFrom 1 2 := ⟨⟨by decide +kernel, by decide +kernel, by decide +kernel, by decide +kernel, by decide⟩, by decide +kernel, by decide +kernel, by decide, by decide +kernel⟩
def mX2_forget : MI := (yX2_forget, cX2_forget, 1, none, 0)
theorem okX2_forget : OkV mX2_forget 0 2 := ⟨⟨by decide +kernel, by decide +kernel, by decide +kernel, by decide +kernel, by decide⟩, by decide +kernel, by decide +kernel, by decide, by decide +kernel⟩
def mX2_keep : MI := (yX2_keep, cX2_keep, 2, none, 2)
theorem okX2_keep : OkV mX2_keep 1 2 := ⟨⟨by decide +kernel, by decide +kernel, by decide +kernel, by decide +kernel, by decide⟩, by decide +kernel, by decide +kernel, by decide, by decide +kernel⟩
def mX2_giveBack : MI := (yX2_giveBack, cX2_giveBack, 2, some .boolean, 2)
theorem okX2_giveBack : OkV mX2_giveBack 1 2 := ⟨⟨by decide +kernel, by decide +kernel, by decide +kernel, by decide +kernel, by decide⟩, by decide +kernel, by decide +kernel, by decide, by decide +kernel⟩
def mX3_renew : MI := (yX3_renew, cX3_renew, 4, none, 0)
theorem okX3_renew : OkV mX3_renew 2 3 := ⟨⟨by decide +kernel, by decide +kernel, by decide +kernel, by decide +kernel, by decide⟩, by decide +kernel, by decide +kernel, by decide, by decide +kernel⟩
def mX3_lacks : MI := (yX3_lacks, cX3_lacks, 3, some .boolean, 0)
theorem okX3_lacks : OkV mX3_lacks 2 3 := ⟨⟨by decide +kernel, by decide +kernel, by decide +kernel, by decide +kernel, by decide⟩, by decide +kernel, by decide +kernel, by decide, by decide +kernel⟩
def mX3_refusal : MI := (yX3_refusal, cX3_refusal, 4, some .int, 1)
theorem okX3_refusal : OkV mX3_refusal 3 3 := ⟨⟨by decide +kernel, by decide +kernel, by decide +kernel, by decide +kernel, by decide⟩, by decide +kernel, by decide +kernel, by decide, by decide +kernel⟩
def mX3_put : MI := (yX3_put, cX3_put, 4, none, 0)
theorem okX3_put : OkV mX3_put 2 3 := ⟨⟨by decide +kernel, by decide +kernel, by decide +kernel, by decide +kernel, by decide⟩, by decide +kernel, by decide +kernel, by decide, by decide +kernel⟩
def mX4_put : MI := (yX4_put, cX4_put, 2, some .boolean, 0)
theorem okX4_put : OkV mX4_put 1 4 := ⟨⟨by decide +kernel, by decide +kernel, by decide +kernel, by decide +kernel, by decide⟩, by decide +kernel, by decide +kernel, by decide, by decide +kernel⟩
def mX4_readInto : MI := (yX4_readInto, cX4_readInto, 2, some .int, 4)
theorem okX4_readInto : OkV mX4_readInto 1 4 := ⟨⟨by decide +kernel, by decide +kernel, by decide +kernel, by decide +kernel, by decide⟩, by decide +kernel, by decide +kernel, by decide, by decide +kernel⟩
def mX4_readWell : MI := (yX4_readWell, cX4_readWell, 2, some .boolean, 2)
theorem okX4_readWell : OkV mX4_readWell 1 4 := ⟨⟨by decide +kernel, by decide +kernel, by decide +kernel, by decide +kernel, by decide⟩, by decide +kernel, by decide +kernel, by decide, by decide +kernel⟩
def mX4_readBeasts : MI := (yX4_readBeasts, cX4_readBeasts, 4, some .boolean, 3)
theorem okX4_readBeasts : OkV mX4_readBeasts 1 4 := ⟨⟨by decide +kernel, by decide +kernel, by decide +kernel, by decide +kernel, by decide⟩, by decide +kernel, by decide +kernel, by decide, by decide +kernel⟩
def mX4_readBeast : MI := (yX4_readBeast, cX4_readBeast, 4, some .boolean, 2)
theorem okX4_readBeast : OkV mX4_readBeast 1 4 := ⟨⟨by decide +kernel, by decide +kernel, by decide +kernel, by decide +kernel, by decide⟩, by decide +kernel, by decide +kernel, by decide, by decide +kernel⟩
def mX4_kindOf : MI := (yX4_kindOf, cX4_kindOf, 2, some .int, 0)
theorem okX4_kindOf : OkV mX4_kindOf 1 4 := ⟨⟨by decide +kernel, by decide +kernel, by decide +kernel, by decide +kernel, by decide⟩, by decide +kernel, by decide +kernel, by decide, by decide +kernel⟩
def mX4_readNumber : MI := (yX4_readNumber, cX4_readNumber, 4, some .int, 1)
theorem okX4_readNumber : OkV mX4_readNumber 1 4 := ⟨⟨by decide +kernel, by decide +kernel, by decide +kernel, by decide +kernel, by decide⟩, by decide +kernel, by decide +kernel, by decide, by decide +kernel⟩
def mX4_digit : MI := (yX4_digit, cX4_digit, 2, some .boolean, 0)
theorem okX4_digit : OkV mX4_digit 1 4 := ⟨⟨by decide +kernel, by decide +kernel, by decide +kernel, by decide +kernel, by decide⟩, by decide +kernel, by decide +kernel, by decide, by decide +kernel⟩
def mX4_pass : MI := (yX4_pass, cX4_pass, 2, some .boolean, 1)
theorem okX4_pass : OkV mX4_pass 1 4 := ⟨⟨by decide +kernel, by decide +kernel, by decide +kernel, by decide +kernel, by decide⟩, by decide +kernel, by decide +kernel, by decide, by decide +kernel⟩
def mX4_ahead : MI := (yX4_ahead, cX4_ahead, 1, some .int, 0)
theorem okX4_ahead : OkV mX4_ahead 0 4 := ⟨⟨by decide +kernel, by decide +kernel, by decide +kernel, by decide +kernel, by decide⟩, by decide +kernel, by decide +kernel, by decide, by decide +kernel⟩
def mX5_beast : MI := (yX5_beast, cX5_beast, 4, some .int, 2)
theorem okX5_beast : OkV mX5_beast 3 5 := ⟨⟨by decide +kernel, by decide +kernel, by decide +kernel, by decide +kernel, by decide⟩, by decide +kernel, by decide +kernel, by decide, by decide +kernel⟩
def mX5_of : MI := (yX5_of, cX5_of, 3, some .int, 2)
theorem okX5_of : OkV mX5_of 2 5 := ⟨⟨by decide +kernel, by decide +kernel, by decide +kernel, by decide +kernel, by decide⟩, by decide +kernel, by decide +kernel, by decide, by decide +kernel⟩
def mX5_well : MI := (yX5_well, cX5_well, 4, some .int, 1)
theorem okX5_well : OkV mX5_well 2 5 := ⟨⟨by decide +kernel, by decide +kernel, by decide +kernel, by decide +kernel, by decide⟩, by decide +kernel, by decide +kernel, by decide, by decide +kernel⟩
def mX5_pull : MI := (yX5_pull, cX5_pull, 3, some .int, 1)
theorem okX5_pull : OkV mX5_pull 1 5 := ⟨⟨by decide +kernel, by decide +kernel, by decide +kernel, by decide +kernel, by decide⟩, by decide +kernel, by decide +kernel, by decide, by decide +kernel⟩
def mX5_turn : MI := (yX5_turn, cX5_turn, 2, some .int, 3)
theorem okX5_turn : OkV mX5_turn 1 5 := ⟨⟨by decide +kernel, by decide +kernel, by decide +kernel, by decide +kernel, by decide⟩, by decide +kernel, by decide +kernel, by decide, by decide +kernel⟩
def mX5_type : MI := (yX5_type, cX5_type, 2, some .int, 1)
theorem okX5_type : OkV mX5_type 1 5 := ⟨⟨by decide +kernel, by decide +kernel, by decide +kernel, by decide +kernel, by decide⟩, by decide +kernel, by decide +kernel, by decide, by decide +kernel⟩
def mX5_caravan : MI := (yX5_caravan, cX5_caravan, 2, some .int, 5)
theorem okX5_caravan : OkV mX5_caravan 0 5 := ⟨⟨by decide +kernel, by decide +kernel, by decide +kernel, by decide +kernel, by decide⟩, by decide +kernel, by decide +kernel, by decide, by decide +kernel⟩
def mX5_count : MI := (yX5_count, cX5_count, 2, some .int, 3)
theorem okX5_count : OkV mX5_count 1 5 := ⟨⟨by decide +kernel, by decide +kernel, by decide +kernel, by decide +kernel, by decide⟩, by decide +kernel, by decide +kernel, by decide, by decide +kernel⟩
def mX5_measure : MI := (yX5_measure, cX5_measure, 2, some .int, 0)
theorem okX5_measure : OkV mX5_measure 1 5 := ⟨⟨by decide +kernel, by decide +kernel, by decide +kernel, by decide +kernel, by decide⟩, by decide +kernel, by decide +kernel, by decide, by decide +kernel⟩
def mX5_minutes : MI := (yX5_minutes, cX5_minutes, 5, some .int, 4)
theorem okX5_minutes : OkV mX5_minutes 1 5 := ⟨⟨by decide +kernel, by decide +kernel, by decide +kernel, by decide +kernel, by decide⟩, by decide +kernel, by decide +kernel, by decide, by decide +kernel⟩
def mX5_drift : MI := (yX5_drift, cX5_drift, 6, some .int, 4)
theorem okX5_drift : OkV mX5_drift 1 5 := ⟨⟨by decide +kernel, by decide +kernel, by decide +kernel, by decide +kernel, by decide⟩, by decide +kernel, by decide +kernel, by decide, by decide +kernel⟩
def mX5_refusal : MI := (yX5_refusal, cX5_refusal, 2, some .int, 1)
theorem okX5_refusal : OkV mX5_refusal 1 5 := ⟨⟨by decide +kernel, by decide +kernel, by decide +kernel, by decide +kernel, by decide⟩, by decide +kernel, by decide +kernel, by decide, by decide +kernel⟩
def mX5_undo : MI := (yX5_undo, cX5_undo, 1, some .int, 3)
theorem okX5_undo : OkV mX5_undo 0 5 := ⟨⟨by decide +kernel, by decide +kernel, by decide +kernel, by decide +kernel, by decide⟩, by decide +kernel, by decide +kernel, by decide, by decide +kernel⟩
def mX5_seed : MI := (yX5_seed, cX5_seed, 3, some .int, 0)
theorem okX5_seed : OkV mX5_seed 1 5 := ⟨⟨by decide +kernel, by decide +kernel, by decide +kernel, by decide +kernel, by decide⟩, by decide +kernel, by decide +kernel, by decide, by decide +kernel⟩
def mX5_water : MI := (yX5_water, cX5_water, 2, some .int, 5)
theorem okX5_water : OkV mX5_water 1 5 := ⟨⟨by decide +kernel, by decide +kernel, by decide +kernel, by decide +kernel, by decide⟩, by decide +kernel, by decide +kernel, by decide, by decide +kernel⟩
def mX5_done : MI := (yX5_done, cX5_done, 2, some .int, 5)
theorem okX5_done : OkV mX5_done 1 5 := ⟨⟨by decide +kernel, by decide +kernel, by decide +kernel, by decide +kernel, by decide⟩, by decide +kernel, by decide +kernel, by decide, by decide +kernel⟩
def mX5_all : MI := (yX5_all, cX5_all, 1, some .int, 5)
theorem okX5_all : OkV mX5_all 0 5 := ⟨⟨by decide +kernel, by decide +kernel, by decide +kernel, by decide +kernel, by decide⟩, by decide +kernel, by decide +kernel, by decide, by decide +kernel⟩
def mX5_height : MI := (yX5_height, cX5_height, 6, some .int, 5)
theorem okX5_height : OkV mX5_height 1 5 := ⟨⟨by decide +kernel, by decide +kernel, by decide +kernel, by decide +kernel, by decide⟩, by decide +kernel, by decide +kernel, by decide, by decide +kernel⟩
def mX5_pulls : MI := (yX5_pulls, cX5_pulls, 6, some .int, 5)
theorem okX5_pulls : OkV mX5_pulls 1 5 := ⟨⟨by decide +kernel, by decide +kernel, by decide +kernel, by decide +kernel, by decide⟩, by decide +kernel, by decide +kernel, by decide, by decide +kernel⟩
def mX5_waits : MI := (yX5_waits, cX5_waits, 3, some .int, 5)
theorem okX5_waits : OkV mX5_waits 2 5 := ⟨⟨by decide +kernel, by decide +kernel, by decide +kernel, by decide +kernel, by decide⟩, by decide +kernel, by decide +kernel, by decide, by decide +kernel⟩
def mX5_least : MI := (yX5_least, cX5_least, 2, some .int, 6)
theorem okX5_least : OkV mX5_least 1 5 := ⟨⟨by decide +kernel, by decide +kernel, by decide +kernel, by decide +kernel, by decide⟩, by decide +kernel, by decide +kernel, by decide, by decide +kernel⟩
def mX5_both : MI := (yX5_both, cX5_both, 2, some .int, 6)
theorem okX5_both : OkV mX5_both 1 5 := ⟨⟨by decide +kernel, by decide +kernel, by decide +kernel, by decide +kernel, by decide⟩, by decide +kernel, by decide +kernel, by decide, by decide +kernel⟩
def mX5_wholly : MI := (yX5_wholly, cX5_wholly, 8, some .int, 5)
theorem okX5_wholly : OkV mX5_wholly 2 5 := ⟨⟨by decide +kernel, by decide +kernel, by decide +kernel, by decide +kernel, by decide⟩, by decide +kernel, by decide +kernel, by decide, by decide +kernel⟩
def mX5_drank : MI := (yX5_drank, cX5_drank, 6, some .int, 3)
theorem okX5_drank : OkV mX5_drank 2 5 := ⟨⟨by decide +kernel, by decide +kernel, by decide +kernel, by decide +kernel, by decide⟩, by decide +kernel, by decide +kernel, by decide, by decide +kernel⟩
def mX5_holds : MI := (yX5_holds, cX5_holds, 5, some .int, 1)
theorem okX5_holds : OkV mX5_holds 1 5 := ⟨⟨by decide +kernel, by decide +kernel, by decide +kernel, by decide +kernel, by decide⟩, by decide +kernel, by decide +kernel, by decide, by decide +kernel⟩
def mX5_image : MI := (yX5_image, cX5_image, 1, some .int, 3)
theorem okX5_image : OkV mX5_image 0 5 := ⟨⟨by decide +kernel, by decide +kernel, by decide +kernel, by decide +kernel, by decide⟩, by decide +kernel, by decide +kernel, by decide, by decide +kernel⟩
def mX5_restore : MI := (yX5_restore, cX5_restore, 1, some .int, 3)
theorem okX5_restore : OkV mX5_restore 0 5 := ⟨⟨by decide +kernel, by decide +kernel, by decide +kernel, by decide +kernel, by decide⟩, by decide +kernel, by decide +kernel, by decide, by decide +kernel⟩
def mX5_foretell : MI := (yX5_foretell, cX5_foretell, 1, none, 3)
theorem okX5_foretell : OkV mX5_foretell 0 5 := ⟨⟨by decide +kernel, by decide +kernel, by decide +kernel, by decide +kernel, by decide⟩, by decide +kernel, by decide +kernel, by decide, by decide +kernel⟩
def mX5_play : MI := (yX5_play, cX5_play, 5, none, 4)
theorem okX5_play : OkV mX5_play 2 5 := ⟨⟨by decide +kernel, by decide +kernel, by decide +kernel, by decide +kernel, by decide⟩, by decide +kernel, by decide +kernel, by decide, by decide +kernel⟩
def mX5_soonestAll : MI := (yX5_soonestAll, cX5_soonestAll, 4, some .int, 4)
theorem okX5_soonestAll : OkV mX5_soonestAll 1 5 := ⟨⟨by decide +kernel, by decide +kernel, by decide +kernel, by decide +kernel, by decide⟩, by decide +kernel, by decide +kernel, by decide, by decide +kernel⟩
def mX5_foretellDone : MI := (yX5_foretellDone, cX5_foretellDone, 4, none, 4)
theorem okX5_foretellDone : OkV mX5_foretellDone 1 5 := ⟨⟨by decide +kernel, by decide +kernel, by decide +kernel, by decide +kernel, by decide⟩, by decide +kernel, by decide +kernel, by decide, by decide +kernel⟩
def mX5_markDone : MI := (yX5_markDone, cX5_markDone, 3, none, 2)
theorem okX5_markDone : OkV mX5_markDone 1 5 := ⟨⟨by decide +kernel, by decide +kernel, by decide +kernel, by decide +kernel, by decide⟩, by decide +kernel, by decide +kernel, by decide, by decide +kernel⟩
def mX5_herdWaits : MI := (yX5_herdWaits, cX5_herdWaits, 4, some .int, 0)
theorem okX5_herdWaits : OkV mX5_herdWaits 1 5 := ⟨⟨by decide +kernel, by decide +kernel, by decide +kernel, by decide +kernel, by decide⟩, by decide +kernel, by decide +kernel, by decide, by decide +kernel⟩
def mX5_bestLaw : MI := (yX5_bestLaw, cX5_bestLaw, 9, some .int, 5)
theorem okX5_bestLaw : OkV mX5_bestLaw 2 5 := ⟨⟨by decide +kernel, by decide +kernel, by decide +kernel, by decide +kernel, by decide⟩, by decide +kernel, by decide +kernel, by decide, by decide +kernel⟩
def mX5_buckets : MI := (yX5_buckets, cX5_buckets, 8, some .int, 5)
theorem okX5_buckets : OkV mX5_buckets 4 5 := ⟨⟨by decide +kernel, by decide +kernel, by decide +kernel, by decide +kernel, by decide⟩, by decide +kernel, by decide +kernel, by decide, by decide +kernel⟩
def mX5_readSeen : MI := (yX5_readSeen, cX5_readSeen, 9, some .boolean, 0)
theorem okX5_readSeen : OkV mX5_readSeen 3 5 := ⟨⟨by decide +kernel, by decide +kernel, by decide +kernel, by decide +kernel, by decide⟩, by decide +kernel, by decide +kernel, by decide, by decide +kernel⟩
def mX5_wouldBeSeen : MI := (yX5_wouldBeSeen, cX5_wouldBeSeen, 6, some .boolean, 4)
theorem okX5_wouldBeSeen : OkV mX5_wouldBeSeen 2 5 := ⟨⟨by decide +kernel, by decide +kernel, by decide +kernel, by decide +kernel, by decide⟩, by decide +kernel, by decide +kernel, by decide, by decide +kernel⟩
def mX5_film : MI := (yX5_film, cX5_film, 7, some .int, 4)
theorem okX5_film : OkV mX5_film 4 5 := ⟨⟨by decide +kernel, by decide +kernel, by decide +kernel, by decide +kernel, by decide⟩, by decide +kernel, by decide +kernel, by decide, by decide +kernel⟩
def mX5_sheet : MI := (yX5_sheet, cX5_sheet, 4, some .int, 2)
theorem okX5_sheet : OkV mX5_sheet 3 5 := ⟨⟨by decide +kernel, by decide +kernel, by decide +kernel, by decide +kernel, by decide⟩, by decide +kernel, by decide +kernel, by decide, by decide +kernel⟩
def mX5_drop : MI := (yX5_drop, cX5_drop, 3, some .int, 2)
theorem okX5_drop : OkV mX5_drop 1 5 := ⟨⟨by decide +kernel, by decide +kernel, by decide +kernel, by decide +kernel, by decide⟩, by decide +kernel, by decide +kernel, by decide, by decide +kernel⟩
def mX5_item : MI := (yX5_item, cX5_item, 7, some .int, 2)
theorem okX5_item : OkV mX5_item 4 5 := ⟨⟨by decide +kernel, by decide +kernel, by decide +kernel, by decide +kernel, by decide⟩, by decide +kernel, by decide +kernel, by decide, by decide +kernel⟩
def mX5_copy : MI := (yX5_copy, cX5_copy, 8, some .int, 2)
theorem okX5_copy : OkV mX5_copy 5 5 := ⟨⟨by decide +kernel, by decide +kernel, by decide +kernel, by decide +kernel, by decide⟩, by decide +kernel, by decide +kernel, by decide, by decide +kernel⟩
def mX5_noSheet : MI := (yX5_noSheet, cX5_noSheet, 1, some .boolean, 1)
theorem okX5_noSheet : OkS mX5_noSheet 1 := ⟨⟨by decide +kernel, by decide +kernel, by decide +kernel, by decide +kernel, by decide⟩, by decide +kernel⟩
def mX5_outside : MI := (yX5_outside, cX5_outside, 3, some .boolean, 0)
theorem okX5_outside : OkS mX5_outside 3 := ⟨⟨by decide +kernel, by decide +kernel, by decide +kernel, by decide +kernel, by decide⟩, by decide +kernel⟩
def mX5_milky : MI := (yX5_milky, cX5_milky, 1, some .boolean, 0)
theorem okX5_milky : OkS mX5_milky 1 := ⟨⟨by decide +kernel, by decide +kernel, by decide +kernel, by decide +kernel, by decide⟩, by decide +kernel⟩
def mX5_gulp : MI := (yX5_gulp, cX5_gulp, 1, some .int, 0)
theorem okX5_gulp : OkS mX5_gulp 1 := ⟨⟨by decide +kernel, by decide +kernel, by decide +kernel, by decide +kernel, by decide⟩, by decide +kernel⟩
def mX6_in : MI := (yX6_in, cX6_in, 6, some .boolean, 0)
theorem okX6_in : OkS mX6_in 3 := ⟨⟨by decide +kernel, by decide +kernel, by decide +kernel, by decide +kernel, by decide⟩, by decide +kernel⟩
def mX6_isBeast : MI := (yX6_isBeast, cX6_isBeast, 2, some .boolean, 1)
theorem okX6_isBeast : OkV mX6_isBeast 1 6 := ⟨⟨by decide +kernel, by decide +kernel, by decide +kernel, by decide +kernel, by decide⟩, by decide +kernel, by decide +kernel, by decide, by decide +kernel⟩
def mX6_at : MI := (yX6_at, cX6_at, 3, some .int, 0)
theorem okX6_at : OkV mX6_at 2 6 := ⟨⟨by decide +kernel, by decide +kernel, by decide +kernel, by decide +kernel, by decide⟩, by decide +kernel, by decide +kernel, by decide, by decide +kernel⟩
def mX6_isMilk : MI := (yX6_isMilk, cX6_isMilk, 2, some .boolean, 1)
theorem okX6_isMilk : OkV mX6_isMilk 1 6 := ⟨⟨by decide +kernel, by decide +kernel, by decide +kernel, by decide +kernel, by decide⟩, by decide +kernel, by decide +kernel, by decide, by decide +kernel⟩
def mX6_needs : MI := (yX6_needs, cX6_needs, 2, some .int, 2)
theorem okX6_needs : OkV mX6_needs 1 6 := ⟨⟨by decide +kernel, by decide +kernel, by decide +kernel, by decide +kernel, by decide⟩, by decide +kernel, by decide +kernel, by decide, by decide +kernel⟩
def mX6_drinks : MI := (yX6_drinks, cX6_drinks, 2, some .int, 1)
theorem okX6_drinks : OkV mX6_drinks 1 6 := ⟨⟨by decide +kernel, by decide +kernel, by decide +kernel, by decide +kernel, by decide⟩, by decide +kernel, by decide +kernel, by decide, by decide +kernel⟩
def mX6_isSated : MI := (yX6_isSated, cX6_isSated, 2, some .boolean, 3)
theorem okX6_isSated : OkV mX6_isSated 1 6 := ⟨⟨by decide +kernel, by decide +kernel, by decide +kernel, by decide +kernel, by decide⟩, by decide +kernel, by decide +kernel, by decide, by decide +kernel⟩
def mX6_sated : MI := (yX6_sated, cX6_sated, 3, some .int, 4)
theorem okX6_sated : OkV mX6_sated 0 6 := ⟨⟨by decide +kernel, by decide +kernel, by decide +kernel, by decide +kernel, by decide⟩, by decide +kernel, by decide +kernel, by decide, by decide +kernel⟩
def mX6_beast : MI := (yX6_beast, cX6_beast, 6, some .int, 1)
theorem okX6_beast : OkV mX6_beast 3 6 := ⟨⟨by decide +kernel, by decide +kernel, by decide +kernel, by decide +kernel, by decide⟩, by decide +kernel, by decide +kernel, by decide, by decide +kernel⟩
def mX6_of : MI := (yX6_of, cX6_of, 3, some .int, 4)
theorem okX6_of : OkV mX6_of 2 6 := ⟨⟨by decide +kernel, by decide +kernel, by decide +kernel, by decide +kernel, by decide⟩, by decide +kernel, by decide +kernel, by decide, by decide +kernel⟩
def mX6_low : MI := (yX6_low, cX6_low, 1, some .int, 0)
theorem okX6_low : OkS mX6_low 1 := ⟨⟨by decide +kernel, by decide +kernel, by decide +kernel, by decide +kernel, by decide⟩, by decide +kernel⟩
def mX6_high : MI := (yX6_high, cX6_high, 1, some .int, 0)
theorem okX6_high : OkS mX6_high 1 := ⟨⟨by decide +kernel, by decide +kernel, by decide +kernel, by decide +kernel, by decide⟩, by decide +kernel⟩
def mX6_well : MI := (yX6_well, cX6_well, 4, some .int, 1)
theorem okX6_well : OkV mX6_well 2 6 := ⟨⟨by decide +kernel, by decide +kernel, by decide +kernel, by decide +kernel, by decide⟩, by decide +kernel, by decide +kernel, by decide, by decide +kernel⟩
def mX6_pull : MI := (yX6_pull, cX6_pull, 3, some .int, 2)
theorem okX6_pull : OkV mX6_pull 1 6 := ⟨⟨by decide +kernel, by decide +kernel, by decide +kernel, by decide +kernel, by decide⟩, by decide +kernel, by decide +kernel, by decide, by decide +kernel⟩
def mX6_isAhead : MI := (yX6_isAhead, cX6_isAhead, 6, some .boolean, 2)
theorem okX6_isAhead : OkV mX6_isAhead 3 6 := ⟨⟨by decide +kernel, by decide +kernel, by decide +kernel, by decide +kernel, by decide⟩, by decide +kernel, by decide +kernel, by decide, by decide +kernel⟩
def mX6_among : MI := (yX6_among, cX6_among, 4, some .int, 1)
theorem okX6_among : OkV mX6_among 1 6 := ⟨⟨by decide +kernel, by decide +kernel, by decide +kernel, by decide +kernel, by decide⟩, by decide +kernel, by decide +kernel, by decide, by decide +kernel⟩
def mX6_orders : MI := (yX6_orders, cX6_orders, 5, none, 3)
theorem okX6_orders : OkV mX6_orders 1 6 := ⟨⟨by decide +kernel, by decide +kernel, by decide +kernel, by decide +kernel, by decide⟩, by decide +kernel, by decide +kernel, by decide, by decide +kernel⟩
def mX6_turn : MI := (yX6_turn, cX6_turn, 2, some .int, 4)
theorem okX6_turn : OkV mX6_turn 1 6 := ⟨⟨by decide +kernel, by decide +kernel, by decide +kernel, by decide +kernel, by decide⟩, by decide +kernel, by decide +kernel, by decide, by decide +kernel⟩
def mX6_draws : MI := (yX6_draws, cX6_draws, 6, none, 0)
theorem okX6_draws : OkV mX6_draws 1 6 := ⟨⟨by decide +kernel, by decide +kernel, by decide +kernel, by decide +kernel, by decide⟩, by decide +kernel, by decide +kernel, by decide, by decide +kernel⟩
def mX6_drinksOf : MI := (yX6_drinksOf, cX6_drinksOf, 4, some .int, 3)
theorem okX6_drinksOf : OkV mX6_drinksOf 1 6 := ⟨⟨by decide +kernel, by decide +kernel, by decide +kernel, by decide +kernel, by decide⟩, by decide +kernel, by decide +kernel, by decide, by decide +kernel⟩
def mX6_goes : MI := (yX6_goes, cX6_goes, 9, some .int, 4)
theorem okX6_goes : OkV mX6_goes 2 6 := ⟨⟨by decide +kernel, by decide +kernel, by decide +kernel, by decide +kernel, by decide⟩, by decide +kernel, by decide +kernel, by decide, by decide +kernel⟩
def mX6_notes : MI := (yX6_notes, cX6_notes, 2, none, 0)
theorem okX6_notes : OkV mX6_notes 0 6 := ⟨⟨by decide +kernel, by decide +kernel, by decide +kernel, by decide +kernel, by decide⟩, by decide +kernel, by decide +kernel, by decide, by decide +kernel⟩
def mX6_gone : MI := (yX6_gone, cX6_gone, 5, some .int, 5)
theorem okX6_gone : OkV mX6_gone 2 6 := ⟨⟨by decide +kernel, by decide +kernel, by decide +kernel, by decide +kernel, by decide⟩, by decide +kernel, by decide +kernel, by decide, by decide +kernel⟩
def mX6_minutes : MI := (yX6_minutes, cX6_minutes, 2, some .int, 6)
theorem okX6_minutes : OkV mX6_minutes 1 6 := ⟨⟨by decide +kernel, by decide +kernel, by decide +kernel, by decide +kernel, by decide⟩, by decide +kernel, by decide +kernel, by decide, by decide +kernel⟩
def mX6_drift : MI := (yX6_drift, cX6_drift, 2, some .int, 6)
theorem okX6_drift : OkV mX6_drift 1 6 := ⟨⟨by decide +kernel, by decide +kernel, by decide +kernel, by decide +kernel, by decide⟩, by decide +kernel, by decide +kernel, by decide, by decide +kernel⟩
def mX6_undo : MI := (yX6_undo, cX6_undo, 4, some .int, 0)
theorem okX6_undo : OkV mX6_undo 0 6 := ⟨⟨by decide +kernel, by decide +kernel, by decide +kernel, by decide +kernel, by decide⟩, by decide +kernel, by decide +kernel, by decide, by decide +kernel⟩
def mX6_seed : MI := (yX6_seed, cX6_seed, 3, some .int, 0)
theorem okX6_seed : OkV mX6_seed 1 6 := ⟨⟨by decide +kernel, by decide +kernel, by decide +kernel, by decide +kernel, by decide⟩, by decide +kernel, by decide +kernel, by decide, by decide +kernel⟩
def mX6_count : MI := (yX6_count, cX6_count, 4, some .int, 5)
theorem okX6_count : OkV mX6_count 1 6 := ⟨⟨by decide +kernel, by decide +kernel, by decide +kernel, by decide +kernel, by decide⟩, by decide +kernel, by decide +kernel, by decide, by decide +kernel⟩
def mX6_asides : MI := (yX6_asides, cX6_asides, 2, none, 0)
theorem okX6_asides : OkV mX6_asides 0 6 := ⟨⟨by decide +kernel, by decide +kernel, by decide +kernel, by decide +kernel, by decide⟩, by decide +kernel, by decide +kernel, by decide, by decide +kernel⟩
def mX6_backs : MI := (yX6_backs, cX6_backs, 2, none, 0)
theorem okX6_backs : OkV mX6_backs 0 6 := ⟨⟨by decide +kernel, by decide +kernel, by decide +kernel, by decide +kernel, by decide⟩, by decide +kernel, by decide +kernel, by decide, by decide +kernel⟩
def mX6_water : MI := (yX6_water, cX6_water, 3, some .int, 5)
theorem okX6_water : OkV mX6_water 1 6 := ⟨⟨by decide +kernel, by decide +kernel, by decide +kernel, by decide +kernel, by decide⟩, by decide +kernel, by decide +kernel, by decide, by decide +kernel⟩
def mX6_goesOn : MI := (yX6_goesOn, cX6_goesOn, 5, some .int, 5)
theorem okX6_goesOn : OkV mX6_goesOn 1 6 := ⟨⟨by decide +kernel, by decide +kernel, by decide +kernel, by decide +kernel, by decide⟩, by decide +kernel, by decide +kernel, by decide, by decide +kernel⟩
def mX6_others : MI := (yX6_others, cX6_others, 2, some .int, 0)
theorem okX6_others : OkV mX6_others 0 6 := ⟨⟨by decide +kernel, by decide +kernel, by decide +kernel, by decide +kernel, by decide⟩, by decide +kernel, by decide +kernel, by decide, by decide +kernel⟩
def mX6_done : MI := (yX6_done, cX6_done, 2, some .int, 6)
theorem okX6_done : OkV mX6_done 1 6 := ⟨⟨by decide +kernel, by decide +kernel, by decide +kernel, by decide +kernel, by decide⟩, by decide +kernel, by decide +kernel, by decide, by decide +kernel⟩
def mX6_all : MI := (yX6_all, cX6_all, 1, some .int, 6)
theorem okX6_all : OkV mX6_all 0 6 := ⟨⟨by decide +kernel, by decide +kernel, by decide +kernel, by decide +kernel, by decide⟩, by decide +kernel, by decide +kernel, by decide, by decide +kernel⟩
def mX6_height : MI := (yX6_height, cX6_height, 7, some .int, 6)
theorem okX6_height : OkV mX6_height 1 6 := ⟨⟨by decide +kernel, by decide +kernel, by decide +kernel, by decide +kernel, by decide⟩, by decide +kernel, by decide +kernel, by decide, by decide +kernel⟩
def mX6_pulls : MI := (yX6_pulls, cX6_pulls, 7, some .int, 6)
theorem okX6_pulls : OkV mX6_pulls 1 6 := ⟨⟨by decide +kernel, by decide +kernel, by decide +kernel, by decide +kernel, by decide⟩, by decide +kernel, by decide +kernel, by decide, by decide +kernel⟩
def mX6_waitsOf : MI := (yX6_waitsOf, cX6_waitsOf, 6, some .int, 6)
theorem okX6_waitsOf : OkV mX6_waitsOf 2 6 := ⟨⟨by decide +kernel, by decide +kernel, by decide +kernel, by decide +kernel, by decide⟩, by decide +kernel, by decide +kernel, by decide, by decide +kernel⟩
def mX6_waits : MI := (yX6_waits, cX6_waits, 3, some .int, 7)
theorem okX6_waits : OkV mX6_waits 2 6 := ⟨⟨by decide +kernel, by decide +kernel, by decide +kernel, by decide +kernel, by decide⟩, by decide +kernel, by decide +kernel, by decide, by decide +kernel⟩
def mX6_lawBy : MI := (yX6_lawBy, cX6_lawBy, 10, some .int, 7)
theorem okX6_lawBy : OkV mX6_lawBy 2 6 := ⟨⟨by decide +kernel, by decide +kernel, by decide +kernel, by decide +kernel, by decide⟩, by decide +kernel, by decide +kernel, by decide, by decide +kernel⟩
def mX6_least : MI := (yX6_least, cX6_least, 2, some .int, 8)
theorem okX6_least : OkV mX6_least 1 6 := ⟨⟨by decide +kernel, by decide +kernel, by decide +kernel, by decide +kernel, by decide⟩, by decide +kernel, by decide +kernel, by decide, by decide +kernel⟩
def mX6_both : MI := (yX6_both, cX6_both, 2, some .int, 8)
theorem okX6_both : OkV mX6_both 1 6 := ⟨⟨by decide +kernel, by decide +kernel, by decide +kernel, by decide +kernel, by decide⟩, by decide +kernel, by decide +kernel, by decide, by decide +kernel⟩
def mX6_many : MI := (yX6_many, cX6_many, 3, some .int, 0)
theorem okX6_many : OkS mX6_many 1 := ⟨⟨by decide +kernel, by decide +kernel, by decide +kernel, by decide +kernel, by decide⟩, by decide +kernel⟩
def mX6_wholly : MI := (yX6_wholly, cX6_wholly, 8, some .int, 5)
theorem okX6_wholly : OkV mX6_wholly 2 6 := ⟨⟨by decide +kernel, by decide +kernel, by decide +kernel, by decide +kernel, by decide⟩, by decide +kernel, by decide +kernel, by decide, by decide +kernel⟩
def mX6_drank : MI := (yX6_drank, cX6_drank, 8, some .int, 4)
theorem okX6_drank : OkV mX6_drank 2 6 := ⟨⟨by decide +kernel, by decide +kernel, by decide +kernel, by decide +kernel, by decide⟩, by decide +kernel, by decide +kernel, by decide, by decide +kernel⟩
def mX6_holds : MI := (yX6_holds, cX6_holds, 5, some .int, 1)
theorem okX6_holds : OkV mX6_holds 1 6 := ⟨⟨by decide +kernel, by decide +kernel, by decide +kernel, by decide +kernel, by decide⟩, by decide +kernel, by decide +kernel, by decide, by decide +kernel⟩
def mX6_type : MI := (yX6_type, cX6_type, 2, some .int, 1)
theorem okX6_type : OkV mX6_type 1 6 := ⟨⟨by decide +kernel, by decide +kernel, by decide +kernel, by decide +kernel, by decide⟩, by decide +kernel, by decide +kernel, by decide, by decide +kernel⟩
def mX6_here : MI := (yX6_here, cX6_here, 1, some .int, 0)
theorem okX6_here : OkV mX6_here 0 6 := ⟨⟨by decide +kernel, by decide +kernel, by decide +kernel, by decide +kernel, by decide⟩, by decide +kernel, by decide +kernel, by decide, by decide +kernel⟩
def mX6_must : MI := (yX6_must, cX6_must, 2, none, 0)
theorem okX6_must : OkV mX6_must 1 6 := ⟨⟨by decide +kernel, by decide +kernel, by decide +kernel, by decide +kernel, by decide⟩, by decide +kernel, by decide +kernel, by decide, by decide +kernel⟩
def mX6_isDigit : MI := (yX6_isDigit, cX6_isDigit, 1, some .boolean, 1)
theorem okX6_isDigit : OkS mX6_isDigit 1 := ⟨⟨by decide +kernel, by decide +kernel, by decide +kernel, by decide +kernel, by decide⟩, by decide +kernel⟩
def mX6_takes : MI := (yX6_takes, cX6_takes, 2, none, 1)
theorem okX6_takes : OkV mX6_takes 1 6 := ⟨⟨by decide +kernel, by decide +kernel, by decide +kernel, by decide +kernel, by decide⟩, by decide +kernel, by decide +kernel, by decide, by decide +kernel⟩
def mX6_number : MI := (yX6_number, cX6_number, 4, some .int, 2)
theorem okX6_number : OkV mX6_number 1 6 := ⟨⟨by decide +kernel, by decide +kernel, by decide +kernel, by decide +kernel, by decide⟩, by decide +kernel, by decide +kernel, by decide, by decide +kernel⟩
def mX6_readBeast : MI := (yX6_readBeast, cX6_readBeast, 4, none, 1)
theorem okX6_readBeast : OkV mX6_readBeast 1 6 := ⟨⟨by decide +kernel, by decide +kernel, by decide +kernel, by decide +kernel, by decide⟩, by decide +kernel, by decide +kernel, by decide, by decide +kernel⟩
def mX6_caravan : MI := (yX6_caravan, cX6_caravan, 6, some .int, 3)
theorem okX6_caravan : OkV mX6_caravan 0 6 := ⟨⟨by decide +kernel, by decide +kernel, by decide +kernel, by decide +kernel, by decide⟩, by decide +kernel, by decide +kernel, by decide, by decide +kernel⟩
def mX6_image : MI := (yX6_image, cX6_image, 2, some .int, 0)
theorem okX6_image : OkV mX6_image 0 6 := ⟨⟨by decide +kernel, by decide +kernel, by decide +kernel, by decide +kernel, by decide⟩, by decide +kernel, by decide +kernel, by decide, by decide +kernel⟩
def mX6_restore : MI := (yX6_restore, cX6_restore, 2, some .int, 0)
theorem okX6_restore : OkV mX6_restore 0 6 := ⟨⟨by decide +kernel, by decide +kernel, by decide +kernel, by decide +kernel, by decide⟩, by decide +kernel, by decide +kernel, by decide, by decide +kernel⟩
def mX6_isSheet : MI := (yX6_isSheet, cX6_isSheet, 1, some .boolean, 1)
theorem okX6_isSheet : OkS mX6_isSheet 1 := ⟨⟨by decide +kernel, by decide +kernel, by decide +kernel, by decide +kernel, by decide⟩, by decide +kernel⟩
def mX6_isLane : MI := (yX6_isLane, cX6_isLane, 1, some .boolean, 1)
theorem okX6_isLane : OkS mX6_isLane 1 := ⟨⟨by decide +kernel, by decide +kernel, by decide +kernel, by decide +kernel, by decide⟩, by decide +kernel⟩
def mX6_why : MI := (yX6_why, cX6_why, 5, some .int, 0)
theorem okX6_why : OkV mX6_why 4 6 := ⟨⟨by decide +kernel, by decide +kernel, by decide +kernel, by decide +kernel, by decide⟩, by decide +kernel, by decide +kernel, by decide, by decide +kernel⟩
def mX6_buckets : MI := (yX6_buckets, cX6_buckets, 12, some .int, 5)
theorem okX6_buckets : OkV mX6_buckets 4 6 := ⟨⟨by decide +kernel, by decide +kernel, by decide +kernel, by decide +kernel, by decide⟩, by decide +kernel, by decide +kernel, by decide, by decide +kernel⟩
def mX6_film : MI := (yX6_film, cX6_film, 7, some .int, 5)
theorem okX6_film : OkV mX6_film 4 6 := ⟨⟨by decide +kernel, by decide +kernel, by decide +kernel, by decide +kernel, by decide⟩, by decide +kernel, by decide +kernel, by decide, by decide +kernel⟩
def mX6_sheet : MI := (yX6_sheet, cX6_sheet, 5, some .int, 2)
theorem okX6_sheet : OkV mX6_sheet 3 6 := ⟨⟨by decide +kernel, by decide +kernel, by decide +kernel, by decide +kernel, by decide⟩, by decide +kernel, by decide +kernel, by decide, by decide +kernel⟩
def mX6_drop : MI := (yX6_drop, cX6_drop, 2, some .int, 2)
theorem okX6_drop : OkV mX6_drop 1 6 := ⟨⟨by decide +kernel, by decide +kernel, by decide +kernel, by decide +kernel, by decide⟩, by decide +kernel, by decide +kernel, by decide, by decide +kernel⟩
def mX6_item : MI := (yX6_item, cX6_item, 7, some .int, 2)
theorem okX6_item : OkV mX6_item 4 6 := ⟨⟨by decide +kernel, by decide +kernel, by decide +kernel, by decide +kernel, by decide⟩, by decide +kernel, by decide +kernel, by decide, by decide +kernel⟩
def mX6_copy : MI := (yX6_copy, cX6_copy, 8, some .int, 2)
theorem okX6_copy : OkV mX6_copy 5 6 := ⟨⟨by decide +kernel, by decide +kernel, by decide +kernel, by decide +kernel, by decide⟩, by decide +kernel, by decide +kernel, by decide, by decide +kernel⟩
def mJ6_bitCount_0f7a4 : MI := (yJ6_bitCount_0f7a4, cJ6_bitCount_0f7a4, 1, some .int, 0)
theorem okJ6_bitCount_0f7a4 : OkS mJ6_bitCount_0f7a4 1 := ⟨⟨by decide +kernel, by decide +kernel, by decide +kernel, by decide +kernel, by decide⟩, by decide +kernel⟩
def mJ9_max_7cf53 : MI := (yJ9_max_7cf53, cJ9_max_7cf53, 2, some .int, 0)
theorem okJ9_max_7cf53 : OkS mJ9_max_7cf53 2 := ⟨⟨by decide +kernel, by decide +kernel, by decide +kernel, by decide +kernel, by decide⟩, by decide +kernel⟩
def mJ9_min_7cf53 : MI := (yJ9_min_7cf53, cJ9_min_7cf53, 2, some .int, 0)
theorem okJ9_min_7cf53 : OkS mJ9_min_7cf53 2 := ⟨⟨by decide +kernel, by decide +kernel, by decide +kernel, by decide +kernel, by decide⟩, by decide +kernel⟩
def mL_law : MI := (yL_law, cL_law, 4, some .boolean, 11)
theorem mlL_13 : ML RL 13 yX5_beast := Or.inl (by decide +kernel)
theorem mlL_17 : ML RL 17 yX6_beast := Or.inl (by decide +kernel)
theorem mlL_18 : ML RL 18 yX5_of := Or.inl (by decide +kernel)
theorem mlL_22 : ML RL 22 yX6_of := Or.inl (by decide +kernel)
theorem mlL_23 : ML RL 23 yX5_well := Or.inl (by decide +kernel)
theorem mlL_26 : ML RL 26 yX6_well := Or.inl (by decide +kernel)
theorem mlL_27 : ML RL 27 yX5_pull := Or.inl (by decide +kernel)
theorem mlL_31 : ML RL 31 yX6_pull := Or.inl (by decide +kernel)
theorem mlL_32 : ML RL 32 yX5_turn := Or.inl (by decide +kernel)
theorem mlL_35 : ML RL 35 yX6_turn := Or.inl (by decide +kernel)
theorem mlL_36 : ML RL 36 yX5_type := Or.inl (by decide +kernel)
theorem mlL_39 : ML RL 39 yX6_type := Or.inl (by decide +kernel)
theorem mlL_40 : ML RL 40 yX5_caravan := Or.inl (by decide +kernel)
theorem mlL_44 : ML RL 44 yX6_caravan := Or.inl (by decide +kernel)
theorem mlL_45 : ML RL 45 yX5_count := Or.inl (by decide +kernel)
theorem mlL_48 : ML RL 48 yX6_count := Or.inl (by decide +kernel)
theorem mlL_49 : ML RL 49 yX5_minutes := Or.inl (by decide +kernel)
theorem mlL_52 : ML RL 52 yX6_minutes := Or.inl (by decide +kernel)
theorem mlL_53 : ML RL 53 yX5_drift := Or.inl (by decide +kernel)
theorem mlL_56 : ML RL 56 yX6_drift := Or.inl (by decide +kernel)
theorem mlL_57 : ML RL 57 yX5_undo := Or.inl (by decide +kernel)
theorem mlL_60 : ML RL 60 yX6_undo := Or.inl (by decide +kernel)
theorem mlL_61 : ML RL 61 yX5_seed := Or.inl (by decide +kernel)
theorem mlL_64 : ML RL 64 yX6_seed := Or.inl (by decide +kernel)
theorem mlL_65 : ML RL 65 yX5_water := Or.inl (by decide +kernel)
theorem mlL_68 : ML RL 68 yX6_water := Or.inl (by decide +kernel)
theorem mlL_69 : ML RL 69 yX5_done := Or.inl (by decide +kernel)
theorem mlL_72 : ML RL 72 yX6_done := Or.inl (by decide +kernel)
theorem mlL_73 : ML RL 73 yX5_all := Or.inl (by decide +kernel)
theorem mlL_76 : ML RL 76 yX6_all := Or.inl (by decide +kernel)
theorem mlL_77 : ML RL 77 yX5_height := Or.inl (by decide +kernel)
theorem mlL_80 : ML RL 80 yX6_height := Or.inl (by decide +kernel)
theorem mlL_81 : ML RL 81 yX5_pulls := Or.inl (by decide +kernel)
theorem mlL_84 : ML RL 84 yX6_pulls := Or.inl (by decide +kernel)
theorem mlL_85 : ML RL 85 yX5_waits := Or.inl (by decide +kernel)
theorem mlL_88 : ML RL 88 yX6_waits := Or.inl (by decide +kernel)
theorem mlL_89 : ML RL 89 yX5_least := Or.inl (by decide +kernel)
theorem mlL_92 : ML RL 92 yX6_least := Or.inl (by decide +kernel)
theorem mlL_93 : ML RL 93 yX5_both := Or.inl (by decide +kernel)
theorem mlL_96 : ML RL 96 yX6_both := Or.inl (by decide +kernel)
theorem mlL_97 : ML RL 97 yX5_wholly := Or.inl (by decide +kernel)
theorem mlL_100 : ML RL 100 yX6_wholly := Or.inl (by decide +kernel)
theorem mlL_101 : ML RL 101 yX5_drank := Or.inl (by decide +kernel)
theorem mlL_104 : ML RL 104 yX6_drank := Or.inl (by decide +kernel)
theorem mlL_105 : ML RL 105 yX5_holds := Or.inl (by decide +kernel)
theorem mlL_108 : ML RL 108 yX6_holds := Or.inl (by decide +kernel)
theorem mlL_109 : ML RL 109 yX5_image := Or.inl (by decide +kernel)
theorem mlL_112 : ML RL 112 yX6_image := Or.inl (by decide +kernel)
theorem mlL_113 : ML RL 113 yX5_restore := Or.inl (by decide +kernel)
theorem mlL_116 : ML RL 116 yX6_restore := Or.inl (by decide +kernel)
theorem mlL_117 : ML RL 117 yX5_buckets := Or.inl (by decide +kernel)
theorem mlL_121 : ML RL 121 yX6_buckets := Or.inl (by decide +kernel)
theorem mlL_122 : ML RL 122 yX5_film := Or.inl (by decide +kernel)
theorem mlL_125 : ML RL 125 yX6_film := Or.inl (by decide +kernel)
theorem mlL_126 : ML RL 126 yX5_sheet := Or.inl (by decide +kernel)
theorem mlL_129 : ML RL 129 yX6_sheet := Or.inl (by decide +kernel)
theorem mlL_130 : ML RL 130 yX5_drop := Or.inl (by decide +kernel)
theorem mlL_133 : ML RL 133 yX6_drop := Or.inl (by decide +kernel)
theorem mlL_136 : ML RL 136 yX5_item := Or.inl (by decide +kernel)
theorem mlL_140 : ML RL 140 yX6_item := Or.inl (by decide +kernel)
theorem mlL_141 : ML RL 141 yX5_copy := Or.inl (by decide +kernel)
theorem mlL_145 : ML RL 145 yX6_copy := Or.inl (by decide +kernel)
theorem mlX0_52 : Cond.methodLink RX0 52 arraycopyName ∈ lw_tbl := by decide +kernel
theorem mlX0_58 : ML RX0 58 yX5_milky := Or.inr ⟨"WellTurns", by decide +kernel⟩
theorem mlX0_65 : ML RX0 65 yX0_lineByDays := Or.inl (by decide +kernel)
theorem mlX0_68 : ML RX0 68 yX0_lineMilky := Or.inl (by decide +kernel)
theorem mlX0_72 : ML RX0 72 yX0_lineByTurns := Or.inl (by decide +kernel)
theorem mlX0_75 : ML RX0 75 yX0_lineAsTheyCome := Or.inl (by decide +kernel)
theorem mlX0_78 : ML RX0 78 yX0_lineUp := Or.inl (by decide +kernel)
theorem mlX0_82 : ML RX0 82 yX0_nextOf := Or.inl (by decide +kernel)
theorem mlX1_43 : Cond.methodLink RX1 43 arraycopyName ∈ lw_tbl := by decide +kernel
theorem mlX1_54 : ML RX1 54 yX1_needs := Or.inl (by decide +kernel)
theorem mlX1_58 : ML RX1 58 yJ9_max_7cf53 := Or.inl (by decide +kernel)
theorem mlX1_67 : ML RX1 67 yX1_needsYet := Or.inl (by decide +kernel)
theorem mlX1_70 : ML RX1 70 yX1_sated := Or.inl (by decide +kernel)
theorem mlX1_77 : ML RX1 77 yX1_anySwollen := Or.inl (by decide +kernel)
theorem mlX1_84 : ML RX1 84 yX1_drawBucket := Or.inl (by decide +kernel)
theorem mlX1_88 : ML RX1 88 yX1_waterBeasts := Or.inl (by decide +kernel)
theorem mlX1_100 : ML RX1 100 yJ9_min_7cf53 := Or.inl (by decide +kernel)
theorem mlX1_103 : ML RX1 103 yX0_lacks := Or.inl (by decide +kernel)
theorem mlX1_116 : ML RX1 116 yX5_gulp := Or.inr ⟨"WellTurns", by decide +kernel⟩
theorem mlX1_120 : ML RX1 120 yX1_swell := Or.inl (by decide +kernel)
theorem mlX2_18 : ML RX2 18 yX1_takeFrom := Or.inl (by decide +kernel)
theorem mlX2_29 : ML RX2 29 yJ9_min_7cf53 := Or.inl (by decide +kernel)
theorem mlX3_22 : ML RX3 22 yX3_lacks := Or.inl (by decide +kernel)
theorem mlX4_30 : ML RX4 30 yX4_readWell := Or.inl (by decide +kernel)
theorem mlX4_34 : ML RX4 34 yX4_readBeasts := Or.inl (by decide +kernel)
theorem mlX4_37 : ML RX4 37 yX4_readNumber := Or.inl (by decide +kernel)
theorem mlX4_44 : ML RX4 44 yX4_pass := Or.inl (by decide +kernel)
theorem mlX4_51 : ML RX4 51 yX4_readBeast := Or.inl (by decide +kernel)
theorem mlX4_54 : ML RX4 54 yX4_ahead := Or.inl (by decide +kernel)
theorem mlX4_58 : ML RX4 58 yX4_kindOf := Or.inl (by decide +kernel)
theorem mlX4_61 : ML RX4 61 yX5_outside := Or.inr ⟨"WellTurns", by decide +kernel⟩
theorem mlX4_65 : ML RX4 65 yX0_add := Or.inl (by decide +kernel)
theorem mlX4_69 : ML RX4 69 yX4_digit := Or.inl (by decide +kernel)
theorem mlX5_69 : ML RX5 69 yX5_outside := Or.inl (by decide +kernel)
theorem mlX5_77 : ML RX5 77 yX2_forget := Or.inl (by decide +kernel)
theorem mlX5_80 : ML RX5 80 yX0_add := Or.inl (by decide +kernel)
theorem mlX5_84 : ML RX5 84 yX0_lacks := Or.inl (by decide +kernel)
theorem mlX5_97 : ML RX5 97 yX1_needs := Or.inl (by decide +kernel)
theorem mlX5_107 : ML RX5 107 yX1_sated := Or.inl (by decide +kernel)
theorem mlX5_114 : ML RX5 114 yX5_gulp := Or.inl (by decide +kernel)
theorem mlX5_124 : ML RX5 124 yX5_measure := Or.inl (by decide +kernel)
theorem mlX5_151 : ML RX5 151 yX0_arrange := Or.inl (by decide +kernel)
theorem mlX5_157 : ML RX5 157 yX4_put := Or.inl (by decide +kernel)
theorem mlX5_163 : ML RX5 163 yX0_takeFrom := Or.inl (by decide +kernel)
theorem mlX5_167 : ML RX5 167 yX4_readInto := Or.inl (by decide +kernel)
theorem mlX5_172 : ML RX5 172 yX1_begin := Or.inl (by decide +kernel)
theorem mlX5_191 : ML RX5 191 yX1_satedSet := Or.inl (by decide +kernel)
theorem mlX5_194 : ML RX5 194 yX1_drunkTogether := Or.inl (by decide +kernel)
theorem mlX5_198 : ML RX5 198 yX5_refusal := Or.inl (by decide +kernel)
theorem mlX5_201 : ML RX5 201 yX2_keep := Or.inl (by decide +kernel)
theorem mlX5_205 : ML RX5 205 yX1_step := Or.inl (by decide +kernel)
theorem mlX5_208 : ML RX5 208 yX1_ropeBreaks := Or.inl (by decide +kernel)
theorem mlX5_212 : ML RX5 212 yX2_giveBack := Or.inl (by decide +kernel)
theorem mlX5_219 : ML RX5 219 yX5_foretell := Or.inl (by decide +kernel)
theorem mlX5_222 : ML RX5 222 yX5_play := Or.inl (by decide +kernel)
theorem mlX5_226 : ML RX5 226 yX5_foretellDone := Or.inl (by decide +kernel)
theorem mlX5_229 : ML RX5 229 yX5_soonestAll := Or.inl (by decide +kernel)
theorem mlX5_232 : ML RX5 232 yX5_herdWaits := Or.inl (by decide +kernel)
theorem mlX5_235 : ML RX5 235 yX5_bestLaw := Or.inl (by decide +kernel)
theorem mlX5_239 : ML RX5 239 yX1_takeFrom := Or.inl (by decide +kernel)
theorem mlX5_241 : ML RX5 241 yJ6_bitCount_0f7a4 := Or.inl (by decide +kernel)
theorem mlX5_246 : ML RX5 246 yX1_needsYetOf := Or.inl (by decide +kernel)
theorem mlX5_250 : ML RX5 250 yJ9_min_7cf53 := Or.inl (by decide +kernel)
theorem mlX5_256 : ML RX5 256 yX2_takeFrom := Or.inl (by decide +kernel)
theorem mlX5_263 : ML RX5 263 yX1_allSated := Or.inl (by decide +kernel)
theorem mlX5_267 : ML RX5 267 yX5_markDone := Or.inl (by decide +kernel)
theorem mlX5_270 : ML RX5 270 yJ9_max_7cf53 := Or.inl (by decide +kernel)
theorem mlX5_273 : ML RX5 273 yX5_noSheet := Or.inl (by decide +kernel)
theorem mlX5_276 : ML RX5 276 yX3_refusal := Or.inl (by decide +kernel)
theorem mlX5_279 : ML RX5 279 yX5_readSeen := Or.inl (by decide +kernel)
theorem mlX5_283 : ML RX5 283 yX5_wouldBeSeen := Or.inl (by decide +kernel)
theorem mlX5_295 : ML RX5 295 yX3_put := Or.inl (by decide +kernel)
theorem mlX5_298 : ML RX5 298 yX3_renew := Or.inl (by decide +kernel)
theorem mlX5_307 : ML RX5 307 yX3_lacks := Or.inl (by decide +kernel)
theorem mlX5_309 : Cond.methodLink RX5 309 arraycopyName ∈ lw_tbl := by decide +kernel
theorem mlX6_51 : ML RX6 51 yX6_in := Or.inl (by decide +kernel)
theorem mlX6_55 : ML RX6 55 yX6_at := Or.inl (by decide +kernel)
theorem mlX6_59 : ML RX6 59 yX6_isMilk := Or.inl (by decide +kernel)
theorem mlX6_63 : ML RX6 63 yX6_needs := Or.inl (by decide +kernel)
theorem mlX6_67 : ML RX6 67 yX6_isSated := Or.inl (by decide +kernel)
theorem mlX6_77 : ML RX6 77 yX6_isBeast := Or.inl (by decide +kernel)
theorem mlX6_82 : ML RX6 82 yX6_drinks := Or.inl (by decide +kernel)
theorem mlX6_87 : ML RX6 87 yX6_low := Or.inl (by decide +kernel)
theorem mlX6_90 : ML RX6 90 yX6_high := Or.inl (by decide +kernel)
theorem mlX6_93 : ML RX6 93 yX6_among := Or.inl (by decide +kernel)
theorem mlX6_96 : ML RX6 96 yX6_isAhead := Or.inl (by decide +kernel)
theorem mlX6_100 : ML RX6 100 yX6_orders := Or.inl (by decide +kernel)
theorem mlX6_114 : ML RX6 114 yX6_draws := Or.inl (by decide +kernel)
theorem mlX6_118 : ML RX6 118 yX6_drinksOf := Or.inl (by decide +kernel)
theorem mlX6_121 : ML RX6 121 yX6_notes := Or.inl (by decide +kernel)
theorem mlX6_124 : ML RX6 124 yX6_goes := Or.inl (by decide +kernel)
theorem mlX6_130 : ML RX6 130 yX6_gone := Or.inl (by decide +kernel)
theorem mlX6_134 : ML RX6 134 yX6_sated := Or.inl (by decide +kernel)
theorem mlX6_142 : ML RX6 142 yX6_asides := Or.inl (by decide +kernel)
theorem mlX6_145 : ML RX6 145 yX6_backs := Or.inl (by decide +kernel)
theorem mlX6_148 : ML RX6 148 yX6_goesOn := Or.inl (by decide +kernel)
theorem mlX6_151 : ML RX6 151 yX6_others := Or.inl (by decide +kernel)
theorem mlX6_154 : ML RX6 154 yX6_waitsOf := Or.inl (by decide +kernel)
theorem mlX6_157 : ML RX6 157 yX6_lawBy := Or.inl (by decide +kernel)
theorem mlX6_160 : ML RX6 160 yX6_many := Or.inl (by decide +kernel)
theorem mlX6_184 : ML RX6 184 yX6_here := Or.inl (by decide +kernel)
theorem mlX6_187 : ML RX6 187 yX6_must := Or.inl (by decide +kernel)
theorem mlX6_190 : ML RX6 190 yX6_isDigit := Or.inl (by decide +kernel)
theorem mlX6_195 : ML RX6 195 yX6_number := Or.inl (by decide +kernel)
theorem mlX6_198 : ML RX6 198 yX6_takes := Or.inl (by decide +kernel)
theorem mlX6_201 : ML RX6 201 yX6_readBeast := Or.inl (by decide +kernel)
theorem mlX6_210 : ML RX6 210 yX6_isSheet := Or.inl (by decide +kernel)
theorem mlX6_213 : ML RX6 213 yX6_isLane := Or.inl (by decide +kernel)
theorem mlX6_216 : ML RX6 216 yX6_why := Or.inl (by decide +kernel)
theorem ctJ6_265 : Cond.constant RJ6 265 1431655765 ∈ lw_tbl := by decide +kernel
theorem ctJ6_266 : Cond.constant RJ6 266 858993459 ∈ lw_tbl := by decide +kernel
theorem ctJ6_267 : Cond.constant RJ6 267 252645135 ∈ lw_tbl := by decide +kernel
theorem ctL_134 : Cond.constantLong RL 134 4294967295 ∈ lw_tbl := by decide +kernel
theorem ctX1_124 : Cond.constant RX1 124 1103515245 ∈ lw_tbl := by decide +kernel
theorem ctX1_125 : Cond.constant RX1 125 2147483647 ∈ lw_tbl := by decide +kernel
theorem ctX1_126 : Cond.constant RX1 126 65536 ∈ lw_tbl := by decide +kernel
theorem ctX5_249 : Cond.constant RX5 249 1000000 ∈ lw_tbl := by decide +kernel
theorem ctX5_291 : Cond.constantLong RX5 291 240 ∈ lw_tbl := by decide +kernel
theorem ctX5_293 : Cond.constantLong RX5 293 60 ∈ lw_tbl := by decide +kernel
theorem ctX6_70 : Cond.constantLong RX6 70 3 ∈ lw_tbl := by decide +kernel
theorem ctX6_72 : Cond.constantLong RX6 72 9 ∈ lw_tbl := by decide +kernel
theorem ctX6_80 : Cond.constantLong RX6 80 8 ∈ lw_tbl := by decide +kernel
theorem ctX6_85 : Cond.constantLong RX6 85 6 ∈ lw_tbl := by decide +kernel
theorem ctX6_104 : Cond.constantLong RX6 104 1103515245 ∈ lw_tbl := by decide +kernel
theorem ctX6_106 : Cond.constantLong RX6 106 12345 ∈ lw_tbl := by decide +kernel
theorem ctX6_108 : Cond.constantLong RX6 108 2147483647 ∈ lw_tbl := by decide +kernel
theorem ctX6_110 : Cond.constant RX6 110 65536 ∈ lw_tbl := by decide +kernel
theorem ctX6_128 : Cond.constantLong RX6 128 60 ∈ lw_tbl := by decide +kernel
theorem ctX6_138 : Cond.constantLong RX6 138 14 ∈ lw_tbl := by decide +kernel
theorem ctX6_140 : Cond.constantLong RX6 140 240 ∈ lw_tbl := by decide +kernel
theorem ctX6_163 : Cond.constantLong RX6 163 999 ∈ lw_tbl := by decide +kernel
theorem ctX6_165 : Cond.constant RX6 165 1000000 ∈ lw_tbl := by decide +kernel
theorem ctX6_166 : Cond.constantLong RX6 166 32 ∈ lw_tbl := by decide +kernel
theorem ctX6_168 : Cond.constantLong RX6 168 126 ∈ lw_tbl := by decide +kernel
theorem ctX6_180 : Cond.constantLong RX6 180 48 ∈ lw_tbl := by decide +kernel
theorem ctX6_182 : Cond.constantLong RX6 182 57 ∈ lw_tbl := by decide +kernel
theorem ctX6_193 : Cond.constantLong RX6 193 49 ∈ lw_tbl := by decide +kernel
theorem ctX6_220 : Cond.constantLong RX6 220 24 ∈ lw_tbl := by decide +kernel
theorem lI2 : (ln 2 : Int) = 7 := by rw [lN2]; rfl
theorem lI3 : (ln 3 : Int) = 7 := by rw [lN3]; rfl
theorem lI4 : (ln 4 : Int) = 7 := by rw [lN4]; rfl
theorem lI5 : (ln 5 : Int) = 7 := by rw [lN5]; rfl
theorem lI6 : (ln 6 : Int) = 7 := by rw [lN6]; rfl
theorem lI8 : (ln 8 : Int) = 7 := by rw [lN8]; rfl
theorem lI9 : (ln 9 : Int) = 7 := by rw [lN9]; rfl
theorem lI10 : (ln 10 : Int) = 7 := by rw [lN10]; rfl
theorem lI11 : (ln 11 : Int) = 7 := by rw [lN11]; rfl
theorem lI13 : (ln 13 : Int) = 8 := by rw [lN13]; rfl
theorem lI15 : (ln 15 : Int) = 7 := by rw [lN15]; rfl
theorem lI16 : (ln 16 : Int) = 7 := by rw [lN16]; rfl
theorem lI17 : (ln 17 : Int) = 7 := by rw [lN17]; rfl
theorem lI18 : (ln 18 : Int) = 7 := by rw [lN18]; rfl
theorem lI20 : (ln 20 : Int) = 7 := by rw [lN20]; rfl
theorem lI21 : (ln 21 : Int) = 7 := by rw [lN21]; rfl
theorem lI22 : (ln 22 : Int) = 7 := by rw [lN22]; rfl
theorem lI23 : (ln 23 : Int) = 7 := by rw [lN23]; rfl
theorem lI25 : (ln 25 : Int) = 7 := by rw [lN25]; rfl
theorem lI26 : (ln 26 : Int) = 7 := by rw [lN26]; rfl
theorem lI27 : (ln 27 : Int) = 7 := by rw [lN27]; rfl
theorem lI28 : (ln 28 : Int) = 7 := by rw [lN28]; rfl
theorem lI30 : (ln 30 : Int) = 7 := by rw [lN30]; rfl
theorem lI31 : (ln 31 : Int) = 7 := by rw [lN31]; rfl
theorem lI32 : (ln 32 : Int) = 7 := by rw [lN32]; rfl
theorem lI33 : (ln 33 : Int) = 7 := by rw [lN33]; rfl
theorem lI35 : (ln 35 : Int) = 7 := by rw [lN35]; rfl
theorem lI36 : (ln 36 : Int) = 7 := by rw [lN36]; rfl
theorem lI37 : (ln 37 : Int) = 7 := by rw [lN37]; rfl
theorem lI38 : (ln 38 : Int) = 7 := by rw [lN38]; rfl
theorem lI40 : (ln 40 : Int) = 7 := by rw [lN40]; rfl
theorem lI41 : (ln 41 : Int) = 7 := by rw [lN41]; rfl
theorem lI42 : (ln 42 : Int) = 7 := by rw [lN42]; rfl
theorem lI43 : (ln 43 : Int) = 7 := by rw [lN43]; rfl
theorem lI45 : (ln 45 : Int) = 7 := by rw [lN45]; rfl
theorem lI46 : (ln 46 : Int) = 7 := by rw [lN46]; rfl
theorem lI47 : (ln 47 : Int) = 7 := by rw [lN47]; rfl
theorem lI48 : (ln 48 : Int) = 7 := by rw [lN48]; rfl
theorem lI50 : (ln 50 : Int) = 7 := by rw [lN50]; rfl
theorem lI51 : (ln 51 : Int) = 7 := by rw [lN51]; rfl
theorem lI52 : (ln 52 : Int) = 7 := by rw [lN52]; rfl
theorem lI53 : (ln 53 : Int) = 7 := by rw [lN53]; rfl
theorem lI55 : (ln 55 : Int) = 7 := by rw [lN55]; rfl
theorem lI56 : (ln 56 : Int) = 7 := by rw [lN56]; rfl
theorem lI57 : (ln 57 : Int) = 7 := by rw [lN57]; rfl
theorem lI58 : (ln 58 : Int) = 7 := by rw [lN58]; rfl
theorem lI59 : (ln 59 : Int) = 7 := by rw [lN59]; rfl
theorem lI61 : (ln 61 : Int) = 7 := by rw [lN61]; rfl
theorem lI62 : (ln 62 : Int) = 7 := by rw [lN62]; rfl
theorem lI63 : (ln 63 : Int) = 7 := by rw [lN63]; rfl
theorem lI64 : (ln 64 : Int) = 7 := by rw [lN64]; rfl
theorem lI66 : (ln 66 : Int) = 8 := by rw [lN66]; rfl
theorem lI68 : (ln 68 : Int) = 7 := by rw [lN68]; rfl
theorem lI69 : (ln 69 : Int) = 7 := by rw [lN69]; rfl
theorem lI70 : (ln 70 : Int) = 7 := by rw [lN70]; rfl
theorem lI71 : (ln 71 : Int) = 7 := by rw [lN71]; rfl
theorem lI73 : (ln 73 : Int) = 7 := by rw [lN73]; rfl
theorem lI74 : (ln 74 : Int) = 7 := by rw [lN74]; rfl
theorem lI75 : (ln 75 : Int) = 7 := by rw [lN75]; rfl
theorem lI76 : (ln 76 : Int) = 7 := by rw [lN76]; rfl
theorem lI78 : (ln 78 : Int) = 7 := by rw [lN78]; rfl
theorem lI79 : (ln 79 : Int) = 7 := by rw [lN79]; rfl
theorem lI80 : (ln 80 : Int) = 7 := by rw [lN80]; rfl
theorem lI81 : (ln 81 : Int) = 7 := by rw [lN81]; rfl
theorem lI83 : (ln 83 : Int) = 7 := by rw [lN83]; rfl
theorem lI84 : (ln 84 : Int) = 7 := by rw [lN84]; rfl
theorem lI85 : (ln 85 : Int) = 7 := by rw [lN85]; rfl
theorem lI86 : (ln 86 : Int) = 7 := by rw [lN86]; rfl
theorem lI88 : (ln 88 : Int) = 7 := by rw [lN88]; rfl
theorem lI89 : (ln 89 : Int) = 7 := by rw [lN89]; rfl
theorem lI90 : (ln 90 : Int) = 7 := by rw [lN90]; rfl
theorem lI91 : (ln 91 : Int) = 7 := by rw [lN91]; rfl
theorem lI93 : (ln 93 : Int) = 7 := by rw [lN93]; rfl
theorem lI94 : (ln 94 : Int) = 7 := by rw [lN94]; rfl
theorem lI95 : (ln 95 : Int) = 7 := by rw [lN95]; rfl
theorem lI96 : (ln 96 : Int) = 7 := by rw [lN96]; rfl
theorem lI98 : (ln 98 : Int) = 7 := by rw [lN98]; rfl
theorem lI99 : (ln 99 : Int) = 7 := by rw [lN99]; rfl
theorem lI100 : (ln 100 : Int) = 7 := by rw [lN100]; rfl
theorem lI101 : (ln 101 : Int) = 7 := by rw [lN101]; rfl
theorem lI103 : (ln 103 : Int) = 7 := by rw [lN103]; rfl
theorem lI104 : (ln 104 : Int) = 7 := by rw [lN104]; rfl
theorem lI105 : (ln 105 : Int) = 7 := by rw [lN105]; rfl
theorem lI106 : (ln 106 : Int) = 7 := by rw [lN106]; rfl
theorem lI108 : (ln 108 : Int) = 7 := by rw [lN108]; rfl
theorem lI109 : (ln 109 : Int) = 7 := by rw [lN109]; rfl
theorem lI110 : (ln 110 : Int) = 7 := by rw [lN110]; rfl
theorem lI111 : (ln 111 : Int) = 7 := by rw [lN111]; rfl
theorem lI112 : (ln 112 : Int) = 7 := by rw [lN112]; rfl
theorem lI114 : (ln 114 : Int) = 7 := by rw [lN114]; rfl
theorem lI115 : (ln 115 : Int) = 7 := by rw [lN115]; rfl
theorem lI116 : (ln 116 : Int) = 7 := by rw [lN116]; rfl
theorem lI117 : (ln 117 : Int) = 7 := by rw [lN117]; rfl
theorem lI118 : (ln 118 : Int) = 7 := by rw [lN118]; rfl
theorem lI119 : (ln 119 : Int) = 8 := by rw [lN119]; rfl
theorem lI120 : (ln 120 : Int) = 8 := by rw [lN120]; rfl
theorem lI122 : (ln 122 : Int) = 60 := by rw [lN122]; rfl
theorem lI123 : (ln 123 : Int) = 4 := by rw [lN123]; rfl
theorem lI125 : (ln 125 : Int) = 24 := by rw [lN125]; rfl
theorem lI127 : (ln 127 : Int) = 24 := by rw [lN127]; rfl
theorem lI129 : (ln 129 : Int) = 24 := by rw [lN129]; rfl
theorem lI131 : (ln 131 : Int) = 24 := by rw [lN131]; rfl
theorem lI133 : (ln 133 : Int) = 63 := by rw [lN133]; rfl
theorem lI134 : (ln 134 : Int) = 7 := by rw [lN134]; rfl
theorem lI135 : (ln 135 : Int) = 504 := by rw [lN135]; rfl
theorem lI136 : (ln 136 : Int) = 63 := by rw [lN136]; rfl
theorem lI137 : (ln 137 : Int) = 7 := by rw [lN137]; rfl
theorem lI138 : (ln 138 : Int) = 60 := by rw [lN138]; rfl
theorem lI139 : (ln 139 : Int) = 21 := by rw [lN139]; rfl
theorem lI140 : (ln 140 : Int) = 567 := by rw [lN140]; rfl
theorem lI141 : (ln 141 : Int) = 4 := by rw [lN141]; rfl
theorem lI142 : (ln 142 : Int) = 4 := by rw [lN142]; rfl
theorem lI143 : (ln 143 : Int) = 96 := by rw [lN143]; rfl
theorem lI144 : (ln 144 : Int) = 24 := by rw [lN144]; rfl
theorem IsCamp.i1 {a : Nat} (h : IsCamp a) : (ln (a + 1) : Int) = 7 := by rw [h.l1]; rfl
theorem IsCamp.i2 {a : Nat} (h : IsCamp a) : (ln (a + 2) : Int) = 7 := by rw [h.l2]; rfl
theorem IsCamp.i3 {a : Nat} (h : IsCamp a) : (ln (a + 3) : Int) = 7 := by rw [h.l3]; rfl
theorem IsCamp.i4 {a : Nat} (h : IsCamp a) : (ln (a + 4) : Int) = 7 := by rw [h.l4]; rfl
theorem IsCamp.i5 {a : Nat} (h : IsCamp a) : (ln (a + 5) : Int) = 7 := by rw [h.l5]; rfl
theorem IsMom.i1 {a : Nat} (h : IsMom a) : (ln (a + 1) : Int) = 7 := by rw [h.l1]; rfl
theorem IsMom.i2 {a : Nat} (h : IsMom a) : (ln (a + 2) : Int) = 7 := by rw [h.l2]; rfl
theorem IsMom.i3 {a : Nat} (h : IsMom a) : (ln (a + 3) : Int) = 7 := by rw [h.l3]; rfl
theorem IsMom.i4 {a : Nat} (h : IsMom a) : (ln (a + 4) : Int) = 7 := by rw [h.l4]; rfl
theorem IsPast.i1 {a : Nat} (h : IsPast a) : (ln (a + 1) : Int) = 8 := by rw [h.l1]; rfl
theorem IsSheet.i1 {a : Nat} (h : IsSheet a) : (ln (a + 1) : Int) = 24 := by rw [h.l1]; rfl
end
