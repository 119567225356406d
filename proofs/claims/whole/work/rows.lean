section
-- ===== PART A: goes FIRST, ahead of the names: the tables' words, and 'selects' of the private methods out of them =====
/-- a private method of a class that the tables say can be made, by its rows of tables_1 -/
def lw_okq (q : MethodName × Nat) : Prop := (q.1.cls ≠ "java/lang/invoke/MethodHandle" ∧ q.1.cls ≠ "java/lang/invoke/VarHandle") ∧ Cond.instantiable q.1.cls q.2 ∈ tables_1 ∧ Cond.privateMethod q.1 ∈ tables_1 ∧ Cond.instanceMethod q.1 ∈ tables_1
theorem lw_p0 : lw_okq (⟨"RocketPrint$Tape", "tellTo", "(LRocketPrint$Night;)I"⟩, 9) := ⟨⟨by decide +kernel, by decide +kernel⟩, List.mem_of_getElem? (i := 101) (by decide +kernel), List.mem_of_getElem? (i := 222) (by decide +kernel), List.mem_of_getElem? (i := 223) (by decide +kernel)⟩
theorem lw_p1 : lw_okq (⟨"RocketPrint$Night", "clear", "()V"⟩, 6) := ⟨⟨by decide +kernel, by decide +kernel⟩, List.mem_of_getElem? (i := 25) (by decide +kernel), List.mem_of_getElem? (i := 226) (by decide +kernel), List.mem_of_getElem? (i := 227) (by decide +kernel)⟩
theorem lw_p2 : lw_okq (⟨"RocketPrint$Tape", "takeToken", "()V"⟩, 9) := ⟨⟨by decide +kernel, by decide +kernel⟩, List.mem_of_getElem? (i := 101) (by decide +kernel), List.mem_of_getElem? (i := 230) (by decide +kernel), List.mem_of_getElem? (i := 231) (by decide +kernel)⟩
theorem lw_p3 : lw_okq (⟨"RocketPrint$Tape", "blame", "(I)V"⟩, 9) := ⟨⟨by decide +kernel, by decide +kernel⟩, List.mem_of_getElem? (i := 101) (by decide +kernel), List.mem_of_getElem? (i := 240) (by decide +kernel), List.mem_of_getElem? (i := 241) (by decide +kernel)⟩
theorem lw_p4 : lw_okq (⟨"RocketPrint$Tape", "takeLine", "(LRocketPrint$Night;)V"⟩, 9) := ⟨⟨by decide +kernel, by decide +kernel⟩, List.mem_of_getElem? (i := 101) (by decide +kernel), List.mem_of_getElem? (i := 244) (by decide +kernel), List.mem_of_getElem? (i := 245) (by decide +kernel)⟩
theorem lw_p5 : lw_okq (⟨"RocketPrint$Tape", "wordRead", "()I"⟩, 9) := ⟨⟨by decide +kernel, by decide +kernel⟩, List.mem_of_getElem? (i := 101) (by decide +kernel), List.mem_of_getElem? (i := 248) (by decide +kernel), List.mem_of_getElem? (i := 249) (by decide +kernel)⟩
theorem lw_p6 : lw_okq (⟨"RocketPrint$Tape", "isWord", "(Ljava/lang/String;)Z"⟩, 9) := ⟨⟨by decide +kernel, by decide +kernel⟩, List.mem_of_getElem? (i := 101) (by decide +kernel), List.mem_of_getElem? (i := 253) (by decide +kernel), List.mem_of_getElem? (i := 254) (by decide +kernel)⟩
theorem lw_p7 : lw_okq (⟨"RocketPrint$Tape", "takeWork", "(LRocketPrint$Night;I)V"⟩, 9) := ⟨⟨by decide +kernel, by decide +kernel⟩, List.mem_of_getElem? (i := 101) (by decide +kernel), List.mem_of_getElem? (i := 311) (by decide +kernel), List.mem_of_getElem? (i := 312) (by decide +kernel)⟩
theorem lw_p8 : lw_okq (⟨"RocketPrint$Tape", "takeNumber", "(II)I"⟩, 9) := ⟨⟨by decide +kernel, by decide +kernel⟩, List.mem_of_getElem? (i := 101) (by decide +kernel), List.mem_of_getElem? (i := 319) (by decide +kernel), List.mem_of_getElem? (i := 320) (by decide +kernel)⟩
theorem lw_p9 : lw_okq (⟨"RocketPrint$Tape", "takeSign", "()V"⟩, 9) := ⟨⟨by decide +kernel, by decide +kernel⟩, List.mem_of_getElem? (i := 101) (by decide +kernel), List.mem_of_getElem? (i := 324) (by decide +kernel), List.mem_of_getElem? (i := 325) (by decide +kernel)⟩
theorem lw_p10 : lw_okq (⟨"RocketPrint$Night", "addWork", "(IIII)I"⟩, 6) := ⟨⟨by decide +kernel, by decide +kernel⟩, List.mem_of_getElem? (i := 25) (by decide +kernel), List.mem_of_getElem? (i := 328) (by decide +kernel), List.mem_of_getElem? (i := 329) (by decide +kernel)⟩
theorem lw_p11 : lw_okq (⟨"RocketPrint$Night", "setWork", "(III)V"⟩, 6) := ⟨⟨by decide +kernel, by decide +kernel⟩, List.mem_of_getElem? (i := 25) (by decide +kernel), List.mem_of_getElem? (i := 337) (by decide +kernel), List.mem_of_getElem? (i := 338) (by decide +kernel)⟩
theorem lw_p12 : lw_okq (⟨"RocketPrint$Tape", "takeReader", "(LRocketPrint$Night;)V"⟩, 9) := ⟨⟨by decide +kernel, by decide +kernel⟩, List.mem_of_getElem? (i := 101) (by decide +kernel), List.mem_of_getElem? (i := 341) (by decide +kernel), List.mem_of_getElem? (i := 342) (by decide +kernel)⟩
theorem lw_p13 : lw_okq (⟨"RocketPrint$Night", "addReader", "(II)I"⟩, 6) := ⟨⟨by decide +kernel, by decide +kernel⟩, List.mem_of_getElem? (i := 25) (by decide +kernel), List.mem_of_getElem? (i := 347) (by decide +kernel), List.mem_of_getElem? (i := 348) (by decide +kernel)⟩
theorem lw_p14 : lw_okq (⟨"RocketPrint$Night", "setReader", "(III)V"⟩, 6) := ⟨⟨by decide +kernel, by decide +kernel⟩, List.mem_of_getElem? (i := 25) (by decide +kernel), List.mem_of_getElem? (i := 355) (by decide +kernel), List.mem_of_getElem? (i := 356) (by decide +kernel)⟩
theorem lw_p15 : lw_okq (⟨"RocketPrint$Tape", "takeWind", "(LRocketPrint$Night;)V"⟩, 9) := ⟨⟨by decide +kernel, by decide +kernel⟩, List.mem_of_getElem? (i := 101) (by decide +kernel), List.mem_of_getElem? (i := 359) (by decide +kernel), List.mem_of_getElem? (i := 360) (by decide +kernel)⟩
def lw_privs_1 : List (MethodName × Nat) := [(⟨"RocketPrint$Tape", "tellTo", "(LRocketPrint$Night;)I"⟩, 9), (⟨"RocketPrint$Night", "clear", "()V"⟩, 6), (⟨"RocketPrint$Tape", "takeToken", "()V"⟩, 9), (⟨"RocketPrint$Tape", "blame", "(I)V"⟩, 9), (⟨"RocketPrint$Tape", "takeLine", "(LRocketPrint$Night;)V"⟩, 9), (⟨"RocketPrint$Tape", "wordRead", "()I"⟩, 9), (⟨"RocketPrint$Tape", "isWord", "(Ljava/lang/String;)Z"⟩, 9), (⟨"RocketPrint$Tape", "takeWork", "(LRocketPrint$Night;I)V"⟩, 9), (⟨"RocketPrint$Tape", "takeNumber", "(II)I"⟩, 9), (⟨"RocketPrint$Tape", "takeSign", "()V"⟩, 9), (⟨"RocketPrint$Night", "addWork", "(IIII)I"⟩, 6), (⟨"RocketPrint$Night", "setWork", "(III)V"⟩, 6), (⟨"RocketPrint$Tape", "takeReader", "(LRocketPrint$Night;)V"⟩, 9), (⟨"RocketPrint$Night", "addReader", "(II)I"⟩, 6), (⟨"RocketPrint$Night", "setReader", "(III)V"⟩, 6), (⟨"RocketPrint$Tape", "takeWind", "(LRocketPrint$Night;)V"⟩, 9)]
theorem lw_r1 : ∀ q ∈ lw_privs_1, lw_okq q := List.forall_mem_cons.mpr ⟨lw_p0, List.forall_mem_cons.mpr ⟨lw_p1, List.forall_mem_cons.mpr ⟨lw_p2, List.forall_mem_cons.mpr ⟨lw_p3, List.forall_mem_cons.mpr ⟨lw_p4, List.forall_mem_cons.mpr ⟨lw_p5, List.forall_mem_cons.mpr ⟨lw_p6, List.forall_mem_cons.mpr ⟨lw_p7, List.forall_mem_cons.mpr ⟨lw_p8, List.forall_mem_cons.mpr ⟨lw_p9, List.forall_mem_cons.mpr ⟨lw_p10, List.forall_mem_cons.mpr ⟨lw_p11, List.forall_mem_cons.mpr ⟨lw_p12, List.forall_mem_cons.mpr ⟨lw_p13, List.forall_mem_cons.mpr ⟨lw_p14, List.forall_mem_cons.mpr ⟨lw_p15, fun _ h => absurd h List.not_mem_nil⟩⟩⟩⟩⟩⟩⟩⟩⟩⟩⟩⟩⟩⟩⟩⟩
theorem lw_p16 : lw_okq (⟨"RocketPrint$Tape", "takeDamp", "(LRocketPrint$Night;)V"⟩, 9) := ⟨⟨by decide +kernel, by decide +kernel⟩, List.mem_of_getElem? (i := 101) (by decide +kernel), List.mem_of_getElem? (i := 363) (by decide +kernel), List.mem_of_getElem? (i := 364) (by decide +kernel)⟩
theorem lw_p17 : lw_okq (⟨"RocketPrint$Night", "become", "(LRocketPrint$Night;)V"⟩, 6) := ⟨⟨by decide +kernel, by decide +kernel⟩, List.mem_of_getElem? (i := 25) (by decide +kernel), List.mem_of_getElem? (i := 367) (by decide +kernel), List.mem_of_getElem? (i := 368) (by decide +kernel)⟩
theorem lw_p18 : lw_okq (⟨"RocketPrint$Show", "begin", "(LRocketPrint$Night;)V"⟩, 5) := ⟨⟨by decide +kernel, by decide +kernel⟩, List.mem_of_getElem? (i := 61) (by decide +kernel), List.mem_of_getElem? (i := 382) (by decide +kernel), List.mem_of_getElem? (i := 383) (by decide +kernel)⟩
theorem lw_p19 : lw_okq (⟨"RocketPrint$Show", "settle", "()V"⟩, 5) := ⟨⟨by decide +kernel, by decide +kernel⟩, List.mem_of_getElem? (i := 61) (by decide +kernel), List.mem_of_getElem? (i := 387) (by decide +kernel), List.mem_of_getElem? (i := 388) (by decide +kernel)⟩
theorem lw_p20 : lw_okq (⟨"RocketPrint$Night", "ofWork", "(II)I"⟩, 6) := ⟨⟨by decide +kernel, by decide +kernel⟩, List.mem_of_getElem? (i := 25) (by decide +kernel), List.mem_of_getElem? (i := 391) (by decide +kernel), List.mem_of_getElem? (i := 392) (by decide +kernel)⟩
theorem lw_p21 : lw_okq (⟨"RocketPrint$Night", "goesUp", "(I)Z"⟩, 6) := ⟨⟨by decide +kernel, by decide +kernel⟩, List.mem_of_getElem? (i := 25) (by decide +kernel), List.mem_of_getElem? (i := 395) (by decide +kernel), List.mem_of_getElem? (i := 396) (by decide +kernel)⟩
theorem lw_p22 : lw_okq (⟨"RocketPrint$Night", "lastsOf", "(I)I"⟩, 6) := ⟨⟨by decide +kernel, by decide +kernel⟩, List.mem_of_getElem? (i := 25) (by decide +kernel), List.mem_of_getElem? (i := 400) (by decide +kernel), List.mem_of_getElem? (i := 401) (by decide +kernel)⟩
theorem lw_p23 : lw_okq (⟨"RocketPrint$Night", "burstOf", "(I)I"⟩, 6) := ⟨⟨by decide +kernel, by decide +kernel⟩, List.mem_of_getElem? (i := 25) (by decide +kernel), List.mem_of_getElem? (i := 404) (by decide +kernel), List.mem_of_getElem? (i := 405) (by decide +kernel)⟩
theorem lw_p24 : lw_okq (⟨"RocketPrint$Night", "wideOf", "(I)I"⟩, 6) := ⟨⟨by decide +kernel, by decide +kernel⟩, List.mem_of_getElem? (i := 25) (by decide +kernel), List.mem_of_getElem? (i := 417) (by decide +kernel), List.mem_of_getElem? (i := 418) (by decide +kernel)⟩
theorem lw_p25 : lw_okq (⟨"RocketPrint$Show", "minutesOfAll", "()I"⟩, 5) := ⟨⟨by decide +kernel, by decide +kernel⟩, List.mem_of_getElem? (i := 61) (by decide +kernel), List.mem_of_getElem? (i := 421) (by decide +kernel), List.mem_of_getElem? (i := 422) (by decide +kernel)⟩
theorem lw_p26 : lw_okq (⟨"RocketPrint$Show", "minutesAt", "(II)I"⟩, 5) := ⟨⟨by decide +kernel, by decide +kernel⟩, List.mem_of_getElem? (i := 61) (by decide +kernel), List.mem_of_getElem? (i := 425) (by decide +kernel), List.mem_of_getElem? (i := 426) (by decide +kernel)⟩
theorem lw_p27 : lw_okq (⟨"RocketPrint$Show", "lookedAt", "(II)I"⟩, 5) := ⟨⟨by decide +kernel, by decide +kernel⟩, List.mem_of_getElem? (i := 61) (by decide +kernel), List.mem_of_getElem? (i := 429) (by decide +kernel), List.mem_of_getElem? (i := 430) (by decide +kernel)⟩
theorem lw_p28 : lw_okq (⟨"RocketPrint$Show", "coughsAt", "(II)Z"⟩, 5) := ⟨⟨by decide +kernel, by decide +kernel⟩, List.mem_of_getElem? (i := 61) (by decide +kernel), List.mem_of_getElem? (i := 433) (by decide +kernel), List.mem_of_getElem? (i := 434) (by decide +kernel)⟩
theorem lw_p29 : lw_okq (⟨"RocketPrint$Night", "ofReader", "(II)I"⟩, 6) := ⟨⟨by decide +kernel, by decide +kernel⟩, List.mem_of_getElem? (i := 25) (by decide +kernel), List.mem_of_getElem? (i := 437) (by decide +kernel), List.mem_of_getElem? (i := 438) (by decide +kernel)⟩
theorem lw_p30 : lw_okq (⟨"RocketPrint$Show", "isUp", "(II)Z"⟩, 5) := ⟨⟨by decide +kernel, by decide +kernel⟩, List.mem_of_getElem? (i := 61) (by decide +kernel), List.mem_of_getElem? (i := 444) (by decide +kernel), List.mem_of_getElem? (i := 445) (by decide +kernel)⟩
theorem lw_p31 : lw_okq (⟨"RocketPrint$Show", "wholesOfAll", "()I"⟩, 5) := ⟨⟨by decide +kernel, by decide +kernel⟩, List.mem_of_getElem? (i := 61) (by decide +kernel), List.mem_of_getElem? (i := 448) (by decide +kernel), List.mem_of_getElem? (i := 449) (by decide +kernel)⟩
def lw_privs_2 : List (MethodName × Nat) := [(⟨"RocketPrint$Tape", "takeDamp", "(LRocketPrint$Night;)V"⟩, 9), (⟨"RocketPrint$Night", "become", "(LRocketPrint$Night;)V"⟩, 6), (⟨"RocketPrint$Show", "begin", "(LRocketPrint$Night;)V"⟩, 5), (⟨"RocketPrint$Show", "settle", "()V"⟩, 5), (⟨"RocketPrint$Night", "ofWork", "(II)I"⟩, 6), (⟨"RocketPrint$Night", "goesUp", "(I)Z"⟩, 6), (⟨"RocketPrint$Night", "lastsOf", "(I)I"⟩, 6), (⟨"RocketPrint$Night", "burstOf", "(I)I"⟩, 6), (⟨"RocketPrint$Night", "wideOf", "(I)I"⟩, 6), (⟨"RocketPrint$Show", "minutesOfAll", "()I"⟩, 5), (⟨"RocketPrint$Show", "minutesAt", "(II)I"⟩, 5), (⟨"RocketPrint$Show", "lookedAt", "(II)I"⟩, 5), (⟨"RocketPrint$Show", "coughsAt", "(II)Z"⟩, 5), (⟨"RocketPrint$Night", "ofReader", "(II)I"⟩, 6), (⟨"RocketPrint$Show", "isUp", "(II)Z"⟩, 5), (⟨"RocketPrint$Show", "wholesOfAll", "()I"⟩, 5)]
theorem lw_r2 : ∀ q ∈ lw_privs_2, lw_okq q := List.forall_mem_cons.mpr ⟨lw_p16, List.forall_mem_cons.mpr ⟨lw_p17, List.forall_mem_cons.mpr ⟨lw_p18, List.forall_mem_cons.mpr ⟨lw_p19, List.forall_mem_cons.mpr ⟨lw_p20, List.forall_mem_cons.mpr ⟨lw_p21, List.forall_mem_cons.mpr ⟨lw_p22, List.forall_mem_cons.mpr ⟨lw_p23, List.forall_mem_cons.mpr ⟨lw_p24, List.forall_mem_cons.mpr ⟨lw_p25, List.forall_mem_cons.mpr ⟨lw_p26, List.forall_mem_cons.mpr ⟨lw_p27, List.forall_mem_cons.mpr ⟨lw_p28, List.forall_mem_cons.mpr ⟨lw_p29, List.forall_mem_cons.mpr ⟨lw_p30, List.forall_mem_cons.mpr ⟨lw_p31, fun _ h => absurd h List.not_mem_nil⟩⟩⟩⟩⟩⟩⟩⟩⟩⟩⟩⟩⟩⟩⟩⟩
theorem lw_p32 : lw_okq (⟨"RocketPrint$Show", "isWhole", "(II)Z"⟩, 5) := ⟨⟨by decide +kernel, by decide +kernel⟩, List.mem_of_getElem? (i := 61) (by decide +kernel), List.mem_of_getElem? (i := 452) (by decide +kernel), List.mem_of_getElem? (i := 453) (by decide +kernel)⟩
theorem lw_p33 : lw_okq (⟨"RocketPrint$Show", "isWholeAlone", "(II)Z"⟩, 5) := ⟨⟨by decide +kernel, by decide +kernel⟩, List.mem_of_getElem? (i := 61) (by decide +kernel), List.mem_of_getElem? (i := 456) (by decide +kernel), List.mem_of_getElem? (i := 457) (by decide +kernel)⟩
theorem lw_p34 : lw_okq (⟨"RocketPrint$Show", "reaches", "(II)Z"⟩, 5) := ⟨⟨by decide +kernel, by decide +kernel⟩, List.mem_of_getElem? (i := 61) (by decide +kernel), List.mem_of_getElem? (i := 460) (by decide +kernel), List.mem_of_getElem? (i := 461) (by decide +kernel)⟩
theorem lw_p35 : lw_okq (⟨"RocketPrint$Show", "distance", "(II)I"⟩, 5) := ⟨⟨by decide +kernel, by decide +kernel⟩, List.mem_of_getElem? (i := 61) (by decide +kernel), List.mem_of_getElem? (i := 464) (by decide +kernel), List.mem_of_getElem? (i := 465) (by decide +kernel)⟩
theorem lw_p36 : lw_okq (⟨"RocketPrint$Show", "rivalsOf", "(II)I"⟩, 5) := ⟨⟨by decide +kernel, by decide +kernel⟩, List.mem_of_getElem? (i := 61) (by decide +kernel), List.mem_of_getElem? (i := 468) (by decide +kernel), List.mem_of_getElem? (i := 469) (by decide +kernel)⟩
theorem lw_p37 : lw_okq (⟨"RocketPrint$Show", "overlap", "(II)Z"⟩, 5) := ⟨⟨by decide +kernel, by decide +kernel⟩, List.mem_of_getElem? (i := 61) (by decide +kernel), List.mem_of_getElem? (i := 472) (by decide +kernel), List.mem_of_getElem? (i := 473) (by decide +kernel)⟩
theorem lw_p38 : lw_okq (⟨"RocketPrint$Show", "isBefore", "(III)Z"⟩, 5) := ⟨⟨by decide +kernel, by decide +kernel⟩, List.mem_of_getElem? (i := 61) (by decide +kernel), List.mem_of_getElem? (i := 478) (by decide +kernel), List.mem_of_getElem? (i := 479) (by decide +kernel)⟩
theorem lw_p39 : lw_okq (⟨"RocketPrint$Night", "hasWork", "(I)Z"⟩, 6) := ⟨⟨by decide +kernel, by decide +kernel⟩, List.mem_of_getElem? (i := 25) (by decide +kernel), List.mem_of_getElem? (i := 486) (by decide +kernel), List.mem_of_getElem? (i := 487) (by decide +kernel)⟩
theorem lw_p40 : lw_okq (⟨"RocketPrint$Night", "stickOf", "(I)I"⟩, 6) := ⟨⟨by decide +kernel, by decide +kernel⟩, List.mem_of_getElem? (i := 25) (by decide +kernel), List.mem_of_getElem? (i := 495) (by decide +kernel), List.mem_of_getElem? (i := 496) (by decide +kernel)⟩
theorem lw_p41 : lw_okq (⟨"RocketPrint$Show", "readersWhole", "(I)I"⟩, 5) := ⟨⟨by decide +kernel, by decide +kernel⟩, List.mem_of_getElem? (i := 61) (by decide +kernel), List.mem_of_getElem? (i := 501) (by decide +kernel), List.mem_of_getElem? (i := 502) (by decide +kernel)⟩
theorem lw_p42 : lw_okq (⟨"RocketPrint$Night", "hasReader", "(I)Z"⟩, 6) := ⟨⟨by decide +kernel, by decide +kernel⟩, List.mem_of_getElem? (i := 25) (by decide +kernel), List.mem_of_getElem? (i := 509) (by decide +kernel), List.mem_of_getElem? (i := 510) (by decide +kernel)⟩
theorem lw_p43 : lw_okq (⟨"RocketPrint$Show", "worksWhole", "(I)I"⟩, 5) := ⟨⟨by decide +kernel, by decide +kernel⟩, List.mem_of_getElem? (i := 61) (by decide +kernel), List.mem_of_getElem? (i := 514) (by decide +kernel), List.mem_of_getElem? (i := 515) (by decide +kernel)⟩
theorem lw_p44 : lw_okq (⟨"RocketPrint$Show", "minutesOf", "(I)I"⟩, 5) := ⟨⟨by decide +kernel, by decide +kernel⟩, List.mem_of_getElem? (i := 61) (by decide +kernel), List.mem_of_getElem? (i := 518) (by decide +kernel), List.mem_of_getElem? (i := 519) (by decide +kernel)⟩
theorem lw_p45 : lw_okq (⟨"RocketPrint$Show", "isRead", "(I)Z"⟩, 5) := ⟨⟨by decide +kernel, by decide +kernel⟩, List.mem_of_getElem? (i := 61) (by decide +kernel), List.mem_of_getElem? (i := 583) (by decide +kernel), List.mem_of_getElem? (i := 584) (by decide +kernel)⟩
theorem lw_p46 : lw_okq (⟨"RocketPrint$Best", "beginAbove", "(I)V"⟩, 2) := ⟨⟨by decide +kernel, by decide +kernel⟩, List.mem_of_getElem? (i := 86) (by decide +kernel), List.mem_of_getElem? (i := 591) (by decide +kernel), List.mem_of_getElem? (i := 592) (by decide +kernel)⟩
theorem lw_p47 : lw_okq (⟨"RocketPrint$Show", "lookersAt", "(II)I"⟩, 5) := ⟨⟨by decide +kernel, by decide +kernel⟩, List.mem_of_getElem? (i := 61) (by decide +kernel), List.mem_of_getElem? (i := 595) (by decide +kernel), List.mem_of_getElem? (i := 596) (by decide +kernel)⟩
def lw_privs_3 : List (MethodName × Nat) := [(⟨"RocketPrint$Show", "isWhole", "(II)Z"⟩, 5), (⟨"RocketPrint$Show", "isWholeAlone", "(II)Z"⟩, 5), (⟨"RocketPrint$Show", "reaches", "(II)Z"⟩, 5), (⟨"RocketPrint$Show", "distance", "(II)I"⟩, 5), (⟨"RocketPrint$Show", "rivalsOf", "(II)I"⟩, 5), (⟨"RocketPrint$Show", "overlap", "(II)Z"⟩, 5), (⟨"RocketPrint$Show", "isBefore", "(III)Z"⟩, 5), (⟨"RocketPrint$Night", "hasWork", "(I)Z"⟩, 6), (⟨"RocketPrint$Night", "stickOf", "(I)I"⟩, 6), (⟨"RocketPrint$Show", "readersWhole", "(I)I"⟩, 5), (⟨"RocketPrint$Night", "hasReader", "(I)Z"⟩, 6), (⟨"RocketPrint$Show", "worksWhole", "(I)I"⟩, 5), (⟨"RocketPrint$Show", "minutesOf", "(I)I"⟩, 5), (⟨"RocketPrint$Show", "isRead", "(I)Z"⟩, 5), (⟨"RocketPrint$Best", "beginAbove", "(I)V"⟩, 2), (⟨"RocketPrint$Show", "lookersAt", "(II)I"⟩, 5)]
theorem lw_r3 : ∀ q ∈ lw_privs_3, lw_okq q := List.forall_mem_cons.mpr ⟨lw_p32, List.forall_mem_cons.mpr ⟨lw_p33, List.forall_mem_cons.mpr ⟨lw_p34, List.forall_mem_cons.mpr ⟨lw_p35, List.forall_mem_cons.mpr ⟨lw_p36, List.forall_mem_cons.mpr ⟨lw_p37, List.forall_mem_cons.mpr ⟨lw_p38, List.forall_mem_cons.mpr ⟨lw_p39, List.forall_mem_cons.mpr ⟨lw_p40, List.forall_mem_cons.mpr ⟨lw_p41, List.forall_mem_cons.mpr ⟨lw_p42, List.forall_mem_cons.mpr ⟨lw_p43, List.forall_mem_cons.mpr ⟨lw_p44, List.forall_mem_cons.mpr ⟨lw_p45, List.forall_mem_cons.mpr ⟨lw_p46, List.forall_mem_cons.mpr ⟨lw_p47, fun _ h => absurd h List.not_mem_nil⟩⟩⟩⟩⟩⟩⟩⟩⟩⟩⟩⟩⟩⟩⟩⟩
theorem lw_p48 : lw_okq (⟨"RocketPrint$Best", "offer", "(II)V"⟩, 2) := ⟨⟨by decide +kernel, by decide +kernel⟩, List.mem_of_getElem? (i := 86) (by decide +kernel), List.mem_of_getElem? (i := 599) (by decide +kernel), List.mem_of_getElem? (i := 600) (by decide +kernel)⟩
theorem lw_p49 : lw_okq (⟨"RocketPrint$Best", "answer", "(I)I"⟩, 2) := ⟨⟨by decide +kernel, by decide +kernel⟩, List.mem_of_getElem? (i := 86) (by decide +kernel), List.mem_of_getElem? (i := 603) (by decide +kernel), List.mem_of_getElem? (i := 604) (by decide +kernel)⟩
theorem lw_p50 : lw_okq (⟨"RocketPrint", "minutesIfSwapped", "(II)I"⟩, 10) := ⟨⟨by decide +kernel, by decide +kernel⟩, List.mem_of_getElem? (i := 17) (by decide +kernel), List.mem_of_getElem? (i := 626) (by decide +kernel), List.mem_of_getElem? (i := 627) (by decide +kernel)⟩
theorem lw_p51 : lw_okq (⟨"RocketPrint$Show", "putOut", "(I)V"⟩, 5) := ⟨⟨by decide +kernel, by decide +kernel⟩, List.mem_of_getElem? (i := 61) (by decide +kernel), List.mem_of_getElem? (i := 634) (by decide +kernel), List.mem_of_getElem? (i := 635) (by decide +kernel)⟩
theorem lw_p52 : lw_okq (⟨"RocketPrint$Show", "minutesByAll", "(I)I"⟩, 5) := ⟨⟨by decide +kernel, by decide +kernel⟩, List.mem_of_getElem? (i := 61) (by decide +kernel), List.mem_of_getElem? (i := 651) (by decide +kernel), List.mem_of_getElem? (i := 652) (by decide +kernel)⟩
theorem lw_p53 : lw_okq (⟨"RocketPrint$Show", "choicesOf", "(II)I"⟩, 5) := ⟨⟨by decide +kernel, by decide +kernel⟩, List.mem_of_getElem? (i := 61) (by decide +kernel), List.mem_of_getElem? (i := 676) (by decide +kernel), List.mem_of_getElem? (i := 677) (by decide +kernel)⟩
theorem lw_p54 : lw_okq (⟨"RocketPrint$Sticks", "add", "(II)V"⟩, 3) := ⟨⟨by decide +kernel, by decide +kernel⟩, List.mem_of_getElem? (i := 140) (by decide +kernel), List.mem_of_getElem? (i := 684) (by decide +kernel), List.mem_of_getElem? (i := 685) (by decide +kernel)⟩
theorem lw_p55 : lw_okq (⟨"RocketPrint$Sticks", "agreeWith", "(LRocketPrint$Night;)Z"⟩, 3) := ⟨⟨by decide +kernel, by decide +kernel⟩, List.mem_of_getElem? (i := 140) (by decide +kernel), List.mem_of_getElem? (i := 696) (by decide +kernel), List.mem_of_getElem? (i := 697) (by decide +kernel)⟩
theorem lw_p56 : lw_okq (⟨"RocketPrint", "valuesAsSeen", "(II)I"⟩, 10) := ⟨⟨by decide +kernel, by decide +kernel⟩, List.mem_of_getElem? (i := 17) (by decide +kernel), List.mem_of_getElem? (i := 706) (by decide +kernel), List.mem_of_getElem? (i := 707) (by decide +kernel)⟩
theorem lw_p57 : lw_okq (⟨"RocketPrint", "windsLeftAtWorst", "(II)I"⟩, 10) := ⟨⟨by decide +kernel, by decide +kernel⟩, List.mem_of_getElem? (i := 17) (by decide +kernel), List.mem_of_getElem? (i := 719) (by decide +kernel), List.mem_of_getElem? (i := 720) (by decide +kernel)⟩
theorem lw_p58 : lw_okq (⟨"RocketPrint", "imageOf", "(I)LRocketPrint$Night;"⟩, 10) := ⟨⟨by decide +kernel, by decide +kernel⟩, List.mem_of_getElem? (i := 17) (by decide +kernel), List.mem_of_getElem? (i := 735) (by decide +kernel), List.mem_of_getElem? (i := 736) (by decide +kernel)⟩
theorem lw_p59 : lw_okq (⟨"RocketPrint$Sheets", "renew", "(III)V"⟩, 4) := ⟨⟨by decide +kernel, by decide +kernel⟩, List.mem_of_getElem? (i := 157) (by decide +kernel), List.mem_of_getElem? (i := 747) (by decide +kernel), List.mem_of_getElem? (i := 748) (by decide +kernel)⟩
theorem lw_p60 : lw_okq (⟨"RocketPrint$Sheets", "laneOf", "(I)I"⟩, 4) := ⟨⟨by decide +kernel, by decide +kernel⟩, List.mem_of_getElem? (i := 157) (by decide +kernel), List.mem_of_getElem? (i := 755) (by decide +kernel), List.mem_of_getElem? (i := 756) (by decide +kernel)⟩
theorem lw_p61 : lw_okq (⟨"RocketPrint$Sheets", "faultOf", "(IIII)I"⟩, 4) := ⟨⟨by decide +kernel, by decide +kernel⟩, List.mem_of_getElem? (i := 157) (by decide +kernel), List.mem_of_getElem? (i := 759) (by decide +kernel), List.mem_of_getElem? (i := 760) (by decide +kernel)⟩
theorem lw_p62 : lw_okq (⟨"RocketPrint$Sheets", "isNothing", "(I)Z"⟩, 4) := ⟨⟨by decide +kernel, by decide +kernel⟩, List.mem_of_getElem? (i := 157) (by decide +kernel), List.mem_of_getElem? (i := 763) (by decide +kernel), List.mem_of_getElem? (i := 764) (by decide +kernel)⟩
theorem lw_p63 : lw_okq (⟨"RocketPrint$Sheets", "put", "(III)V"⟩, 4) := ⟨⟨by decide +kernel, by decide +kernel⟩, List.mem_of_getElem? (i := 157) (by decide +kernel), List.mem_of_getElem? (i := 768) (by decide +kernel), List.mem_of_getElem? (i := 769) (by decide +kernel)⟩
def lw_privs_4 : List (MethodName × Nat) := [(⟨"RocketPrint$Best", "offer", "(II)V"⟩, 2), (⟨"RocketPrint$Best", "answer", "(I)I"⟩, 2), (⟨"RocketPrint", "minutesIfSwapped", "(II)I"⟩, 10), (⟨"RocketPrint$Show", "putOut", "(I)V"⟩, 5), (⟨"RocketPrint$Show", "minutesByAll", "(I)I"⟩, 5), (⟨"RocketPrint$Show", "choicesOf", "(II)I"⟩, 5), (⟨"RocketPrint$Sticks", "add", "(II)V"⟩, 3), (⟨"RocketPrint$Sticks", "agreeWith", "(LRocketPrint$Night;)Z"⟩, 3), (⟨"RocketPrint", "valuesAsSeen", "(II)I"⟩, 10), (⟨"RocketPrint", "windsLeftAtWorst", "(II)I"⟩, 10), (⟨"RocketPrint", "imageOf", "(I)LRocketPrint$Night;"⟩, 10), (⟨"RocketPrint$Sheets", "renew", "(III)V"⟩, 4), (⟨"RocketPrint$Sheets", "laneOf", "(I)I"⟩, 4), (⟨"RocketPrint$Sheets", "faultOf", "(IIII)I"⟩, 4), (⟨"RocketPrint$Sheets", "isNothing", "(I)Z"⟩, 4), (⟨"RocketPrint$Sheets", "put", "(III)V"⟩, 4)]
theorem lw_r4 : ∀ q ∈ lw_privs_4, lw_okq q := List.forall_mem_cons.mpr ⟨lw_p48, List.forall_mem_cons.mpr ⟨lw_p49, List.forall_mem_cons.mpr ⟨lw_p50, List.forall_mem_cons.mpr ⟨lw_p51, List.forall_mem_cons.mpr ⟨lw_p52, List.forall_mem_cons.mpr ⟨lw_p53, List.forall_mem_cons.mpr ⟨lw_p54, List.forall_mem_cons.mpr ⟨lw_p55, List.forall_mem_cons.mpr ⟨lw_p56, List.forall_mem_cons.mpr ⟨lw_p57, List.forall_mem_cons.mpr ⟨lw_p58, List.forall_mem_cons.mpr ⟨lw_p59, List.forall_mem_cons.mpr ⟨lw_p60, List.forall_mem_cons.mpr ⟨lw_p61, List.forall_mem_cons.mpr ⟨lw_p62, List.forall_mem_cons.mpr ⟨lw_p63, fun _ h => absurd h List.not_mem_nil⟩⟩⟩⟩⟩⟩⟩⟩⟩⟩⟩⟩⟩⟩⟩⟩
theorem lw_p64 : lw_okq (⟨"RocketPrint", "addFromSheet", "(II)I"⟩, 10) := ⟨⟨by decide +kernel, by decide +kernel⟩, List.mem_of_getElem? (i := 17) (by decide +kernel), List.mem_of_getElem? (i := 776) (by decide +kernel), List.mem_of_getElem? (i := 777) (by decide +kernel)⟩
theorem lw_p65 : lw_okq (⟨"RocketPrint$Sheets", "at", "(II)I"⟩, 4) := ⟨⟨by decide +kernel, by decide +kernel⟩, List.mem_of_getElem? (i := 157) (by decide +kernel), List.mem_of_getElem? (i := 780) (by decide +kernel), List.mem_of_getElem? (i := 781) (by decide +kernel)⟩
theorem lw_p66 : lw_okq (⟨"RocketPrint$Sheets", "sizeOf", "(I)I"⟩, 4) := ⟨⟨by decide +kernel, by decide +kernel⟩, List.mem_of_getElem? (i := 157) (by decide +kernel), List.mem_of_getElem? (i := 793) (by decide +kernel), List.mem_of_getElem? (i := 794) (by decide +kernel)⟩
theorem lw_p67 : lw_okq (⟨"RocketPrint$Night", "powerOfAll", "()I"⟩, 6) := ⟨⟨by decide +kernel, by decide +kernel⟩, List.mem_of_getElem? (i := 25) (by decide +kernel), List.mem_of_getElem? (i := 797) (by decide +kernel), List.mem_of_getElem? (i := 798) (by decide +kernel)⟩
theorem lw_p68 : lw_okq (⟨"RocketPrint$Night", "coughsOfAll", "()I"⟩, 6) := ⟨⟨by decide +kernel, by decide +kernel⟩, List.mem_of_getElem? (i := 25) (by decide +kernel), List.mem_of_getElem? (i := 801) (by decide +kernel), List.mem_of_getElem? (i := 802) (by decide +kernel)⟩
theorem lw_p69 : lw_okq (⟨"RocketPrintModel", "step", "()V"⟩, 27) := ⟨⟨by decide +kernel, by decide +kernel⟩, List.mem_of_getElem? (i := 806) (by decide +kernel), List.mem_of_getElem? (i := 911) (by decide +kernel), List.mem_of_getElem? (i := 912) (by decide +kernel)⟩
theorem lw_p70 : lw_okq (⟨"RocketPrintModel", "byteAt", "(I)I"⟩, 27) := ⟨⟨by decide +kernel, by decide +kernel⟩, List.mem_of_getElem? (i := 806) (by decide +kernel), List.mem_of_getElem? (i := 915) (by decide +kernel), List.mem_of_getElem? (i := 916) (by decide +kernel)⟩
theorem lw_p71 : lw_okq (⟨"RocketPrintModel", "fails", "(I)V"⟩, 27) := ⟨⟨by decide +kernel, by decide +kernel⟩, List.mem_of_getElem? (i := 806) (by decide +kernel), List.mem_of_getElem? (i := 923) (by decide +kernel), List.mem_of_getElem? (i := 924) (by decide +kernel)⟩
theorem lw_p72 : lw_okq (⟨"RocketPrintModel", "readLine", "()V"⟩, 27) := ⟨⟨by decide +kernel, by decide +kernel⟩, List.mem_of_getElem? (i := 806) (by decide +kernel), List.mem_of_getElem? (i := 927) (by decide +kernel), List.mem_of_getElem? (i := 928) (by decide +kernel)⟩
theorem lw_p73 : lw_okq (⟨"RocketPrintModel", "nameHere", "()I"⟩, 27) := ⟨⟨by decide +kernel, by decide +kernel⟩, List.mem_of_getElem? (i := 806) (by decide +kernel), List.mem_of_getElem? (i := 931) (by decide +kernel), List.mem_of_getElem? (i := 932) (by decide +kernel)⟩
theorem lw_p74 : lw_okq (⟨"RocketPrintModel", "readMore", "(I)V"⟩, 27) := ⟨⟨by decide +kernel, by decide +kernel⟩, List.mem_of_getElem? (i := 806) (by decide +kernel), List.mem_of_getElem? (i := 936) (by decide +kernel), List.mem_of_getElem? (i := 937) (by decide +kernel)⟩
theorem lw_p75 : lw_okq (⟨"RocketPrintModel", "number", "(II)I"⟩, 27) := ⟨⟨by decide +kernel, by decide +kernel⟩, List.mem_of_getElem? (i := 806) (by decide +kernel), List.mem_of_getElem? (i := 940) (by decide +kernel), List.mem_of_getElem? (i := 941) (by decide +kernel)⟩
theorem lw_p76 : lw_okq (⟨"RocketPrintModel", "nightOn", "(I)V"⟩, 27) := ⟨⟨by decide +kernel, by decide +kernel⟩, List.mem_of_getElem? (i := 806) (by decide +kernel), List.mem_of_getElem? (i := 952) (by decide +kernel), List.mem_of_getElem? (i := 953) (by decide +kernel)⟩
theorem lw_p77 : lw_okq (⟨"RocketPrintModel", "looksOn", "(III)I"⟩, 27) := ⟨⟨by decide +kernel, by decide +kernel⟩, List.mem_of_getElem? (i := 806) (by decide +kernel), List.mem_of_getElem? (i := 956) (by decide +kernel), List.mem_of_getElem? (i := 957) (by decide +kernel)⟩
theorem lw_p78 : lw_okq (⟨"RocketPrintModel", "burstOn", "(II)I"⟩, 27) := ⟨⟨by decide +kernel, by decide +kernel⟩, List.mem_of_getElem? (i := 806) (by decide +kernel), List.mem_of_getElem? (i := 960) (by decide +kernel), List.mem_of_getElem? (i := 961) (by decide +kernel)⟩
theorem lw_p79 : lw_okq (⟨"RocketPrintModel", "wideOn", "(II)I"⟩, 27) := ⟨⟨by decide +kernel, by decide +kernel⟩, List.mem_of_getElem? (i := 806) (by decide +kernel), List.mem_of_getElem? (i := 970) (by decide +kernel), List.mem_of_getElem? (i := 971) (by decide +kernel)⟩
def lw_privs_5 : List (MethodName × Nat) := [(⟨"RocketPrint", "addFromSheet", "(II)I"⟩, 10), (⟨"RocketPrint$Sheets", "at", "(II)I"⟩, 4), (⟨"RocketPrint$Sheets", "sizeOf", "(I)I"⟩, 4), (⟨"RocketPrint$Night", "powerOfAll", "()I"⟩, 6), (⟨"RocketPrint$Night", "coughsOfAll", "()I"⟩, 6), (⟨"RocketPrintModel", "step", "()V"⟩, 27), (⟨"RocketPrintModel", "byteAt", "(I)I"⟩, 27), (⟨"RocketPrintModel", "fails", "(I)V"⟩, 27), (⟨"RocketPrintModel", "readLine", "()V"⟩, 27), (⟨"RocketPrintModel", "nameHere", "()I"⟩, 27), (⟨"RocketPrintModel", "readMore", "(I)V"⟩, 27), (⟨"RocketPrintModel", "number", "(II)I"⟩, 27), (⟨"RocketPrintModel", "nightOn", "(I)V"⟩, 27), (⟨"RocketPrintModel", "looksOn", "(III)I"⟩, 27), (⟨"RocketPrintModel", "burstOn", "(II)I"⟩, 27), (⟨"RocketPrintModel", "wideOn", "(II)I"⟩, 27)]
theorem lw_r5 : ∀ q ∈ lw_privs_5, lw_okq q := List.forall_mem_cons.mpr ⟨lw_p64, List.forall_mem_cons.mpr ⟨lw_p65, List.forall_mem_cons.mpr ⟨lw_p66, List.forall_mem_cons.mpr ⟨lw_p67, List.forall_mem_cons.mpr ⟨lw_p68, List.forall_mem_cons.mpr ⟨lw_p69, List.forall_mem_cons.mpr ⟨lw_p70, List.forall_mem_cons.mpr ⟨lw_p71, List.forall_mem_cons.mpr ⟨lw_p72, List.forall_mem_cons.mpr ⟨lw_p73, List.forall_mem_cons.mpr ⟨lw_p74, List.forall_mem_cons.mpr ⟨lw_p75, List.forall_mem_cons.mpr ⟨lw_p76, List.forall_mem_cons.mpr ⟨lw_p77, List.forall_mem_cons.mpr ⟨lw_p78, List.forall_mem_cons.mpr ⟨lw_p79, fun _ h => absurd h List.not_mem_nil⟩⟩⟩⟩⟩⟩⟩⟩⟩⟩⟩⟩⟩⟩⟩⟩
theorem lw_p80 : lw_okq (⟨"RocketPrintModel", "isUp", "(III)Z"⟩, 27) := ⟨⟨by decide +kernel, by decide +kernel⟩, List.mem_of_getElem? (i := 806) (by decide +kernel), List.mem_of_getElem? (i := 974) (by decide +kernel), List.mem_of_getElem? (i := 975) (by decide +kernel)⟩
theorem lw_p81 : lw_okq (⟨"RocketPrintModel", "goesUp", "(II)Z"⟩, 27) := ⟨⟨by decide +kernel, by decide +kernel⟩, List.mem_of_getElem? (i := 806) (by decide +kernel), List.mem_of_getElem? (i := 978) (by decide +kernel), List.mem_of_getElem? (i := 979) (by decide +kernel)⟩
theorem lw_p82 : lw_okq (⟨"RocketPrintModel", "lastsOn", "(II)I"⟩, 27) := ⟨⟨by decide +kernel, by decide +kernel⟩, List.mem_of_getElem? (i := 806) (by decide +kernel), List.mem_of_getElem? (i := 982) (by decide +kernel), List.mem_of_getElem? (i := 983) (by decide +kernel)⟩
theorem lw_p83 : lw_okq (⟨"RocketPrintModel", "isWhole", "(III)Z"⟩, 27) := ⟨⟨by decide +kernel, by decide +kernel⟩, List.mem_of_getElem? (i := 806) (by decide +kernel), List.mem_of_getElem? (i := 986) (by decide +kernel), List.mem_of_getElem? (i := 987) (by decide +kernel)⟩
theorem lw_p84 : lw_okq (⟨"RocketPrintModel", "isWork", "(I)Z"⟩, 27) := ⟨⟨by decide +kernel, by decide +kernel⟩, List.mem_of_getElem? (i := 806) (by decide +kernel), List.mem_of_getElem? (i := 994) (by decide +kernel), List.mem_of_getElem? (i := 995) (by decide +kernel)⟩
theorem lw_p85 : lw_okq (⟨"RocketPrintModel", "stickOn", "(II)I"⟩, 27) := ⟨⟨by decide +kernel, by decide +kernel⟩, List.mem_of_getElem? (i := 806) (by decide +kernel), List.mem_of_getElem? (i := 998) (by decide +kernel), List.mem_of_getElem? (i := 999) (by decide +kernel)⟩
theorem lw_p86 : lw_okq (⟨"RocketPrintModel", "wholeBy", "(II)I"⟩, 27) := ⟨⟨by decide +kernel, by decide +kernel⟩, List.mem_of_getElem? (i := 806) (by decide +kernel), List.mem_of_getElem? (i := 1002) (by decide +kernel), List.mem_of_getElem? (i := 1003) (by decide +kernel)⟩
theorem lw_p87 : lw_okq (⟨"RocketPrintModel", "isReader", "(I)Z"⟩, 27) := ⟨⟨by decide +kernel, by decide +kernel⟩, List.mem_of_getElem? (i := 806) (by decide +kernel), List.mem_of_getElem? (i := 1010) (by decide +kernel), List.mem_of_getElem? (i := 1011) (by decide +kernel)⟩
theorem lw_p88 : lw_okq (⟨"RocketPrintModel", "minutesOf", "(I)I"⟩, 27) := ⟨⟨by decide +kernel, by decide +kernel⟩, List.mem_of_getElem? (i := 806) (by decide +kernel), List.mem_of_getElem? (i := 1015) (by decide +kernel), List.mem_of_getElem? (i := 1016) (by decide +kernel)⟩
theorem lw_p89 : lw_okq (⟨"RocketPrintModel", "puts", "(ZIII)I"⟩, 27) := ⟨⟨by decide +kernel, by decide +kernel⟩, List.mem_of_getElem? (i := 806) (by decide +kernel), List.mem_of_getElem? (i := 1048) (by decide +kernel), List.mem_of_getElem? (i := 1049) (by decide +kernel)⟩
theorem lw_p90 : lw_okq (⟨"RocketPrintModel", "writes", "(IIII)I"⟩, 27) := ⟨⟨by decide +kernel, by decide +kernel⟩, List.mem_of_getElem? (i := 806) (by decide +kernel), List.mem_of_getElem? (i := 1069) (by decide +kernel), List.mem_of_getElem? (i := 1070) (by decide +kernel)⟩
theorem lw_p91 : lw_okq (⟨"RocketPrintModel", "copies", "(II)V"⟩, 27) := ⟨⟨by decide +kernel, by decide +kernel⟩, List.mem_of_getElem? (i := 806) (by decide +kernel), List.mem_of_getElem? (i := 1101) (by decide +kernel), List.mem_of_getElem? (i := 1102) (by decide +kernel)⟩
theorem lw_p92 : lw_okq (⟨"RocketPrintModel", "byDamp", "(IIII)J"⟩, 27) := ⟨⟨by decide +kernel, by decide +kernel⟩, List.mem_of_getElem? (i := 806) (by decide +kernel), List.mem_of_getElem? (i := 1137) (by decide +kernel), List.mem_of_getElem? (i := 1138) (by decide +kernel)⟩
theorem lw_p93 : lw_okq (⟨"RocketPrintModel", "windsNow", "()I"⟩, 27) := ⟨⟨by decide +kernel, by decide +kernel⟩, List.mem_of_getElem? (i := 806) (by decide +kernel), List.mem_of_getElem? (i := 1161) (by decide +kernel), List.mem_of_getElem? (i := 1162) (by decide +kernel)⟩
theorem lw_p94 : lw_okq (⟨"RocketPrintModel", "isAsSeen", "(I)Z"⟩, 27) := ⟨⟨by decide +kernel, by decide +kernel⟩, List.mem_of_getElem? (i := 806) (by decide +kernel), List.mem_of_getElem? (i := 1165) (by decide +kernel), List.mem_of_getElem? (i := 1166) (by decide +kernel)⟩
def lw_privs_6 : List (MethodName × Nat) := [(⟨"RocketPrintModel", "isUp", "(III)Z"⟩, 27), (⟨"RocketPrintModel", "goesUp", "(II)Z"⟩, 27), (⟨"RocketPrintModel", "lastsOn", "(II)I"⟩, 27), (⟨"RocketPrintModel", "isWhole", "(III)Z"⟩, 27), (⟨"RocketPrintModel", "isWork", "(I)Z"⟩, 27), (⟨"RocketPrintModel", "stickOn", "(II)I"⟩, 27), (⟨"RocketPrintModel", "wholeBy", "(II)I"⟩, 27), (⟨"RocketPrintModel", "isReader", "(I)Z"⟩, 27), (⟨"RocketPrintModel", "minutesOf", "(I)I"⟩, 27), (⟨"RocketPrintModel", "puts", "(ZIII)I"⟩, 27), (⟨"RocketPrintModel", "writes", "(IIII)I"⟩, 27), (⟨"RocketPrintModel", "copies", "(II)V"⟩, 27), (⟨"RocketPrintModel", "byDamp", "(IIII)J"⟩, 27), (⟨"RocketPrintModel", "windsNow", "()I"⟩, 27), (⟨"RocketPrintModel", "isAsSeen", "(I)Z"⟩, 27)]
theorem lw_r6 : ∀ q ∈ lw_privs_6, lw_okq q := List.forall_mem_cons.mpr ⟨lw_p80, List.forall_mem_cons.mpr ⟨lw_p81, List.forall_mem_cons.mpr ⟨lw_p82, List.forall_mem_cons.mpr ⟨lw_p83, List.forall_mem_cons.mpr ⟨lw_p84, List.forall_mem_cons.mpr ⟨lw_p85, List.forall_mem_cons.mpr ⟨lw_p86, List.forall_mem_cons.mpr ⟨lw_p87, List.forall_mem_cons.mpr ⟨lw_p88, List.forall_mem_cons.mpr ⟨lw_p89, List.forall_mem_cons.mpr ⟨lw_p90, List.forall_mem_cons.mpr ⟨lw_p91, List.forall_mem_cons.mpr ⟨lw_p92, List.forall_mem_cons.mpr ⟨lw_p93, List.forall_mem_cons.mpr ⟨lw_p94, fun _ h => absurd h List.not_mem_nil⟩⟩⟩⟩⟩⟩⟩⟩⟩⟩⟩⟩⟩⟩⟩
def lw_privs : List (MethodName × Nat) := lw_privs_1 ++ (lw_privs_2 ++ (lw_privs_3 ++ (lw_privs_4 ++ (lw_privs_5 ++ (lw_privs_6)))))
def lw_tbl : List Cond := k2_sels lw_privs ++ tables_1
theorem lw_privs_ok : ∀ q ∈ lw_privs, lw_okq q := by
  show ∀ q ∈ lw_privs_1 ++ (lw_privs_2 ++ (lw_privs_3 ++ (lw_privs_4 ++ (lw_privs_5 ++ (lw_privs_6))))), lw_okq q
  exact List.forall_mem_append.mpr ⟨lw_r1, List.forall_mem_append.mpr ⟨lw_r2, List.forall_mem_append.mpr ⟨lw_r3, List.forall_mem_append.mpr ⟨lw_r4, List.forall_mem_append.mpr ⟨lw_r5, lw_r6⟩⟩⟩⟩⟩
-- ===== end of PART A; then your names; then what follows =====
end
section
def RX0 : String := "RocketPrint$Best"
def TX0 : u_T := fun k => match k with
  | 0 => ("RocketPrint$Best", "which", "I", false)
  | _ => ("RocketPrint$Best", "amount", "I", false)
def tyX0 : Nat → FieldType := fun k => match k with
  | 0 => .int
  | _ => .int
theorem nmX0 : ∀ a, a < 2 → ∀ b, b < 2 → a ≠ b → (TX0 a).2.1 ≠ (TX0 b).2.1 := by decide +kernel
theorem tyX0_ok : ∀ k, k < 2 → parseFieldDescriptor (TX0 k).2.2.1 = some (tyX0 k) := by decide +kernel
abbrev cX0_init : ByteArray := prog_2_method_1_code
def yX0_init : MethodName := ⟨RX0, "<init>", "()V"⟩
abbrev cX0_beginAbove : ByteArray := prog_2_method_2_code
def yX0_beginAbove : MethodName := ⟨RX0, "beginAbove", "(I)V"⟩
abbrev cX0_offer : ByteArray := prog_2_method_3_code
def yX0_offer : MethodName := ⟨RX0, "offer", "(II)V"⟩
abbrev cX0_answer : ByteArray := prog_2_method_4_code
def yX0_answer : MethodName := ⟨RX0, "answer", "(I)I"⟩
def RX1 : String := "RocketPrint$Night"
def TX1 : u_T := fun k => match k with
  | 0 => ("RocketPrint$Night", "workRows", "[I", true)
  | 1 => ("RocketPrint$Night", "readerRows", "[I", true)
  | 2 => ("RocketPrint$Night", "works", "I", false)
  | 3 => ("RocketPrint$Night", "readers", "I", false)
  | 4 => ("RocketPrint$Night", "wind", "I", false)
  | _ => ("RocketPrint$Night", "damp", "I", false)
def tyX1 : Nat → FieldType := fun k => match k with
  | 0 => .array .int
  | 1 => .array .int
  | 2 => .int
  | 3 => .int
  | 4 => .int
  | _ => .int
theorem nmX1 : ∀ a, a < 6 → ∀ b, b < 6 → a ≠ b → (TX1 a).2.1 ≠ (TX1 b).2.1 := by decide +kernel
theorem tyX1_ok : ∀ k, k < 6 → parseFieldDescriptor (TX1 k).2.2.1 = some (tyX1 k) := by decide +kernel
abbrev cX1_init : ByteArray := prog_3_method_1_code
def yX1_init : MethodName := ⟨RX1, "<init>", "()V"⟩
abbrev cX1_clear : ByteArray := prog_3_method_2_code
def yX1_clear : MethodName := ⟨RX1, "clear", "()V"⟩
abbrev cX1_become : ByteArray := prog_3_method_3_code
def yX1_become : MethodName := ⟨RX1, "become", "(LRocketPrint$Night;)V"⟩
abbrev cX1_hasWork : ByteArray := prog_3_method_4_code
def yX1_hasWork : MethodName := ⟨RX1, "hasWork", "(I)Z"⟩
abbrev cX1_hasReader : ByteArray := prog_3_method_5_code
def yX1_hasReader : MethodName := ⟨RX1, "hasReader", "(I)Z"⟩
abbrev cX1_ofWork : ByteArray := prog_3_method_6_code
def yX1_ofWork : MethodName := ⟨RX1, "ofWork", "(II)I"⟩
abbrev cX1_setWork : ByteArray := prog_3_method_7_code
def yX1_setWork : MethodName := ⟨RX1, "setWork", "(III)V"⟩
abbrev cX1_ofReader : ByteArray := prog_3_method_8_code
def yX1_ofReader : MethodName := ⟨RX1, "ofReader", "(II)I"⟩
abbrev cX1_setReader : ByteArray := prog_3_method_9_code
def yX1_setReader : MethodName := ⟨RX1, "setReader", "(III)V"⟩
abbrev cX1_addWork : ByteArray := prog_3_method_10_code
def yX1_addWork : MethodName := ⟨RX1, "addWork", "(IIII)I"⟩
abbrev cX1_addReader : ByteArray := prog_3_method_11_code
def yX1_addReader : MethodName := ⟨RX1, "addReader", "(II)I"⟩
abbrev cX1_lastsOf : ByteArray := prog_3_method_12_code
def yX1_lastsOf : MethodName := ⟨RX1, "lastsOf", "(I)I"⟩
abbrev cX1_wideOf : ByteArray := prog_3_method_13_code
def yX1_wideOf : MethodName := ⟨RX1, "wideOf", "(I)I"⟩
abbrev cX1_goesUp : ByteArray := prog_3_method_14_code
def yX1_goesUp : MethodName := ⟨RX1, "goesUp", "(I)Z"⟩
abbrev cX1_burstOf : ByteArray := prog_3_method_15_code
def yX1_burstOf : MethodName := ⟨RX1, "burstOf", "(I)I"⟩
abbrev cX1_stickOf : ByteArray := prog_3_method_16_code
def yX1_stickOf : MethodName := ⟨RX1, "stickOf", "(I)I"⟩
abbrev cX1_powerOfAll : ByteArray := prog_3_method_17_code
def yX1_powerOfAll : MethodName := ⟨RX1, "powerOfAll", "()I"⟩
abbrev cX1_coughsOfAll : ByteArray := prog_3_method_18_code
def yX1_coughsOfAll : MethodName := ⟨RX1, "coughsOfAll", "()I"⟩
def RX2 : String := "RocketPrint$Sheets"
def TX2 : u_T := fun k => match k with
  | 0 => ("RocketPrint$Sheets", "cells", "[I", true)
  | 1 => ("RocketPrint$Sheets", "lanes", "[I", true)
  | 2 => ("RocketPrint$Sheets", "sizes", "[I", true)
  | _ => ("RocketPrint$Sheets", "laid", "I", false)
def tyX2 : Nat → FieldType := fun k => match k with
  | 0 => .array .int
  | 1 => .array .int
  | 2 => .array .int
  | _ => .int
theorem nmX2 : ∀ a, a < 4 → ∀ b, b < 4 → a ≠ b → (TX2 a).2.1 ≠ (TX2 b).2.1 := by decide +kernel
theorem tyX2_ok : ∀ k, k < 4 → parseFieldDescriptor (TX2 k).2.2.1 = some (tyX2 k) := by decide +kernel
abbrev cX2_init : ByteArray := prog_4_method_1_code
def yX2_init : MethodName := ⟨RX2, "<init>", "()V"⟩
abbrev cX2_renew : ByteArray := prog_4_method_2_code
def yX2_renew : MethodName := ⟨RX2, "renew", "(III)V"⟩
abbrev cX2_isNothing : ByteArray := prog_4_method_3_code
def yX2_isNothing : MethodName := ⟨RX2, "isNothing", "(I)Z"⟩
abbrev cX2_laneOf : ByteArray := prog_4_method_4_code
def yX2_laneOf : MethodName := ⟨RX2, "laneOf", "(I)I"⟩
abbrev cX2_sizeOf : ByteArray := prog_4_method_5_code
def yX2_sizeOf : MethodName := ⟨RX2, "sizeOf", "(I)I"⟩
abbrev cX2_faultOf : ByteArray := prog_4_method_6_code
def yX2_faultOf : MethodName := ⟨RX2, "faultOf", "(IIII)I"⟩
abbrev cX2_put : ByteArray := prog_4_method_7_code
def yX2_put : MethodName := ⟨RX2, "put", "(III)V"⟩
abbrev cX2_at : ByteArray := prog_4_method_8_code
def yX2_at : MethodName := ⟨RX2, "at", "(II)I"⟩
def RX3 : String := "RocketPrint$Show"
def TX3 : u_T := fun k => match k with
  | 0 => ("RocketPrint$Show", "night", "LRocketPrint$Night;", true)
  | 1 => ("RocketPrint$Show", "start", "[I", true)
  | 2 => ("RocketPrint$Show", "stop", "[I", true)
  | 3 => ("RocketPrint$Show", "burst", "[I", true)
  | _ => ("RocketPrint$Show", "wide", "[I", true)
def tyX3 : Nat → FieldType := fun k => match k with
  | 0 => .object "RocketPrint$Night"
  | 1 => .array .int
  | 2 => .array .int
  | 3 => .array .int
  | _ => .array .int
theorem nmX3 : ∀ a, a < 5 → ∀ b, b < 5 → a ≠ b → (TX3 a).2.1 ≠ (TX3 b).2.1 := by decide +kernel
theorem tyX3_ok : ∀ k, k < 5 → parseFieldDescriptor (TX3 k).2.2.1 = some (tyX3 k) := by decide +kernel
abbrev cX3_init : ByteArray := prog_5_method_1_code
def yX3_init : MethodName := ⟨RX3, "<init>", "()V"⟩
abbrev cX3_begin : ByteArray := prog_5_method_2_code
def yX3_begin : MethodName := ⟨RX3, "begin", "(LRocketPrint$Night;)V"⟩
abbrev cX3_settle : ByteArray := prog_5_method_3_code
def yX3_settle : MethodName := ⟨RX3, "settle", "()V"⟩
abbrev cX3_putOut : ByteArray := prog_5_method_4_code
def yX3_putOut : MethodName := ⟨RX3, "putOut", "(I)V"⟩
abbrev cX3_isUp : ByteArray := prog_5_method_5_code
def yX3_isUp : MethodName := ⟨RX3, "isUp", "(II)Z"⟩
abbrev cX3_distance : ByteArray := prog_5_method_6_code
def yX3_distance : MethodName := ⟨RX3, "distance", "(II)I"⟩
abbrev cX3_reaches : ByteArray := prog_5_method_7_code
def yX3_reaches : MethodName := ⟨RX3, "reaches", "(II)Z"⟩
abbrev cX3_coughsAt : ByteArray := prog_5_method_8_code
def yX3_coughsAt : MethodName := ⟨RX3, "coughsAt", "(II)Z"⟩
abbrev cX3_lookedAt : ByteArray := prog_5_method_9_code
def yX3_lookedAt : MethodName := ⟨RX3, "lookedAt", "(II)I"⟩
abbrev cX3_isRead : ByteArray := prog_5_method_10_code
def yX3_isRead : MethodName := ⟨RX3, "isRead", "(I)Z"⟩
abbrev cX3_lookersAt : ByteArray := prog_5_method_11_code
def yX3_lookersAt : MethodName := ⟨RX3, "lookersAt", "(II)I"⟩
abbrev cX3_minutesAt : ByteArray := prog_5_method_12_code
def yX3_minutesAt : MethodName := ⟨RX3, "minutesAt", "(II)I"⟩
abbrev cX3_isWhole : ByteArray := prog_5_method_13_code
def yX3_isWhole : MethodName := ⟨RX3, "isWhole", "(II)Z"⟩
abbrev cX3_minutesOf : ByteArray := prog_5_method_14_code
def yX3_minutesOf : MethodName := ⟨RX3, "minutesOf", "(I)I"⟩
abbrev cX3_minutesByAll : ByteArray := prog_5_method_15_code
def yX3_minutesByAll : MethodName := ⟨RX3, "minutesByAll", "(I)I"⟩
abbrev cX3_minutesOfAll : ByteArray := prog_5_method_16_code
def yX3_minutesOfAll : MethodName := ⟨RX3, "minutesOfAll", "()I"⟩
abbrev cX3_worksWhole : ByteArray := prog_5_method_17_code
def yX3_worksWhole : MethodName := ⟨RX3, "worksWhole", "(I)I"⟩
abbrev cX3_readersWhole : ByteArray := prog_5_method_18_code
def yX3_readersWhole : MethodName := ⟨RX3, "readersWhole", "(I)I"⟩
abbrev cX3_wholesOfAll : ByteArray := prog_5_method_19_code
def yX3_wholesOfAll : MethodName := ⟨RX3, "wholesOfAll", "()I"⟩
abbrev cX3_isWholeAlone : ByteArray := prog_5_method_20_code
def yX3_isWholeAlone : MethodName := ⟨RX3, "isWholeAlone", "(II)Z"⟩
abbrev cX3_rivalsOf : ByteArray := prog_5_method_21_code
def yX3_rivalsOf : MethodName := ⟨RX3, "rivalsOf", "(II)I"⟩
abbrev cX3_overlap : ByteArray := prog_5_method_22_code
def yX3_overlap : MethodName := ⟨RX3, "overlap", "(II)Z"⟩
abbrev cX3_isBefore : ByteArray := prog_5_method_23_code
def yX3_isBefore : MethodName := ⟨RX3, "isBefore", "(III)Z"⟩
abbrev cX3_choicesOf : ByteArray := prog_5_method_24_code
def yX3_choicesOf : MethodName := ⟨RX3, "choicesOf", "(II)I"⟩
def RX4 : String := "RocketPrint$Sticks"
def TX4 : u_T := fun k => match k with
  | 0 => ("RocketPrint$Sticks", "works", "[I", true)
  | 1 => ("RocketPrint$Sticks", "places", "[I", true)
  | _ => ("RocketPrint$Sticks", "seen", "I", false)
def tyX4 : Nat → FieldType := fun k => match k with
  | 0 => .array .int
  | 1 => .array .int
  | _ => .int
theorem nmX4 : ∀ a, a < 3 → ∀ b, b < 3 → a ≠ b → (TX4 a).2.1 ≠ (TX4 b).2.1 := by decide +kernel
theorem tyX4_ok : ∀ k, k < 3 → parseFieldDescriptor (TX4 k).2.2.1 = some (tyX4 k) := by decide +kernel
abbrev cX4_init : ByteArray := prog_6_method_1_code
def yX4_init : MethodName := ⟨RX4, "<init>", "()V"⟩
abbrev cX4_add : ByteArray := prog_6_method_2_code
def yX4_add : MethodName := ⟨RX4, "add", "(II)V"⟩
abbrev cX4_agreeWith : ByteArray := prog_6_method_3_code
def yX4_agreeWith : MethodName := ⟨RX4, "agreeWith", "(LRocketPrint$Night;)Z"⟩
def RX5 : String := "RocketPrint$Tape"
def TX5 : u_T := fun k => match k with
  | 0 => ("RocketPrint$Tape", "bytes", "[B", true)
  | 1 => ("RocketPrint$Tape", "length", "I", false)
  | 2 => ("RocketPrint$Tape", "fault", "I", false)
  | 3 => ("RocketPrint$Tape", "token", "I", false)
  | 4 => ("RocketPrint$Tape", "place", "I", false)
  | 5 => ("RocketPrint$Tape", "behind", "I", false)
  | 6 => ("RocketPrint$Tape", "number", "I", false)
  | 7 => ("RocketPrint$Tape", "windTold", "Z", false)
  | _ => ("RocketPrint$Tape", "dampTold", "Z", false)
def tyX5 : Nat → FieldType := fun k => match k with
  | 0 => .array .byte
  | 1 => .int
  | 2 => .int
  | 3 => .int
  | 4 => .int
  | 5 => .int
  | 6 => .int
  | 7 => .boolean
  | _ => .boolean
theorem nmX5 : ∀ a, a < 9 → ∀ b, b < 9 → a ≠ b → (TX5 a).2.1 ≠ (TX5 b).2.1 := by decide +kernel
theorem tyX5_ok : ∀ k, k < 9 → parseFieldDescriptor (TX5 k).2.2.1 = some (tyX5 k) := by decide +kernel
abbrev cX5_init : ByteArray := prog_7_method_1_code
def yX5_init : MethodName := ⟨RX5, "<init>", "()V"⟩
abbrev cX5_tellTo : ByteArray := prog_7_method_2_code
def yX5_tellTo : MethodName := ⟨RX5, "tellTo", "(LRocketPrint$Night;)I"⟩
abbrev cX5_takeLine : ByteArray := prog_7_method_3_code
def yX5_takeLine : MethodName := ⟨RX5, "takeLine", "(LRocketPrint$Night;)V"⟩
abbrev cX5_takeWork : ByteArray := prog_7_method_4_code
def yX5_takeWork : MethodName := ⟨RX5, "takeWork", "(LRocketPrint$Night;I)V"⟩
abbrev cX5_takeReader : ByteArray := prog_7_method_5_code
def yX5_takeReader : MethodName := ⟨RX5, "takeReader", "(LRocketPrint$Night;)V"⟩
abbrev cX5_takeWind : ByteArray := prog_7_method_6_code
def yX5_takeWind : MethodName := ⟨RX5, "takeWind", "(LRocketPrint$Night;)V"⟩
abbrev cX5_takeDamp : ByteArray := prog_7_method_7_code
def yX5_takeDamp : MethodName := ⟨RX5, "takeDamp", "(LRocketPrint$Night;)V"⟩
abbrev cX5_takeNumber : ByteArray := prog_7_method_8_code
def yX5_takeNumber : MethodName := ⟨RX5, "takeNumber", "(II)I"⟩
abbrev cX5_takeSign : ByteArray := prog_7_method_9_code
def yX5_takeSign : MethodName := ⟨RX5, "takeSign", "()V"⟩
abbrev cX5_blame : ByteArray := prog_7_method_10_code
def yX5_blame : MethodName := ⟨RX5, "blame", "(I)V"⟩
abbrev cX5_takeToken : ByteArray := prog_7_method_11_code
def yX5_takeToken : MethodName := ⟨RX5, "takeToken", "()V"⟩
abbrev cX5_isLetter : ByteArray := prog_7_method_12_code
def yX5_isLetter : MethodName := ⟨RX5, "isLetter", "(B)Z"⟩
abbrev cX5_isFigure : ByteArray := prog_7_method_13_code
def yX5_isFigure : MethodName := ⟨RX5, "isFigure", "(B)Z"⟩
abbrev cX5_wordRead : ByteArray := prog_7_method_14_code
def yX5_wordRead : MethodName := ⟨RX5, "wordRead", "()I"⟩
abbrev cX5_isWord : ByteArray := prog_7_method_15_code
def yX5_isWord : MethodName := ⟨RX5, "isWord", "(Ljava/lang/String;)Z"⟩
def RX6 : String := "RocketPrint"
def TX6 : u_T := fun k => match k with
  | 0 => ("RocketPrint", "told", "LRocketPrint$Night;", true)
  | 1 => ("RocketPrint", "show", "LRocketPrint$Show;", true)
  | 2 => ("RocketPrint", "best", "LRocketPrint$Best;", true)
  | 3 => ("RocketPrint", "tape", "LRocketPrint$Tape;", true)
  | 4 => ("RocketPrint", "sticks", "LRocketPrint$Sticks;", true)
  | 5 => ("RocketPrint", "sheets", "LRocketPrint$Sheets;", true)
  | 6 => ("RocketPrint", "firstImage", "LRocketPrint$Night;", true)
  | 7 => ("RocketPrint", "secondImage", "LRocketPrint$Night;", true)
  | 8 => ("RocketPrint", "keptImages", "I", false)
  | _ => ("RocketPrint", "tornBy", "I", false)
def tyX6 : Nat → FieldType := fun k => match k with
  | 0 => .object "RocketPrint$Night"
  | 1 => .object "RocketPrint$Show"
  | 2 => .object "RocketPrint$Best"
  | 3 => .object "RocketPrint$Tape"
  | 4 => .object "RocketPrint$Sticks"
  | 5 => .object "RocketPrint$Sheets"
  | 6 => .object "RocketPrint$Night"
  | 7 => .object "RocketPrint$Night"
  | 8 => .int
  | _ => .int
theorem nmX6 : ∀ a, a < 10 → ∀ b, b < 10 → a ≠ b → (TX6 a).2.1 ≠ (TX6 b).2.1 := by decide +kernel
theorem tyX6_ok : ∀ k, k < 10 → parseFieldDescriptor (TX6 k).2.2.1 = some (tyX6 k) := by decide +kernel
abbrev cX6_init : ByteArray := prog_1_method_1_code
def yX6_init : MethodName := ⟨RX6, "<init>", "()V"⟩
abbrev cX6_feed : ByteArray := prog_1_method_2_code
def yX6_feed : MethodName := ⟨RX6, "feed", "(I)I"⟩
abbrev cX6_end : ByteArray := prog_1_method_3_code
def yX6_end : MethodName := ⟨RX6, "end", "(I)I"⟩
abbrev cX6_text : ByteArray := prog_1_method_4_code
def yX6_text : MethodName := ⟨RX6, "text", "()I"⟩
abbrev cX6_fault : ByteArray := prog_1_method_5_code
def yX6_fault : MethodName := ⟨RX6, "fault", "()I"⟩
abbrev cX6_rule : ByteArray := prog_1_method_6_code
def yX6_rule : MethodName := ⟨RX6, "rule", "(I)I"⟩
abbrev cX6_work : ByteArray := prog_1_method_7_code
def yX6_work : MethodName := ⟨RX6, "work", "(II)I"⟩
abbrev cX6_reader : ByteArray := prog_1_method_8_code
def yX6_reader : MethodName := ⟨RX6, "reader", "(II)I"⟩
abbrev cX6_reads : ByteArray := prog_1_method_9_code
def yX6_reads : MethodName := ⟨RX6, "reads", "(II)I"⟩
abbrev cX6_looks : ByteArray := prog_1_method_10_code
def yX6_looks : MethodName := ⟨RX6, "looks", "(II)I"⟩
abbrev cX6_sky : ByteArray := prog_1_method_11_code
def yX6_sky : MethodName := ⟨RX6, "sky", "(I)I"⟩
abbrev cX6_alter : ByteArray := prog_1_method_12_code
def yX6_alter : MethodName := ⟨RX6, "alter", "(III)I"⟩
abbrev cX6_move : ByteArray := prog_1_method_13_code
def yX6_move : MethodName := ⟨RX6, "move", "(III)I"⟩
abbrev cX6_blow : ByteArray := prog_1_method_14_code
def yX6_blow : MethodName := ⟨RX6, "blow", "(I)I"⟩
abbrev cX6_damp : ByteArray := prog_1_method_15_code
def yX6_damp : MethodName := ⟨RX6, "damp", "(I)I"⟩
abbrev cX6_write : ByteArray := prog_1_method_16_code
def yX6_write : MethodName := ⟨RX6, "write", "(IIII)I"⟩
abbrev cX6_come : ByteArray := prog_1_method_17_code
def yX6_come : MethodName := ⟨RX6, "come", "(II)I"⟩
abbrev cX6_burn : ByteArray := prog_1_method_18_code
def yX6_burn : MethodName := ⟨RX6, "burn", "(I)I"⟩
abbrev cX6_leave : ByteArray := prog_1_method_19_code
def yX6_leave : MethodName := ⟨RX6, "leave", "(I)I"⟩
abbrev cX6_first : ByteArray := prog_1_method_20_code
def yX6_first : MethodName := ⟨RX6, "first", "(I)I"⟩
abbrev cX6_dark : ByteArray := prog_1_method_21_code
def yX6_dark : MethodName := ⟨RX6, "dark", "()I"⟩
abbrev cX6_peak : ByteArray := prog_1_method_22_code
def yX6_peak : MethodName := ⟨RX6, "peak", "(II)I"⟩
abbrev cX6_when : ByteArray := prog_1_method_23_code
def yX6_when : MethodName := ⟨RX6, "when", "(II)I"⟩
abbrev cX6_stand : ByteArray := prog_1_method_24_code
def yX6_stand : MethodName := ⟨RX6, "stand", "(II)I"⟩
abbrev cX6_swap : ByteArray := prog_1_method_25_code
def yX6_swap : MethodName := ⟨RX6, "swap", "(I)I"⟩
abbrev cX6_minutesIfSwapped : ByteArray := prog_1_method_26_code
def yX6_minutesIfSwapped : MethodName := ⟨RX6, "minutesIfSwapped", "(II)I"⟩
abbrev cX6_lose : ByteArray := prog_1_method_27_code
def yX6_lose : MethodName := ⟨RX6, "lose", "(I)I"⟩
abbrev cX6_need : ByteArray := prog_1_method_28_code
def yX6_need : MethodName := ⟨RX6, "need", "(II)I"⟩
abbrev cX6_dry : ByteArray := prog_1_method_29_code
def yX6_dry : MethodName := ⟨RX6, "dry", "(I)I"⟩
abbrev cX6_kind : ByteArray := prog_1_method_30_code
def yX6_kind : MethodName := ⟨RX6, "kind", "(II)I"⟩
abbrev cX6_luck : ByteArray := prog_1_method_31_code
def yX6_luck : MethodName := ⟨RX6, "luck", "(IIII)J"⟩
abbrev cX6_mean : ByteArray := prog_1_method_32_code
def yX6_mean : MethodName := ⟨RX6, "mean", "(II)J"⟩
abbrev cX6_see : ByteArray := prog_1_method_33_code
def yX6_see : MethodName := ⟨RX6, "see", "(II)I"⟩
abbrev cX6_forget : ByteArray := prog_1_method_34_code
def yX6_forget : MethodName := ⟨RX6, "forget", "(I)I"⟩
abbrev cX6_winds : ByteArray := prog_1_method_35_code
def yX6_winds : MethodName := ⟨RX6, "winds", "()I"⟩
abbrev cX6_froms : ByteArray := prog_1_method_36_code
def yX6_froms : MethodName := ⟨RX6, "froms", "(I)I"⟩
abbrev cX6_kinds : ByteArray := prog_1_method_37_code
def yX6_kinds : MethodName := ⟨RX6, "kinds", "(I)I"⟩
abbrev cX6_valuesAsSeen : ByteArray := prog_1_method_38_code
def yX6_valuesAsSeen : MethodName := ⟨RX6, "valuesAsSeen", "(II)I"⟩
abbrev cX6_ask : ByteArray := prog_1_method_39_code
def yX6_ask : MethodName := ⟨RX6, "ask", "(I)I"⟩
abbrev cX6_windsLeftAtWorst : ByteArray := prog_1_method_40_code
def yX6_windsLeftAtWorst : MethodName := ⟨RX6, "windsLeftAtWorst", "(II)I"⟩
abbrev cX6_windsThatDrop : ByteArray := prog_1_method_41_code
def yX6_windsThatDrop : MethodName := ⟨RX6, "windsThatDrop", "(LRocketPrint$Night;III)I"⟩
abbrev cX6_drift : ByteArray := prog_1_method_42_code
def yX6_drift : MethodName := ⟨RX6, "drift", "(III)I"⟩
abbrev cX6_keep : ByteArray := prog_1_method_43_code
def yX6_keep : MethodName := ⟨RX6, "keep", "(I)I"⟩
abbrev cX6_back : ByteArray := prog_1_method_44_code
def yX6_back : MethodName := ⟨RX6, "back", "(I)I"⟩
abbrev cX6_imageOf : ByteArray := prog_1_method_45_code
def yX6_imageOf : MethodName := ⟨RX6, "imageOf", "(I)LRocketPrint$Night;"⟩
abbrev cX6_sheet : ByteArray := prog_1_method_46_code
def yX6_sheet : MethodName := ⟨RX6, "sheet", "(III)I"⟩
abbrev cX6_lay : ByteArray := prog_1_method_47_code
def yX6_lay : MethodName := ⟨RX6, "lay", "(III)I"⟩
abbrev cX6_read : ByteArray := prog_1_method_48_code
def yX6_read : MethodName := ⟨RX6, "read", "(IIII)I"⟩
abbrev cX6_addFromSheet : ByteArray := prog_1_method_49_code
def yX6_addFromSheet : MethodName := ⟨RX6, "addFromSheet", "(II)I"⟩
abbrev cX6_torn : ByteArray := prog_1_method_50_code
def yX6_torn : MethodName := ⟨RX6, "torn", "()I"⟩
abbrev cX6_count : ByteArray := prog_1_method_51_code
def yX6_count : MethodName := ⟨RX6, "count", "(I)I"⟩
abbrev cX6_within : ByteArray := prog_1_method_52_code
def yX6_within : MethodName := ⟨RX6, "within", "(III)Z"⟩
abbrev cX6_fitsWork : ByteArray := prog_1_method_53_code
def yX6_fitsWork : MethodName := ⟨RX6, "fitsWork", "(II)Z"⟩
abbrev cX6_fitsReader : ByteArray := prog_1_method_54_code
def yX6_fitsReader : MethodName := ⟨RX6, "fitsReader", "(II)Z"⟩
abbrev cX6_clampToDyke : ByteArray := prog_1_method_55_code
def yX6_clampToDyke : MethodName := ⟨RX6, "clampToDyke", "(I)I"⟩
abbrev cX6_power : ByteArray := prog_1_method_56_code
def yX6_power : MethodName := ⟨RX6, "power", "(JI)J"⟩
abbrev cX6_partOf : ByteArray := prog_1_method_57_code
def yX6_partOf : MethodName := ⟨RX6, "partOf", "(JJI)J"⟩
abbrev cX6_greatestDivisor : ByteArray := prog_1_method_58_code
def yX6_greatestDivisor : MethodName := ⟨RX6, "greatestDivisor", "(JJ)J"⟩
def RX7 : String := "RocketPrintModel"
def TX7 : u_T := fun k => match k with
  | 0 => ("RocketPrintModel", "state", "[I", true)
  | 1 => ("RocketPrintModel", "readPage", "[I", true)
  | 2 => ("RocketPrintModel", "toldOnce", "I", false)
  | 3 => ("RocketPrintModel", "tape", "[I", true)
  | 4 => ("RocketPrintModel", "taped", "I", false)
  | 5 => ("RocketPrintModel", "fault", "I", false)
  | 6 => ("RocketPrintModel", "broken", "I", false)
  | 7 => ("RocketPrintModel", "brokenAt", "I", false)
  | 8 => ("RocketPrintModel", "spot", "I", false)
  | 9 => ("RocketPrintModel", "here", "I", false)
  | 10 => ("RocketPrintModel", "token", "I", false)
  | 11 => ("RocketPrintModel", "value", "I", false)
  | 12 => ("RocketPrintModel", "ends", "[I", true)
  | 13 => ("RocketPrintModel", "letters", "[I", true)
  | 14 => ("RocketPrintModel", "dampOnes", "I", false)
  | 15 => ("RocketPrintModel", "readBy", "[I", true)
  | 16 => ("RocketPrintModel", "readMinutes", "I", false)
  | 17 => ("RocketPrintModel", "darkMinutes", "I", false)
  | 18 => ("RocketPrintModel", "wholes", "I", false)
  | 19 => ("RocketPrintModel", "seen", "[I", true)
  | 20 => ("RocketPrintModel", "seenMany", "I", false)
  | 21 => ("RocketPrintModel", "stickBy", "[I", true)
  | 22 => ("RocketPrintModel", "isKept", "[Z", true)
  | 23 => ("RocketPrintModel", "lanes", "[I", true)
  | 24 => ("RocketPrintModel", "lengths", "[I", true)
  | 25 => ("RocketPrintModel", "cells", "[I", true)
  | _ => ("RocketPrintModel", "torn", "I", false)
def tyX7 : Nat → FieldType := fun k => match k with
  | 0 => .array .int
  | 1 => .array .int
  | 2 => .int
  | 3 => .array .int
  | 4 => .int
  | 5 => .int
  | 6 => .int
  | 7 => .int
  | 8 => .int
  | 9 => .int
  | 10 => .int
  | 11 => .int
  | 12 => .array .int
  | 13 => .array .int
  | 14 => .int
  | 15 => .array .int
  | 16 => .int
  | 17 => .int
  | 18 => .int
  | 19 => .array .int
  | 20 => .int
  | 21 => .array .int
  | 22 => .array .boolean
  | 23 => .array .int
  | 24 => .array .int
  | 25 => .array .int
  | _ => .int
theorem nmX7 : ∀ a, a < 27 → ∀ b, b < 27 → a ≠ b → (TX7 a).2.1 ≠ (TX7 b).2.1 := by decide +kernel
theorem tyX7_ok : ∀ k, k < 27 → parseFieldDescriptor (TX7 k).2.2.1 = some (tyX7 k) := by decide +kernel
abbrev cX7_init : ByteArray := prog_9_method_1_code
def yX7_init : MethodName := ⟨RX7, "<init>", "()V"⟩
abbrev cX7_in : ByteArray := prog_9_method_3_code
def yX7_in : MethodName := ⟨RX7, "in", "(JJJ)Z"⟩
abbrev cX7_feed : ByteArray := prog_9_method_4_code
def yX7_feed : MethodName := ⟨RX7, "feed", "(I)I"⟩
abbrev cX7_end : ByteArray := prog_9_method_5_code
def yX7_end : MethodName := ⟨RX7, "end", "(I)I"⟩
abbrev cX7_byteAt : ByteArray := prog_9_method_6_code
def yX7_byteAt : MethodName := ⟨RX7, "byteAt", "(I)I"⟩
abbrev cX7_fails : ByteArray := prog_9_method_7_code
def yX7_fails : MethodName := ⟨RX7, "fails", "(I)V"⟩
abbrev cX7_nameHere : ByteArray := prog_9_method_8_code
def yX7_nameHere : MethodName := ⟨RX7, "nameHere", "()I"⟩
abbrev cX7_step : ByteArray := prog_9_method_9_code
def yX7_step : MethodName := ⟨RX7, "step", "()V"⟩
abbrev cX7_number : ByteArray := prog_9_method_10_code
def yX7_number : MethodName := ⟨RX7, "number", "(II)I"⟩
abbrev cX7_readMore : ByteArray := prog_9_method_11_code
def yX7_readMore : MethodName := ⟨RX7, "readMore", "(I)V"⟩
abbrev cX7_readLine : ByteArray := prog_9_method_12_code
def yX7_readLine : MethodName := ⟨RX7, "readLine", "()V"⟩
abbrev cX7_text : ByteArray := prog_9_method_13_code
def yX7_text : MethodName := ⟨RX7, "text", "()I"⟩
abbrev cX7_fault : ByteArray := prog_9_method_14_code
def yX7_fault : MethodName := ⟨RX7, "fault", "()I"⟩
abbrev cX7_isWork : ByteArray := prog_9_method_15_code
def yX7_isWork : MethodName := ⟨RX7, "isWork", "(I)Z"⟩
abbrev cX7_isReader : ByteArray := prog_9_method_16_code
def yX7_isReader : MethodName := ⟨RX7, "isReader", "(I)Z"⟩
abbrev cX7_isPlace : ByteArray := prog_9_method_17_code
def yX7_isPlace : MethodName := ⟨RX7, "isPlace", "(I)Z"⟩
abbrev cX7_isMinute : ByteArray := prog_9_method_18_code
def yX7_isMinute : MethodName := ⟨RX7, "isMinute", "(I)Z"⟩
abbrev cX7_lastsOn : ByteArray := prog_9_method_19_code
def yX7_lastsOn : MethodName := ⟨RX7, "lastsOn", "(II)I"⟩
abbrev cX7_wideOn : ByteArray := prog_9_method_20_code
def yX7_wideOn : MethodName := ⟨RX7, "wideOn", "(II)I"⟩
abbrev cX7_shore : ByteArray := prog_9_method_21_code
def yX7_shore : MethodName := ⟨RX7, "shore", "(I)I"⟩
abbrev cX7_burstOn : ByteArray := prog_9_method_22_code
def yX7_burstOn : MethodName := ⟨RX7, "burstOn", "(II)I"⟩
abbrev cX7_stickOn : ByteArray := prog_9_method_23_code
def yX7_stickOn : MethodName := ⟨RX7, "stickOn", "(II)I"⟩
abbrev cX7_goesUp : ByteArray := prog_9_method_24_code
def yX7_goesUp : MethodName := ⟨RX7, "goesUp", "(II)Z"⟩
abbrev cX7_isUp : ByteArray := prog_9_method_25_code
def yX7_isUp : MethodName := ⟨RX7, "isUp", "(III)Z"⟩
abbrev cX7_apart : ByteArray := prog_9_method_26_code
def yX7_apart : MethodName := ⟨RX7, "apart", "(II)I"⟩
abbrev cX7_looksOn : ByteArray := prog_9_method_27_code
def yX7_looksOn : MethodName := ⟨RX7, "looksOn", "(III)I"⟩
abbrev cX7_isWhole : ByteArray := prog_9_method_28_code
def yX7_isWhole : MethodName := ⟨RX7, "isWhole", "(III)Z"⟩
abbrev cX7_nightOn : ByteArray := prog_9_method_29_code
def yX7_nightOn : MethodName := ⟨RX7, "nightOn", "(I)V"⟩
abbrev cX7_rule : ByteArray := prog_9_method_30_code
def yX7_rule : MethodName := ⟨RX7, "rule", "(I)I"⟩
abbrev cX7_wholeBy : ByteArray := prog_9_method_31_code
def yX7_wholeBy : MethodName := ⟨RX7, "wholeBy", "(II)I"⟩
abbrev cX7_minutesOf : ByteArray := prog_9_method_32_code
def yX7_minutesOf : MethodName := ⟨RX7, "minutesOf", "(I)I"⟩
abbrev cX7_work : ByteArray := prog_9_method_33_code
def yX7_work : MethodName := ⟨RX7, "work", "(II)I"⟩
abbrev cX7_reader : ByteArray := prog_9_method_34_code
def yX7_reader : MethodName := ⟨RX7, "reader", "(II)I"⟩
abbrev cX7_reads : ByteArray := prog_9_method_35_code
def yX7_reads : MethodName := ⟨RX7, "reads", "(II)I"⟩
abbrev cX7_looks : ByteArray := prog_9_method_36_code
def yX7_looks : MethodName := ⟨RX7, "looks", "(II)I"⟩
abbrev cX7_sky : ByteArray := prog_9_method_37_code
def yX7_sky : MethodName := ⟨RX7, "sky", "(I)I"⟩
abbrev cX7_puts : ByteArray := prog_9_method_38_code
def yX7_puts : MethodName := ⟨RX7, "puts", "(ZIII)I"⟩
abbrev cX7_isGood : ByteArray := prog_9_method_39_code
def yX7_isGood : MethodName := ⟨RX7, "isGood", "(II)Z"⟩
abbrev cX7_alter : ByteArray := prog_9_method_40_code
def yX7_alter : MethodName := ⟨RX7, "alter", "(III)I"⟩
abbrev cX7_move : ByteArray := prog_9_method_41_code
def yX7_move : MethodName := ⟨RX7, "move", "(III)I"⟩
abbrev cX7_blow : ByteArray := prog_9_method_42_code
def yX7_blow : MethodName := ⟨RX7, "blow", "(I)I"⟩
abbrev cX7_damp : ByteArray := prog_9_method_43_code
def yX7_damp : MethodName := ⟨RX7, "damp", "(I)I"⟩
abbrev cX7_writes : ByteArray := prog_9_method_44_code
def yX7_writes : MethodName := ⟨RX7, "writes", "(IIII)I"⟩
abbrev cX7_write : ByteArray := prog_9_method_45_code
def yX7_write : MethodName := ⟨RX7, "write", "(IIII)I"⟩
abbrev cX7_come : ByteArray := prog_9_method_46_code
def yX7_come : MethodName := ⟨RX7, "come", "(II)I"⟩
abbrev cX7_burn : ByteArray := prog_9_method_47_code
def yX7_burn : MethodName := ⟨RX7, "burn", "(I)I"⟩
abbrev cX7_leave : ByteArray := prog_9_method_48_code
def yX7_leave : MethodName := ⟨RX7, "leave", "(I)I"⟩
abbrev cX7_first : ByteArray := prog_9_method_49_code
def yX7_first : MethodName := ⟨RX7, "first", "(I)I"⟩
abbrev cX7_dark : ByteArray := prog_9_method_50_code
def yX7_dark : MethodName := ⟨RX7, "dark", "()I"⟩
abbrev cX7_peak : ByteArray := prog_9_method_51_code
def yX7_peak : MethodName := ⟨RX7, "peak", "(II)I"⟩
abbrev cX7_copies : ByteArray := prog_9_method_52_code
def yX7_copies : MethodName := ⟨RX7, "copies", "(II)V"⟩
abbrev cX7_bitsOf : ByteArray := prog_9_method_53_code
def yX7_bitsOf : MethodName := ⟨RX7, "bitsOf", "(I)I"⟩
abbrev cX7_when : ByteArray := prog_9_method_54_code
def yX7_when : MethodName := ⟨RX7, "when", "(II)I"⟩
abbrev cX7_stand : ByteArray := prog_9_method_55_code
def yX7_stand : MethodName := ⟨RX7, "stand", "(II)I"⟩
abbrev cX7_swap : ByteArray := prog_9_method_56_code
def yX7_swap : MethodName := ⟨RX7, "swap", "(I)I"⟩
abbrev cX7_lose : ByteArray := prog_9_method_57_code
def yX7_lose : MethodName := ⟨RX7, "lose", "(I)I"⟩
abbrev cX7_need : ByteArray := prog_9_method_58_code
def yX7_need : MethodName := ⟨RX7, "need", "(II)I"⟩
abbrev cX7_dry : ByteArray := prog_9_method_59_code
def yX7_dry : MethodName := ⟨RX7, "dry", "(I)I"⟩
abbrev cX7_kind : ByteArray := prog_9_method_60_code
def yX7_kind : MethodName := ⟨RX7, "kind", "(II)I"⟩
abbrev cX7_lowest : ByteArray := prog_9_method_61_code
def yX7_lowest : MethodName := ⟨RX7, "lowest", "(JJI)J"⟩
abbrev cX7_byDamp : ByteArray := prog_9_method_62_code
def yX7_byDamp : MethodName := ⟨RX7, "byDamp", "(IIII)J"⟩
abbrev cX7_luck : ByteArray := prog_9_method_63_code
def yX7_luck : MethodName := ⟨RX7, "luck", "(IIII)J"⟩
abbrev cX7_mean : ByteArray := prog_9_method_64_code
def yX7_mean : MethodName := ⟨RX7, "mean", "(II)J"⟩
abbrev cX7_see : ByteArray := prog_9_method_65_code
def yX7_see : MethodName := ⟨RX7, "see", "(II)I"⟩
abbrev cX7_forget : ByteArray := prog_9_method_66_code
def yX7_forget : MethodName := ⟨RX7, "forget", "(I)I"⟩
abbrev cX7_isAsSeen : ByteArray := prog_9_method_67_code
def yX7_isAsSeen : MethodName := ⟨RX7, "isAsSeen", "(I)Z"⟩
abbrev cX7_windsNow : ByteArray := prog_9_method_68_code
def yX7_windsNow : MethodName := ⟨RX7, "windsNow", "()I"⟩
abbrev cX7_winds : ByteArray := prog_9_method_69_code
def yX7_winds : MethodName := ⟨RX7, "winds", "()I"⟩
abbrev cX7_froms : ByteArray := prog_9_method_70_code
def yX7_froms : MethodName := ⟨RX7, "froms", "(I)I"⟩
abbrev cX7_kinds : ByteArray := prog_9_method_71_code
def yX7_kinds : MethodName := ⟨RX7, "kinds", "(I)I"⟩
abbrev cX7_ask : ByteArray := prog_9_method_72_code
def yX7_ask : MethodName := ⟨RX7, "ask", "(I)I"⟩
abbrev cX7_drift : ByteArray := prog_9_method_73_code
def yX7_drift : MethodName := ⟨RX7, "drift", "(III)I"⟩
abbrev cX7_keep : ByteArray := prog_9_method_74_code
def yX7_keep : MethodName := ⟨RX7, "keep", "(I)I"⟩
abbrev cX7_back : ByteArray := prog_9_method_75_code
def yX7_back : MethodName := ⟨RX7, "back", "(I)I"⟩
abbrev cX7_sheet : ByteArray := prog_9_method_76_code
def yX7_sheet : MethodName := ⟨RX7, "sheet", "(III)I"⟩
abbrev cX7_lay : ByteArray := prog_9_method_77_code
def yX7_lay : MethodName := ⟨RX7, "lay", "(III)I"⟩
abbrev cX7_read : ByteArray := prog_9_method_78_code
def yX7_read : MethodName := ⟨RX7, "read", "(IIII)I"⟩
abbrev cX7_torn : ByteArray := prog_9_method_79_code
def yX7_torn : MethodName := ⟨RX7, "torn", "()I"⟩
abbrev cX7_count : ByteArray := prog_9_method_80_code
def yX7_count : MethodName := ⟨RX7, "count", "(I)I"⟩
def RJ6 : String := "java/lang/Integer"
abbrev cJ6_bitCount_0f7a4 : ByteArray := prog_10_method_49_code
def yJ6_bitCount_0f7a4 : MethodName := ⟨RJ6, "bitCount", "(I)I"⟩
def RJ9 : String := "java/lang/Math"
abbrev cJ9_abs_0f7a4 : ByteArray := prog_11_method_59_code
def yJ9_abs_0f7a4 : MethodName := ⟨RJ9, "abs", "(I)I"⟩
abbrev cJ9_max_7cf53 : ByteArray := prog_11_method_65_code
def yJ9_max_7cf53 : MethodName := ⟨RJ9, "max", "(II)I"⟩
abbrev cJ9_min_7cf53 : ByteArray := prog_11_method_69_code
def yJ9_min_7cf53 : MethodName := ⟨RJ9, "min", "(II)I"⟩
def RJ0 : String := "java/lang/String"
abbrev cJ0_length_8abf5 : ByteArray := prog_12_method_54_code
def yJ0_length_8abf5 : MethodName := ⟨RJ0, "length", "()I"⟩
abbrev cJ0_charAt_5068e : ByteArray := prog_12_method_56_code
def yJ0_charAt_5068e : MethodName := ⟨RJ0, "charAt", "(I)C"⟩
abbrev cJ0_coder_7d493 : ByteArray := prog_12_method_152_code
def yJ0_coder_7d493 : MethodName := ⟨RJ0, "coder", "()B"⟩
abbrev cJ0_isLatin1_aae02 : ByteArray := prog_12_method_154_code
def yJ0_isLatin1_aae02 : MethodName := ⟨RJ0, "isLatin1", "()Z"⟩
abbrev cJ0_checkIndex_df160 : ByteArray := prog_12_method_155_code
def yJ0_checkIndex_df160 : MethodName := ⟨RJ0, "checkIndex", "(II)V"⟩
def RJ1 : String := "java/lang/StringLatin1"
abbrev cJ1_charAt_3b067 : ByteArray := prog_13_method_2_code
def yJ1_charAt_3b067 : MethodName := ⟨RJ1, "charAt", "([BI)C"⟩
def RJ2 : String := "java/lang/StringUTF16"
abbrev cJ2_getChar_3b067 : ByteArray := prog_14_method_5_code
def yJ2_getChar_3b067 : MethodName := ⟨RJ2, "getChar", "([BI)C"⟩
abbrev cJ2_length_9d52b : ByteArray := prog_14_method_6_code
def yJ2_length_9d52b : MethodName := ⟨RJ2, "length", "([B)I"⟩
abbrev cJ2_charAt_3b067 : ByteArray := prog_14_method_83_code
def yJ2_charAt_3b067 : MethodName := ⟨RJ2, "charAt", "([BI)C"⟩
abbrev cJ2_checkIndex_2214a : ByteArray := prog_14_method_91_code
def yJ2_checkIndex_2214a : MethodName := ⟨RJ2, "checkIndex", "(I[B)V"⟩
def RJ10 : String := "java/lang/System"
def RJ3 : String := "jdk/internal/util/Preconditions"
abbrev cJ3_checkIndex_8e157 : ByteArray := prog_16_method_11_code
def yJ3_checkIndex_8e157 : MethodName := ⟨RJ3, "checkIndex", "(IILjava/util/function/BiFunction;)I"⟩
def RL : String := "RocketPrintLaw"
abbrev cL_law : ByteArray := code
def yL_law : MethodName := ⟨RL, "law", "([I)Z"⟩
abbrev vwCl : List vw_C := [(RX0, TX0, 2), (RX1, TX1, 6), (RX2, TX2, 4), (RX3, TX3, 5), (RX4, TX4, 3), (RX5, TX5, 9), (RX6, TX6, 10), (RX7, TX7, 27)]
end
section
theorem dX0_init_0 : decode cX0_init 0 = .ok (.aload_n 0, 1) := by decide +kernel
theorem dX0_init_1 : decode cX0_init 1 = .ok (.invokespecial 3, 3) := by decide +kernel
theorem dX0_init_4 : decode cX0_init 4 = .ok (.aload_n 0, 1) := by decide +kernel
theorem dX0_init_5 : decode cX0_init 5 = .ok (.bipush (-4), 2) := by decide +kernel
theorem dX0_init_7 : decode cX0_init 7 = .ok (.putfield 9, 3) := by decide +kernel
theorem dX0_init_10 : decode cX0_init 10 = .ok (.return_, 1) := by decide +kernel
theorem dX0_beginAbove_0 : decode cX0_beginAbove 0 = .ok (.aload_n 0, 1) := by decide +kernel
theorem dX0_beginAbove_1 : decode cX0_beginAbove 1 = .ok (.bipush (-4), 2) := by decide +kernel
theorem dX0_beginAbove_3 : decode cX0_beginAbove 3 = .ok (.putfield 9, 3) := by decide +kernel
theorem dX0_beginAbove_6 : decode cX0_beginAbove 6 = .ok (.aload_n 0, 1) := by decide +kernel
theorem dX0_beginAbove_7 : decode cX0_beginAbove 7 = .ok (.iload_n 1, 1) := by decide +kernel
theorem dX0_beginAbove_8 : decode cX0_beginAbove 8 = .ok (.putfield 15, 3) := by decide +kernel
theorem dX0_beginAbove_11 : decode cX0_beginAbove 11 = .ok (.return_, 1) := by decide +kernel
theorem dX0_offer_0 : decode cX0_offer 0 = .ok (.iload_n 2, 1) := by decide +kernel
theorem dX0_offer_1 : decode cX0_offer 1 = .ok (.aload_n 0, 1) := by decide +kernel
theorem dX0_offer_2 : decode cX0_offer 2 = .ok (.getfield 15, 3) := by decide +kernel
theorem dX0_offer_5 : decode cX0_offer 5 = .ok (.if_icmp .le 13, 3) := by decide +kernel
theorem dX0_offer_8 : decode cX0_offer 8 = .ok (.aload_n 0, 1) := by decide +kernel
theorem dX0_offer_9 : decode cX0_offer 9 = .ok (.iload_n 1, 1) := by decide +kernel
theorem dX0_offer_10 : decode cX0_offer 10 = .ok (.putfield 9, 3) := by decide +kernel
theorem dX0_offer_13 : decode cX0_offer 13 = .ok (.aload_n 0, 1) := by decide +kernel
theorem dX0_offer_14 : decode cX0_offer 14 = .ok (.iload_n 2, 1) := by decide +kernel
theorem dX0_offer_15 : decode cX0_offer 15 = .ok (.putfield 15, 3) := by decide +kernel
theorem dX0_offer_18 : decode cX0_offer 18 = .ok (.return_, 1) := by decide +kernel
theorem dX0_answer_0 : decode cX0_answer 0 = .ok (.aload_n 0, 1) := by decide +kernel
theorem dX0_answer_1 : decode cX0_answer 1 = .ok (.getfield 9, 3) := by decide +kernel
theorem dX0_answer_4 : decode cX0_answer 4 = .ok (.ifCond .lt 7, 3) := by decide +kernel
theorem dX0_answer_7 : decode cX0_answer 7 = .ok (.iload_n 1, 1) := by decide +kernel
theorem dX0_answer_8 : decode cX0_answer 8 = .ok (.ifCond .ne 10, 3) := by decide +kernel
theorem dX0_answer_11 : decode cX0_answer 11 = .ok (.aload_n 0, 1) := by decide +kernel
theorem dX0_answer_12 : decode cX0_answer 12 = .ok (.getfield 9, 3) := by decide +kernel
theorem dX0_answer_15 : decode cX0_answer 15 = .ok (.goto 7, 3) := by decide +kernel
theorem dX0_answer_18 : decode cX0_answer 18 = .ok (.aload_n 0, 1) := by decide +kernel
theorem dX0_answer_19 : decode cX0_answer 19 = .ok (.getfield 15, 3) := by decide +kernel
theorem dX0_answer_22 : decode cX0_answer 22 = .ok (.ireturn, 1) := by decide +kernel
theorem dX1_init_0 : decode cX1_init 0 = .ok (.aload_n 0, 1) := by decide +kernel
theorem dX1_init_1 : decode cX1_init 1 = .ok (.invokespecial 3, 3) := by decide +kernel
theorem dX1_init_4 : decode cX1_init 4 = .ok (.aload_n 0, 1) := by decide +kernel
theorem dX1_init_5 : decode cX1_init 5 = .ok (.bipush 24, 2) := by decide +kernel
theorem dX1_init_7 : decode cX1_init 7 = .ok (.newarray .int, 2) := by decide +kernel
theorem dX1_init_9 : decode cX1_init 9 = .ok (.putfield 9, 3) := by decide +kernel
theorem dX1_init_12 : decode cX1_init 12 = .ok (.aload_n 0, 1) := by decide +kernel
theorem dX1_init_13 : decode cX1_init 13 = .ok (.bipush 8, 2) := by decide +kernel
theorem dX1_init_15 : decode cX1_init 15 = .ok (.newarray .int, 2) := by decide +kernel
theorem dX1_init_17 : decode cX1_init 17 = .ok (.putfield 15, 3) := by decide +kernel
theorem dX1_init_20 : decode cX1_init 20 = .ok (.aload_n 0, 1) := by decide +kernel
theorem dX1_init_21 : decode cX1_init 21 = .ok (.iconst 4, 1) := by decide +kernel
theorem dX1_init_22 : decode cX1_init 22 = .ok (.putfield 18, 3) := by decide +kernel
theorem dX1_init_25 : decode cX1_init 25 = .ok (.return_, 1) := by decide +kernel
theorem dX1_clear_0 : decode cX1_clear 0 = .ok (.aload_n 0, 1) := by decide +kernel
theorem dX1_clear_1 : decode cX1_clear 1 = .ok (.iconst 0, 1) := by decide +kernel
theorem dX1_clear_2 : decode cX1_clear 2 = .ok (.putfield 22, 3) := by decide +kernel
theorem dX1_clear_5 : decode cX1_clear 5 = .ok (.aload_n 0, 1) := by decide +kernel
theorem dX1_clear_6 : decode cX1_clear 6 = .ok (.iconst 0, 1) := by decide +kernel
theorem dX1_clear_7 : decode cX1_clear 7 = .ok (.putfield 25, 3) := by decide +kernel
theorem dX1_clear_10 : decode cX1_clear 10 = .ok (.aload_n 0, 1) := by decide +kernel
theorem dX1_clear_11 : decode cX1_clear 11 = .ok (.iconst 4, 1) := by decide +kernel
theorem dX1_clear_12 : decode cX1_clear 12 = .ok (.putfield 18, 3) := by decide +kernel
theorem dX1_clear_15 : decode cX1_clear 15 = .ok (.aload_n 0, 1) := by decide +kernel
theorem dX1_clear_16 : decode cX1_clear 16 = .ok (.iconst 0, 1) := by decide +kernel
theorem dX1_clear_17 : decode cX1_clear 17 = .ok (.putfield 28, 3) := by decide +kernel
theorem dX1_clear_20 : decode cX1_clear 20 = .ok (.return_, 1) := by decide +kernel
theorem dX1_become_0 : decode cX1_become 0 = .ok (.aload_n 1, 1) := by decide +kernel
theorem dX1_become_1 : decode cX1_become 1 = .ok (.getfield 9, 3) := by decide +kernel
theorem dX1_become_4 : decode cX1_become 4 = .ok (.iconst 0, 1) := by decide +kernel
theorem dX1_become_5 : decode cX1_become 5 = .ok (.aload_n 0, 1) := by decide +kernel
theorem dX1_become_6 : decode cX1_become 6 = .ok (.getfield 9, 3) := by decide +kernel
theorem dX1_become_9 : decode cX1_become 9 = .ok (.iconst 0, 1) := by decide +kernel
theorem dX1_become_10 : decode cX1_become 10 = .ok (.bipush 24, 2) := by decide +kernel
theorem dX1_become_12 : decode cX1_become 12 = .ok (.invokestatic 31, 3) := by decide +kernel
theorem dX1_become_15 : decode cX1_become 15 = .ok (.aload_n 1, 1) := by decide +kernel
theorem dX1_become_16 : decode cX1_become 16 = .ok (.getfield 15, 3) := by decide +kernel
theorem dX1_become_19 : decode cX1_become 19 = .ok (.iconst 0, 1) := by decide +kernel
theorem dX1_become_20 : decode cX1_become 20 = .ok (.aload_n 0, 1) := by decide +kernel
theorem dX1_become_21 : decode cX1_become 21 = .ok (.getfield 15, 3) := by decide +kernel
theorem dX1_become_24 : decode cX1_become 24 = .ok (.iconst 0, 1) := by decide +kernel
theorem dX1_become_25 : decode cX1_become 25 = .ok (.bipush 8, 2) := by decide +kernel
theorem dX1_become_27 : decode cX1_become 27 = .ok (.invokestatic 31, 3) := by decide +kernel
theorem dX1_become_30 : decode cX1_become 30 = .ok (.aload_n 0, 1) := by decide +kernel
theorem dX1_become_31 : decode cX1_become 31 = .ok (.aload_n 1, 1) := by decide +kernel
theorem dX1_become_32 : decode cX1_become 32 = .ok (.getfield 22, 3) := by decide +kernel
theorem dX1_become_35 : decode cX1_become 35 = .ok (.putfield 22, 3) := by decide +kernel
theorem dX1_become_38 : decode cX1_become 38 = .ok (.aload_n 0, 1) := by decide +kernel
theorem dX1_become_39 : decode cX1_become 39 = .ok (.aload_n 1, 1) := by decide +kernel
theorem dX1_become_40 : decode cX1_become 40 = .ok (.getfield 25, 3) := by decide +kernel
theorem dX1_become_43 : decode cX1_become 43 = .ok (.putfield 25, 3) := by decide +kernel
theorem dX1_become_46 : decode cX1_become 46 = .ok (.aload_n 0, 1) := by decide +kernel
theorem dX1_become_47 : decode cX1_become 47 = .ok (.aload_n 1, 1) := by decide +kernel
theorem dX1_become_48 : decode cX1_become 48 = .ok (.getfield 18, 3) := by decide +kernel
theorem dX1_become_51 : decode cX1_become 51 = .ok (.putfield 18, 3) := by decide +kernel
theorem dX1_become_54 : decode cX1_become 54 = .ok (.aload_n 0, 1) := by decide +kernel
theorem dX1_become_55 : decode cX1_become 55 = .ok (.aload_n 1, 1) := by decide +kernel
theorem dX1_become_56 : decode cX1_become 56 = .ok (.getfield 28, 3) := by decide +kernel
theorem dX1_become_59 : decode cX1_become 59 = .ok (.putfield 28, 3) := by decide +kernel
theorem dX1_become_62 : decode cX1_become 62 = .ok (.return_, 1) := by decide +kernel
theorem dX1_hasWork_0 : decode cX1_hasWork 0 = .ok (.iload_n 1, 1) := by decide +kernel
theorem dX1_hasWork_1 : decode cX1_hasWork 1 = .ok (.iconst 0, 1) := by decide +kernel
theorem dX1_hasWork_2 : decode cX1_hasWork 2 = .ok (.aload_n 0, 1) := by decide +kernel
theorem dX1_hasWork_3 : decode cX1_hasWork 3 = .ok (.getfield 22, 3) := by decide +kernel
theorem dX1_hasWork_6 : decode cX1_hasWork 6 = .ok (.iconst 1, 1) := by decide +kernel
theorem dX1_hasWork_7 : decode cX1_hasWork 7 = .ok (.isub, 1) := by decide +kernel
theorem dX1_hasWork_8 : decode cX1_hasWork 8 = .ok (.invokestatic 37, 3) := by decide +kernel
theorem dX1_hasWork_11 : decode cX1_hasWork 11 = .ok (.ireturn, 1) := by decide +kernel
theorem dX1_hasReader_0 : decode cX1_hasReader 0 = .ok (.iload_n 1, 1) := by decide +kernel
theorem dX1_hasReader_1 : decode cX1_hasReader 1 = .ok (.iconst 0, 1) := by decide +kernel
theorem dX1_hasReader_2 : decode cX1_hasReader 2 = .ok (.aload_n 0, 1) := by decide +kernel
theorem dX1_hasReader_3 : decode cX1_hasReader 3 = .ok (.getfield 25, 3) := by decide +kernel
theorem dX1_hasReader_6 : decode cX1_hasReader 6 = .ok (.iconst 1, 1) := by decide +kernel
theorem dX1_hasReader_7 : decode cX1_hasReader 7 = .ok (.isub, 1) := by decide +kernel
theorem dX1_hasReader_8 : decode cX1_hasReader 8 = .ok (.invokestatic 37, 3) := by decide +kernel
theorem dX1_hasReader_11 : decode cX1_hasReader 11 = .ok (.ireturn, 1) := by decide +kernel
theorem dX1_ofWork_0 : decode cX1_ofWork 0 = .ok (.aload_n 0, 1) := by decide +kernel
theorem dX1_ofWork_1 : decode cX1_ofWork 1 = .ok (.getfield 9, 3) := by decide +kernel
theorem dX1_ofWork_4 : decode cX1_ofWork 4 = .ok (.iload_n 1, 1) := by decide +kernel
theorem dX1_ofWork_5 : decode cX1_ofWork 5 = .ok (.iconst 4, 1) := by decide +kernel
theorem dX1_ofWork_6 : decode cX1_ofWork 6 = .ok (.imul, 1) := by decide +kernel
theorem dX1_ofWork_7 : decode cX1_ofWork 7 = .ok (.iload_n 2, 1) := by decide +kernel
theorem dX1_ofWork_8 : decode cX1_ofWork 8 = .ok (.iadd, 1) := by decide +kernel
theorem dX1_ofWork_9 : decode cX1_ofWork 9 = .ok (.iaload, 1) := by decide +kernel
theorem dX1_ofWork_10 : decode cX1_ofWork 10 = .ok (.ireturn, 1) := by decide +kernel
theorem dX1_setWork_0 : decode cX1_setWork 0 = .ok (.aload_n 0, 1) := by decide +kernel
theorem dX1_setWork_1 : decode cX1_setWork 1 = .ok (.getfield 9, 3) := by decide +kernel
theorem dX1_setWork_4 : decode cX1_setWork 4 = .ok (.iload_n 1, 1) := by decide +kernel
theorem dX1_setWork_5 : decode cX1_setWork 5 = .ok (.iconst 4, 1) := by decide +kernel
theorem dX1_setWork_6 : decode cX1_setWork 6 = .ok (.imul, 1) := by decide +kernel
theorem dX1_setWork_7 : decode cX1_setWork 7 = .ok (.iload_n 2, 1) := by decide +kernel
theorem dX1_setWork_8 : decode cX1_setWork 8 = .ok (.iadd, 1) := by decide +kernel
theorem dX1_setWork_9 : decode cX1_setWork 9 = .ok (.iload_n 3, 1) := by decide +kernel
theorem dX1_setWork_10 : decode cX1_setWork 10 = .ok (.iastore, 1) := by decide +kernel
theorem dX1_setWork_11 : decode cX1_setWork 11 = .ok (.return_, 1) := by decide +kernel
theorem dX1_ofReader_0 : decode cX1_ofReader 0 = .ok (.aload_n 0, 1) := by decide +kernel
theorem dX1_ofReader_1 : decode cX1_ofReader 1 = .ok (.getfield 15, 3) := by decide +kernel
theorem dX1_ofReader_4 : decode cX1_ofReader 4 = .ok (.iload_n 1, 1) := by decide +kernel
theorem dX1_ofReader_5 : decode cX1_ofReader 5 = .ok (.iconst 2, 1) := by decide +kernel
theorem dX1_ofReader_6 : decode cX1_ofReader 6 = .ok (.imul, 1) := by decide +kernel
theorem dX1_ofReader_7 : decode cX1_ofReader 7 = .ok (.iload_n 2, 1) := by decide +kernel
theorem dX1_ofReader_8 : decode cX1_ofReader 8 = .ok (.iadd, 1) := by decide +kernel
theorem dX1_ofReader_9 : decode cX1_ofReader 9 = .ok (.iaload, 1) := by decide +kernel
theorem dX1_ofReader_10 : decode cX1_ofReader 10 = .ok (.ireturn, 1) := by decide +kernel
theorem dX1_setReader_0 : decode cX1_setReader 0 = .ok (.aload_n 0, 1) := by decide +kernel
theorem dX1_setReader_1 : decode cX1_setReader 1 = .ok (.getfield 15, 3) := by decide +kernel
theorem dX1_setReader_4 : decode cX1_setReader 4 = .ok (.iload_n 1, 1) := by decide +kernel
theorem dX1_setReader_5 : decode cX1_setReader 5 = .ok (.iconst 2, 1) := by decide +kernel
theorem dX1_setReader_6 : decode cX1_setReader 6 = .ok (.imul, 1) := by decide +kernel
theorem dX1_setReader_7 : decode cX1_setReader 7 = .ok (.iload_n 2, 1) := by decide +kernel
theorem dX1_setReader_8 : decode cX1_setReader 8 = .ok (.iadd, 1) := by decide +kernel
theorem dX1_setReader_9 : decode cX1_setReader 9 = .ok (.iload_n 3, 1) := by decide +kernel
theorem dX1_setReader_10 : decode cX1_setReader 10 = .ok (.iastore, 1) := by decide +kernel
theorem dX1_setReader_11 : decode cX1_setReader 11 = .ok (.return_, 1) := by decide +kernel
theorem dX1_addWork_0 : decode cX1_addWork 0 = .ok (.iconst 0, 1) := by decide +kernel
theorem dX1_addWork_1 : decode cX1_addWork 1 = .ok (.iload_n 1, 1) := by decide +kernel
theorem dX1_addWork_2 : decode cX1_addWork 2 = .ok (.invokestatic 41, 3) := by decide +kernel
theorem dX1_addWork_5 : decode cX1_addWork 5 = .ok (.ifCond .eq 28, 3) := by decide +kernel
theorem dX1_addWork_8 : decode cX1_addWork 8 = .ok (.iconst 1, 1) := by decide +kernel
theorem dX1_addWork_9 : decode cX1_addWork 9 = .ok (.iload_n 2, 1) := by decide +kernel
theorem dX1_addWork_10 : decode cX1_addWork 10 = .ok (.invokestatic 41, 3) := by decide +kernel
theorem dX1_addWork_13 : decode cX1_addWork 13 = .ok (.ifCond .eq 20, 3) := by decide +kernel
theorem dX1_addWork_16 : decode cX1_addWork 16 = .ok (.iconst 2, 1) := by decide +kernel
theorem dX1_addWork_17 : decode cX1_addWork 17 = .ok (.iload_n 3, 1) := by decide +kernel
theorem dX1_addWork_18 : decode cX1_addWork 18 = .ok (.invokestatic 41, 3) := by decide +kernel
theorem dX1_addWork_21 : decode cX1_addWork 21 = .ok (.ifCond .eq 12, 3) := by decide +kernel
theorem dX1_addWork_24 : decode cX1_addWork 24 = .ok (.iconst 3, 1) := by decide +kernel
theorem dX1_addWork_25 : decode cX1_addWork 25 = .ok (.iload 4, 2) := by decide +kernel
theorem dX1_addWork_27 : decode cX1_addWork 27 = .ok (.invokestatic 41, 3) := by decide +kernel
theorem dX1_addWork_30 : decode cX1_addWork 30 = .ok (.ifCond .ne 5, 3) := by decide +kernel
theorem dX1_addWork_33 : decode cX1_addWork 33 = .ok (.iconst (-1), 1) := by decide +kernel
theorem dX1_addWork_34 : decode cX1_addWork 34 = .ok (.ireturn, 1) := by decide +kernel
theorem dX1_addWork_35 : decode cX1_addWork 35 = .ok (.aload_n 0, 1) := by decide +kernel
theorem dX1_addWork_36 : decode cX1_addWork 36 = .ok (.getfield 22, 3) := by decide +kernel
theorem dX1_addWork_39 : decode cX1_addWork 39 = .ok (.bipush 6, 2) := by decide +kernel
theorem dX1_addWork_41 : decode cX1_addWork 41 = .ok (.if_icmp .lt 6, 3) := by decide +kernel
theorem dX1_addWork_44 : decode cX1_addWork 44 = .ok (.bipush (-3), 2) := by decide +kernel
theorem dX1_addWork_46 : decode cX1_addWork 46 = .ok (.ireturn, 1) := by decide +kernel
theorem dX1_addWork_47 : decode cX1_addWork 47 = .ok (.aload_n 0, 1) := by decide +kernel
theorem dX1_addWork_48 : decode cX1_addWork 48 = .ok (.aload_n 0, 1) := by decide +kernel
theorem dX1_addWork_49 : decode cX1_addWork 49 = .ok (.getfield 22, 3) := by decide +kernel
theorem dX1_addWork_52 : decode cX1_addWork 52 = .ok (.iconst 0, 1) := by decide +kernel
theorem dX1_addWork_53 : decode cX1_addWork 53 = .ok (.iload_n 1, 1) := by decide +kernel
theorem dX1_addWork_54 : decode cX1_addWork 54 = .ok (.invokevirtual 45, 3) := by decide +kernel
theorem dX1_addWork_57 : decode cX1_addWork 57 = .ok (.aload_n 0, 1) := by decide +kernel
theorem dX1_addWork_58 : decode cX1_addWork 58 = .ok (.aload_n 0, 1) := by decide +kernel
theorem dX1_addWork_59 : decode cX1_addWork 59 = .ok (.getfield 22, 3) := by decide +kernel
theorem dX1_addWork_62 : decode cX1_addWork 62 = .ok (.iconst 1, 1) := by decide +kernel
theorem dX1_addWork_63 : decode cX1_addWork 63 = .ok (.iload_n 2, 1) := by decide +kernel
theorem dX1_addWork_64 : decode cX1_addWork 64 = .ok (.invokevirtual 45, 3) := by decide +kernel
theorem dX1_addWork_67 : decode cX1_addWork 67 = .ok (.aload_n 0, 1) := by decide +kernel
theorem dX1_addWork_68 : decode cX1_addWork 68 = .ok (.aload_n 0, 1) := by decide +kernel
theorem dX1_addWork_69 : decode cX1_addWork 69 = .ok (.getfield 22, 3) := by decide +kernel
theorem dX1_addWork_72 : decode cX1_addWork 72 = .ok (.iconst 2, 1) := by decide +kernel
theorem dX1_addWork_73 : decode cX1_addWork 73 = .ok (.iload_n 3, 1) := by decide +kernel
theorem dX1_addWork_74 : decode cX1_addWork 74 = .ok (.invokevirtual 45, 3) := by decide +kernel
theorem dX1_addWork_77 : decode cX1_addWork 77 = .ok (.aload_n 0, 1) := by decide +kernel
theorem dX1_addWork_78 : decode cX1_addWork 78 = .ok (.aload_n 0, 1) := by decide +kernel
theorem dX1_addWork_79 : decode cX1_addWork 79 = .ok (.getfield 22, 3) := by decide +kernel
theorem dX1_addWork_82 : decode cX1_addWork 82 = .ok (.iconst 3, 1) := by decide +kernel
theorem dX1_addWork_83 : decode cX1_addWork 83 = .ok (.iload 4, 2) := by decide +kernel
theorem dX1_addWork_85 : decode cX1_addWork 85 = .ok (.invokevirtual 45, 3) := by decide +kernel
theorem dX1_addWork_88 : decode cX1_addWork 88 = .ok (.aload_n 0, 1) := by decide +kernel
theorem dX1_addWork_89 : decode cX1_addWork 89 = .ok (.dup, 1) := by decide +kernel
theorem dX1_addWork_90 : decode cX1_addWork 90 = .ok (.getfield 22, 3) := by decide +kernel
theorem dX1_addWork_93 : decode cX1_addWork 93 = .ok (.iconst 1, 1) := by decide +kernel
theorem dX1_addWork_94 : decode cX1_addWork 94 = .ok (.iadd, 1) := by decide +kernel
theorem dX1_addWork_95 : decode cX1_addWork 95 = .ok (.putfield 22, 3) := by decide +kernel
theorem dX1_addWork_98 : decode cX1_addWork 98 = .ok (.aload_n 0, 1) := by decide +kernel
theorem dX1_addWork_99 : decode cX1_addWork 99 = .ok (.getfield 22, 3) := by decide +kernel
theorem dX1_addWork_102 : decode cX1_addWork 102 = .ok (.ireturn, 1) := by decide +kernel
theorem dX1_addReader_0 : decode cX1_addReader 0 = .ok (.iconst 0, 1) := by decide +kernel
theorem dX1_addReader_1 : decode cX1_addReader 1 = .ok (.iload_n 1, 1) := by decide +kernel
theorem dX1_addReader_2 : decode cX1_addReader 2 = .ok (.invokestatic 49, 3) := by decide +kernel
theorem dX1_addReader_5 : decode cX1_addReader 5 = .ok (.ifCond .eq 11, 3) := by decide +kernel
theorem dX1_addReader_8 : decode cX1_addReader 8 = .ok (.iconst 1, 1) := by decide +kernel
theorem dX1_addReader_9 : decode cX1_addReader 9 = .ok (.iload_n 2, 1) := by decide +kernel
theorem dX1_addReader_10 : decode cX1_addReader 10 = .ok (.invokestatic 49, 3) := by decide +kernel
theorem dX1_addReader_13 : decode cX1_addReader 13 = .ok (.ifCond .ne 5, 3) := by decide +kernel
theorem dX1_addReader_16 : decode cX1_addReader 16 = .ok (.iconst (-1), 1) := by decide +kernel
theorem dX1_addReader_17 : decode cX1_addReader 17 = .ok (.ireturn, 1) := by decide +kernel
theorem dX1_addReader_18 : decode cX1_addReader 18 = .ok (.aload_n 0, 1) := by decide +kernel
theorem dX1_addReader_19 : decode cX1_addReader 19 = .ok (.getfield 25, 3) := by decide +kernel
theorem dX1_addReader_22 : decode cX1_addReader 22 = .ok (.iconst 4, 1) := by decide +kernel
theorem dX1_addReader_23 : decode cX1_addReader 23 = .ok (.if_icmp .lt 6, 3) := by decide +kernel
theorem dX1_addReader_26 : decode cX1_addReader 26 = .ok (.bipush (-3), 2) := by decide +kernel
theorem dX1_addReader_28 : decode cX1_addReader 28 = .ok (.ireturn, 1) := by decide +kernel
theorem dX1_addReader_29 : decode cX1_addReader 29 = .ok (.aload_n 0, 1) := by decide +kernel
theorem dX1_addReader_30 : decode cX1_addReader 30 = .ok (.aload_n 0, 1) := by decide +kernel
theorem dX1_addReader_31 : decode cX1_addReader 31 = .ok (.getfield 25, 3) := by decide +kernel
theorem dX1_addReader_34 : decode cX1_addReader 34 = .ok (.iconst 0, 1) := by decide +kernel
theorem dX1_addReader_35 : decode cX1_addReader 35 = .ok (.iload_n 1, 1) := by decide +kernel
theorem dX1_addReader_36 : decode cX1_addReader 36 = .ok (.invokevirtual 52, 3) := by decide +kernel
theorem dX1_addReader_39 : decode cX1_addReader 39 = .ok (.aload_n 0, 1) := by decide +kernel
theorem dX1_addReader_40 : decode cX1_addReader 40 = .ok (.aload_n 0, 1) := by decide +kernel
theorem dX1_addReader_41 : decode cX1_addReader 41 = .ok (.getfield 25, 3) := by decide +kernel
theorem dX1_addReader_44 : decode cX1_addReader 44 = .ok (.iconst 1, 1) := by decide +kernel
theorem dX1_addReader_45 : decode cX1_addReader 45 = .ok (.iload_n 2, 1) := by decide +kernel
theorem dX1_addReader_46 : decode cX1_addReader 46 = .ok (.invokevirtual 52, 3) := by decide +kernel
theorem dX1_addReader_49 : decode cX1_addReader 49 = .ok (.aload_n 0, 1) := by decide +kernel
theorem dX1_addReader_50 : decode cX1_addReader 50 = .ok (.dup, 1) := by decide +kernel
theorem dX1_addReader_51 : decode cX1_addReader 51 = .ok (.getfield 25, 3) := by decide +kernel
theorem dX1_addReader_54 : decode cX1_addReader 54 = .ok (.iconst 1, 1) := by decide +kernel
theorem dX1_addReader_55 : decode cX1_addReader 55 = .ok (.iadd, 1) := by decide +kernel
theorem dX1_addReader_56 : decode cX1_addReader 56 = .ok (.putfield 25, 3) := by decide +kernel
theorem dX1_addReader_59 : decode cX1_addReader 59 = .ok (.aload_n 0, 1) := by decide +kernel
theorem dX1_addReader_60 : decode cX1_addReader 60 = .ok (.getfield 25, 3) := by decide +kernel
theorem dX1_addReader_63 : decode cX1_addReader 63 = .ok (.ireturn, 1) := by decide +kernel
theorem dX1_lastsOf_0 : decode cX1_lastsOf 0 = .ok (.aload_n 0, 1) := by decide +kernel
theorem dX1_lastsOf_1 : decode cX1_lastsOf 1 = .ok (.iload_n 1, 1) := by decide +kernel
theorem dX1_lastsOf_2 : decode cX1_lastsOf 2 = .ok (.iconst 3, 1) := by decide +kernel
theorem dX1_lastsOf_3 : decode cX1_lastsOf 3 = .ok (.invokevirtual 55, 3) := by decide +kernel
theorem dX1_lastsOf_6 : decode cX1_lastsOf 6 = .ok (.istore_n 2, 1) := by decide +kernel
theorem dX1_lastsOf_7 : decode cX1_lastsOf 7 = .ok (.aload_n 0, 1) := by decide +kernel
theorem dX1_lastsOf_8 : decode cX1_lastsOf 8 = .ok (.iload_n 1, 1) := by decide +kernel
theorem dX1_lastsOf_9 : decode cX1_lastsOf 9 = .ok (.iconst 0, 1) := by decide +kernel
theorem dX1_lastsOf_10 : decode cX1_lastsOf 10 = .ok (.invokevirtual 55, 3) := by decide +kernel
theorem dX1_lastsOf_13 : decode cX1_lastsOf 13 = .ok (.tableswitch 39 0 2 #[27, 29, 33], 27) := by decide +kernel
theorem dX1_lastsOf_40 : decode cX1_lastsOf 40 = .ok (.iload_n 2, 1) := by decide +kernel
theorem dX1_lastsOf_41 : decode cX1_lastsOf 41 = .ok (.ireturn, 1) := by decide +kernel
theorem dX1_lastsOf_42 : decode cX1_lastsOf 42 = .ok (.iconst 2, 1) := by decide +kernel
theorem dX1_lastsOf_43 : decode cX1_lastsOf 43 = .ok (.iload_n 2, 1) := by decide +kernel
theorem dX1_lastsOf_44 : decode cX1_lastsOf 44 = .ok (.imul, 1) := by decide +kernel
theorem dX1_lastsOf_45 : decode cX1_lastsOf 45 = .ok (.ireturn, 1) := by decide +kernel
theorem dX1_lastsOf_46 : decode cX1_lastsOf 46 = .ok (.iload_n 2, 1) := by decide +kernel
theorem dX1_lastsOf_47 : decode cX1_lastsOf 47 = .ok (.iconst 2, 1) := by decide +kernel
theorem dX1_lastsOf_48 : decode cX1_lastsOf 48 = .ok (.idiv, 1) := by decide +kernel
theorem dX1_lastsOf_49 : decode cX1_lastsOf 49 = .ok (.iconst 1, 1) := by decide +kernel
theorem dX1_lastsOf_50 : decode cX1_lastsOf 50 = .ok (.iadd, 1) := by decide +kernel
theorem dX1_lastsOf_51 : decode cX1_lastsOf 51 = .ok (.ireturn, 1) := by decide +kernel
theorem dX1_lastsOf_52 : decode cX1_lastsOf 52 = .ok (.iload_n 2, 1) := by decide +kernel
theorem dX1_lastsOf_53 : decode cX1_lastsOf 53 = .ok (.iconst 2, 1) := by decide +kernel
theorem dX1_lastsOf_54 : decode cX1_lastsOf 54 = .ok (.idiv, 1) := by decide +kernel
theorem dX1_lastsOf_55 : decode cX1_lastsOf 55 = .ok (.ireturn, 1) := by decide +kernel
theorem dX1_wideOf_0 : decode cX1_wideOf 0 = .ok (.aload_n 0, 1) := by decide +kernel
theorem dX1_wideOf_1 : decode cX1_wideOf 1 = .ok (.iload_n 1, 1) := by decide +kernel
theorem dX1_wideOf_2 : decode cX1_wideOf 2 = .ok (.iconst 3, 1) := by decide +kernel
theorem dX1_wideOf_3 : decode cX1_wideOf 3 = .ok (.invokevirtual 55, 3) := by decide +kernel
theorem dX1_wideOf_6 : decode cX1_wideOf 6 = .ok (.istore_n 2, 1) := by decide +kernel
theorem dX1_wideOf_7 : decode cX1_wideOf 7 = .ok (.aload_n 0, 1) := by decide +kernel
theorem dX1_wideOf_8 : decode cX1_wideOf 8 = .ok (.iload_n 1, 1) := by decide +kernel
theorem dX1_wideOf_9 : decode cX1_wideOf 9 = .ok (.iconst 0, 1) := by decide +kernel
theorem dX1_wideOf_10 : decode cX1_wideOf 10 = .ok (.invokevirtual 55, 3) := by decide +kernel
theorem dX1_wideOf_13 : decode cX1_wideOf 13 = .ok (.tableswitch 33 0 2 #[27, 29, 27], 27) := by decide +kernel
theorem dX1_wideOf_40 : decode cX1_wideOf 40 = .ok (.iload_n 2, 1) := by decide +kernel
theorem dX1_wideOf_41 : decode cX1_wideOf 41 = .ok (.ireturn, 1) := by decide +kernel
theorem dX1_wideOf_42 : decode cX1_wideOf 42 = .ok (.iload_n 2, 1) := by decide +kernel
theorem dX1_wideOf_43 : decode cX1_wideOf 43 = .ok (.iconst 2, 1) := by decide +kernel
theorem dX1_wideOf_44 : decode cX1_wideOf 44 = .ok (.idiv, 1) := by decide +kernel
theorem dX1_wideOf_45 : decode cX1_wideOf 45 = .ok (.ireturn, 1) := by decide +kernel
theorem dX1_wideOf_46 : decode cX1_wideOf 46 = .ok (.iload_n 2, 1) := by decide +kernel
theorem dX1_wideOf_47 : decode cX1_wideOf 47 = .ok (.iconst 2, 1) := by decide +kernel
theorem dX1_wideOf_48 : decode cX1_wideOf 48 = .ok (.iadd, 1) := by decide +kernel
theorem dX1_wideOf_49 : decode cX1_wideOf 49 = .ok (.ireturn, 1) := by decide +kernel
theorem dX1_goesUp_0 : decode cX1_goesUp 0 = .ok (.aload_n 0, 1) := by decide +kernel
theorem dX1_goesUp_1 : decode cX1_goesUp 1 = .ok (.iload_n 1, 1) := by decide +kernel
theorem dX1_goesUp_2 : decode cX1_goesUp 2 = .ok (.iconst 3, 1) := by decide +kernel
theorem dX1_goesUp_3 : decode cX1_goesUp 3 = .ok (.invokevirtual 55, 3) := by decide +kernel
theorem dX1_goesUp_6 : decode cX1_goesUp 6 = .ok (.aload_n 0, 1) := by decide +kernel
theorem dX1_goesUp_7 : decode cX1_goesUp 7 = .ok (.getfield 28, 3) := by decide +kernel
theorem dX1_goesUp_10 : decode cX1_goesUp 10 = .ok (.if_icmp .le 7, 3) := by decide +kernel
theorem dX1_goesUp_13 : decode cX1_goesUp 13 = .ok (.iconst 1, 1) := by decide +kernel
theorem dX1_goesUp_14 : decode cX1_goesUp 14 = .ok (.goto 4, 3) := by decide +kernel
theorem dX1_goesUp_17 : decode cX1_goesUp 17 = .ok (.iconst 0, 1) := by decide +kernel
theorem dX1_goesUp_18 : decode cX1_goesUp 18 = .ok (.ireturn, 1) := by decide +kernel
theorem dX1_burstOf_0 : decode cX1_burstOf 0 = .ok (.aload_n 0, 1) := by decide +kernel
theorem dX1_burstOf_1 : decode cX1_burstOf 1 = .ok (.iload_n 1, 1) := by decide +kernel
theorem dX1_burstOf_2 : decode cX1_burstOf 2 = .ok (.iconst 1, 1) := by decide +kernel
theorem dX1_burstOf_3 : decode cX1_burstOf 3 = .ok (.invokevirtual 55, 3) := by decide +kernel
theorem dX1_burstOf_6 : decode cX1_burstOf 6 = .ok (.aload_n 0, 1) := by decide +kernel
theorem dX1_burstOf_7 : decode cX1_burstOf 7 = .ok (.getfield 18, 3) := by decide +kernel
theorem dX1_burstOf_10 : decode cX1_burstOf 10 = .ok (.iadd, 1) := by decide +kernel
theorem dX1_burstOf_11 : decode cX1_burstOf 11 = .ok (.iconst 4, 1) := by decide +kernel
theorem dX1_burstOf_12 : decode cX1_burstOf 12 = .ok (.isub, 1) := by decide +kernel
theorem dX1_burstOf_13 : decode cX1_burstOf 13 = .ok (.invokestatic 59, 3) := by decide +kernel
theorem dX1_burstOf_16 : decode cX1_burstOf 16 = .ok (.ireturn, 1) := by decide +kernel
theorem dX1_stickOf_0 : decode cX1_stickOf 0 = .ok (.aload_n 0, 1) := by decide +kernel
theorem dX1_stickOf_1 : decode cX1_stickOf 1 = .ok (.iload_n 1, 1) := by decide +kernel
theorem dX1_stickOf_2 : decode cX1_stickOf 2 = .ok (.invokevirtual 63, 3) := by decide +kernel
theorem dX1_stickOf_5 : decode cX1_stickOf 5 = .ok (.aload_n 0, 1) := by decide +kernel
theorem dX1_stickOf_6 : decode cX1_stickOf 6 = .ok (.getfield 18, 3) := by decide +kernel
theorem dX1_stickOf_9 : decode cX1_stickOf 9 = .ok (.iconst 4, 1) := by decide +kernel
theorem dX1_stickOf_10 : decode cX1_stickOf 10 = .ok (.isub, 1) := by decide +kernel
theorem dX1_stickOf_11 : decode cX1_stickOf 11 = .ok (.aload_n 0, 1) := by decide +kernel
theorem dX1_stickOf_12 : decode cX1_stickOf 12 = .ok (.iload_n 1, 1) := by decide +kernel
theorem dX1_stickOf_13 : decode cX1_stickOf 13 = .ok (.invokevirtual 66, 3) := by decide +kernel
theorem dX1_stickOf_16 : decode cX1_stickOf 16 = .ok (.imul, 1) := by decide +kernel
theorem dX1_stickOf_17 : decode cX1_stickOf 17 = .ok (.iconst 4, 1) := by decide +kernel
theorem dX1_stickOf_18 : decode cX1_stickOf 18 = .ok (.idiv, 1) := by decide +kernel
theorem dX1_stickOf_19 : decode cX1_stickOf 19 = .ok (.iadd, 1) := by decide +kernel
theorem dX1_stickOf_20 : decode cX1_stickOf 20 = .ok (.invokestatic 59, 3) := by decide +kernel
theorem dX1_stickOf_23 : decode cX1_stickOf 23 = .ok (.ireturn, 1) := by decide +kernel
theorem dX1_powerOfAll_0 : decode cX1_powerOfAll 0 = .ok (.iconst 0, 1) := by decide +kernel
theorem dX1_powerOfAll_1 : decode cX1_powerOfAll 1 = .ok (.istore_n 1, 1) := by decide +kernel
theorem dX1_powerOfAll_2 : decode cX1_powerOfAll 2 = .ok (.iconst 0, 1) := by decide +kernel
theorem dX1_powerOfAll_3 : decode cX1_powerOfAll 3 = .ok (.istore_n 2, 1) := by decide +kernel
theorem dX1_powerOfAll_4 : decode cX1_powerOfAll 4 = .ok (.iload_n 2, 1) := by decide +kernel
theorem dX1_powerOfAll_5 : decode cX1_powerOfAll 5 = .ok (.aload_n 0, 1) := by decide +kernel
theorem dX1_powerOfAll_6 : decode cX1_powerOfAll 6 = .ok (.getfield 22, 3) := by decide +kernel
theorem dX1_powerOfAll_9 : decode cX1_powerOfAll 9 = .ok (.if_icmp .ge 18, 3) := by decide +kernel
theorem dX1_powerOfAll_12 : decode cX1_powerOfAll 12 = .ok (.iload_n 1, 1) := by decide +kernel
theorem dX1_powerOfAll_13 : decode cX1_powerOfAll 13 = .ok (.aload_n 0, 1) := by decide +kernel
theorem dX1_powerOfAll_14 : decode cX1_powerOfAll 14 = .ok (.iload_n 2, 1) := by decide +kernel
theorem dX1_powerOfAll_15 : decode cX1_powerOfAll 15 = .ok (.iconst 3, 1) := by decide +kernel
theorem dX1_powerOfAll_16 : decode cX1_powerOfAll 16 = .ok (.invokevirtual 55, 3) := by decide +kernel
theorem dX1_powerOfAll_19 : decode cX1_powerOfAll 19 = .ok (.iadd, 1) := by decide +kernel
theorem dX1_powerOfAll_20 : decode cX1_powerOfAll 20 = .ok (.istore_n 1, 1) := by decide +kernel
theorem dX1_powerOfAll_21 : decode cX1_powerOfAll 21 = .ok (.iinc 2 1, 3) := by decide +kernel
theorem dX1_powerOfAll_24 : decode cX1_powerOfAll 24 = .ok (.goto (-20), 3) := by decide +kernel
theorem dX1_powerOfAll_27 : decode cX1_powerOfAll 27 = .ok (.iload_n 1, 1) := by decide +kernel
theorem dX1_powerOfAll_28 : decode cX1_powerOfAll 28 = .ok (.ireturn, 1) := by decide +kernel
theorem dX1_coughsOfAll_0 : decode cX1_coughsOfAll 0 = .ok (.iconst 0, 1) := by decide +kernel
theorem dX1_coughsOfAll_1 : decode cX1_coughsOfAll 1 = .ok (.istore_n 1, 1) := by decide +kernel
theorem dX1_coughsOfAll_2 : decode cX1_coughsOfAll 2 = .ok (.iconst 0, 1) := by decide +kernel
theorem dX1_coughsOfAll_3 : decode cX1_coughsOfAll 3 = .ok (.istore_n 2, 1) := by decide +kernel
theorem dX1_coughsOfAll_4 : decode cX1_coughsOfAll 4 = .ok (.iload_n 2, 1) := by decide +kernel
theorem dX1_coughsOfAll_5 : decode cX1_coughsOfAll 5 = .ok (.aload_n 0, 1) := by decide +kernel
theorem dX1_coughsOfAll_6 : decode cX1_coughsOfAll 6 = .ok (.getfield 25, 3) := by decide +kernel
theorem dX1_coughsOfAll_9 : decode cX1_coughsOfAll 9 = .ok (.if_icmp .ge 18, 3) := by decide +kernel
theorem dX1_coughsOfAll_12 : decode cX1_coughsOfAll 12 = .ok (.iload_n 1, 1) := by decide +kernel
theorem dX1_coughsOfAll_13 : decode cX1_coughsOfAll 13 = .ok (.aload_n 0, 1) := by decide +kernel
theorem dX1_coughsOfAll_14 : decode cX1_coughsOfAll 14 = .ok (.iload_n 2, 1) := by decide +kernel
theorem dX1_coughsOfAll_15 : decode cX1_coughsOfAll 15 = .ok (.iconst 1, 1) := by decide +kernel
theorem dX1_coughsOfAll_16 : decode cX1_coughsOfAll 16 = .ok (.invokevirtual 69, 3) := by decide +kernel
theorem dX1_coughsOfAll_19 : decode cX1_coughsOfAll 19 = .ok (.iadd, 1) := by decide +kernel
theorem dX1_coughsOfAll_20 : decode cX1_coughsOfAll 20 = .ok (.istore_n 1, 1) := by decide +kernel
theorem dX1_coughsOfAll_21 : decode cX1_coughsOfAll 21 = .ok (.iinc 2 1, 3) := by decide +kernel
theorem dX1_coughsOfAll_24 : decode cX1_coughsOfAll 24 = .ok (.goto (-20), 3) := by decide +kernel
theorem dX1_coughsOfAll_27 : decode cX1_coughsOfAll 27 = .ok (.iload_n 1, 1) := by decide +kernel
theorem dX1_coughsOfAll_28 : decode cX1_coughsOfAll 28 = .ok (.ireturn, 1) := by decide +kernel
theorem dX2_init_0 : decode cX2_init 0 = .ok (.aload_n 0, 1) := by decide +kernel
theorem dX2_init_1 : decode cX2_init 1 = .ok (.invokespecial 3, 3) := by decide +kernel
theorem dX2_init_4 : decode cX2_init 4 = .ok (.aload_n 0, 1) := by decide +kernel
theorem dX2_init_5 : decode cX2_init 5 = .ok (.sipush 160, 3) := by decide +kernel
theorem dX2_init_8 : decode cX2_init 8 = .ok (.newarray .int, 2) := by decide +kernel
theorem dX2_init_10 : decode cX2_init 10 = .ok (.putfield 9, 3) := by decide +kernel
theorem dX2_init_13 : decode cX2_init 13 = .ok (.aload_n 0, 1) := by decide +kernel
theorem dX2_init_14 : decode cX2_init 14 = .ok (.iconst 4, 1) := by decide +kernel
theorem dX2_init_15 : decode cX2_init 15 = .ok (.newarray .int, 2) := by decide +kernel
theorem dX2_init_17 : decode cX2_init 17 = .ok (.putfield 15, 3) := by decide +kernel
theorem dX2_init_20 : decode cX2_init 20 = .ok (.aload_n 0, 1) := by decide +kernel
theorem dX2_init_21 : decode cX2_init 21 = .ok (.iconst 4, 1) := by decide +kernel
theorem dX2_init_22 : decode cX2_init 22 = .ok (.newarray .int, 2) := by decide +kernel
theorem dX2_init_24 : decode cX2_init 24 = .ok (.putfield 18, 3) := by decide +kernel
theorem dX2_init_27 : decode cX2_init 27 = .ok (.return_, 1) := by decide +kernel
theorem dX2_renew_0 : decode cX2_renew 0 = .ok (.aload_n 0, 1) := by decide +kernel
theorem dX2_renew_1 : decode cX2_renew 1 = .ok (.dup, 1) := by decide +kernel
theorem dX2_renew_2 : decode cX2_renew 2 = .ok (.getfield 21, 3) := by decide +kernel
theorem dX2_renew_5 : decode cX2_renew 5 = .ok (.iconst 1, 1) := by decide +kernel
theorem dX2_renew_6 : decode cX2_renew 6 = .ok (.iload_n 1, 1) := by decide +kernel
theorem dX2_renew_7 : decode cX2_renew 7 = .ok (.ishl, 1) := by decide +kernel
theorem dX2_renew_8 : decode cX2_renew 8 = .ok (.ior, 1) := by decide +kernel
theorem dX2_renew_9 : decode cX2_renew 9 = .ok (.putfield 21, 3) := by decide +kernel
theorem dX2_renew_12 : decode cX2_renew 12 = .ok (.aload_n 0, 1) := by decide +kernel
theorem dX2_renew_13 : decode cX2_renew 13 = .ok (.getfield 15, 3) := by decide +kernel
theorem dX2_renew_16 : decode cX2_renew 16 = .ok (.iload_n 1, 1) := by decide +kernel
theorem dX2_renew_17 : decode cX2_renew 17 = .ok (.iload_n 2, 1) := by decide +kernel
theorem dX2_renew_18 : decode cX2_renew 18 = .ok (.iastore, 1) := by decide +kernel
theorem dX2_renew_19 : decode cX2_renew 19 = .ok (.aload_n 0, 1) := by decide +kernel
theorem dX2_renew_20 : decode cX2_renew 20 = .ok (.getfield 18, 3) := by decide +kernel
theorem dX2_renew_23 : decode cX2_renew 23 = .ok (.iload_n 1, 1) := by decide +kernel
theorem dX2_renew_24 : decode cX2_renew 24 = .ok (.iload_n 3, 1) := by decide +kernel
theorem dX2_renew_25 : decode cX2_renew 25 = .ok (.iastore, 1) := by decide +kernel
theorem dX2_renew_26 : decode cX2_renew 26 = .ok (.iconst 0, 1) := by decide +kernel
theorem dX2_renew_27 : decode cX2_renew 27 = .ok (.istore 4, 2) := by decide +kernel
theorem dX2_renew_29 : decode cX2_renew 29 = .ok (.iload 4, 2) := by decide +kernel
theorem dX2_renew_31 : decode cX2_renew 31 = .ok (.iload_n 3, 1) := by decide +kernel
theorem dX2_renew_32 : decode cX2_renew 32 = .ok (.if_icmp .ge 22, 3) := by decide +kernel
theorem dX2_renew_35 : decode cX2_renew 35 = .ok (.aload_n 0, 1) := by decide +kernel
theorem dX2_renew_36 : decode cX2_renew 36 = .ok (.getfield 9, 3) := by decide +kernel
theorem dX2_renew_39 : decode cX2_renew 39 = .ok (.iload_n 1, 1) := by decide +kernel
theorem dX2_renew_40 : decode cX2_renew 40 = .ok (.bipush 40, 2) := by decide +kernel
theorem dX2_renew_42 : decode cX2_renew 42 = .ok (.imul, 1) := by decide +kernel
theorem dX2_renew_43 : decode cX2_renew 43 = .ok (.iload 4, 2) := by decide +kernel
theorem dX2_renew_45 : decode cX2_renew 45 = .ok (.iadd, 1) := by decide +kernel
theorem dX2_renew_46 : decode cX2_renew 46 = .ok (.iconst 0, 1) := by decide +kernel
theorem dX2_renew_47 : decode cX2_renew 47 = .ok (.iastore, 1) := by decide +kernel
theorem dX2_renew_48 : decode cX2_renew 48 = .ok (.iinc 4 1, 3) := by decide +kernel
theorem dX2_renew_51 : decode cX2_renew 51 = .ok (.goto (-22), 3) := by decide +kernel
theorem dX2_renew_54 : decode cX2_renew 54 = .ok (.return_, 1) := by decide +kernel
theorem dX2_isNothing_0 : decode cX2_isNothing 0 = .ok (.aload_n 0, 1) := by decide +kernel
theorem dX2_isNothing_1 : decode cX2_isNothing 1 = .ok (.getfield 21, 3) := by decide +kernel
theorem dX2_isNothing_4 : decode cX2_isNothing 4 = .ok (.iload_n 1, 1) := by decide +kernel
theorem dX2_isNothing_5 : decode cX2_isNothing 5 = .ok (.ishr, 1) := by decide +kernel
theorem dX2_isNothing_6 : decode cX2_isNothing 6 = .ok (.iconst 1, 1) := by decide +kernel
theorem dX2_isNothing_7 : decode cX2_isNothing 7 = .ok (.iand, 1) := by decide +kernel
theorem dX2_isNothing_8 : decode cX2_isNothing 8 = .ok (.ifCond .ne 7, 3) := by decide +kernel
theorem dX2_isNothing_11 : decode cX2_isNothing 11 = .ok (.iconst 1, 1) := by decide +kernel
theorem dX2_isNothing_12 : decode cX2_isNothing 12 = .ok (.goto 4, 3) := by decide +kernel
theorem dX2_isNothing_15 : decode cX2_isNothing 15 = .ok (.iconst 0, 1) := by decide +kernel
theorem dX2_isNothing_16 : decode cX2_isNothing 16 = .ok (.ireturn, 1) := by decide +kernel
theorem dX2_laneOf_0 : decode cX2_laneOf 0 = .ok (.aload_n 0, 1) := by decide +kernel
theorem dX2_laneOf_1 : decode cX2_laneOf 1 = .ok (.getfield 15, 3) := by decide +kernel
theorem dX2_laneOf_4 : decode cX2_laneOf 4 = .ok (.iload_n 1, 1) := by decide +kernel
theorem dX2_laneOf_5 : decode cX2_laneOf 5 = .ok (.iaload, 1) := by decide +kernel
theorem dX2_laneOf_6 : decode cX2_laneOf 6 = .ok (.ireturn, 1) := by decide +kernel
theorem dX2_sizeOf_0 : decode cX2_sizeOf 0 = .ok (.aload_n 0, 1) := by decide +kernel
theorem dX2_sizeOf_1 : decode cX2_sizeOf 1 = .ok (.getfield 18, 3) := by decide +kernel
theorem dX2_sizeOf_4 : decode cX2_sizeOf 4 = .ok (.iload_n 1, 1) := by decide +kernel
theorem dX2_sizeOf_5 : decode cX2_sizeOf 5 = .ok (.iaload, 1) := by decide +kernel
theorem dX2_sizeOf_6 : decode cX2_sizeOf 6 = .ok (.ireturn, 1) := by decide +kernel
theorem dX2_faultOf_0 : decode cX2_faultOf 0 = .ok (.aload_n 0, 1) := by decide +kernel
theorem dX2_faultOf_1 : decode cX2_faultOf 1 = .ok (.iload_n 1, 1) := by decide +kernel
theorem dX2_faultOf_2 : decode cX2_faultOf 2 = .ok (.invokevirtual 25, 3) := by decide +kernel
theorem dX2_faultOf_5 : decode cX2_faultOf 5 = .ok (.ifCond .eq 5, 3) := by decide +kernel
theorem dX2_faultOf_8 : decode cX2_faultOf 8 = .ok (.iconst 1, 1) := by decide +kernel
theorem dX2_faultOf_9 : decode cX2_faultOf 9 = .ok (.ireturn, 1) := by decide +kernel
theorem dX2_faultOf_10 : decode cX2_faultOf 10 = .ok (.aload_n 0, 1) := by decide +kernel
theorem dX2_faultOf_11 : decode cX2_faultOf 11 = .ok (.getfield 15, 3) := by decide +kernel
theorem dX2_faultOf_14 : decode cX2_faultOf 14 = .ok (.iload_n 1, 1) := by decide +kernel
theorem dX2_faultOf_15 : decode cX2_faultOf 15 = .ok (.iaload, 1) := by decide +kernel
theorem dX2_faultOf_16 : decode cX2_faultOf 16 = .ok (.iload_n 2, 1) := by decide +kernel
theorem dX2_faultOf_17 : decode cX2_faultOf 17 = .ok (.if_icmp .eq 5, 3) := by decide +kernel
theorem dX2_faultOf_20 : decode cX2_faultOf 20 = .ok (.iconst 3, 1) := by decide +kernel
theorem dX2_faultOf_21 : decode cX2_faultOf 21 = .ok (.ireturn, 1) := by decide +kernel
theorem dX2_faultOf_22 : decode cX2_faultOf 22 = .ok (.iload_n 3, 1) := by decide +kernel
theorem dX2_faultOf_23 : decode cX2_faultOf 23 = .ok (.iconst 0, 1) := by decide +kernel
theorem dX2_faultOf_24 : decode cX2_faultOf 24 = .ok (.aload_n 0, 1) := by decide +kernel
theorem dX2_faultOf_25 : decode cX2_faultOf 25 = .ok (.getfield 18, 3) := by decide +kernel
theorem dX2_faultOf_28 : decode cX2_faultOf 28 = .ok (.iload_n 1, 1) := by decide +kernel
theorem dX2_faultOf_29 : decode cX2_faultOf 29 = .ok (.iaload, 1) := by decide +kernel
theorem dX2_faultOf_30 : decode cX2_faultOf 30 = .ok (.iload 4, 2) := by decide +kernel
theorem dX2_faultOf_32 : decode cX2_faultOf 32 = .ok (.isub, 1) := by decide +kernel
theorem dX2_faultOf_33 : decode cX2_faultOf 33 = .ok (.invokestatic 29, 3) := by decide +kernel
theorem dX2_faultOf_36 : decode cX2_faultOf 36 = .ok (.ifCond .eq 7, 3) := by decide +kernel
theorem dX2_faultOf_39 : decode cX2_faultOf 39 = .ok (.iconst 0, 1) := by decide +kernel
theorem dX2_faultOf_40 : decode cX2_faultOf 40 = .ok (.goto 4, 3) := by decide +kernel
theorem dX2_faultOf_43 : decode cX2_faultOf 43 = .ok (.iconst 2, 1) := by decide +kernel
theorem dX2_faultOf_44 : decode cX2_faultOf 44 = .ok (.ireturn, 1) := by decide +kernel
theorem dX2_put_0 : decode cX2_put 0 = .ok (.iload_n 3, 1) := by decide +kernel
theorem dX2_put_1 : decode cX2_put 1 = .ok (.istore 4, 2) := by decide +kernel
theorem dX2_put_3 : decode cX2_put 3 = .ok (.aload_n 0, 1) := by decide +kernel
theorem dX2_put_4 : decode cX2_put 4 = .ok (.getfield 15, 3) := by decide +kernel
theorem dX2_put_7 : decode cX2_put 7 = .ok (.iload_n 1, 1) := by decide +kernel
theorem dX2_put_8 : decode cX2_put 8 = .ok (.iaload, 1) := by decide +kernel
theorem dX2_put_9 : decode cX2_put 9 = .ok (.ifCond .ne 10, 3) := by decide +kernel
theorem dX2_put_12 : decode cX2_put 12 = .ok (.iload_n 3, 1) := by decide +kernel
theorem dX2_put_13 : decode cX2_put 13 = .ok (.i2b, 1) := by decide +kernel
theorem dX2_put_14 : decode cX2_put 14 = .ok (.istore 4, 2) := by decide +kernel
theorem dX2_put_16 : decode cX2_put 16 = .ok (.goto 17, 3) := by decide +kernel
theorem dX2_put_19 : decode cX2_put 19 = .ok (.aload_n 0, 1) := by decide +kernel
theorem dX2_put_20 : decode cX2_put 20 = .ok (.getfield 15, 3) := by decide +kernel
theorem dX2_put_23 : decode cX2_put 23 = .ok (.iload_n 1, 1) := by decide +kernel
theorem dX2_put_24 : decode cX2_put 24 = .ok (.iaload, 1) := by decide +kernel
theorem dX2_put_25 : decode cX2_put 25 = .ok (.iconst 1, 1) := by decide +kernel
theorem dX2_put_26 : decode cX2_put 26 = .ok (.if_icmp .ne 7, 3) := by decide +kernel
theorem dX2_put_29 : decode cX2_put 29 = .ok (.iload_n 3, 1) := by decide +kernel
theorem dX2_put_30 : decode cX2_put 30 = .ok (.i2s, 1) := by decide +kernel
theorem dX2_put_31 : decode cX2_put 31 = .ok (.istore 4, 2) := by decide +kernel
theorem dX2_put_33 : decode cX2_put 33 = .ok (.aload_n 0, 1) := by decide +kernel
theorem dX2_put_34 : decode cX2_put 34 = .ok (.getfield 9, 3) := by decide +kernel
theorem dX2_put_37 : decode cX2_put 37 = .ok (.iload_n 1, 1) := by decide +kernel
theorem dX2_put_38 : decode cX2_put 38 = .ok (.bipush 40, 2) := by decide +kernel
theorem dX2_put_40 : decode cX2_put 40 = .ok (.imul, 1) := by decide +kernel
theorem dX2_put_41 : decode cX2_put 41 = .ok (.iload_n 2, 1) := by decide +kernel
theorem dX2_put_42 : decode cX2_put 42 = .ok (.iadd, 1) := by decide +kernel
theorem dX2_put_43 : decode cX2_put 43 = .ok (.iload 4, 2) := by decide +kernel
theorem dX2_put_45 : decode cX2_put 45 = .ok (.iastore, 1) := by decide +kernel
theorem dX2_put_46 : decode cX2_put 46 = .ok (.return_, 1) := by decide +kernel
theorem dX2_at_0 : decode cX2_at 0 = .ok (.aload_n 0, 1) := by decide +kernel
theorem dX2_at_1 : decode cX2_at 1 = .ok (.getfield 9, 3) := by decide +kernel
theorem dX2_at_4 : decode cX2_at 4 = .ok (.iload_n 1, 1) := by decide +kernel
theorem dX2_at_5 : decode cX2_at 5 = .ok (.bipush 40, 2) := by decide +kernel
theorem dX2_at_7 : decode cX2_at 7 = .ok (.imul, 1) := by decide +kernel
theorem dX2_at_8 : decode cX2_at 8 = .ok (.iload_n 2, 1) := by decide +kernel
theorem dX2_at_9 : decode cX2_at 9 = .ok (.iadd, 1) := by decide +kernel
theorem dX2_at_10 : decode cX2_at 10 = .ok (.iaload, 1) := by decide +kernel
theorem dX2_at_11 : decode cX2_at 11 = .ok (.ireturn, 1) := by decide +kernel
theorem dX3_init_0 : decode cX3_init 0 = .ok (.aload_n 0, 1) := by decide +kernel
theorem dX3_init_1 : decode cX3_init 1 = .ok (.invokespecial 3, 3) := by decide +kernel
theorem dX3_init_4 : decode cX3_init 4 = .ok (.aload_n 0, 1) := by decide +kernel
theorem dX3_init_5 : decode cX3_init 5 = .ok (.new 9, 3) := by decide +kernel
theorem dX3_init_8 : decode cX3_init 8 = .ok (.dup, 1) := by decide +kernel
theorem dX3_init_9 : decode cX3_init 9 = .ok (.invokespecial 11, 3) := by decide +kernel
theorem dX3_init_12 : decode cX3_init 12 = .ok (.putfield 12, 3) := by decide +kernel
theorem dX3_init_15 : decode cX3_init 15 = .ok (.aload_n 0, 1) := by decide +kernel
theorem dX3_init_16 : decode cX3_init 16 = .ok (.bipush 6, 2) := by decide +kernel
theorem dX3_init_18 : decode cX3_init 18 = .ok (.newarray .int, 2) := by decide +kernel
theorem dX3_init_20 : decode cX3_init 20 = .ok (.putfield 18, 3) := by decide +kernel
theorem dX3_init_23 : decode cX3_init 23 = .ok (.aload_n 0, 1) := by decide +kernel
theorem dX3_init_24 : decode cX3_init 24 = .ok (.bipush 6, 2) := by decide +kernel
theorem dX3_init_26 : decode cX3_init 26 = .ok (.newarray .int, 2) := by decide +kernel
theorem dX3_init_28 : decode cX3_init 28 = .ok (.putfield 22, 3) := by decide +kernel
theorem dX3_init_31 : decode cX3_init 31 = .ok (.aload_n 0, 1) := by decide +kernel
theorem dX3_init_32 : decode cX3_init 32 = .ok (.bipush 6, 2) := by decide +kernel
theorem dX3_init_34 : decode cX3_init 34 = .ok (.newarray .int, 2) := by decide +kernel
theorem dX3_init_36 : decode cX3_init 36 = .ok (.putfield 25, 3) := by decide +kernel
theorem dX3_init_39 : decode cX3_init 39 = .ok (.aload_n 0, 1) := by decide +kernel
theorem dX3_init_40 : decode cX3_init 40 = .ok (.bipush 6, 2) := by decide +kernel
theorem dX3_init_42 : decode cX3_init 42 = .ok (.newarray .int, 2) := by decide +kernel
theorem dX3_init_44 : decode cX3_init 44 = .ok (.putfield 28, 3) := by decide +kernel
theorem dX3_init_47 : decode cX3_init 47 = .ok (.return_, 1) := by decide +kernel
theorem dX3_begin_0 : decode cX3_begin 0 = .ok (.aload_n 0, 1) := by decide +kernel
theorem dX3_begin_1 : decode cX3_begin 1 = .ok (.getfield 12, 3) := by decide +kernel
theorem dX3_begin_4 : decode cX3_begin 4 = .ok (.aload_n 1, 1) := by decide +kernel
theorem dX3_begin_5 : decode cX3_begin 5 = .ok (.invokevirtual 31, 3) := by decide +kernel
theorem dX3_begin_8 : decode cX3_begin 8 = .ok (.aload_n 0, 1) := by decide +kernel
theorem dX3_begin_9 : decode cX3_begin 9 = .ok (.invokevirtual 35, 3) := by decide +kernel
theorem dX3_begin_12 : decode cX3_begin 12 = .ok (.return_, 1) := by decide +kernel
theorem dX3_settle_0 : decode cX3_settle 0 = .ok (.iconst 0, 1) := by decide +kernel
theorem dX3_settle_1 : decode cX3_settle 1 = .ok (.istore_n 1, 1) := by decide +kernel
theorem dX3_settle_2 : decode cX3_settle 2 = .ok (.iload_n 1, 1) := by decide +kernel
theorem dX3_settle_3 : decode cX3_settle 3 = .ok (.aload_n 0, 1) := by decide +kernel
theorem dX3_settle_4 : decode cX3_settle 4 = .ok (.getfield 12, 3) := by decide +kernel
theorem dX3_settle_7 : decode cX3_settle 7 = .ok (.getfield 38, 3) := by decide +kernel
theorem dX3_settle_10 : decode cX3_settle 10 = .ok (.if_icmp .ge 88, 3) := by decide +kernel
theorem dX3_settle_13 : decode cX3_settle 13 = .ok (.aload_n 0, 1) := by decide +kernel
theorem dX3_settle_14 : decode cX3_settle 14 = .ok (.getfield 18, 3) := by decide +kernel
theorem dX3_settle_17 : decode cX3_settle 17 = .ok (.iload_n 1, 1) := by decide +kernel
theorem dX3_settle_18 : decode cX3_settle 18 = .ok (.aload_n 0, 1) := by decide +kernel
theorem dX3_settle_19 : decode cX3_settle 19 = .ok (.getfield 12, 3) := by decide +kernel
theorem dX3_settle_22 : decode cX3_settle 22 = .ok (.iload_n 1, 1) := by decide +kernel
theorem dX3_settle_23 : decode cX3_settle 23 = .ok (.iconst 2, 1) := by decide +kernel
theorem dX3_settle_24 : decode cX3_settle 24 = .ok (.invokevirtual 42, 3) := by decide +kernel
theorem dX3_settle_27 : decode cX3_settle 27 = .ok (.iastore, 1) := by decide +kernel
theorem dX3_settle_28 : decode cX3_settle 28 = .ok (.aload_n 0, 1) := by decide +kernel
theorem dX3_settle_29 : decode cX3_settle 29 = .ok (.getfield 22, 3) := by decide +kernel
theorem dX3_settle_32 : decode cX3_settle 32 = .ok (.iload_n 1, 1) := by decide +kernel
theorem dX3_settle_33 : decode cX3_settle 33 = .ok (.aload_n 0, 1) := by decide +kernel
theorem dX3_settle_34 : decode cX3_settle 34 = .ok (.getfield 18, 3) := by decide +kernel
theorem dX3_settle_37 : decode cX3_settle 37 = .ok (.iload_n 1, 1) := by decide +kernel
theorem dX3_settle_38 : decode cX3_settle 38 = .ok (.iaload, 1) := by decide +kernel
theorem dX3_settle_39 : decode cX3_settle 39 = .ok (.aload_n 0, 1) := by decide +kernel
theorem dX3_settle_40 : decode cX3_settle 40 = .ok (.getfield 12, 3) := by decide +kernel
theorem dX3_settle_43 : decode cX3_settle 43 = .ok (.iload_n 1, 1) := by decide +kernel
theorem dX3_settle_44 : decode cX3_settle 44 = .ok (.invokevirtual 46, 3) := by decide +kernel
theorem dX3_settle_47 : decode cX3_settle 47 = .ok (.ifCond .eq 14, 3) := by decide +kernel
theorem dX3_settle_50 : decode cX3_settle 50 = .ok (.aload_n 0, 1) := by decide +kernel
theorem dX3_settle_51 : decode cX3_settle 51 = .ok (.getfield 12, 3) := by decide +kernel
theorem dX3_settle_54 : decode cX3_settle 54 = .ok (.iload_n 1, 1) := by decide +kernel
theorem dX3_settle_55 : decode cX3_settle 55 = .ok (.invokevirtual 50, 3) := by decide +kernel
theorem dX3_settle_58 : decode cX3_settle 58 = .ok (.goto 4, 3) := by decide +kernel
theorem dX3_settle_61 : decode cX3_settle 61 = .ok (.iconst 0, 1) := by decide +kernel
theorem dX3_settle_62 : decode cX3_settle 62 = .ok (.iadd, 1) := by decide +kernel
theorem dX3_settle_63 : decode cX3_settle 63 = .ok (.iastore, 1) := by decide +kernel
theorem dX3_settle_64 : decode cX3_settle 64 = .ok (.aload_n 0, 1) := by decide +kernel
theorem dX3_settle_65 : decode cX3_settle 65 = .ok (.getfield 25, 3) := by decide +kernel
theorem dX3_settle_68 : decode cX3_settle 68 = .ok (.iload_n 1, 1) := by decide +kernel
theorem dX3_settle_69 : decode cX3_settle 69 = .ok (.aload_n 0, 1) := by decide +kernel
theorem dX3_settle_70 : decode cX3_settle 70 = .ok (.getfield 12, 3) := by decide +kernel
theorem dX3_settle_73 : decode cX3_settle 73 = .ok (.iload_n 1, 1) := by decide +kernel
theorem dX3_settle_74 : decode cX3_settle 74 = .ok (.invokevirtual 54, 3) := by decide +kernel
theorem dX3_settle_77 : decode cX3_settle 77 = .ok (.iastore, 1) := by decide +kernel
theorem dX3_settle_78 : decode cX3_settle 78 = .ok (.aload_n 0, 1) := by decide +kernel
theorem dX3_settle_79 : decode cX3_settle 79 = .ok (.getfield 28, 3) := by decide +kernel
theorem dX3_settle_82 : decode cX3_settle 82 = .ok (.iload_n 1, 1) := by decide +kernel
theorem dX3_settle_83 : decode cX3_settle 83 = .ok (.aload_n 0, 1) := by decide +kernel
theorem dX3_settle_84 : decode cX3_settle 84 = .ok (.getfield 12, 3) := by decide +kernel
theorem dX3_settle_87 : decode cX3_settle 87 = .ok (.iload_n 1, 1) := by decide +kernel
theorem dX3_settle_88 : decode cX3_settle 88 = .ok (.invokevirtual 57, 3) := by decide +kernel
theorem dX3_settle_91 : decode cX3_settle 91 = .ok (.iastore, 1) := by decide +kernel
theorem dX3_settle_92 : decode cX3_settle 92 = .ok (.iinc 1 1, 3) := by decide +kernel
theorem dX3_settle_95 : decode cX3_settle 95 = .ok (.goto (-93), 3) := by decide +kernel
theorem dX3_settle_98 : decode cX3_settle 98 = .ok (.return_, 1) := by decide +kernel
theorem dX3_putOut_0 : decode cX3_putOut 0 = .ok (.aload_n 0, 1) := by decide +kernel
theorem dX3_putOut_1 : decode cX3_putOut 1 = .ok (.getfield 22, 3) := by decide +kernel
theorem dX3_putOut_4 : decode cX3_putOut 4 = .ok (.iload_n 1, 1) := by decide +kernel
theorem dX3_putOut_5 : decode cX3_putOut 5 = .ok (.aload_n 0, 1) := by decide +kernel
theorem dX3_putOut_6 : decode cX3_putOut 6 = .ok (.getfield 18, 3) := by decide +kernel
theorem dX3_putOut_9 : decode cX3_putOut 9 = .ok (.iload_n 1, 1) := by decide +kernel
theorem dX3_putOut_10 : decode cX3_putOut 10 = .ok (.iaload, 1) := by decide +kernel
theorem dX3_putOut_11 : decode cX3_putOut 11 = .ok (.iastore, 1) := by decide +kernel
theorem dX3_putOut_12 : decode cX3_putOut 12 = .ok (.return_, 1) := by decide +kernel
theorem dX3_isUp_0 : decode cX3_isUp 0 = .ok (.iload_n 2, 1) := by decide +kernel
theorem dX3_isUp_1 : decode cX3_isUp 1 = .ok (.aload_n 0, 1) := by decide +kernel
theorem dX3_isUp_2 : decode cX3_isUp 2 = .ok (.getfield 18, 3) := by decide +kernel
theorem dX3_isUp_5 : decode cX3_isUp 5 = .ok (.iload_n 1, 1) := by decide +kernel
theorem dX3_isUp_6 : decode cX3_isUp 6 = .ok (.iaload, 1) := by decide +kernel
theorem dX3_isUp_7 : decode cX3_isUp 7 = .ok (.if_icmp .lt 17, 3) := by decide +kernel
theorem dX3_isUp_10 : decode cX3_isUp 10 = .ok (.iload_n 2, 1) := by decide +kernel
theorem dX3_isUp_11 : decode cX3_isUp 11 = .ok (.aload_n 0, 1) := by decide +kernel
theorem dX3_isUp_12 : decode cX3_isUp 12 = .ok (.getfield 22, 3) := by decide +kernel
theorem dX3_isUp_15 : decode cX3_isUp 15 = .ok (.iload_n 1, 1) := by decide +kernel
theorem dX3_isUp_16 : decode cX3_isUp 16 = .ok (.iaload, 1) := by decide +kernel
theorem dX3_isUp_17 : decode cX3_isUp 17 = .ok (.if_icmp .ge 7, 3) := by decide +kernel
theorem dX3_isUp_20 : decode cX3_isUp 20 = .ok (.iconst 1, 1) := by decide +kernel
theorem dX3_isUp_21 : decode cX3_isUp 21 = .ok (.goto 4, 3) := by decide +kernel
theorem dX3_isUp_24 : decode cX3_isUp 24 = .ok (.iconst 0, 1) := by decide +kernel
theorem dX3_isUp_25 : decode cX3_isUp 25 = .ok (.ireturn, 1) := by decide +kernel
theorem dX3_distance_0 : decode cX3_distance 0 = .ok (.aload_n 0, 1) := by decide +kernel
theorem dX3_distance_1 : decode cX3_distance 1 = .ok (.getfield 25, 3) := by decide +kernel
theorem dX3_distance_4 : decode cX3_distance 4 = .ok (.iload_n 2, 1) := by decide +kernel
theorem dX3_distance_5 : decode cX3_distance 5 = .ok (.iaload, 1) := by decide +kernel
theorem dX3_distance_6 : decode cX3_distance 6 = .ok (.aload_n 0, 1) := by decide +kernel
theorem dX3_distance_7 : decode cX3_distance 7 = .ok (.getfield 12, 3) := by decide +kernel
theorem dX3_distance_10 : decode cX3_distance 10 = .ok (.iload_n 1, 1) := by decide +kernel
theorem dX3_distance_11 : decode cX3_distance 11 = .ok (.iconst 0, 1) := by decide +kernel
theorem dX3_distance_12 : decode cX3_distance 12 = .ok (.invokevirtual 60, 3) := by decide +kernel
theorem dX3_distance_15 : decode cX3_distance 15 = .ok (.isub, 1) := by decide +kernel
theorem dX3_distance_16 : decode cX3_distance 16 = .ok (.invokestatic 63, 3) := by decide +kernel
theorem dX3_distance_19 : decode cX3_distance 19 = .ok (.ireturn, 1) := by decide +kernel
theorem dX3_reaches_0 : decode cX3_reaches 0 = .ok (.aload_n 0, 1) := by decide +kernel
theorem dX3_reaches_1 : decode cX3_reaches 1 = .ok (.iload_n 1, 1) := by decide +kernel
theorem dX3_reaches_2 : decode cX3_reaches 2 = .ok (.iload_n 2, 1) := by decide +kernel
theorem dX3_reaches_3 : decode cX3_reaches 3 = .ok (.invokevirtual 68, 3) := by decide +kernel
theorem dX3_reaches_6 : decode cX3_reaches 6 = .ok (.aload_n 0, 1) := by decide +kernel
theorem dX3_reaches_7 : decode cX3_reaches 7 = .ok (.getfield 28, 3) := by decide +kernel
theorem dX3_reaches_10 : decode cX3_reaches 10 = .ok (.iload_n 2, 1) := by decide +kernel
theorem dX3_reaches_11 : decode cX3_reaches 11 = .ok (.iaload, 1) := by decide +kernel
theorem dX3_reaches_12 : decode cX3_reaches 12 = .ok (.if_icmp .gt 7, 3) := by decide +kernel
theorem dX3_reaches_15 : decode cX3_reaches 15 = .ok (.iconst 1, 1) := by decide +kernel
theorem dX3_reaches_16 : decode cX3_reaches 16 = .ok (.goto 4, 3) := by decide +kernel
theorem dX3_reaches_19 : decode cX3_reaches 19 = .ok (.iconst 0, 1) := by decide +kernel
theorem dX3_reaches_20 : decode cX3_reaches 20 = .ok (.ireturn, 1) := by decide +kernel
theorem dX3_coughsAt_0 : decode cX3_coughsAt 0 = .ok (.aload_n 0, 1) := by decide +kernel
theorem dX3_coughsAt_1 : decode cX3_coughsAt 1 = .ok (.getfield 12, 3) := by decide +kernel
theorem dX3_coughsAt_4 : decode cX3_coughsAt 4 = .ok (.iload_n 1, 1) := by decide +kernel
theorem dX3_coughsAt_5 : decode cX3_coughsAt 5 = .ok (.iconst 1, 1) := by decide +kernel
theorem dX3_coughsAt_6 : decode cX3_coughsAt 6 = .ok (.invokevirtual 60, 3) := by decide +kernel
theorem dX3_coughsAt_9 : decode cX3_coughsAt 9 = .ok (.istore_n 3, 1) := by decide +kernel
theorem dX3_coughsAt_10 : decode cX3_coughsAt 10 = .ok (.iload_n 3, 1) := by decide +kernel
theorem dX3_coughsAt_11 : decode cX3_coughsAt 11 = .ok (.ifCond .le 13, 3) := by decide +kernel
theorem dX3_coughsAt_14 : decode cX3_coughsAt 14 = .ok (.iload_n 2, 1) := by decide +kernel
theorem dX3_coughsAt_15 : decode cX3_coughsAt 15 = .ok (.iload_n 3, 1) := by decide +kernel
theorem dX3_coughsAt_16 : decode cX3_coughsAt 16 = .ok (.irem, 1) := by decide +kernel
theorem dX3_coughsAt_17 : decode cX3_coughsAt 17 = .ok (.ifCond .ne 7, 3) := by decide +kernel
theorem dX3_coughsAt_20 : decode cX3_coughsAt 20 = .ok (.iconst 1, 1) := by decide +kernel
theorem dX3_coughsAt_21 : decode cX3_coughsAt 21 = .ok (.goto 4, 3) := by decide +kernel
theorem dX3_coughsAt_24 : decode cX3_coughsAt 24 = .ok (.iconst 0, 1) := by decide +kernel
theorem dX3_coughsAt_25 : decode cX3_coughsAt 25 = .ok (.ireturn, 1) := by decide +kernel
theorem dX3_lookedAt_0 : decode cX3_lookedAt 0 = .ok (.aload_n 0, 1) := by decide +kernel
theorem dX3_lookedAt_1 : decode cX3_lookedAt 1 = .ok (.iload_n 1, 1) := by decide +kernel
theorem dX3_lookedAt_2 : decode cX3_lookedAt 2 = .ok (.iload_n 2, 1) := by decide +kernel
theorem dX3_lookedAt_3 : decode cX3_lookedAt 3 = .ok (.invokevirtual 71, 3) := by decide +kernel
theorem dX3_lookedAt_6 : decode cX3_lookedAt 6 = .ok (.ifCond .eq 6, 3) := by decide +kernel
theorem dX3_lookedAt_9 : decode cX3_lookedAt 9 = .ok (.bipush (-4), 2) := by decide +kernel
theorem dX3_lookedAt_11 : decode cX3_lookedAt 11 = .ok (.ireturn, 1) := by decide +kernel
theorem dX3_lookedAt_12 : decode cX3_lookedAt 12 = .ok (.aload_n 0, 1) := by decide +kernel
theorem dX3_lookedAt_13 : decode cX3_lookedAt 13 = .ok (.getfield 12, 3) := by decide +kernel
theorem dX3_lookedAt_16 : decode cX3_lookedAt 16 = .ok (.iload_n 1, 1) := by decide +kernel
theorem dX3_lookedAt_17 : decode cX3_lookedAt 17 = .ok (.iconst 0, 1) := by decide +kernel
theorem dX3_lookedAt_18 : decode cX3_lookedAt 18 = .ok (.invokevirtual 60, 3) := by decide +kernel
theorem dX3_lookedAt_21 : decode cX3_lookedAt 21 = .ok (.istore_n 3, 1) := by decide +kernel
theorem dX3_lookedAt_22 : decode cX3_lookedAt 22 = .ok (.bipush (-4), 2) := by decide +kernel
theorem dX3_lookedAt_24 : decode cX3_lookedAt 24 = .ok (.istore 4, 2) := by decide +kernel
theorem dX3_lookedAt_26 : decode cX3_lookedAt 26 = .ok (.bipush 12, 2) := by decide +kernel
theorem dX3_lookedAt_28 : decode cX3_lookedAt 28 = .ok (.istore 5, 2) := by decide +kernel
theorem dX3_lookedAt_30 : decode cX3_lookedAt 30 = .ok (.iconst 0, 1) := by decide +kernel
theorem dX3_lookedAt_31 : decode cX3_lookedAt 31 = .ok (.istore 6, 2) := by decide +kernel
theorem dX3_lookedAt_33 : decode cX3_lookedAt 33 = .ok (.iload 6, 2) := by decide +kernel
theorem dX3_lookedAt_35 : decode cX3_lookedAt 35 = .ok (.aload_n 0, 1) := by decide +kernel
theorem dX3_lookedAt_36 : decode cX3_lookedAt 36 = .ok (.getfield 12, 3) := by decide +kernel
theorem dX3_lookedAt_39 : decode cX3_lookedAt 39 = .ok (.getfield 38, 3) := by decide +kernel
theorem dX3_lookedAt_42 : decode cX3_lookedAt 42 = .ok (.if_icmp .ge 60, 3) := by decide +kernel
theorem dX3_lookedAt_45 : decode cX3_lookedAt 45 = .ok (.aload_n 0, 1) := by decide +kernel
theorem dX3_lookedAt_46 : decode cX3_lookedAt 46 = .ok (.getfield 25, 3) := by decide +kernel
theorem dX3_lookedAt_49 : decode cX3_lookedAt 49 = .ok (.iload 6, 2) := by decide +kernel
theorem dX3_lookedAt_51 : decode cX3_lookedAt 51 = .ok (.iaload, 1) := by decide +kernel
theorem dX3_lookedAt_52 : decode cX3_lookedAt 52 = .ok (.iload_n 3, 1) := by decide +kernel
theorem dX3_lookedAt_53 : decode cX3_lookedAt 53 = .ok (.isub, 1) := by decide +kernel
theorem dX3_lookedAt_54 : decode cX3_lookedAt 54 = .ok (.invokestatic 63, 3) := by decide +kernel
theorem dX3_lookedAt_57 : decode cX3_lookedAt 57 = .ok (.istore 7, 2) := by decide +kernel
theorem dX3_lookedAt_59 : decode cX3_lookedAt 59 = .ok (.aload_n 0, 1) := by decide +kernel
theorem dX3_lookedAt_60 : decode cX3_lookedAt 60 = .ok (.iload 6, 2) := by decide +kernel
theorem dX3_lookedAt_62 : decode cX3_lookedAt 62 = .ok (.iload_n 2, 1) := by decide +kernel
theorem dX3_lookedAt_63 : decode cX3_lookedAt 63 = .ok (.invokevirtual 75, 3) := by decide +kernel
theorem dX3_lookedAt_66 : decode cX3_lookedAt 66 = .ok (.ifCond .eq 30, 3) := by decide +kernel
theorem dX3_lookedAt_69 : decode cX3_lookedAt 69 = .ok (.iload 7, 2) := by decide +kernel
theorem dX3_lookedAt_71 : decode cX3_lookedAt 71 = .ok (.aload_n 0, 1) := by decide +kernel
theorem dX3_lookedAt_72 : decode cX3_lookedAt 72 = .ok (.getfield 28, 3) := by decide +kernel
theorem dX3_lookedAt_75 : decode cX3_lookedAt 75 = .ok (.iload 6, 2) := by decide +kernel
theorem dX3_lookedAt_77 : decode cX3_lookedAt 77 = .ok (.iaload, 1) := by decide +kernel
theorem dX3_lookedAt_78 : decode cX3_lookedAt 78 = .ok (.if_icmp .gt 18, 3) := by decide +kernel
theorem dX3_lookedAt_81 : decode cX3_lookedAt 81 = .ok (.iload 7, 2) := by decide +kernel
theorem dX3_lookedAt_83 : decode cX3_lookedAt 83 = .ok (.iload 5, 2) := by decide +kernel
theorem dX3_lookedAt_85 : decode cX3_lookedAt 85 = .ok (.if_icmp .ge 11, 3) := by decide +kernel
theorem dX3_lookedAt_88 : decode cX3_lookedAt 88 = .ok (.iload 7, 2) := by decide +kernel
theorem dX3_lookedAt_90 : decode cX3_lookedAt 90 = .ok (.istore 5, 2) := by decide +kernel
theorem dX3_lookedAt_92 : decode cX3_lookedAt 92 = .ok (.iload 6, 2) := by decide +kernel
theorem dX3_lookedAt_94 : decode cX3_lookedAt 94 = .ok (.istore 4, 2) := by decide +kernel
theorem dX3_lookedAt_96 : decode cX3_lookedAt 96 = .ok (.iinc 6 1, 3) := by decide +kernel
theorem dX3_lookedAt_99 : decode cX3_lookedAt 99 = .ok (.goto (-66), 3) := by decide +kernel
theorem dX3_lookedAt_102 : decode cX3_lookedAt 102 = .ok (.iload 4, 2) := by decide +kernel
theorem dX3_lookedAt_104 : decode cX3_lookedAt 104 = .ok (.ireturn, 1) := by decide +kernel
theorem dX3_isRead_0 : decode cX3_isRead 0 = .ok (.iconst 0, 1) := by decide +kernel
theorem dX3_isRead_1 : decode cX3_isRead 1 = .ok (.istore_n 2, 1) := by decide +kernel
theorem dX3_isRead_2 : decode cX3_isRead 2 = .ok (.iload_n 2, 1) := by decide +kernel
theorem dX3_isRead_3 : decode cX3_isRead 3 = .ok (.aload_n 0, 1) := by decide +kernel
theorem dX3_isRead_4 : decode cX3_isRead 4 = .ok (.getfield 12, 3) := by decide +kernel
theorem dX3_isRead_7 : decode cX3_isRead 7 = .ok (.getfield 78, 3) := by decide +kernel
theorem dX3_isRead_10 : decode cX3_isRead 10 = .ok (.if_icmp .ge 20, 3) := by decide +kernel
theorem dX3_isRead_13 : decode cX3_isRead 13 = .ok (.aload_n 0, 1) := by decide +kernel
theorem dX3_isRead_14 : decode cX3_isRead 14 = .ok (.iload_n 2, 1) := by decide +kernel
theorem dX3_isRead_15 : decode cX3_isRead 15 = .ok (.iload_n 1, 1) := by decide +kernel
theorem dX3_isRead_16 : decode cX3_isRead 16 = .ok (.invokevirtual 81, 3) := by decide +kernel
theorem dX3_isRead_19 : decode cX3_isRead 19 = .ok (.ifCond .lt 5, 3) := by decide +kernel
theorem dX3_isRead_22 : decode cX3_isRead 22 = .ok (.iconst 1, 1) := by decide +kernel
theorem dX3_isRead_23 : decode cX3_isRead 23 = .ok (.ireturn, 1) := by decide +kernel
theorem dX3_isRead_24 : decode cX3_isRead 24 = .ok (.iinc 2 1, 3) := by decide +kernel
theorem dX3_isRead_27 : decode cX3_isRead 27 = .ok (.goto (-25), 3) := by decide +kernel
theorem dX3_isRead_30 : decode cX3_isRead 30 = .ok (.iconst 0, 1) := by decide +kernel
theorem dX3_isRead_31 : decode cX3_isRead 31 = .ok (.ireturn, 1) := by decide +kernel
theorem dX3_lookersAt_0 : decode cX3_lookersAt 0 = .ok (.iconst 0, 1) := by decide +kernel
theorem dX3_lookersAt_1 : decode cX3_lookersAt 1 = .ok (.istore_n 3, 1) := by decide +kernel
theorem dX3_lookersAt_2 : decode cX3_lookersAt 2 = .ok (.iconst 0, 1) := by decide +kernel
theorem dX3_lookersAt_3 : decode cX3_lookersAt 3 = .ok (.istore 4, 2) := by decide +kernel
theorem dX3_lookersAt_5 : decode cX3_lookersAt 5 = .ok (.iload 4, 2) := by decide +kernel
theorem dX3_lookersAt_7 : decode cX3_lookersAt 7 = .ok (.aload_n 0, 1) := by decide +kernel
theorem dX3_lookersAt_8 : decode cX3_lookersAt 8 = .ok (.getfield 12, 3) := by decide +kernel
theorem dX3_lookersAt_11 : decode cX3_lookersAt 11 = .ok (.getfield 78, 3) := by decide +kernel
theorem dX3_lookersAt_14 : decode cX3_lookersAt 14 = .ok (.if_icmp .ge 23, 3) := by decide +kernel
theorem dX3_lookersAt_17 : decode cX3_lookersAt 17 = .ok (.aload_n 0, 1) := by decide +kernel
theorem dX3_lookersAt_18 : decode cX3_lookersAt 18 = .ok (.iload 4, 2) := by decide +kernel
theorem dX3_lookersAt_20 : decode cX3_lookersAt 20 = .ok (.iload_n 2, 1) := by decide +kernel
theorem dX3_lookersAt_21 : decode cX3_lookersAt 21 = .ok (.invokevirtual 81, 3) := by decide +kernel
theorem dX3_lookersAt_24 : decode cX3_lookersAt 24 = .ok (.iload_n 1, 1) := by decide +kernel
theorem dX3_lookersAt_25 : decode cX3_lookersAt 25 = .ok (.if_icmp .ne 6, 3) := by decide +kernel
theorem dX3_lookersAt_28 : decode cX3_lookersAt 28 = .ok (.iinc 3 1, 3) := by decide +kernel
theorem dX3_lookersAt_31 : decode cX3_lookersAt 31 = .ok (.iinc 4 1, 3) := by decide +kernel
theorem dX3_lookersAt_34 : decode cX3_lookersAt 34 = .ok (.goto (-29), 3) := by decide +kernel
theorem dX3_lookersAt_37 : decode cX3_lookersAt 37 = .ok (.iload_n 3, 1) := by decide +kernel
theorem dX3_lookersAt_38 : decode cX3_lookersAt 38 = .ok (.ireturn, 1) := by decide +kernel
theorem dX3_minutesAt_0 : decode cX3_minutesAt 0 = .ok (.iconst 0, 1) := by decide +kernel
theorem dX3_minutesAt_1 : decode cX3_minutesAt 1 = .ok (.istore_n 3, 1) := by decide +kernel
theorem dX3_minutesAt_2 : decode cX3_minutesAt 2 = .ok (.aload_n 0, 1) := by decide +kernel
theorem dX3_minutesAt_3 : decode cX3_minutesAt 3 = .ok (.getfield 18, 3) := by decide +kernel
theorem dX3_minutesAt_6 : decode cX3_minutesAt 6 = .ok (.iload_n 2, 1) := by decide +kernel
theorem dX3_minutesAt_7 : decode cX3_minutesAt 7 = .ok (.iaload, 1) := by decide +kernel
theorem dX3_minutesAt_8 : decode cX3_minutesAt 8 = .ok (.istore 4, 2) := by decide +kernel
theorem dX3_minutesAt_10 : decode cX3_minutesAt 10 = .ok (.iload 4, 2) := by decide +kernel
theorem dX3_minutesAt_12 : decode cX3_minutesAt 12 = .ok (.aload_n 0, 1) := by decide +kernel
theorem dX3_minutesAt_13 : decode cX3_minutesAt 13 = .ok (.getfield 22, 3) := by decide +kernel
theorem dX3_minutesAt_16 : decode cX3_minutesAt 16 = .ok (.iload_n 2, 1) := by decide +kernel
theorem dX3_minutesAt_17 : decode cX3_minutesAt 17 = .ok (.iaload, 1) := by decide +kernel
theorem dX3_minutesAt_18 : decode cX3_minutesAt 18 = .ok (.if_icmp .ge 23, 3) := by decide +kernel
theorem dX3_minutesAt_21 : decode cX3_minutesAt 21 = .ok (.aload_n 0, 1) := by decide +kernel
theorem dX3_minutesAt_22 : decode cX3_minutesAt 22 = .ok (.iload_n 1, 1) := by decide +kernel
theorem dX3_minutesAt_23 : decode cX3_minutesAt 23 = .ok (.iload 4, 2) := by decide +kernel
theorem dX3_minutesAt_25 : decode cX3_minutesAt 25 = .ok (.invokevirtual 81, 3) := by decide +kernel
theorem dX3_minutesAt_28 : decode cX3_minutesAt 28 = .ok (.iload_n 2, 1) := by decide +kernel
theorem dX3_minutesAt_29 : decode cX3_minutesAt 29 = .ok (.if_icmp .ne 6, 3) := by decide +kernel
theorem dX3_minutesAt_32 : decode cX3_minutesAt 32 = .ok (.iinc 3 1, 3) := by decide +kernel
theorem dX3_minutesAt_35 : decode cX3_minutesAt 35 = .ok (.iinc 4 1, 3) := by decide +kernel
theorem dX3_minutesAt_38 : decode cX3_minutesAt 38 = .ok (.goto (-28), 3) := by decide +kernel
theorem dX3_minutesAt_41 : decode cX3_minutesAt 41 = .ok (.iload_n 3, 1) := by decide +kernel
theorem dX3_minutesAt_42 : decode cX3_minutesAt 42 = .ok (.ireturn, 1) := by decide +kernel
theorem dX3_isWhole_0 : decode cX3_isWhole 0 = .ok (.aload_n 0, 1) := by decide +kernel
theorem dX3_isWhole_1 : decode cX3_isWhole 1 = .ok (.iload_n 1, 1) := by decide +kernel
theorem dX3_isWhole_2 : decode cX3_isWhole 2 = .ok (.iload_n 2, 1) := by decide +kernel
theorem dX3_isWhole_3 : decode cX3_isWhole 3 = .ok (.invokevirtual 84, 3) := by decide +kernel
theorem dX3_isWhole_6 : decode cX3_isWhole 6 = .ok (.ifCond .eq 16, 3) := by decide +kernel
theorem dX3_isWhole_9 : decode cX3_isWhole 9 = .ok (.aload_n 0, 1) := by decide +kernel
theorem dX3_isWhole_10 : decode cX3_isWhole 10 = .ok (.iload_n 1, 1) := by decide +kernel
theorem dX3_isWhole_11 : decode cX3_isWhole 11 = .ok (.iload_n 2, 1) := by decide +kernel
theorem dX3_isWhole_12 : decode cX3_isWhole 12 = .ok (.invokevirtual 87, 3) := by decide +kernel
theorem dX3_isWhole_15 : decode cX3_isWhole 15 = .ok (.ifCond .ne 7, 3) := by decide +kernel
theorem dX3_isWhole_18 : decode cX3_isWhole 18 = .ok (.iconst 1, 1) := by decide +kernel
theorem dX3_isWhole_19 : decode cX3_isWhole 19 = .ok (.goto 4, 3) := by decide +kernel
theorem dX3_isWhole_22 : decode cX3_isWhole 22 = .ok (.iconst 0, 1) := by decide +kernel
theorem dX3_isWhole_23 : decode cX3_isWhole 23 = .ok (.ireturn, 1) := by decide +kernel
theorem dX3_minutesOf_0 : decode cX3_minutesOf 0 = .ok (.iconst 0, 1) := by decide +kernel
theorem dX3_minutesOf_1 : decode cX3_minutesOf 1 = .ok (.istore_n 2, 1) := by decide +kernel
theorem dX3_minutesOf_2 : decode cX3_minutesOf 2 = .ok (.iconst 0, 1) := by decide +kernel
theorem dX3_minutesOf_3 : decode cX3_minutesOf 3 = .ok (.istore_n 3, 1) := by decide +kernel
theorem dX3_minutesOf_4 : decode cX3_minutesOf 4 = .ok (.iload_n 3, 1) := by decide +kernel
theorem dX3_minutesOf_5 : decode cX3_minutesOf 5 = .ok (.aload_n 0, 1) := by decide +kernel
theorem dX3_minutesOf_6 : decode cX3_minutesOf 6 = .ok (.getfield 12, 3) := by decide +kernel
theorem dX3_minutesOf_9 : decode cX3_minutesOf 9 = .ok (.getfield 38, 3) := by decide +kernel
theorem dX3_minutesOf_12 : decode cX3_minutesOf 12 = .ok (.if_icmp .ge 18, 3) := by decide +kernel
theorem dX3_minutesOf_15 : decode cX3_minutesOf 15 = .ok (.iload_n 2, 1) := by decide +kernel
theorem dX3_minutesOf_16 : decode cX3_minutesOf 16 = .ok (.aload_n 0, 1) := by decide +kernel
theorem dX3_minutesOf_17 : decode cX3_minutesOf 17 = .ok (.iload_n 1, 1) := by decide +kernel
theorem dX3_minutesOf_18 : decode cX3_minutesOf 18 = .ok (.iload_n 3, 1) := by decide +kernel
theorem dX3_minutesOf_19 : decode cX3_minutesOf 19 = .ok (.invokevirtual 90, 3) := by decide +kernel
theorem dX3_minutesOf_22 : decode cX3_minutesOf 22 = .ok (.iadd, 1) := by decide +kernel
theorem dX3_minutesOf_23 : decode cX3_minutesOf 23 = .ok (.istore_n 2, 1) := by decide +kernel
theorem dX3_minutesOf_24 : decode cX3_minutesOf 24 = .ok (.iinc 3 1, 3) := by decide +kernel
theorem dX3_minutesOf_27 : decode cX3_minutesOf 27 = .ok (.goto (-23), 3) := by decide +kernel
theorem dX3_minutesOf_30 : decode cX3_minutesOf 30 = .ok (.iload_n 2, 1) := by decide +kernel
theorem dX3_minutesOf_31 : decode cX3_minutesOf 31 = .ok (.ireturn, 1) := by decide +kernel
theorem dX3_minutesByAll_0 : decode cX3_minutesByAll 0 = .ok (.iconst 0, 1) := by decide +kernel
theorem dX3_minutesByAll_1 : decode cX3_minutesByAll 1 = .ok (.istore_n 2, 1) := by decide +kernel
theorem dX3_minutesByAll_2 : decode cX3_minutesByAll 2 = .ok (.iconst 0, 1) := by decide +kernel
theorem dX3_minutesByAll_3 : decode cX3_minutesByAll 3 = .ok (.istore_n 3, 1) := by decide +kernel
theorem dX3_minutesByAll_4 : decode cX3_minutesByAll 4 = .ok (.iload_n 3, 1) := by decide +kernel
theorem dX3_minutesByAll_5 : decode cX3_minutesByAll 5 = .ok (.aload_n 0, 1) := by decide +kernel
theorem dX3_minutesByAll_6 : decode cX3_minutesByAll 6 = .ok (.getfield 12, 3) := by decide +kernel
theorem dX3_minutesByAll_9 : decode cX3_minutesByAll 9 = .ok (.getfield 78, 3) := by decide +kernel
theorem dX3_minutesByAll_12 : decode cX3_minutesByAll 12 = .ok (.if_icmp .ge 18, 3) := by decide +kernel
theorem dX3_minutesByAll_15 : decode cX3_minutesByAll 15 = .ok (.iload_n 2, 1) := by decide +kernel
theorem dX3_minutesByAll_16 : decode cX3_minutesByAll 16 = .ok (.aload_n 0, 1) := by decide +kernel
theorem dX3_minutesByAll_17 : decode cX3_minutesByAll 17 = .ok (.iload_n 3, 1) := by decide +kernel
theorem dX3_minutesByAll_18 : decode cX3_minutesByAll 18 = .ok (.iload_n 1, 1) := by decide +kernel
theorem dX3_minutesByAll_19 : decode cX3_minutesByAll 19 = .ok (.invokevirtual 90, 3) := by decide +kernel
theorem dX3_minutesByAll_22 : decode cX3_minutesByAll 22 = .ok (.iadd, 1) := by decide +kernel
theorem dX3_minutesByAll_23 : decode cX3_minutesByAll 23 = .ok (.istore_n 2, 1) := by decide +kernel
theorem dX3_minutesByAll_24 : decode cX3_minutesByAll 24 = .ok (.iinc 3 1, 3) := by decide +kernel
theorem dX3_minutesByAll_27 : decode cX3_minutesByAll 27 = .ok (.goto (-23), 3) := by decide +kernel
theorem dX3_minutesByAll_30 : decode cX3_minutesByAll 30 = .ok (.iload_n 2, 1) := by decide +kernel
theorem dX3_minutesByAll_31 : decode cX3_minutesByAll 31 = .ok (.ireturn, 1) := by decide +kernel
theorem dX3_minutesOfAll_0 : decode cX3_minutesOfAll 0 = .ok (.iconst 0, 1) := by decide +kernel
theorem dX3_minutesOfAll_1 : decode cX3_minutesOfAll 1 = .ok (.istore_n 1, 1) := by decide +kernel
theorem dX3_minutesOfAll_2 : decode cX3_minutesOfAll 2 = .ok (.iconst 0, 1) := by decide +kernel
theorem dX3_minutesOfAll_3 : decode cX3_minutesOfAll 3 = .ok (.istore_n 2, 1) := by decide +kernel
theorem dX3_minutesOfAll_4 : decode cX3_minutesOfAll 4 = .ok (.iload_n 2, 1) := by decide +kernel
theorem dX3_minutesOfAll_5 : decode cX3_minutesOfAll 5 = .ok (.aload_n 0, 1) := by decide +kernel
theorem dX3_minutesOfAll_6 : decode cX3_minutesOfAll 6 = .ok (.getfield 12, 3) := by decide +kernel
theorem dX3_minutesOfAll_9 : decode cX3_minutesOfAll 9 = .ok (.getfield 78, 3) := by decide +kernel
theorem dX3_minutesOfAll_12 : decode cX3_minutesOfAll 12 = .ok (.if_icmp .ge 37, 3) := by decide +kernel
theorem dX3_minutesOfAll_15 : decode cX3_minutesOfAll 15 = .ok (.iconst 0, 1) := by decide +kernel
theorem dX3_minutesOfAll_16 : decode cX3_minutesOfAll 16 = .ok (.istore_n 3, 1) := by decide +kernel
theorem dX3_minutesOfAll_17 : decode cX3_minutesOfAll 17 = .ok (.iload_n 3, 1) := by decide +kernel
theorem dX3_minutesOfAll_18 : decode cX3_minutesOfAll 18 = .ok (.aload_n 0, 1) := by decide +kernel
theorem dX3_minutesOfAll_19 : decode cX3_minutesOfAll 19 = .ok (.getfield 12, 3) := by decide +kernel
theorem dX3_minutesOfAll_22 : decode cX3_minutesOfAll 22 = .ok (.getfield 38, 3) := by decide +kernel
theorem dX3_minutesOfAll_25 : decode cX3_minutesOfAll 25 = .ok (.if_icmp .ge 18, 3) := by decide +kernel
theorem dX3_minutesOfAll_28 : decode cX3_minutesOfAll 28 = .ok (.iload_n 1, 1) := by decide +kernel
theorem dX3_minutesOfAll_29 : decode cX3_minutesOfAll 29 = .ok (.aload_n 0, 1) := by decide +kernel
theorem dX3_minutesOfAll_30 : decode cX3_minutesOfAll 30 = .ok (.iload_n 2, 1) := by decide +kernel
theorem dX3_minutesOfAll_31 : decode cX3_minutesOfAll 31 = .ok (.iload_n 3, 1) := by decide +kernel
theorem dX3_minutesOfAll_32 : decode cX3_minutesOfAll 32 = .ok (.invokevirtual 90, 3) := by decide +kernel
theorem dX3_minutesOfAll_35 : decode cX3_minutesOfAll 35 = .ok (.iadd, 1) := by decide +kernel
theorem dX3_minutesOfAll_36 : decode cX3_minutesOfAll 36 = .ok (.istore_n 1, 1) := by decide +kernel
theorem dX3_minutesOfAll_37 : decode cX3_minutesOfAll 37 = .ok (.iinc 3 1, 3) := by decide +kernel
theorem dX3_minutesOfAll_40 : decode cX3_minutesOfAll 40 = .ok (.goto (-23), 3) := by decide +kernel
theorem dX3_minutesOfAll_43 : decode cX3_minutesOfAll 43 = .ok (.iinc 2 1, 3) := by decide +kernel
theorem dX3_minutesOfAll_46 : decode cX3_minutesOfAll 46 = .ok (.goto (-42), 3) := by decide +kernel
theorem dX3_minutesOfAll_49 : decode cX3_minutesOfAll 49 = .ok (.iload_n 1, 1) := by decide +kernel
theorem dX3_minutesOfAll_50 : decode cX3_minutesOfAll 50 = .ok (.ireturn, 1) := by decide +kernel
theorem dX3_worksWhole_0 : decode cX3_worksWhole 0 = .ok (.iconst 0, 1) := by decide +kernel
theorem dX3_worksWhole_1 : decode cX3_worksWhole 1 = .ok (.istore_n 2, 1) := by decide +kernel
theorem dX3_worksWhole_2 : decode cX3_worksWhole 2 = .ok (.iconst 0, 1) := by decide +kernel
theorem dX3_worksWhole_3 : decode cX3_worksWhole 3 = .ok (.istore_n 3, 1) := by decide +kernel
theorem dX3_worksWhole_4 : decode cX3_worksWhole 4 = .ok (.iload_n 3, 1) := by decide +kernel
theorem dX3_worksWhole_5 : decode cX3_worksWhole 5 = .ok (.aload_n 0, 1) := by decide +kernel
theorem dX3_worksWhole_6 : decode cX3_worksWhole 6 = .ok (.getfield 12, 3) := by decide +kernel
theorem dX3_worksWhole_9 : decode cX3_worksWhole 9 = .ok (.getfield 38, 3) := by decide +kernel
theorem dX3_worksWhole_12 : decode cX3_worksWhole 12 = .ok (.if_icmp .ge 24, 3) := by decide +kernel
theorem dX3_worksWhole_15 : decode cX3_worksWhole 15 = .ok (.aload_n 0, 1) := by decide +kernel
theorem dX3_worksWhole_16 : decode cX3_worksWhole 16 = .ok (.iload_n 1, 1) := by decide +kernel
theorem dX3_worksWhole_17 : decode cX3_worksWhole 17 = .ok (.iload_n 3, 1) := by decide +kernel
theorem dX3_worksWhole_18 : decode cX3_worksWhole 18 = .ok (.invokevirtual 93, 3) := by decide +kernel
theorem dX3_worksWhole_21 : decode cX3_worksWhole 21 = .ok (.ifCond .eq 9, 3) := by decide +kernel
theorem dX3_worksWhole_24 : decode cX3_worksWhole 24 = .ok (.iload_n 2, 1) := by decide +kernel
theorem dX3_worksWhole_25 : decode cX3_worksWhole 25 = .ok (.iconst 1, 1) := by decide +kernel
theorem dX3_worksWhole_26 : decode cX3_worksWhole 26 = .ok (.iload_n 3, 1) := by decide +kernel
theorem dX3_worksWhole_27 : decode cX3_worksWhole 27 = .ok (.ishl, 1) := by decide +kernel
theorem dX3_worksWhole_28 : decode cX3_worksWhole 28 = .ok (.ior, 1) := by decide +kernel
theorem dX3_worksWhole_29 : decode cX3_worksWhole 29 = .ok (.istore_n 2, 1) := by decide +kernel
theorem dX3_worksWhole_30 : decode cX3_worksWhole 30 = .ok (.iinc 3 1, 3) := by decide +kernel
theorem dX3_worksWhole_33 : decode cX3_worksWhole 33 = .ok (.goto (-29), 3) := by decide +kernel
theorem dX3_worksWhole_36 : decode cX3_worksWhole 36 = .ok (.iload_n 2, 1) := by decide +kernel
theorem dX3_worksWhole_37 : decode cX3_worksWhole 37 = .ok (.ireturn, 1) := by decide +kernel
theorem dX3_readersWhole_0 : decode cX3_readersWhole 0 = .ok (.iconst 0, 1) := by decide +kernel
theorem dX3_readersWhole_1 : decode cX3_readersWhole 1 = .ok (.istore_n 2, 1) := by decide +kernel
theorem dX3_readersWhole_2 : decode cX3_readersWhole 2 = .ok (.iconst 0, 1) := by decide +kernel
theorem dX3_readersWhole_3 : decode cX3_readersWhole 3 = .ok (.istore_n 3, 1) := by decide +kernel
theorem dX3_readersWhole_4 : decode cX3_readersWhole 4 = .ok (.iload_n 3, 1) := by decide +kernel
theorem dX3_readersWhole_5 : decode cX3_readersWhole 5 = .ok (.aload_n 0, 1) := by decide +kernel
theorem dX3_readersWhole_6 : decode cX3_readersWhole 6 = .ok (.getfield 12, 3) := by decide +kernel
theorem dX3_readersWhole_9 : decode cX3_readersWhole 9 = .ok (.getfield 78, 3) := by decide +kernel
theorem dX3_readersWhole_12 : decode cX3_readersWhole 12 = .ok (.if_icmp .ge 24, 3) := by decide +kernel
theorem dX3_readersWhole_15 : decode cX3_readersWhole 15 = .ok (.aload_n 0, 1) := by decide +kernel
theorem dX3_readersWhole_16 : decode cX3_readersWhole 16 = .ok (.iload_n 3, 1) := by decide +kernel
theorem dX3_readersWhole_17 : decode cX3_readersWhole 17 = .ok (.iload_n 1, 1) := by decide +kernel
theorem dX3_readersWhole_18 : decode cX3_readersWhole 18 = .ok (.invokevirtual 93, 3) := by decide +kernel
theorem dX3_readersWhole_21 : decode cX3_readersWhole 21 = .ok (.ifCond .eq 9, 3) := by decide +kernel
theorem dX3_readersWhole_24 : decode cX3_readersWhole 24 = .ok (.iload_n 2, 1) := by decide +kernel
theorem dX3_readersWhole_25 : decode cX3_readersWhole 25 = .ok (.iconst 1, 1) := by decide +kernel
theorem dX3_readersWhole_26 : decode cX3_readersWhole 26 = .ok (.iload_n 3, 1) := by decide +kernel
theorem dX3_readersWhole_27 : decode cX3_readersWhole 27 = .ok (.ishl, 1) := by decide +kernel
theorem dX3_readersWhole_28 : decode cX3_readersWhole 28 = .ok (.ior, 1) := by decide +kernel
theorem dX3_readersWhole_29 : decode cX3_readersWhole 29 = .ok (.istore_n 2, 1) := by decide +kernel
theorem dX3_readersWhole_30 : decode cX3_readersWhole 30 = .ok (.iinc 3 1, 3) := by decide +kernel
theorem dX3_readersWhole_33 : decode cX3_readersWhole 33 = .ok (.goto (-29), 3) := by decide +kernel
theorem dX3_readersWhole_36 : decode cX3_readersWhole 36 = .ok (.iload_n 2, 1) := by decide +kernel
theorem dX3_readersWhole_37 : decode cX3_readersWhole 37 = .ok (.ireturn, 1) := by decide +kernel
theorem dX3_wholesOfAll_0 : decode cX3_wholesOfAll 0 = .ok (.iconst 0, 1) := by decide +kernel
theorem dX3_wholesOfAll_1 : decode cX3_wholesOfAll 1 = .ok (.istore_n 1, 1) := by decide +kernel
theorem dX3_wholesOfAll_2 : decode cX3_wholesOfAll 2 = .ok (.iconst 0, 1) := by decide +kernel
theorem dX3_wholesOfAll_3 : decode cX3_wholesOfAll 3 = .ok (.istore_n 2, 1) := by decide +kernel
theorem dX3_wholesOfAll_4 : decode cX3_wholesOfAll 4 = .ok (.iload_n 2, 1) := by decide +kernel
theorem dX3_wholesOfAll_5 : decode cX3_wholesOfAll 5 = .ok (.aload_n 0, 1) := by decide +kernel
theorem dX3_wholesOfAll_6 : decode cX3_wholesOfAll 6 = .ok (.getfield 12, 3) := by decide +kernel
theorem dX3_wholesOfAll_9 : decode cX3_wholesOfAll 9 = .ok (.getfield 78, 3) := by decide +kernel
theorem dX3_wholesOfAll_12 : decode cX3_wholesOfAll 12 = .ok (.if_icmp .ge 40, 3) := by decide +kernel
theorem dX3_wholesOfAll_15 : decode cX3_wholesOfAll 15 = .ok (.iconst 0, 1) := by decide +kernel
theorem dX3_wholesOfAll_16 : decode cX3_wholesOfAll 16 = .ok (.istore_n 3, 1) := by decide +kernel
theorem dX3_wholesOfAll_17 : decode cX3_wholesOfAll 17 = .ok (.iload_n 3, 1) := by decide +kernel
theorem dX3_wholesOfAll_18 : decode cX3_wholesOfAll 18 = .ok (.aload_n 0, 1) := by decide +kernel
theorem dX3_wholesOfAll_19 : decode cX3_wholesOfAll 19 = .ok (.getfield 12, 3) := by decide +kernel
theorem dX3_wholesOfAll_22 : decode cX3_wholesOfAll 22 = .ok (.getfield 38, 3) := by decide +kernel
theorem dX3_wholesOfAll_25 : decode cX3_wholesOfAll 25 = .ok (.if_icmp .ge 21, 3) := by decide +kernel
theorem dX3_wholesOfAll_28 : decode cX3_wholesOfAll 28 = .ok (.aload_n 0, 1) := by decide +kernel
theorem dX3_wholesOfAll_29 : decode cX3_wholesOfAll 29 = .ok (.iload_n 2, 1) := by decide +kernel
theorem dX3_wholesOfAll_30 : decode cX3_wholesOfAll 30 = .ok (.iload_n 3, 1) := by decide +kernel
theorem dX3_wholesOfAll_31 : decode cX3_wholesOfAll 31 = .ok (.invokevirtual 93, 3) := by decide +kernel
theorem dX3_wholesOfAll_34 : decode cX3_wholesOfAll 34 = .ok (.ifCond .eq 6, 3) := by decide +kernel
theorem dX3_wholesOfAll_37 : decode cX3_wholesOfAll 37 = .ok (.iinc 1 1, 3) := by decide +kernel
theorem dX3_wholesOfAll_40 : decode cX3_wholesOfAll 40 = .ok (.iinc 3 1, 3) := by decide +kernel
theorem dX3_wholesOfAll_43 : decode cX3_wholesOfAll 43 = .ok (.goto (-26), 3) := by decide +kernel
theorem dX3_wholesOfAll_46 : decode cX3_wholesOfAll 46 = .ok (.iinc 2 1, 3) := by decide +kernel
theorem dX3_wholesOfAll_49 : decode cX3_wholesOfAll 49 = .ok (.goto (-45), 3) := by decide +kernel
theorem dX3_wholesOfAll_52 : decode cX3_wholesOfAll 52 = .ok (.iload_n 1, 1) := by decide +kernel
theorem dX3_wholesOfAll_53 : decode cX3_wholesOfAll 53 = .ok (.ireturn, 1) := by decide +kernel
theorem dX3_isWholeAlone_0 : decode cX3_isWholeAlone 0 = .ok (.aload_n 0, 1) := by decide +kernel
theorem dX3_isWholeAlone_1 : decode cX3_isWholeAlone 1 = .ok (.getfield 22, 3) := by decide +kernel
theorem dX3_isWholeAlone_4 : decode cX3_isWholeAlone 4 = .ok (.iload_n 2, 1) := by decide +kernel
theorem dX3_isWholeAlone_5 : decode cX3_isWholeAlone 5 = .ok (.iaload, 1) := by decide +kernel
theorem dX3_isWholeAlone_6 : decode cX3_isWholeAlone 6 = .ok (.aload_n 0, 1) := by decide +kernel
theorem dX3_isWholeAlone_7 : decode cX3_isWholeAlone 7 = .ok (.getfield 18, 3) := by decide +kernel
theorem dX3_isWholeAlone_10 : decode cX3_isWholeAlone 10 = .ok (.iload_n 2, 1) := by decide +kernel
theorem dX3_isWholeAlone_11 : decode cX3_isWholeAlone 11 = .ok (.iaload, 1) := by decide +kernel
theorem dX3_isWholeAlone_12 : decode cX3_isWholeAlone 12 = .ok (.if_icmp .le 12, 3) := by decide +kernel
theorem dX3_isWholeAlone_15 : decode cX3_isWholeAlone 15 = .ok (.aload_n 0, 1) := by decide +kernel
theorem dX3_isWholeAlone_16 : decode cX3_isWholeAlone 16 = .ok (.iload_n 1, 1) := by decide +kernel
theorem dX3_isWholeAlone_17 : decode cX3_isWholeAlone 17 = .ok (.iload_n 2, 1) := by decide +kernel
theorem dX3_isWholeAlone_18 : decode cX3_isWholeAlone 18 = .ok (.invokevirtual 96, 3) := by decide +kernel
theorem dX3_isWholeAlone_21 : decode cX3_isWholeAlone 21 = .ok (.ifCond .ne 5, 3) := by decide +kernel
theorem dX3_isWholeAlone_24 : decode cX3_isWholeAlone 24 = .ok (.iconst 0, 1) := by decide +kernel
theorem dX3_isWholeAlone_25 : decode cX3_isWholeAlone 25 = .ok (.ireturn, 1) := by decide +kernel
theorem dX3_isWholeAlone_26 : decode cX3_isWholeAlone 26 = .ok (.aload_n 0, 1) := by decide +kernel
theorem dX3_isWholeAlone_27 : decode cX3_isWholeAlone 27 = .ok (.getfield 18, 3) := by decide +kernel
theorem dX3_isWholeAlone_30 : decode cX3_isWholeAlone 30 = .ok (.iload_n 2, 1) := by decide +kernel
theorem dX3_isWholeAlone_31 : decode cX3_isWholeAlone 31 = .ok (.iaload, 1) := by decide +kernel
theorem dX3_isWholeAlone_32 : decode cX3_isWholeAlone 32 = .ok (.istore_n 3, 1) := by decide +kernel
theorem dX3_isWholeAlone_33 : decode cX3_isWholeAlone 33 = .ok (.iload_n 3, 1) := by decide +kernel
theorem dX3_isWholeAlone_34 : decode cX3_isWholeAlone 34 = .ok (.aload_n 0, 1) := by decide +kernel
theorem dX3_isWholeAlone_35 : decode cX3_isWholeAlone 35 = .ok (.getfield 22, 3) := by decide +kernel
theorem dX3_isWholeAlone_38 : decode cX3_isWholeAlone 38 = .ok (.iload_n 2, 1) := by decide +kernel
theorem dX3_isWholeAlone_39 : decode cX3_isWholeAlone 39 = .ok (.iaload, 1) := by decide +kernel
theorem dX3_isWholeAlone_40 : decode cX3_isWholeAlone 40 = .ok (.if_icmp .ge 20, 3) := by decide +kernel
theorem dX3_isWholeAlone_43 : decode cX3_isWholeAlone 43 = .ok (.aload_n 0, 1) := by decide +kernel
theorem dX3_isWholeAlone_44 : decode cX3_isWholeAlone 44 = .ok (.iload_n 1, 1) := by decide +kernel
theorem dX3_isWholeAlone_45 : decode cX3_isWholeAlone 45 = .ok (.iload_n 3, 1) := by decide +kernel
theorem dX3_isWholeAlone_46 : decode cX3_isWholeAlone 46 = .ok (.invokevirtual 71, 3) := by decide +kernel
theorem dX3_isWholeAlone_49 : decode cX3_isWholeAlone 49 = .ok (.ifCond .eq 5, 3) := by decide +kernel
theorem dX3_isWholeAlone_52 : decode cX3_isWholeAlone 52 = .ok (.iconst 0, 1) := by decide +kernel
theorem dX3_isWholeAlone_53 : decode cX3_isWholeAlone 53 = .ok (.ireturn, 1) := by decide +kernel
theorem dX3_isWholeAlone_54 : decode cX3_isWholeAlone 54 = .ok (.iinc 3 1, 3) := by decide +kernel
theorem dX3_isWholeAlone_57 : decode cX3_isWholeAlone 57 = .ok (.goto (-24), 3) := by decide +kernel
theorem dX3_isWholeAlone_60 : decode cX3_isWholeAlone 60 = .ok (.iconst 1, 1) := by decide +kernel
theorem dX3_isWholeAlone_61 : decode cX3_isWholeAlone 61 = .ok (.ireturn, 1) := by decide +kernel
theorem dX3_rivalsOf_0 : decode cX3_rivalsOf 0 = .ok (.iconst 0, 1) := by decide +kernel
theorem dX3_rivalsOf_1 : decode cX3_rivalsOf 1 = .ok (.istore_n 3, 1) := by decide +kernel
theorem dX3_rivalsOf_2 : decode cX3_rivalsOf 2 = .ok (.iconst 0, 1) := by decide +kernel
theorem dX3_rivalsOf_3 : decode cX3_rivalsOf 3 = .ok (.istore 4, 2) := by decide +kernel
theorem dX3_rivalsOf_5 : decode cX3_rivalsOf 5 = .ok (.iload 4, 2) := by decide +kernel
theorem dX3_rivalsOf_7 : decode cX3_rivalsOf 7 = .ok (.aload_n 0, 1) := by decide +kernel
theorem dX3_rivalsOf_8 : decode cX3_rivalsOf 8 = .ok (.getfield 12, 3) := by decide +kernel
theorem dX3_rivalsOf_11 : decode cX3_rivalsOf 11 = .ok (.getfield 38, 3) := by decide +kernel
theorem dX3_rivalsOf_14 : decode cX3_rivalsOf 14 = .ok (.if_icmp .ge 49, 3) := by decide +kernel
theorem dX3_rivalsOf_17 : decode cX3_rivalsOf 17 = .ok (.iload 4, 2) := by decide +kernel
theorem dX3_rivalsOf_19 : decode cX3_rivalsOf 19 = .ok (.iload_n 2, 1) := by decide +kernel
theorem dX3_rivalsOf_20 : decode cX3_rivalsOf 20 = .ok (.if_icmp .eq 37, 3) := by decide +kernel
theorem dX3_rivalsOf_23 : decode cX3_rivalsOf 23 = .ok (.aload_n 0, 1) := by decide +kernel
theorem dX3_rivalsOf_24 : decode cX3_rivalsOf 24 = .ok (.iload 4, 2) := by decide +kernel
theorem dX3_rivalsOf_26 : decode cX3_rivalsOf 26 = .ok (.iload_n 2, 1) := by decide +kernel
theorem dX3_rivalsOf_27 : decode cX3_rivalsOf 27 = .ok (.invokevirtual 99, 3) := by decide +kernel
theorem dX3_rivalsOf_30 : decode cX3_rivalsOf 30 = .ok (.ifCond .eq 27, 3) := by decide +kernel
theorem dX3_rivalsOf_33 : decode cX3_rivalsOf 33 = .ok (.aload_n 0, 1) := by decide +kernel
theorem dX3_rivalsOf_34 : decode cX3_rivalsOf 34 = .ok (.iload_n 1, 1) := by decide +kernel
theorem dX3_rivalsOf_35 : decode cX3_rivalsOf 35 = .ok (.iload 4, 2) := by decide +kernel
theorem dX3_rivalsOf_37 : decode cX3_rivalsOf 37 = .ok (.invokevirtual 96, 3) := by decide +kernel
theorem dX3_rivalsOf_40 : decode cX3_rivalsOf 40 = .ok (.ifCond .eq 17, 3) := by decide +kernel
theorem dX3_rivalsOf_43 : decode cX3_rivalsOf 43 = .ok (.aload_n 0, 1) := by decide +kernel
theorem dX3_rivalsOf_44 : decode cX3_rivalsOf 44 = .ok (.iload_n 1, 1) := by decide +kernel
theorem dX3_rivalsOf_45 : decode cX3_rivalsOf 45 = .ok (.iload 4, 2) := by decide +kernel
theorem dX3_rivalsOf_47 : decode cX3_rivalsOf 47 = .ok (.iload_n 2, 1) := by decide +kernel
theorem dX3_rivalsOf_48 : decode cX3_rivalsOf 48 = .ok (.invokevirtual 102, 3) := by decide +kernel
theorem dX3_rivalsOf_51 : decode cX3_rivalsOf 51 = .ok (.ifCond .eq 6, 3) := by decide +kernel
theorem dX3_rivalsOf_54 : decode cX3_rivalsOf 54 = .ok (.iinc 3 1, 3) := by decide +kernel
theorem dX3_rivalsOf_57 : decode cX3_rivalsOf 57 = .ok (.iinc 4 1, 3) := by decide +kernel
theorem dX3_rivalsOf_60 : decode cX3_rivalsOf 60 = .ok (.goto (-55), 3) := by decide +kernel
theorem dX3_rivalsOf_63 : decode cX3_rivalsOf 63 = .ok (.iload_n 3, 1) := by decide +kernel
theorem dX3_rivalsOf_64 : decode cX3_rivalsOf 64 = .ok (.ireturn, 1) := by decide +kernel
theorem dX3_overlap_0 : decode cX3_overlap 0 = .ok (.aload_n 0, 1) := by decide +kernel
theorem dX3_overlap_1 : decode cX3_overlap 1 = .ok (.getfield 18, 3) := by decide +kernel
theorem dX3_overlap_4 : decode cX3_overlap 4 = .ok (.iload_n 1, 1) := by decide +kernel
theorem dX3_overlap_5 : decode cX3_overlap 5 = .ok (.iaload, 1) := by decide +kernel
theorem dX3_overlap_6 : decode cX3_overlap 6 = .ok (.aload_n 0, 1) := by decide +kernel
theorem dX3_overlap_7 : decode cX3_overlap 7 = .ok (.getfield 18, 3) := by decide +kernel
theorem dX3_overlap_10 : decode cX3_overlap 10 = .ok (.iload_n 2, 1) := by decide +kernel
theorem dX3_overlap_11 : decode cX3_overlap 11 = .ok (.iaload, 1) := by decide +kernel
theorem dX3_overlap_12 : decode cX3_overlap 12 = .ok (.invokestatic 106, 3) := by decide +kernel
theorem dX3_overlap_15 : decode cX3_overlap 15 = .ok (.aload_n 0, 1) := by decide +kernel
theorem dX3_overlap_16 : decode cX3_overlap 16 = .ok (.getfield 22, 3) := by decide +kernel
theorem dX3_overlap_19 : decode cX3_overlap 19 = .ok (.iload_n 1, 1) := by decide +kernel
theorem dX3_overlap_20 : decode cX3_overlap 20 = .ok (.iaload, 1) := by decide +kernel
theorem dX3_overlap_21 : decode cX3_overlap 21 = .ok (.aload_n 0, 1) := by decide +kernel
theorem dX3_overlap_22 : decode cX3_overlap 22 = .ok (.getfield 22, 3) := by decide +kernel
theorem dX3_overlap_25 : decode cX3_overlap 25 = .ok (.iload_n 2, 1) := by decide +kernel
theorem dX3_overlap_26 : decode cX3_overlap 26 = .ok (.iaload, 1) := by decide +kernel
theorem dX3_overlap_27 : decode cX3_overlap 27 = .ok (.invokestatic 109, 3) := by decide +kernel
theorem dX3_overlap_30 : decode cX3_overlap 30 = .ok (.if_icmp .ge 7, 3) := by decide +kernel
theorem dX3_overlap_33 : decode cX3_overlap 33 = .ok (.iconst 1, 1) := by decide +kernel
theorem dX3_overlap_34 : decode cX3_overlap 34 = .ok (.goto 4, 3) := by decide +kernel
theorem dX3_overlap_37 : decode cX3_overlap 37 = .ok (.iconst 0, 1) := by decide +kernel
theorem dX3_overlap_38 : decode cX3_overlap 38 = .ok (.ireturn, 1) := by decide +kernel
theorem dX3_isBefore_0 : decode cX3_isBefore 0 = .ok (.aload_n 0, 1) := by decide +kernel
theorem dX3_isBefore_1 : decode cX3_isBefore 1 = .ok (.iload_n 1, 1) := by decide +kernel
theorem dX3_isBefore_2 : decode cX3_isBefore 2 = .ok (.iload_n 2, 1) := by decide +kernel
theorem dX3_isBefore_3 : decode cX3_isBefore 3 = .ok (.invokevirtual 68, 3) := by decide +kernel
theorem dX3_isBefore_6 : decode cX3_isBefore 6 = .ok (.istore 4, 2) := by decide +kernel
theorem dX3_isBefore_8 : decode cX3_isBefore 8 = .ok (.aload_n 0, 1) := by decide +kernel
theorem dX3_isBefore_9 : decode cX3_isBefore 9 = .ok (.iload_n 1, 1) := by decide +kernel
theorem dX3_isBefore_10 : decode cX3_isBefore 10 = .ok (.iload_n 3, 1) := by decide +kernel
theorem dX3_isBefore_11 : decode cX3_isBefore 11 = .ok (.invokevirtual 68, 3) := by decide +kernel
theorem dX3_isBefore_14 : decode cX3_isBefore 14 = .ok (.istore 5, 2) := by decide +kernel
theorem dX3_isBefore_16 : decode cX3_isBefore 16 = .ok (.iload 4, 2) := by decide +kernel
theorem dX3_isBefore_18 : decode cX3_isBefore 18 = .ok (.iload 5, 2) := by decide +kernel
theorem dX3_isBefore_20 : decode cX3_isBefore 20 = .ok (.if_icmp .lt 15, 3) := by decide +kernel
theorem dX3_isBefore_23 : decode cX3_isBefore 23 = .ok (.iload 4, 2) := by decide +kernel
theorem dX3_isBefore_25 : decode cX3_isBefore 25 = .ok (.iload 5, 2) := by decide +kernel
theorem dX3_isBefore_27 : decode cX3_isBefore 27 = .ok (.if_icmp .ne 12, 3) := by decide +kernel
theorem dX3_isBefore_30 : decode cX3_isBefore 30 = .ok (.iload_n 2, 1) := by decide +kernel
theorem dX3_isBefore_31 : decode cX3_isBefore 31 = .ok (.iload_n 3, 1) := by decide +kernel
theorem dX3_isBefore_32 : decode cX3_isBefore 32 = .ok (.if_icmp .ge 7, 3) := by decide +kernel
theorem dX3_isBefore_35 : decode cX3_isBefore 35 = .ok (.iconst 1, 1) := by decide +kernel
theorem dX3_isBefore_36 : decode cX3_isBefore 36 = .ok (.goto 4, 3) := by decide +kernel
theorem dX3_isBefore_39 : decode cX3_isBefore 39 = .ok (.iconst 0, 1) := by decide +kernel
theorem dX3_isBefore_40 : decode cX3_isBefore 40 = .ok (.ireturn, 1) := by decide +kernel
theorem dX3_choicesOf_0 : decode cX3_choicesOf 0 = .ok (.aload_n 0, 1) := by decide +kernel
theorem dX3_choicesOf_1 : decode cX3_choicesOf 1 = .ok (.iload_n 1, 1) := by decide +kernel
theorem dX3_choicesOf_2 : decode cX3_choicesOf 2 = .ok (.iload_n 2, 1) := by decide +kernel
theorem dX3_choicesOf_3 : decode cX3_choicesOf 3 = .ok (.invokevirtual 71, 3) := by decide +kernel
theorem dX3_choicesOf_6 : decode cX3_choicesOf 6 = .ok (.ifCond .eq 5, 3) := by decide +kernel
theorem dX3_choicesOf_9 : decode cX3_choicesOf 9 = .ok (.iconst 0, 1) := by decide +kernel
theorem dX3_choicesOf_10 : decode cX3_choicesOf 10 = .ok (.ireturn, 1) := by decide +kernel
theorem dX3_choicesOf_11 : decode cX3_choicesOf 11 = .ok (.iconst 0, 1) := by decide +kernel
theorem dX3_choicesOf_12 : decode cX3_choicesOf 12 = .ok (.istore_n 3, 1) := by decide +kernel
theorem dX3_choicesOf_13 : decode cX3_choicesOf 13 = .ok (.iconst 0, 1) := by decide +kernel
theorem dX3_choicesOf_14 : decode cX3_choicesOf 14 = .ok (.istore 4, 2) := by decide +kernel
theorem dX3_choicesOf_16 : decode cX3_choicesOf 16 = .ok (.iload 4, 2) := by decide +kernel
theorem dX3_choicesOf_18 : decode cX3_choicesOf 18 = .ok (.aload_n 0, 1) := by decide +kernel
theorem dX3_choicesOf_19 : decode cX3_choicesOf 19 = .ok (.getfield 12, 3) := by decide +kernel
theorem dX3_choicesOf_22 : decode cX3_choicesOf 22 = .ok (.getfield 38, 3) := by decide +kernel
theorem dX3_choicesOf_25 : decode cX3_choicesOf 25 = .ok (.if_icmp .ge 32, 3) := by decide +kernel
theorem dX3_choicesOf_28 : decode cX3_choicesOf 28 = .ok (.aload_n 0, 1) := by decide +kernel
theorem dX3_choicesOf_29 : decode cX3_choicesOf 29 = .ok (.iload 4, 2) := by decide +kernel
theorem dX3_choicesOf_31 : decode cX3_choicesOf 31 = .ok (.iload_n 2, 1) := by decide +kernel
theorem dX3_choicesOf_32 : decode cX3_choicesOf 32 = .ok (.invokevirtual 75, 3) := by decide +kernel
theorem dX3_choicesOf_35 : decode cX3_choicesOf 35 = .ok (.ifCond .eq 16, 3) := by decide +kernel
theorem dX3_choicesOf_38 : decode cX3_choicesOf 38 = .ok (.aload_n 0, 1) := by decide +kernel
theorem dX3_choicesOf_39 : decode cX3_choicesOf 39 = .ok (.iload_n 1, 1) := by decide +kernel
theorem dX3_choicesOf_40 : decode cX3_choicesOf 40 = .ok (.iload 4, 2) := by decide +kernel
theorem dX3_choicesOf_42 : decode cX3_choicesOf 42 = .ok (.invokevirtual 96, 3) := by decide +kernel
theorem dX3_choicesOf_45 : decode cX3_choicesOf 45 = .ok (.ifCond .eq 6, 3) := by decide +kernel
theorem dX3_choicesOf_48 : decode cX3_choicesOf 48 = .ok (.iinc 3 1, 3) := by decide +kernel
theorem dX3_choicesOf_51 : decode cX3_choicesOf 51 = .ok (.iinc 4 1, 3) := by decide +kernel
theorem dX3_choicesOf_54 : decode cX3_choicesOf 54 = .ok (.goto (-38), 3) := by decide +kernel
theorem dX3_choicesOf_57 : decode cX3_choicesOf 57 = .ok (.iload_n 3, 1) := by decide +kernel
theorem dX3_choicesOf_58 : decode cX3_choicesOf 58 = .ok (.ireturn, 1) := by decide +kernel
theorem dX4_init_0 : decode cX4_init 0 = .ok (.aload_n 0, 1) := by decide +kernel
theorem dX4_init_1 : decode cX4_init 1 = .ok (.invokespecial 3, 3) := by decide +kernel
theorem dX4_init_4 : decode cX4_init 4 = .ok (.aload_n 0, 1) := by decide +kernel
theorem dX4_init_5 : decode cX4_init 5 = .ok (.bipush 6, 2) := by decide +kernel
theorem dX4_init_7 : decode cX4_init 7 = .ok (.newarray .int, 2) := by decide +kernel
theorem dX4_init_9 : decode cX4_init 9 = .ok (.putfield 9, 3) := by decide +kernel
theorem dX4_init_12 : decode cX4_init 12 = .ok (.aload_n 0, 1) := by decide +kernel
theorem dX4_init_13 : decode cX4_init 13 = .ok (.bipush 6, 2) := by decide +kernel
theorem dX4_init_15 : decode cX4_init 15 = .ok (.newarray .int, 2) := by decide +kernel
theorem dX4_init_17 : decode cX4_init 17 = .ok (.putfield 15, 3) := by decide +kernel
theorem dX4_init_20 : decode cX4_init 20 = .ok (.return_, 1) := by decide +kernel
theorem dX4_add_0 : decode cX4_add 0 = .ok (.aload_n 0, 1) := by decide +kernel
theorem dX4_add_1 : decode cX4_add 1 = .ok (.getfield 9, 3) := by decide +kernel
theorem dX4_add_4 : decode cX4_add 4 = .ok (.aload_n 0, 1) := by decide +kernel
theorem dX4_add_5 : decode cX4_add 5 = .ok (.getfield 18, 3) := by decide +kernel
theorem dX4_add_8 : decode cX4_add 8 = .ok (.iload_n 1, 1) := by decide +kernel
theorem dX4_add_9 : decode cX4_add 9 = .ok (.iastore, 1) := by decide +kernel
theorem dX4_add_10 : decode cX4_add 10 = .ok (.aload_n 0, 1) := by decide +kernel
theorem dX4_add_11 : decode cX4_add 11 = .ok (.getfield 15, 3) := by decide +kernel
theorem dX4_add_14 : decode cX4_add 14 = .ok (.aload_n 0, 1) := by decide +kernel
theorem dX4_add_15 : decode cX4_add 15 = .ok (.getfield 18, 3) := by decide +kernel
theorem dX4_add_18 : decode cX4_add 18 = .ok (.iload_n 2, 1) := by decide +kernel
theorem dX4_add_19 : decode cX4_add 19 = .ok (.iastore, 1) := by decide +kernel
theorem dX4_add_20 : decode cX4_add 20 = .ok (.aload_n 0, 1) := by decide +kernel
theorem dX4_add_21 : decode cX4_add 21 = .ok (.dup, 1) := by decide +kernel
theorem dX4_add_22 : decode cX4_add 22 = .ok (.getfield 18, 3) := by decide +kernel
theorem dX4_add_25 : decode cX4_add 25 = .ok (.iconst 1, 1) := by decide +kernel
theorem dX4_add_26 : decode cX4_add 26 = .ok (.iadd, 1) := by decide +kernel
theorem dX4_add_27 : decode cX4_add 27 = .ok (.putfield 18, 3) := by decide +kernel
theorem dX4_add_30 : decode cX4_add 30 = .ok (.return_, 1) := by decide +kernel
end
section
theorem dX4_agreeWith_0 : decode cX4_agreeWith 0 = .ok (.iconst 0, 1) := by decide +kernel
theorem dX4_agreeWith_1 : decode cX4_agreeWith 1 = .ok (.istore_n 2, 1) := by decide +kernel
theorem dX4_agreeWith_2 : decode cX4_agreeWith 2 = .ok (.iload_n 2, 1) := by decide +kernel
theorem dX4_agreeWith_3 : decode cX4_agreeWith 3 = .ok (.aload_n 0, 1) := by decide +kernel
theorem dX4_agreeWith_4 : decode cX4_agreeWith 4 = .ok (.getfield 18, 3) := by decide +kernel
theorem dX4_agreeWith_7 : decode cX4_agreeWith 7 = .ok (.if_icmp .ge 43, 3) := by decide +kernel
theorem dX4_agreeWith_10 : decode cX4_agreeWith 10 = .ok (.aload_n 1, 1) := by decide +kernel
theorem dX4_agreeWith_11 : decode cX4_agreeWith 11 = .ok (.aload_n 0, 1) := by decide +kernel
theorem dX4_agreeWith_12 : decode cX4_agreeWith 12 = .ok (.getfield 9, 3) := by decide +kernel
theorem dX4_agreeWith_15 : decode cX4_agreeWith 15 = .ok (.iload_n 2, 1) := by decide +kernel
theorem dX4_agreeWith_16 : decode cX4_agreeWith 16 = .ok (.iaload, 1) := by decide +kernel
theorem dX4_agreeWith_17 : decode cX4_agreeWith 17 = .ok (.invokevirtual 22, 3) := by decide +kernel
theorem dX4_agreeWith_20 : decode cX4_agreeWith 20 = .ok (.ifCond .eq 22, 3) := by decide +kernel
theorem dX4_agreeWith_23 : decode cX4_agreeWith 23 = .ok (.aload_n 1, 1) := by decide +kernel
theorem dX4_agreeWith_24 : decode cX4_agreeWith 24 = .ok (.aload_n 0, 1) := by decide +kernel
theorem dX4_agreeWith_25 : decode cX4_agreeWith 25 = .ok (.getfield 9, 3) := by decide +kernel
theorem dX4_agreeWith_28 : decode cX4_agreeWith 28 = .ok (.iload_n 2, 1) := by decide +kernel
theorem dX4_agreeWith_29 : decode cX4_agreeWith 29 = .ok (.iaload, 1) := by decide +kernel
theorem dX4_agreeWith_30 : decode cX4_agreeWith 30 = .ok (.invokevirtual 28, 3) := by decide +kernel
theorem dX4_agreeWith_33 : decode cX4_agreeWith 33 = .ok (.aload_n 0, 1) := by decide +kernel
theorem dX4_agreeWith_34 : decode cX4_agreeWith 34 = .ok (.getfield 15, 3) := by decide +kernel
theorem dX4_agreeWith_37 : decode cX4_agreeWith 37 = .ok (.iload_n 2, 1) := by decide +kernel
theorem dX4_agreeWith_38 : decode cX4_agreeWith 38 = .ok (.iaload, 1) := by decide +kernel
theorem dX4_agreeWith_39 : decode cX4_agreeWith 39 = .ok (.if_icmp .eq 5, 3) := by decide +kernel
theorem dX4_agreeWith_42 : decode cX4_agreeWith 42 = .ok (.iconst 0, 1) := by decide +kernel
theorem dX4_agreeWith_43 : decode cX4_agreeWith 43 = .ok (.ireturn, 1) := by decide +kernel
theorem dX4_agreeWith_44 : decode cX4_agreeWith 44 = .ok (.iinc 2 1, 3) := by decide +kernel
theorem dX4_agreeWith_47 : decode cX4_agreeWith 47 = .ok (.goto (-45), 3) := by decide +kernel
theorem dX4_agreeWith_50 : decode cX4_agreeWith 50 = .ok (.iconst 1, 1) := by decide +kernel
theorem dX4_agreeWith_51 : decode cX4_agreeWith 51 = .ok (.ireturn, 1) := by decide +kernel
theorem dX5_init_0 : decode cX5_init 0 = .ok (.aload_n 0, 1) := by decide +kernel
theorem dX5_init_1 : decode cX5_init 1 = .ok (.invokespecial 3, 3) := by decide +kernel
theorem dX5_init_4 : decode cX5_init 4 = .ok (.aload_n 0, 1) := by decide +kernel
theorem dX5_init_5 : decode cX5_init 5 = .ok (.sipush 160, 3) := by decide +kernel
theorem dX5_init_8 : decode cX5_init 8 = .ok (.newarray .byte, 2) := by decide +kernel
theorem dX5_init_10 : decode cX5_init 10 = .ok (.putfield 9, 3) := by decide +kernel
theorem dX5_init_13 : decode cX5_init 13 = .ok (.return_, 1) := by decide +kernel
theorem dX5_tellTo_0 : decode cX5_tellTo 0 = .ok (.aload_n 1, 1) := by decide +kernel
theorem dX5_tellTo_1 : decode cX5_tellTo 1 = .ok (.invokevirtual 15, 3) := by decide +kernel
theorem dX5_tellTo_4 : decode cX5_tellTo 4 = .ok (.aload_n 0, 1) := by decide +kernel
theorem dX5_tellTo_5 : decode cX5_tellTo 5 = .ok (.iconst 0, 1) := by decide +kernel
theorem dX5_tellTo_6 : decode cX5_tellTo 6 = .ok (.putfield 20, 3) := by decide +kernel
theorem dX5_tellTo_9 : decode cX5_tellTo 9 = .ok (.aload_n 0, 1) := by decide +kernel
theorem dX5_tellTo_10 : decode cX5_tellTo 10 = .ok (.iconst 0, 1) := by decide +kernel
theorem dX5_tellTo_11 : decode cX5_tellTo 11 = .ok (.putfield 24, 3) := by decide +kernel
theorem dX5_tellTo_14 : decode cX5_tellTo 14 = .ok (.aload_n 0, 1) := by decide +kernel
theorem dX5_tellTo_15 : decode cX5_tellTo 15 = .ok (.iconst 0, 1) := by decide +kernel
theorem dX5_tellTo_16 : decode cX5_tellTo 16 = .ok (.putfield 27, 3) := by decide +kernel
theorem dX5_tellTo_19 : decode cX5_tellTo 19 = .ok (.aload_n 0, 1) := by decide +kernel
theorem dX5_tellTo_20 : decode cX5_tellTo 20 = .ok (.iconst 0, 1) := by decide +kernel
theorem dX5_tellTo_21 : decode cX5_tellTo 21 = .ok (.putfield 31, 3) := by decide +kernel
theorem dX5_tellTo_24 : decode cX5_tellTo 24 = .ok (.iconst 0, 1) := by decide +kernel
theorem dX5_tellTo_25 : decode cX5_tellTo 25 = .ok (.istore_n 2, 1) := by decide +kernel
theorem dX5_tellTo_26 : decode cX5_tellTo 26 = .ok (.aload_n 0, 1) := by decide +kernel
theorem dX5_tellTo_27 : decode cX5_tellTo 27 = .ok (.invokevirtual 34, 3) := by decide +kernel
theorem dX5_tellTo_30 : decode cX5_tellTo 30 = .ok (.aload_n 0, 1) := by decide +kernel
theorem dX5_tellTo_31 : decode cX5_tellTo 31 = .ok (.getfield 20, 3) := by decide +kernel
theorem dX5_tellTo_34 : decode cX5_tellTo 34 = .ok (.ifCond .ne 32, 3) := by decide +kernel
theorem dX5_tellTo_37 : decode cX5_tellTo 37 = .ok (.aload_n 0, 1) := by decide +kernel
theorem dX5_tellTo_38 : decode cX5_tellTo 38 = .ok (.getfield 37, 3) := by decide +kernel
theorem dX5_tellTo_41 : decode cX5_tellTo 41 = .ok (.ifCond .eq 25, 3) := by decide +kernel
theorem dX5_tellTo_44 : decode cX5_tellTo 44 = .ok (.iload_n 2, 1) := by decide +kernel
theorem dX5_tellTo_45 : decode cX5_tellTo 45 = .ok (.sipush 160, 3) := by decide +kernel
theorem dX5_tellTo_48 : decode cX5_tellTo 48 = .ok (.if_icmp .ge 18, 3) := by decide +kernel
theorem dX5_tellTo_51 : decode cX5_tellTo 51 = .ok (.aload_n 0, 1) := by decide +kernel
theorem dX5_tellTo_52 : decode cX5_tellTo 52 = .ok (.aload_n 1, 1) := by decide +kernel
theorem dX5_tellTo_53 : decode cX5_tellTo 53 = .ok (.invokevirtual 40, 3) := by decide +kernel
theorem dX5_tellTo_56 : decode cX5_tellTo 56 = .ok (.aload_n 0, 1) := by decide +kernel
theorem dX5_tellTo_57 : decode cX5_tellTo 57 = .ok (.invokevirtual 34, 3) := by decide +kernel
theorem dX5_tellTo_60 : decode cX5_tellTo 60 = .ok (.iinc 2 1, 3) := by decide +kernel
theorem dX5_tellTo_63 : decode cX5_tellTo 63 = .ok (.goto (-33), 3) := by decide +kernel
theorem dX5_tellTo_66 : decode cX5_tellTo 66 = .ok (.iload_n 2, 1) := by decide +kernel
theorem dX5_tellTo_67 : decode cX5_tellTo 67 = .ok (.ireturn, 1) := by decide +kernel
theorem dX5_takeLine_0 : decode cX5_takeLine 0 = .ok (.aload_n 0, 1) := by decide +kernel
theorem dX5_takeLine_1 : decode cX5_takeLine 1 = .ok (.getfield 37, 3) := by decide +kernel
theorem dX5_takeLine_4 : decode cX5_takeLine 4 = .ok (.iconst 1, 1) := by decide +kernel
theorem dX5_takeLine_5 : decode cX5_takeLine 5 = .ok (.if_icmp .ne 10, 3) := by decide +kernel
theorem dX5_takeLine_8 : decode cX5_takeLine 8 = .ok (.aload_n 0, 1) := by decide +kernel
theorem dX5_takeLine_9 : decode cX5_takeLine 9 = .ok (.invokevirtual 44, 3) := by decide +kernel
theorem dX5_takeLine_12 : decode cX5_takeLine 12 = .ok (.goto 5, 3) := by decide +kernel
theorem dX5_takeLine_15 : decode cX5_takeLine 15 = .ok (.bipush (-4), 2) := by decide +kernel
theorem dX5_takeLine_17 : decode cX5_takeLine 17 = .ok (.istore_n 2, 1) := by decide +kernel
theorem dX5_takeLine_18 : decode cX5_takeLine 18 = .ok (.iload_n 2, 1) := by decide +kernel
theorem dX5_takeLine_19 : decode cX5_takeLine 19 = .ok (.ifCond .ge 11, 3) := by decide +kernel
theorem dX5_takeLine_22 : decode cX5_takeLine 22 = .ok (.aload_n 0, 1) := by decide +kernel
theorem dX5_takeLine_23 : decode cX5_takeLine 23 = .ok (.iconst 2, 1) := by decide +kernel
theorem dX5_takeLine_24 : decode cX5_takeLine 24 = .ok (.invokevirtual 48, 3) := by decide +kernel
theorem dX5_takeLine_27 : decode cX5_takeLine 27 = .ok (.goto 48, 3) := by decide +kernel
theorem dX5_takeLine_30 : decode cX5_takeLine 30 = .ok (.iload_n 2, 1) := by decide +kernel
theorem dX5_takeLine_31 : decode cX5_takeLine 31 = .ok (.iconst 4, 1) := by decide +kernel
theorem dX5_takeLine_32 : decode cX5_takeLine 32 = .ok (.if_icmp .ge 12, 3) := by decide +kernel
theorem dX5_takeLine_35 : decode cX5_takeLine 35 = .ok (.aload_n 0, 1) := by decide +kernel
theorem dX5_takeLine_36 : decode cX5_takeLine 36 = .ok (.aload_n 1, 1) := by decide +kernel
theorem dX5_takeLine_37 : decode cX5_takeLine 37 = .ok (.iload_n 2, 1) := by decide +kernel
theorem dX5_takeLine_38 : decode cX5_takeLine 38 = .ok (.invokevirtual 52, 3) := by decide +kernel
theorem dX5_takeLine_41 : decode cX5_takeLine 41 = .ok (.goto 34, 3) := by decide +kernel
theorem dX5_takeLine_44 : decode cX5_takeLine 44 = .ok (.iload_n 2, 1) := by decide +kernel
theorem dX5_takeLine_45 : decode cX5_takeLine 45 = .ok (.iconst 4, 1) := by decide +kernel
theorem dX5_takeLine_46 : decode cX5_takeLine 46 = .ok (.if_icmp .ne 11, 3) := by decide +kernel
theorem dX5_takeLine_49 : decode cX5_takeLine 49 = .ok (.aload_n 0, 1) := by decide +kernel
theorem dX5_takeLine_50 : decode cX5_takeLine 50 = .ok (.aload_n 1, 1) := by decide +kernel
theorem dX5_takeLine_51 : decode cX5_takeLine 51 = .ok (.invokevirtual 56, 3) := by decide +kernel
theorem dX5_takeLine_54 : decode cX5_takeLine 54 = .ok (.goto 21, 3) := by decide +kernel
theorem dX5_takeLine_57 : decode cX5_takeLine 57 = .ok (.iload_n 2, 1) := by decide +kernel
theorem dX5_takeLine_58 : decode cX5_takeLine 58 = .ok (.iconst 5, 1) := by decide +kernel
theorem dX5_takeLine_59 : decode cX5_takeLine 59 = .ok (.if_icmp .ne 11, 3) := by decide +kernel
theorem dX5_takeLine_62 : decode cX5_takeLine 62 = .ok (.aload_n 0, 1) := by decide +kernel
theorem dX5_takeLine_63 : decode cX5_takeLine 63 = .ok (.aload_n 1, 1) := by decide +kernel
theorem dX5_takeLine_64 : decode cX5_takeLine 64 = .ok (.invokevirtual 59, 3) := by decide +kernel
theorem dX5_takeLine_67 : decode cX5_takeLine 67 = .ok (.goto 8, 3) := by decide +kernel
theorem dX5_takeLine_70 : decode cX5_takeLine 70 = .ok (.aload_n 0, 1) := by decide +kernel
theorem dX5_takeLine_71 : decode cX5_takeLine 71 = .ok (.aload_n 1, 1) := by decide +kernel
theorem dX5_takeLine_72 : decode cX5_takeLine 72 = .ok (.invokevirtual 62, 3) := by decide +kernel
theorem dX5_takeLine_75 : decode cX5_takeLine 75 = .ok (.return_, 1) := by decide +kernel
theorem dX5_takeWork_0 : decode cX5_takeWork 0 = .ok (.aload_n 1, 1) := by decide +kernel
theorem dX5_takeWork_1 : decode cX5_takeWork 1 = .ok (.getfield 65, 3) := by decide +kernel
theorem dX5_takeWork_4 : decode cX5_takeWork 4 = .ok (.bipush 6, 2) := by decide +kernel
theorem dX5_takeWork_6 : decode cX5_takeWork 6 = .ok (.if_icmp .lt 8, 3) := by decide +kernel
theorem dX5_takeWork_9 : decode cX5_takeWork 9 = .ok (.aload_n 0, 1) := by decide +kernel
theorem dX5_takeWork_10 : decode cX5_takeWork 10 = .ok (.iconst 5, 1) := by decide +kernel
theorem dX5_takeWork_11 : decode cX5_takeWork 11 = .ok (.invokevirtual 48, 3) := by decide +kernel
theorem dX5_takeWork_14 : decode cX5_takeWork 14 = .ok (.aload_n 0, 1) := by decide +kernel
theorem dX5_takeWork_15 : decode cX5_takeWork 15 = .ok (.getstatic 68, 3) := by decide +kernel
theorem dX5_takeWork_18 : decode cX5_takeWork 18 = .ok (.iconst 1, 1) := by decide +kernel
theorem dX5_takeWork_19 : decode cX5_takeWork 19 = .ok (.iaload, 1) := by decide +kernel
theorem dX5_takeWork_20 : decode cX5_takeWork 20 = .ok (.getstatic 72, 3) := by decide +kernel
theorem dX5_takeWork_23 : decode cX5_takeWork 23 = .ok (.iconst 1, 1) := by decide +kernel
theorem dX5_takeWork_24 : decode cX5_takeWork 24 = .ok (.iaload, 1) := by decide +kernel
theorem dX5_takeWork_25 : decode cX5_takeWork 25 = .ok (.invokevirtual 75, 3) := by decide +kernel
theorem dX5_takeWork_28 : decode cX5_takeWork 28 = .ok (.istore_n 3, 1) := by decide +kernel
theorem dX5_takeWork_29 : decode cX5_takeWork 29 = .ok (.aload_n 0, 1) := by decide +kernel
theorem dX5_takeWork_30 : decode cX5_takeWork 30 = .ok (.getstatic 68, 3) := by decide +kernel
theorem dX5_takeWork_33 : decode cX5_takeWork 33 = .ok (.iconst 2, 1) := by decide +kernel
theorem dX5_takeWork_34 : decode cX5_takeWork 34 = .ok (.iaload, 1) := by decide +kernel
theorem dX5_takeWork_35 : decode cX5_takeWork 35 = .ok (.getstatic 72, 3) := by decide +kernel
theorem dX5_takeWork_38 : decode cX5_takeWork 38 = .ok (.iconst 2, 1) := by decide +kernel
theorem dX5_takeWork_39 : decode cX5_takeWork 39 = .ok (.iaload, 1) := by decide +kernel
theorem dX5_takeWork_40 : decode cX5_takeWork 40 = .ok (.invokevirtual 75, 3) := by decide +kernel
theorem dX5_takeWork_43 : decode cX5_takeWork 43 = .ok (.istore 4, 2) := by decide +kernel
theorem dX5_takeWork_45 : decode cX5_takeWork 45 = .ok (.aload_n 0, 1) := by decide +kernel
theorem dX5_takeWork_46 : decode cX5_takeWork 46 = .ok (.getstatic 68, 3) := by decide +kernel
theorem dX5_takeWork_49 : decode cX5_takeWork 49 = .ok (.iconst 3, 1) := by decide +kernel
theorem dX5_takeWork_50 : decode cX5_takeWork 50 = .ok (.iaload, 1) := by decide +kernel
theorem dX5_takeWork_51 : decode cX5_takeWork 51 = .ok (.getstatic 72, 3) := by decide +kernel
theorem dX5_takeWork_54 : decode cX5_takeWork 54 = .ok (.iconst 3, 1) := by decide +kernel
theorem dX5_takeWork_55 : decode cX5_takeWork 55 = .ok (.iaload, 1) := by decide +kernel
theorem dX5_takeWork_56 : decode cX5_takeWork 56 = .ok (.invokevirtual 75, 3) := by decide +kernel
theorem dX5_takeWork_59 : decode cX5_takeWork 59 = .ok (.istore 5, 2) := by decide +kernel
theorem dX5_takeWork_61 : decode cX5_takeWork 61 = .ok (.aload_n 0, 1) := by decide +kernel
theorem dX5_takeWork_62 : decode cX5_takeWork 62 = .ok (.invokevirtual 79, 3) := by decide +kernel
theorem dX5_takeWork_65 : decode cX5_takeWork 65 = .ok (.aload_n 0, 1) := by decide +kernel
theorem dX5_takeWork_66 : decode cX5_takeWork 66 = .ok (.getfield 20, 3) := by decide +kernel
theorem dX5_takeWork_69 : decode cX5_takeWork 69 = .ok (.ifCond .ne 14, 3) := by decide +kernel
theorem dX5_takeWork_72 : decode cX5_takeWork 72 = .ok (.aload_n 1, 1) := by decide +kernel
theorem dX5_takeWork_73 : decode cX5_takeWork 73 = .ok (.iload_n 2, 1) := by decide +kernel
theorem dX5_takeWork_74 : decode cX5_takeWork 74 = .ok (.iload_n 3, 1) := by decide +kernel
theorem dX5_takeWork_75 : decode cX5_takeWork 75 = .ok (.iload 4, 2) := by decide +kernel
theorem dX5_takeWork_77 : decode cX5_takeWork 77 = .ok (.iload 5, 2) := by decide +kernel
theorem dX5_takeWork_79 : decode cX5_takeWork 79 = .ok (.invokevirtual 82, 3) := by decide +kernel
theorem dX5_takeWork_82 : decode cX5_takeWork 82 = .ok (.pop, 1) := by decide +kernel
theorem dX5_takeWork_83 : decode cX5_takeWork 83 = .ok (.return_, 1) := by decide +kernel
theorem dX5_takeReader_0 : decode cX5_takeReader 0 = .ok (.aload_n 1, 1) := by decide +kernel
theorem dX5_takeReader_1 : decode cX5_takeReader 1 = .ok (.getfield 86, 3) := by decide +kernel
theorem dX5_takeReader_4 : decode cX5_takeReader 4 = .ok (.iconst 4, 1) := by decide +kernel
theorem dX5_takeReader_5 : decode cX5_takeReader 5 = .ok (.if_icmp .lt 8, 3) := by decide +kernel
theorem dX5_takeReader_8 : decode cX5_takeReader 8 = .ok (.aload_n 0, 1) := by decide +kernel
theorem dX5_takeReader_9 : decode cX5_takeReader 9 = .ok (.iconst 5, 1) := by decide +kernel
theorem dX5_takeReader_10 : decode cX5_takeReader 10 = .ok (.invokevirtual 48, 3) := by decide +kernel
theorem dX5_takeReader_13 : decode cX5_takeReader 13 = .ok (.aload_n 0, 1) := by decide +kernel
theorem dX5_takeReader_14 : decode cX5_takeReader 14 = .ok (.iconst 0, 1) := by decide +kernel
theorem dX5_takeReader_15 : decode cX5_takeReader 15 = .ok (.getstatic 89, 3) := by decide +kernel
theorem dX5_takeReader_18 : decode cX5_takeReader 18 = .ok (.iconst 0, 1) := by decide +kernel
theorem dX5_takeReader_19 : decode cX5_takeReader 19 = .ok (.iaload, 1) := by decide +kernel
theorem dX5_takeReader_20 : decode cX5_takeReader 20 = .ok (.invokevirtual 75, 3) := by decide +kernel
theorem dX5_takeReader_23 : decode cX5_takeReader 23 = .ok (.istore_n 2, 1) := by decide +kernel
theorem dX5_takeReader_24 : decode cX5_takeReader 24 = .ok (.aload_n 0, 1) := by decide +kernel
theorem dX5_takeReader_25 : decode cX5_takeReader 25 = .ok (.iconst 0, 1) := by decide +kernel
theorem dX5_takeReader_26 : decode cX5_takeReader 26 = .ok (.getstatic 89, 3) := by decide +kernel
theorem dX5_takeReader_29 : decode cX5_takeReader 29 = .ok (.iconst 1, 1) := by decide +kernel
theorem dX5_takeReader_30 : decode cX5_takeReader 30 = .ok (.iaload, 1) := by decide +kernel
theorem dX5_takeReader_31 : decode cX5_takeReader 31 = .ok (.invokevirtual 75, 3) := by decide +kernel
theorem dX5_takeReader_34 : decode cX5_takeReader 34 = .ok (.istore_n 3, 1) := by decide +kernel
theorem dX5_takeReader_35 : decode cX5_takeReader 35 = .ok (.aload_n 0, 1) := by decide +kernel
theorem dX5_takeReader_36 : decode cX5_takeReader 36 = .ok (.invokevirtual 79, 3) := by decide +kernel
theorem dX5_takeReader_39 : decode cX5_takeReader 39 = .ok (.aload_n 0, 1) := by decide +kernel
theorem dX5_takeReader_40 : decode cX5_takeReader 40 = .ok (.getfield 20, 3) := by decide +kernel
theorem dX5_takeReader_43 : decode cX5_takeReader 43 = .ok (.ifCond .ne 10, 3) := by decide +kernel
theorem dX5_takeReader_46 : decode cX5_takeReader 46 = .ok (.aload_n 1, 1) := by decide +kernel
theorem dX5_takeReader_47 : decode cX5_takeReader 47 = .ok (.iload_n 2, 1) := by decide +kernel
theorem dX5_takeReader_48 : decode cX5_takeReader 48 = .ok (.iload_n 3, 1) := by decide +kernel
theorem dX5_takeReader_49 : decode cX5_takeReader 49 = .ok (.invokevirtual 92, 3) := by decide +kernel
theorem dX5_takeReader_52 : decode cX5_takeReader 52 = .ok (.pop, 1) := by decide +kernel
theorem dX5_takeReader_53 : decode cX5_takeReader 53 = .ok (.return_, 1) := by decide +kernel
theorem dX5_takeWind_0 : decode cX5_takeWind 0 = .ok (.aload_n 0, 1) := by decide +kernel
theorem dX5_takeWind_1 : decode cX5_takeWind 1 = .ok (.getfield 27, 3) := by decide +kernel
theorem dX5_takeWind_4 : decode cX5_takeWind 4 = .ok (.ifCond .eq 8, 3) := by decide +kernel
theorem dX5_takeWind_7 : decode cX5_takeWind 7 = .ok (.aload_n 0, 1) := by decide +kernel
theorem dX5_takeWind_8 : decode cX5_takeWind 8 = .ok (.iconst 4, 1) := by decide +kernel
theorem dX5_takeWind_9 : decode cX5_takeWind 9 = .ok (.invokevirtual 48, 3) := by decide +kernel
theorem dX5_takeWind_12 : decode cX5_takeWind 12 = .ok (.aload_n 0, 1) := by decide +kernel
theorem dX5_takeWind_13 : decode cX5_takeWind 13 = .ok (.iconst 1, 1) := by decide +kernel
theorem dX5_takeWind_14 : decode cX5_takeWind 14 = .ok (.putfield 27, 3) := by decide +kernel
theorem dX5_takeWind_17 : decode cX5_takeWind 17 = .ok (.aload_n 1, 1) := by decide +kernel
theorem dX5_takeWind_18 : decode cX5_takeWind 18 = .ok (.aload_n 0, 1) := by decide +kernel
theorem dX5_takeWind_19 : decode cX5_takeWind 19 = .ok (.iconst 0, 1) := by decide +kernel
theorem dX5_takeWind_20 : decode cX5_takeWind 20 = .ok (.bipush 8, 2) := by decide +kernel
theorem dX5_takeWind_22 : decode cX5_takeWind 22 = .ok (.invokevirtual 75, 3) := by decide +kernel
theorem dX5_takeWind_25 : decode cX5_takeWind 25 = .ok (.putfield 95, 3) := by decide +kernel
theorem dX5_takeWind_28 : decode cX5_takeWind 28 = .ok (.aload_n 0, 1) := by decide +kernel
theorem dX5_takeWind_29 : decode cX5_takeWind 29 = .ok (.invokevirtual 79, 3) := by decide +kernel
theorem dX5_takeWind_32 : decode cX5_takeWind 32 = .ok (.return_, 1) := by decide +kernel
theorem dX5_takeDamp_0 : decode cX5_takeDamp 0 = .ok (.aload_n 0, 1) := by decide +kernel
theorem dX5_takeDamp_1 : decode cX5_takeDamp 1 = .ok (.getfield 31, 3) := by decide +kernel
theorem dX5_takeDamp_4 : decode cX5_takeDamp 4 = .ok (.ifCond .eq 8, 3) := by decide +kernel
theorem dX5_takeDamp_7 : decode cX5_takeDamp 7 = .ok (.aload_n 0, 1) := by decide +kernel
theorem dX5_takeDamp_8 : decode cX5_takeDamp 8 = .ok (.iconst 4, 1) := by decide +kernel
theorem dX5_takeDamp_9 : decode cX5_takeDamp 9 = .ok (.invokevirtual 48, 3) := by decide +kernel
theorem dX5_takeDamp_12 : decode cX5_takeDamp 12 = .ok (.aload_n 0, 1) := by decide +kernel
theorem dX5_takeDamp_13 : decode cX5_takeDamp 13 = .ok (.iconst 1, 1) := by decide +kernel
theorem dX5_takeDamp_14 : decode cX5_takeDamp 14 = .ok (.putfield 31, 3) := by decide +kernel
theorem dX5_takeDamp_17 : decode cX5_takeDamp 17 = .ok (.aload_n 1, 1) := by decide +kernel
theorem dX5_takeDamp_18 : decode cX5_takeDamp 18 = .ok (.aload_n 0, 1) := by decide +kernel
theorem dX5_takeDamp_19 : decode cX5_takeDamp 19 = .ok (.iconst 0, 1) := by decide +kernel
theorem dX5_takeDamp_20 : decode cX5_takeDamp 20 = .ok (.bipush 9, 2) := by decide +kernel
theorem dX5_takeDamp_22 : decode cX5_takeDamp 22 = .ok (.invokevirtual 75, 3) := by decide +kernel
theorem dX5_takeDamp_25 : decode cX5_takeDamp 25 = .ok (.putfield 98, 3) := by decide +kernel
theorem dX5_takeDamp_28 : decode cX5_takeDamp 28 = .ok (.aload_n 0, 1) := by decide +kernel
theorem dX5_takeDamp_29 : decode cX5_takeDamp 29 = .ok (.invokevirtual 79, 3) := by decide +kernel
theorem dX5_takeDamp_32 : decode cX5_takeDamp 32 = .ok (.return_, 1) := by decide +kernel
theorem dX5_takeNumber_0 : decode cX5_takeNumber 0 = .ok (.aload_n 0, 1) := by decide +kernel
theorem dX5_takeNumber_1 : decode cX5_takeNumber 1 = .ok (.invokevirtual 34, 3) := by decide +kernel
theorem dX5_takeNumber_4 : decode cX5_takeNumber 4 = .ok (.aload_n 0, 1) := by decide +kernel
theorem dX5_takeNumber_5 : decode cX5_takeNumber 5 = .ok (.getfield 37, 3) := by decide +kernel
theorem dX5_takeNumber_8 : decode cX5_takeNumber 8 = .ok (.iconst 2, 1) := by decide +kernel
theorem dX5_takeNumber_9 : decode cX5_takeNumber 9 = .ok (.if_icmp .eq 11, 3) := by decide +kernel
theorem dX5_takeNumber_12 : decode cX5_takeNumber 12 = .ok (.aload_n 0, 1) := by decide +kernel
theorem dX5_takeNumber_13 : decode cX5_takeNumber 13 = .ok (.iconst 2, 1) := by decide +kernel
theorem dX5_takeNumber_14 : decode cX5_takeNumber 14 = .ok (.invokevirtual 48, 3) := by decide +kernel
theorem dX5_takeNumber_17 : decode cX5_takeNumber 17 = .ok (.goto 20, 3) := by decide +kernel
theorem dX5_takeNumber_20 : decode cX5_takeNumber 20 = .ok (.aload_n 0, 1) := by decide +kernel
theorem dX5_takeNumber_21 : decode cX5_takeNumber 21 = .ok (.getfield 101, 3) := by decide +kernel
theorem dX5_takeNumber_24 : decode cX5_takeNumber 24 = .ok (.iload_n 1, 1) := by decide +kernel
theorem dX5_takeNumber_25 : decode cX5_takeNumber 25 = .ok (.iload_n 2, 1) := by decide +kernel
theorem dX5_takeNumber_26 : decode cX5_takeNumber 26 = .ok (.invokestatic 104, 3) := by decide +kernel
theorem dX5_takeNumber_29 : decode cX5_takeNumber 29 = .ok (.ifCond .ne 8, 3) := by decide +kernel
theorem dX5_takeNumber_32 : decode cX5_takeNumber 32 = .ok (.aload_n 0, 1) := by decide +kernel
theorem dX5_takeNumber_33 : decode cX5_takeNumber 33 = .ok (.iconst 3, 1) := by decide +kernel
theorem dX5_takeNumber_34 : decode cX5_takeNumber 34 = .ok (.invokevirtual 48, 3) := by decide +kernel
theorem dX5_takeNumber_37 : decode cX5_takeNumber 37 = .ok (.aload_n 0, 1) := by decide +kernel
theorem dX5_takeNumber_38 : decode cX5_takeNumber 38 = .ok (.getfield 101, 3) := by decide +kernel
theorem dX5_takeNumber_41 : decode cX5_takeNumber 41 = .ok (.ireturn, 1) := by decide +kernel
theorem dX5_takeSign_0 : decode cX5_takeSign 0 = .ok (.aload_n 0, 1) := by decide +kernel
theorem dX5_takeSign_1 : decode cX5_takeSign 1 = .ok (.invokevirtual 34, 3) := by decide +kernel
theorem dX5_takeSign_4 : decode cX5_takeSign 4 = .ok (.aload_n 0, 1) := by decide +kernel
theorem dX5_takeSign_5 : decode cX5_takeSign 5 = .ok (.getfield 37, 3) := by decide +kernel
theorem dX5_takeSign_8 : decode cX5_takeSign 8 = .ok (.iconst 3, 1) := by decide +kernel
theorem dX5_takeSign_9 : decode cX5_takeSign 9 = .ok (.if_icmp .eq 8, 3) := by decide +kernel
theorem dX5_takeSign_12 : decode cX5_takeSign 12 = .ok (.aload_n 0, 1) := by decide +kernel
theorem dX5_takeSign_13 : decode cX5_takeSign 13 = .ok (.iconst 2, 1) := by decide +kernel
theorem dX5_takeSign_14 : decode cX5_takeSign 14 = .ok (.invokevirtual 48, 3) := by decide +kernel
theorem dX5_takeSign_17 : decode cX5_takeSign 17 = .ok (.return_, 1) := by decide +kernel
theorem dX5_blame_0 : decode cX5_blame 0 = .ok (.aload_n 0, 1) := by decide +kernel
theorem dX5_blame_1 : decode cX5_blame 1 = .ok (.getfield 20, 3) := by decide +kernel
theorem dX5_blame_4 : decode cX5_blame 4 = .ok (.ifCond .ne 8, 3) := by decide +kernel
theorem dX5_blame_7 : decode cX5_blame 7 = .ok (.aload_n 0, 1) := by decide +kernel
theorem dX5_blame_8 : decode cX5_blame 8 = .ok (.iload_n 1, 1) := by decide +kernel
theorem dX5_blame_9 : decode cX5_blame 9 = .ok (.putfield 20, 3) := by decide +kernel
theorem dX5_blame_12 : decode cX5_blame 12 = .ok (.return_, 1) := by decide +kernel
theorem dX5_takeToken_0 : decode cX5_takeToken 0 = .ok (.aload_n 0, 1) := by decide +kernel
theorem dX5_takeToken_1 : decode cX5_takeToken 1 = .ok (.getfield 20, 3) := by decide +kernel
theorem dX5_takeToken_4 : decode cX5_takeToken 4 = .ok (.ifCond .eq 4, 3) := by decide +kernel
theorem dX5_takeToken_7 : decode cX5_takeToken 7 = .ok (.return_, 1) := by decide +kernel
theorem dX5_takeToken_8 : decode cX5_takeToken 8 = .ok (.aload_n 0, 1) := by decide +kernel
theorem dX5_takeToken_9 : decode cX5_takeToken 9 = .ok (.getfield 24, 3) := by decide +kernel
theorem dX5_takeToken_12 : decode cX5_takeToken 12 = .ok (.aload_n 0, 1) := by decide +kernel
theorem dX5_takeToken_13 : decode cX5_takeToken 13 = .ok (.getfield 108, 3) := by decide +kernel
theorem dX5_takeToken_16 : decode cX5_takeToken 16 = .ok (.if_icmp .ge 30, 3) := by decide +kernel
theorem dX5_takeToken_19 : decode cX5_takeToken 19 = .ok (.aload_n 0, 1) := by decide +kernel
theorem dX5_takeToken_20 : decode cX5_takeToken 20 = .ok (.getfield 9, 3) := by decide +kernel
theorem dX5_takeToken_23 : decode cX5_takeToken 23 = .ok (.aload_n 0, 1) := by decide +kernel
theorem dX5_takeToken_24 : decode cX5_takeToken 24 = .ok (.getfield 24, 3) := by decide +kernel
theorem dX5_takeToken_27 : decode cX5_takeToken 27 = .ok (.baload, 1) := by decide +kernel
theorem dX5_takeToken_28 : decode cX5_takeToken 28 = .ok (.bipush 32, 2) := by decide +kernel
theorem dX5_takeToken_30 : decode cX5_takeToken 30 = .ok (.if_icmp .ne 16, 3) := by decide +kernel
theorem dX5_takeToken_33 : decode cX5_takeToken 33 = .ok (.aload_n 0, 1) := by decide +kernel
theorem dX5_takeToken_34 : decode cX5_takeToken 34 = .ok (.dup, 1) := by decide +kernel
theorem dX5_takeToken_35 : decode cX5_takeToken 35 = .ok (.getfield 24, 3) := by decide +kernel
theorem dX5_takeToken_38 : decode cX5_takeToken 38 = .ok (.iconst 1, 1) := by decide +kernel
theorem dX5_takeToken_39 : decode cX5_takeToken 39 = .ok (.iadd, 1) := by decide +kernel
theorem dX5_takeToken_40 : decode cX5_takeToken 40 = .ok (.putfield 24, 3) := by decide +kernel
theorem dX5_takeToken_43 : decode cX5_takeToken 43 = .ok (.goto (-35), 3) := by decide +kernel
theorem dX5_takeToken_46 : decode cX5_takeToken 46 = .ok (.aload_n 0, 1) := by decide +kernel
theorem dX5_takeToken_47 : decode cX5_takeToken 47 = .ok (.aload_n 0, 1) := by decide +kernel
theorem dX5_takeToken_48 : decode cX5_takeToken 48 = .ok (.getfield 24, 3) := by decide +kernel
theorem dX5_takeToken_51 : decode cX5_takeToken 51 = .ok (.putfield 111, 3) := by decide +kernel
theorem dX5_takeToken_54 : decode cX5_takeToken 54 = .ok (.aload_n 0, 1) := by decide +kernel
theorem dX5_takeToken_55 : decode cX5_takeToken 55 = .ok (.getfield 111, 3) := by decide +kernel
theorem dX5_takeToken_58 : decode cX5_takeToken 58 = .ok (.aload_n 0, 1) := by decide +kernel
theorem dX5_takeToken_59 : decode cX5_takeToken 59 = .ok (.getfield 108, 3) := by decide +kernel
theorem dX5_takeToken_62 : decode cX5_takeToken 62 = .ok (.if_icmp .lt 11, 3) := by decide +kernel
theorem dX5_takeToken_65 : decode cX5_takeToken 65 = .ok (.aload_n 0, 1) := by decide +kernel
theorem dX5_takeToken_66 : decode cX5_takeToken 66 = .ok (.iconst 0, 1) := by decide +kernel
theorem dX5_takeToken_67 : decode cX5_takeToken 67 = .ok (.putfield 37, 3) := by decide +kernel
theorem dX5_takeToken_70 : decode cX5_takeToken 70 = .ok (.goto 208, 3) := by decide +kernel
theorem dX5_takeToken_73 : decode cX5_takeToken 73 = .ok (.aload_n 0, 1) := by decide +kernel
theorem dX5_takeToken_74 : decode cX5_takeToken 74 = .ok (.getfield 9, 3) := by decide +kernel
theorem dX5_takeToken_77 : decode cX5_takeToken 77 = .ok (.aload_n 0, 1) := by decide +kernel
theorem dX5_takeToken_78 : decode cX5_takeToken 78 = .ok (.getfield 111, 3) := by decide +kernel
theorem dX5_takeToken_81 : decode cX5_takeToken 81 = .ok (.baload, 1) := by decide +kernel
theorem dX5_takeToken_82 : decode cX5_takeToken 82 = .ok (.invokestatic 114, 3) := by decide +kernel
theorem dX5_takeToken_85 : decode cX5_takeToken 85 = .ok (.ifCond .eq 47, 3) := by decide +kernel
theorem dX5_takeToken_88 : decode cX5_takeToken 88 = .ok (.aload_n 0, 1) := by decide +kernel
theorem dX5_takeToken_89 : decode cX5_takeToken 89 = .ok (.iconst 1, 1) := by decide +kernel
theorem dX5_takeToken_90 : decode cX5_takeToken 90 = .ok (.putfield 37, 3) := by decide +kernel
theorem dX5_takeToken_93 : decode cX5_takeToken 93 = .ok (.aload_n 0, 1) := by decide +kernel
theorem dX5_takeToken_94 : decode cX5_takeToken 94 = .ok (.getfield 24, 3) := by decide +kernel
theorem dX5_takeToken_97 : decode cX5_takeToken 97 = .ok (.aload_n 0, 1) := by decide +kernel
theorem dX5_takeToken_98 : decode cX5_takeToken 98 = .ok (.getfield 108, 3) := by decide +kernel
theorem dX5_takeToken_101 : decode cX5_takeToken 101 = .ok (.if_icmp .ge 177, 3) := by decide +kernel
theorem dX5_takeToken_104 : decode cX5_takeToken 104 = .ok (.aload_n 0, 1) := by decide +kernel
theorem dX5_takeToken_105 : decode cX5_takeToken 105 = .ok (.getfield 9, 3) := by decide +kernel
theorem dX5_takeToken_108 : decode cX5_takeToken 108 = .ok (.aload_n 0, 1) := by decide +kernel
theorem dX5_takeToken_109 : decode cX5_takeToken 109 = .ok (.getfield 24, 3) := by decide +kernel
theorem dX5_takeToken_112 : decode cX5_takeToken 112 = .ok (.baload, 1) := by decide +kernel
theorem dX5_takeToken_113 : decode cX5_takeToken 113 = .ok (.invokestatic 114, 3) := by decide +kernel
theorem dX5_takeToken_116 : decode cX5_takeToken 116 = .ok (.ifCond .eq 162, 3) := by decide +kernel
theorem dX5_takeToken_119 : decode cX5_takeToken 119 = .ok (.aload_n 0, 1) := by decide +kernel
theorem dX5_takeToken_120 : decode cX5_takeToken 120 = .ok (.dup, 1) := by decide +kernel
theorem dX5_takeToken_121 : decode cX5_takeToken 121 = .ok (.getfield 24, 3) := by decide +kernel
theorem dX5_takeToken_124 : decode cX5_takeToken 124 = .ok (.iconst 1, 1) := by decide +kernel
theorem dX5_takeToken_125 : decode cX5_takeToken 125 = .ok (.iadd, 1) := by decide +kernel
theorem dX5_takeToken_126 : decode cX5_takeToken 126 = .ok (.putfield 24, 3) := by decide +kernel
theorem dX5_takeToken_129 : decode cX5_takeToken 129 = .ok (.goto (-36), 3) := by decide +kernel
theorem dX5_takeToken_132 : decode cX5_takeToken 132 = .ok (.aload_n 0, 1) := by decide +kernel
theorem dX5_takeToken_133 : decode cX5_takeToken 133 = .ok (.getfield 9, 3) := by decide +kernel
theorem dX5_takeToken_136 : decode cX5_takeToken 136 = .ok (.aload_n 0, 1) := by decide +kernel
theorem dX5_takeToken_137 : decode cX5_takeToken 137 = .ok (.getfield 111, 3) := by decide +kernel
theorem dX5_takeToken_140 : decode cX5_takeToken 140 = .ok (.baload, 1) := by decide +kernel
theorem dX5_takeToken_141 : decode cX5_takeToken 141 = .ok (.invokestatic 118, 3) := by decide +kernel
theorem dX5_takeToken_144 : decode cX5_takeToken 144 = .ok (.ifCond .eq 97, 3) := by decide +kernel
theorem dX5_takeToken_147 : decode cX5_takeToken 147 = .ok (.aload_n 0, 1) := by decide +kernel
theorem dX5_takeToken_148 : decode cX5_takeToken 148 = .ok (.iconst 2, 1) := by decide +kernel
theorem dX5_takeToken_149 : decode cX5_takeToken 149 = .ok (.putfield 37, 3) := by decide +kernel
theorem dX5_takeToken_152 : decode cX5_takeToken 152 = .ok (.aload_n 0, 1) := by decide +kernel
theorem dX5_takeToken_153 : decode cX5_takeToken 153 = .ok (.iconst 0, 1) := by decide +kernel
theorem dX5_takeToken_154 : decode cX5_takeToken 154 = .ok (.putfield 101, 3) := by decide +kernel
theorem dX5_takeToken_157 : decode cX5_takeToken 157 = .ok (.aload_n 0, 1) := by decide +kernel
theorem dX5_takeToken_158 : decode cX5_takeToken 158 = .ok (.getfield 24, 3) := by decide +kernel
theorem dX5_takeToken_161 : decode cX5_takeToken 161 = .ok (.aload_n 0, 1) := by decide +kernel
theorem dX5_takeToken_162 : decode cX5_takeToken 162 = .ok (.getfield 108, 3) := by decide +kernel
theorem dX5_takeToken_165 : decode cX5_takeToken 165 = .ok (.if_icmp .ge 55, 3) := by decide +kernel
theorem dX5_takeToken_168 : decode cX5_takeToken 168 = .ok (.aload_n 0, 1) := by decide +kernel
theorem dX5_takeToken_169 : decode cX5_takeToken 169 = .ok (.getfield 9, 3) := by decide +kernel
theorem dX5_takeToken_172 : decode cX5_takeToken 172 = .ok (.aload_n 0, 1) := by decide +kernel
theorem dX5_takeToken_173 : decode cX5_takeToken 173 = .ok (.getfield 24, 3) := by decide +kernel
theorem dX5_takeToken_176 : decode cX5_takeToken 176 = .ok (.baload, 1) := by decide +kernel
theorem dX5_takeToken_177 : decode cX5_takeToken 177 = .ok (.invokestatic 118, 3) := by decide +kernel
theorem dX5_takeToken_180 : decode cX5_takeToken 180 = .ok (.ifCond .eq 40, 3) := by decide +kernel
theorem dX5_takeToken_183 : decode cX5_takeToken 183 = .ok (.aload_n 0, 1) := by decide +kernel
theorem dX5_takeToken_184 : decode cX5_takeToken 184 = .ok (.bipush 10, 2) := by decide +kernel
theorem dX5_takeToken_186 : decode cX5_takeToken 186 = .ok (.aload_n 0, 1) := by decide +kernel
theorem dX5_takeToken_187 : decode cX5_takeToken 187 = .ok (.getfield 101, 3) := by decide +kernel
theorem dX5_takeToken_190 : decode cX5_takeToken 190 = .ok (.imul, 1) := by decide +kernel
theorem dX5_takeToken_191 : decode cX5_takeToken 191 = .ok (.aload_n 0, 1) := by decide +kernel
theorem dX5_takeToken_192 : decode cX5_takeToken 192 = .ok (.getfield 9, 3) := by decide +kernel
theorem dX5_takeToken_195 : decode cX5_takeToken 195 = .ok (.aload_n 0, 1) := by decide +kernel
theorem dX5_takeToken_196 : decode cX5_takeToken 196 = .ok (.getfield 24, 3) := by decide +kernel
theorem dX5_takeToken_199 : decode cX5_takeToken 199 = .ok (.baload, 1) := by decide +kernel
theorem dX5_takeToken_200 : decode cX5_takeToken 200 = .ok (.iadd, 1) := by decide +kernel
theorem dX5_takeToken_201 : decode cX5_takeToken 201 = .ok (.bipush 48, 2) := by decide +kernel
theorem dX5_takeToken_203 : decode cX5_takeToken 203 = .ok (.isub, 1) := by decide +kernel
theorem dX5_takeToken_204 : decode cX5_takeToken 204 = .ok (.putfield 101, 3) := by decide +kernel
theorem dX5_takeToken_207 : decode cX5_takeToken 207 = .ok (.aload_n 0, 1) := by decide +kernel
theorem dX5_takeToken_208 : decode cX5_takeToken 208 = .ok (.dup, 1) := by decide +kernel
theorem dX5_takeToken_209 : decode cX5_takeToken 209 = .ok (.getfield 24, 3) := by decide +kernel
theorem dX5_takeToken_212 : decode cX5_takeToken 212 = .ok (.iconst 1, 1) := by decide +kernel
theorem dX5_takeToken_213 : decode cX5_takeToken 213 = .ok (.iadd, 1) := by decide +kernel
theorem dX5_takeToken_214 : decode cX5_takeToken 214 = .ok (.putfield 24, 3) := by decide +kernel
theorem dX5_takeToken_217 : decode cX5_takeToken 217 = .ok (.goto (-60), 3) := by decide +kernel
theorem dX5_takeToken_220 : decode cX5_takeToken 220 = .ok (.aload_n 0, 1) := by decide +kernel
theorem dX5_takeToken_221 : decode cX5_takeToken 221 = .ok (.getfield 24, 3) := by decide +kernel
theorem dX5_takeToken_224 : decode cX5_takeToken 224 = .ok (.aload_n 0, 1) := by decide +kernel
theorem dX5_takeToken_225 : decode cX5_takeToken 225 = .ok (.getfield 111, 3) := by decide +kernel
theorem dX5_takeToken_228 : decode cX5_takeToken 228 = .ok (.isub, 1) := by decide +kernel
theorem dX5_takeToken_229 : decode cX5_takeToken 229 = .ok (.iconst 2, 1) := by decide +kernel
theorem dX5_takeToken_230 : decode cX5_takeToken 230 = .ok (.if_icmp .le 48, 3) := by decide +kernel
theorem dX5_takeToken_233 : decode cX5_takeToken 233 = .ok (.aload_n 0, 1) := by decide +kernel
theorem dX5_takeToken_234 : decode cX5_takeToken 234 = .ok (.iconst 1, 1) := by decide +kernel
theorem dX5_takeToken_235 : decode cX5_takeToken 235 = .ok (.invokevirtual 48, 3) := by decide +kernel
theorem dX5_takeToken_238 : decode cX5_takeToken 238 = .ok (.goto 40, 3) := by decide +kernel
theorem dX5_takeToken_241 : decode cX5_takeToken 241 = .ok (.aload_n 0, 1) := by decide +kernel
theorem dX5_takeToken_242 : decode cX5_takeToken 242 = .ok (.getfield 9, 3) := by decide +kernel
theorem dX5_takeToken_245 : decode cX5_takeToken 245 = .ok (.aload_n 0, 1) := by decide +kernel
theorem dX5_takeToken_246 : decode cX5_takeToken 246 = .ok (.getfield 111, 3) := by decide +kernel
theorem dX5_takeToken_249 : decode cX5_takeToken 249 = .ok (.baload, 1) := by decide +kernel
theorem dX5_takeToken_250 : decode cX5_takeToken 250 = .ok (.bipush 59, 2) := by decide +kernel
theorem dX5_takeToken_252 : decode cX5_takeToken 252 = .ok (.if_icmp .ne 21, 3) := by decide +kernel
theorem dX5_takeToken_255 : decode cX5_takeToken 255 = .ok (.aload_n 0, 1) := by decide +kernel
theorem dX5_takeToken_256 : decode cX5_takeToken 256 = .ok (.iconst 3, 1) := by decide +kernel
theorem dX5_takeToken_257 : decode cX5_takeToken 257 = .ok (.putfield 37, 3) := by decide +kernel
theorem dX5_takeToken_260 : decode cX5_takeToken 260 = .ok (.aload_n 0, 1) := by decide +kernel
theorem dX5_takeToken_261 : decode cX5_takeToken 261 = .ok (.dup, 1) := by decide +kernel
theorem dX5_takeToken_262 : decode cX5_takeToken 262 = .ok (.getfield 24, 3) := by decide +kernel
theorem dX5_takeToken_265 : decode cX5_takeToken 265 = .ok (.iconst 1, 1) := by decide +kernel
theorem dX5_takeToken_266 : decode cX5_takeToken 266 = .ok (.iadd, 1) := by decide +kernel
theorem dX5_takeToken_267 : decode cX5_takeToken 267 = .ok (.putfield 24, 3) := by decide +kernel
theorem dX5_takeToken_270 : decode cX5_takeToken 270 = .ok (.goto 8, 3) := by decide +kernel
theorem dX5_takeToken_273 : decode cX5_takeToken 273 = .ok (.aload_n 0, 1) := by decide +kernel
theorem dX5_takeToken_274 : decode cX5_takeToken 274 = .ok (.iconst 1, 1) := by decide +kernel
theorem dX5_takeToken_275 : decode cX5_takeToken 275 = .ok (.invokevirtual 48, 3) := by decide +kernel
theorem dX5_takeToken_278 : decode cX5_takeToken 278 = .ok (.return_, 1) := by decide +kernel
theorem dX5_isLetter_0 : decode cX5_isLetter 0 = .ok (.iload_n 0, 1) := by decide +kernel
theorem dX5_isLetter_1 : decode cX5_isLetter 1 = .ok (.bipush 97, 2) := by decide +kernel
theorem dX5_isLetter_3 : decode cX5_isLetter 3 = .ok (.if_icmp .lt 13, 3) := by decide +kernel
theorem dX5_isLetter_6 : decode cX5_isLetter 6 = .ok (.iload_n 0, 1) := by decide +kernel
theorem dX5_isLetter_7 : decode cX5_isLetter 7 = .ok (.bipush 122, 2) := by decide +kernel
theorem dX5_isLetter_9 : decode cX5_isLetter 9 = .ok (.if_icmp .gt 7, 3) := by decide +kernel
theorem dX5_isLetter_12 : decode cX5_isLetter 12 = .ok (.iconst 1, 1) := by decide +kernel
theorem dX5_isLetter_13 : decode cX5_isLetter 13 = .ok (.goto 4, 3) := by decide +kernel
theorem dX5_isLetter_16 : decode cX5_isLetter 16 = .ok (.iconst 0, 1) := by decide +kernel
theorem dX5_isLetter_17 : decode cX5_isLetter 17 = .ok (.ireturn, 1) := by decide +kernel
theorem dX5_isFigure_0 : decode cX5_isFigure 0 = .ok (.iload_n 0, 1) := by decide +kernel
theorem dX5_isFigure_1 : decode cX5_isFigure 1 = .ok (.bipush 48, 2) := by decide +kernel
theorem dX5_isFigure_3 : decode cX5_isFigure 3 = .ok (.if_icmp .lt 13, 3) := by decide +kernel
theorem dX5_isFigure_6 : decode cX5_isFigure 6 = .ok (.iload_n 0, 1) := by decide +kernel
theorem dX5_isFigure_7 : decode cX5_isFigure 7 = .ok (.bipush 57, 2) := by decide +kernel
theorem dX5_isFigure_9 : decode cX5_isFigure 9 = .ok (.if_icmp .gt 7, 3) := by decide +kernel
theorem dX5_isFigure_12 : decode cX5_isFigure 12 = .ok (.iconst 1, 1) := by decide +kernel
theorem dX5_isFigure_13 : decode cX5_isFigure 13 = .ok (.goto 4, 3) := by decide +kernel
theorem dX5_isFigure_16 : decode cX5_isFigure 16 = .ok (.iconst 0, 1) := by decide +kernel
theorem dX5_isFigure_17 : decode cX5_isFigure 17 = .ok (.ireturn, 1) := by decide +kernel
theorem dX5_wordRead_0 : decode cX5_wordRead 0 = .ok (.aload_n 0, 1) := by decide +kernel
theorem dX5_wordRead_1 : decode cX5_wordRead 1 = .ok (.ldc 121, 2) := by decide +kernel
theorem dX5_wordRead_3 : decode cX5_wordRead 3 = .ok (.invokevirtual 123, 3) := by decide +kernel
theorem dX5_wordRead_6 : decode cX5_wordRead 6 = .ok (.ifCond .eq 5, 3) := by decide +kernel
theorem dX5_wordRead_9 : decode cX5_wordRead 9 = .ok (.iconst 0, 1) := by decide +kernel
theorem dX5_wordRead_10 : decode cX5_wordRead 10 = .ok (.ireturn, 1) := by decide +kernel
theorem dX5_wordRead_11 : decode cX5_wordRead 11 = .ok (.aload_n 0, 1) := by decide +kernel
theorem dX5_wordRead_12 : decode cX5_wordRead 12 = .ok (.ldc 127, 2) := by decide +kernel
theorem dX5_wordRead_14 : decode cX5_wordRead 14 = .ok (.invokevirtual 123, 3) := by decide +kernel
theorem dX5_wordRead_17 : decode cX5_wordRead 17 = .ok (.ifCond .eq 5, 3) := by decide +kernel
theorem dX5_wordRead_20 : decode cX5_wordRead 20 = .ok (.iconst 1, 1) := by decide +kernel
theorem dX5_wordRead_21 : decode cX5_wordRead 21 = .ok (.ireturn, 1) := by decide +kernel
theorem dX5_wordRead_22 : decode cX5_wordRead 22 = .ok (.aload_n 0, 1) := by decide +kernel
theorem dX5_wordRead_23 : decode cX5_wordRead 23 = .ok (.ldc 129, 2) := by decide +kernel
theorem dX5_wordRead_25 : decode cX5_wordRead 25 = .ok (.invokevirtual 123, 3) := by decide +kernel
theorem dX5_wordRead_28 : decode cX5_wordRead 28 = .ok (.ifCond .eq 5, 3) := by decide +kernel
theorem dX5_wordRead_31 : decode cX5_wordRead 31 = .ok (.iconst 2, 1) := by decide +kernel
theorem dX5_wordRead_32 : decode cX5_wordRead 32 = .ok (.ireturn, 1) := by decide +kernel
theorem dX5_wordRead_33 : decode cX5_wordRead 33 = .ok (.aload_n 0, 1) := by decide +kernel
theorem dX5_wordRead_34 : decode cX5_wordRead 34 = .ok (.ldc 131, 2) := by decide +kernel
theorem dX5_wordRead_36 : decode cX5_wordRead 36 = .ok (.invokevirtual 123, 3) := by decide +kernel
theorem dX5_wordRead_39 : decode cX5_wordRead 39 = .ok (.ifCond .eq 5, 3) := by decide +kernel
theorem dX5_wordRead_42 : decode cX5_wordRead 42 = .ok (.iconst 3, 1) := by decide +kernel
theorem dX5_wordRead_43 : decode cX5_wordRead 43 = .ok (.ireturn, 1) := by decide +kernel
theorem dX5_wordRead_44 : decode cX5_wordRead 44 = .ok (.aload_n 0, 1) := by decide +kernel
theorem dX5_wordRead_45 : decode cX5_wordRead 45 = .ok (.ldc 133, 2) := by decide +kernel
theorem dX5_wordRead_47 : decode cX5_wordRead 47 = .ok (.invokevirtual 123, 3) := by decide +kernel
theorem dX5_wordRead_50 : decode cX5_wordRead 50 = .ok (.ifCond .eq 5, 3) := by decide +kernel
theorem dX5_wordRead_53 : decode cX5_wordRead 53 = .ok (.iconst 4, 1) := by decide +kernel
theorem dX5_wordRead_54 : decode cX5_wordRead 54 = .ok (.ireturn, 1) := by decide +kernel
theorem dX5_wordRead_55 : decode cX5_wordRead 55 = .ok (.aload_n 0, 1) := by decide +kernel
theorem dX5_wordRead_56 : decode cX5_wordRead 56 = .ok (.ldc 135, 2) := by decide +kernel
theorem dX5_wordRead_58 : decode cX5_wordRead 58 = .ok (.invokevirtual 123, 3) := by decide +kernel
theorem dX5_wordRead_61 : decode cX5_wordRead 61 = .ok (.ifCond .eq 5, 3) := by decide +kernel
theorem dX5_wordRead_64 : decode cX5_wordRead 64 = .ok (.iconst 5, 1) := by decide +kernel
theorem dX5_wordRead_65 : decode cX5_wordRead 65 = .ok (.ireturn, 1) := by decide +kernel
theorem dX5_wordRead_66 : decode cX5_wordRead 66 = .ok (.aload_n 0, 1) := by decide +kernel
theorem dX5_wordRead_67 : decode cX5_wordRead 67 = .ok (.ldc 136, 2) := by decide +kernel
theorem dX5_wordRead_69 : decode cX5_wordRead 69 = .ok (.invokevirtual 123, 3) := by decide +kernel
theorem dX5_wordRead_72 : decode cX5_wordRead 72 = .ok (.ifCond .eq 8, 3) := by decide +kernel
theorem dX5_wordRead_75 : decode cX5_wordRead 75 = .ok (.bipush 6, 2) := by decide +kernel
theorem dX5_wordRead_77 : decode cX5_wordRead 77 = .ok (.goto 5, 3) := by decide +kernel
theorem dX5_wordRead_80 : decode cX5_wordRead 80 = .ok (.bipush (-4), 2) := by decide +kernel
theorem dX5_wordRead_82 : decode cX5_wordRead 82 = .ok (.ireturn, 1) := by decide +kernel
theorem dX5_isWord_0 : decode cX5_isWord 0 = .ok (.aload_n 0, 1) := by decide +kernel
theorem dX5_isWord_1 : decode cX5_isWord 1 = .ok (.getfield 24, 3) := by decide +kernel
theorem dX5_isWord_4 : decode cX5_isWord 4 = .ok (.aload_n 0, 1) := by decide +kernel
theorem dX5_isWord_5 : decode cX5_isWord 5 = .ok (.getfield 111, 3) := by decide +kernel
theorem dX5_isWord_8 : decode cX5_isWord 8 = .ok (.isub, 1) := by decide +kernel
theorem dX5_isWord_9 : decode cX5_isWord 9 = .ok (.aload_n 1, 1) := by decide +kernel
theorem dX5_isWord_10 : decode cX5_isWord 10 = .ok (.invokevirtual 137, 3) := by decide +kernel
theorem dX5_isWord_13 : decode cX5_isWord 13 = .ok (.if_icmp .eq 5, 3) := by decide +kernel
theorem dX5_isWord_16 : decode cX5_isWord 16 = .ok (.iconst 0, 1) := by decide +kernel
theorem dX5_isWord_17 : decode cX5_isWord 17 = .ok (.ireturn, 1) := by decide +kernel
theorem dX5_isWord_18 : decode cX5_isWord 18 = .ok (.iconst 0, 1) := by decide +kernel
theorem dX5_isWord_19 : decode cX5_isWord 19 = .ok (.istore_n 2, 1) := by decide +kernel
theorem dX5_isWord_20 : decode cX5_isWord 20 = .ok (.iload_n 2, 1) := by decide +kernel
theorem dX5_isWord_21 : decode cX5_isWord 21 = .ok (.aload_n 1, 1) := by decide +kernel
theorem dX5_isWord_22 : decode cX5_isWord 22 = .ok (.invokevirtual 137, 3) := by decide +kernel
theorem dX5_isWord_25 : decode cX5_isWord 25 = .ok (.if_icmp .ge 30, 3) := by decide +kernel
theorem dX5_isWord_28 : decode cX5_isWord 28 = .ok (.aload_n 0, 1) := by decide +kernel
theorem dX5_isWord_29 : decode cX5_isWord 29 = .ok (.getfield 9, 3) := by decide +kernel
theorem dX5_isWord_32 : decode cX5_isWord 32 = .ok (.aload_n 0, 1) := by decide +kernel
theorem dX5_isWord_33 : decode cX5_isWord 33 = .ok (.getfield 111, 3) := by decide +kernel
theorem dX5_isWord_36 : decode cX5_isWord 36 = .ok (.iload_n 2, 1) := by decide +kernel
theorem dX5_isWord_37 : decode cX5_isWord 37 = .ok (.iadd, 1) := by decide +kernel
theorem dX5_isWord_38 : decode cX5_isWord 38 = .ok (.baload, 1) := by decide +kernel
theorem dX5_isWord_39 : decode cX5_isWord 39 = .ok (.aload_n 1, 1) := by decide +kernel
theorem dX5_isWord_40 : decode cX5_isWord 40 = .ok (.iload_n 2, 1) := by decide +kernel
theorem dX5_isWord_41 : decode cX5_isWord 41 = .ok (.invokevirtual 141, 3) := by decide +kernel
theorem dX5_isWord_44 : decode cX5_isWord 44 = .ok (.if_icmp .eq 5, 3) := by decide +kernel
theorem dX5_isWord_47 : decode cX5_isWord 47 = .ok (.iconst 0, 1) := by decide +kernel
theorem dX5_isWord_48 : decode cX5_isWord 48 = .ok (.ireturn, 1) := by decide +kernel
theorem dX5_isWord_49 : decode cX5_isWord 49 = .ok (.iinc 2 1, 3) := by decide +kernel
theorem dX5_isWord_52 : decode cX5_isWord 52 = .ok (.goto (-32), 3) := by decide +kernel
theorem dX5_isWord_55 : decode cX5_isWord 55 = .ok (.iconst 1, 1) := by decide +kernel
theorem dX5_isWord_56 : decode cX5_isWord 56 = .ok (.ireturn, 1) := by decide +kernel
theorem dX6_init_0 : decode cX6_init 0 = .ok (.aload_n 0, 1) := by decide +kernel
theorem dX6_init_1 : decode cX6_init 1 = .ok (.invokespecial 1, 3) := by decide +kernel
theorem dX6_init_4 : decode cX6_init 4 = .ok (.aload_n 0, 1) := by decide +kernel
theorem dX6_init_5 : decode cX6_init 5 = .ok (.new 7, 3) := by decide +kernel
theorem dX6_init_8 : decode cX6_init 8 = .ok (.dup, 1) := by decide +kernel
theorem dX6_init_9 : decode cX6_init 9 = .ok (.invokespecial 9, 3) := by decide +kernel
theorem dX6_init_12 : decode cX6_init 12 = .ok (.putfield 10, 3) := by decide +kernel
theorem dX6_init_15 : decode cX6_init 15 = .ok (.aload_n 0, 1) := by decide +kernel
theorem dX6_init_16 : decode cX6_init 16 = .ok (.new 16, 3) := by decide +kernel
theorem dX6_init_19 : decode cX6_init 19 = .ok (.dup, 1) := by decide +kernel
theorem dX6_init_20 : decode cX6_init 20 = .ok (.invokespecial 18, 3) := by decide +kernel
theorem dX6_init_23 : decode cX6_init 23 = .ok (.putfield 19, 3) := by decide +kernel
theorem dX6_init_26 : decode cX6_init 26 = .ok (.aload_n 0, 1) := by decide +kernel
theorem dX6_init_27 : decode cX6_init 27 = .ok (.new 23, 3) := by decide +kernel
theorem dX6_init_30 : decode cX6_init 30 = .ok (.dup, 1) := by decide +kernel
theorem dX6_init_31 : decode cX6_init 31 = .ok (.invokespecial 25, 3) := by decide +kernel
theorem dX6_init_34 : decode cX6_init 34 = .ok (.putfield 26, 3) := by decide +kernel
theorem dX6_init_37 : decode cX6_init 37 = .ok (.aload_n 0, 1) := by decide +kernel
theorem dX6_init_38 : decode cX6_init 38 = .ok (.new 30, 3) := by decide +kernel
theorem dX6_init_41 : decode cX6_init 41 = .ok (.dup, 1) := by decide +kernel
theorem dX6_init_42 : decode cX6_init 42 = .ok (.invokespecial 32, 3) := by decide +kernel
theorem dX6_init_45 : decode cX6_init 45 = .ok (.putfield 33, 3) := by decide +kernel
theorem dX6_init_48 : decode cX6_init 48 = .ok (.aload_n 0, 1) := by decide +kernel
theorem dX6_init_49 : decode cX6_init 49 = .ok (.new 37, 3) := by decide +kernel
theorem dX6_init_52 : decode cX6_init 52 = .ok (.dup, 1) := by decide +kernel
theorem dX6_init_53 : decode cX6_init 53 = .ok (.invokespecial 39, 3) := by decide +kernel
theorem dX6_init_56 : decode cX6_init 56 = .ok (.putfield 40, 3) := by decide +kernel
theorem dX6_init_59 : decode cX6_init 59 = .ok (.aload_n 0, 1) := by decide +kernel
theorem dX6_init_60 : decode cX6_init 60 = .ok (.new 44, 3) := by decide +kernel
theorem dX6_init_63 : decode cX6_init 63 = .ok (.dup, 1) := by decide +kernel
theorem dX6_init_64 : decode cX6_init 64 = .ok (.invokespecial 46, 3) := by decide +kernel
theorem dX6_init_67 : decode cX6_init 67 = .ok (.putfield 47, 3) := by decide +kernel
theorem dX6_init_70 : decode cX6_init 70 = .ok (.aload_n 0, 1) := by decide +kernel
theorem dX6_init_71 : decode cX6_init 71 = .ok (.new 7, 3) := by decide +kernel
theorem dX6_init_74 : decode cX6_init 74 = .ok (.dup, 1) := by decide +kernel
theorem dX6_init_75 : decode cX6_init 75 = .ok (.invokespecial 9, 3) := by decide +kernel
theorem dX6_init_78 : decode cX6_init 78 = .ok (.putfield 51, 3) := by decide +kernel
theorem dX6_init_81 : decode cX6_init 81 = .ok (.aload_n 0, 1) := by decide +kernel
theorem dX6_init_82 : decode cX6_init 82 = .ok (.new 7, 3) := by decide +kernel
theorem dX6_init_85 : decode cX6_init 85 = .ok (.dup, 1) := by decide +kernel
theorem dX6_init_86 : decode cX6_init 86 = .ok (.invokespecial 9, 3) := by decide +kernel
theorem dX6_init_89 : decode cX6_init 89 = .ok (.putfield 54, 3) := by decide +kernel
theorem dX6_init_92 : decode cX6_init 92 = .ok (.return_, 1) := by decide +kernel
theorem dX6_feed_0 : decode cX6_feed 0 = .ok (.iload_n 1, 1) := by decide +kernel
theorem dX6_feed_1 : decode cX6_feed 1 = .ok (.iconst 0, 1) := by decide +kernel
theorem dX6_feed_2 : decode cX6_feed 2 = .ok (.bipush 127, 2) := by decide +kernel
theorem dX6_feed_4 : decode cX6_feed 4 = .ok (.invokestatic 57, 3) := by decide +kernel
theorem dX6_feed_7 : decode cX6_feed 7 = .ok (.ifCond .ne 5, 3) := by decide +kernel
theorem dX6_feed_10 : decode cX6_feed 10 = .ok (.iconst (-1), 1) := by decide +kernel
theorem dX6_feed_11 : decode cX6_feed 11 = .ok (.ireturn, 1) := by decide +kernel
theorem dX6_feed_12 : decode cX6_feed 12 = .ok (.aload_n 0, 1) := by decide +kernel
theorem dX6_feed_13 : decode cX6_feed 13 = .ok (.getfield 33, 3) := by decide +kernel
theorem dX6_feed_16 : decode cX6_feed 16 = .ok (.getfield 61, 3) := by decide +kernel
theorem dX6_feed_19 : decode cX6_feed 19 = .ok (.sipush 160, 3) := by decide +kernel
theorem dX6_feed_22 : decode cX6_feed 22 = .ok (.if_icmp .lt 6, 3) := by decide +kernel
theorem dX6_feed_25 : decode cX6_feed 25 = .ok (.bipush (-3), 2) := by decide +kernel
theorem dX6_feed_27 : decode cX6_feed 27 = .ok (.ireturn, 1) := by decide +kernel
theorem dX6_feed_28 : decode cX6_feed 28 = .ok (.aload_n 0, 1) := by decide +kernel
theorem dX6_feed_29 : decode cX6_feed 29 = .ok (.getfield 33, 3) := by decide +kernel
theorem dX6_feed_32 : decode cX6_feed 32 = .ok (.getfield 65, 3) := by decide +kernel
theorem dX6_feed_35 : decode cX6_feed 35 = .ok (.aload_n 0, 1) := by decide +kernel
theorem dX6_feed_36 : decode cX6_feed 36 = .ok (.getfield 33, 3) := by decide +kernel
theorem dX6_feed_39 : decode cX6_feed 39 = .ok (.getfield 61, 3) := by decide +kernel
theorem dX6_feed_42 : decode cX6_feed 42 = .ok (.iload_n 1, 1) := by decide +kernel
theorem dX6_feed_43 : decode cX6_feed 43 = .ok (.i2b, 1) := by decide +kernel
theorem dX6_feed_44 : decode cX6_feed 44 = .ok (.bastore, 1) := by decide +kernel
theorem dX6_feed_45 : decode cX6_feed 45 = .ok (.aload_n 0, 1) := by decide +kernel
theorem dX6_feed_46 : decode cX6_feed 46 = .ok (.getfield 33, 3) := by decide +kernel
theorem dX6_feed_49 : decode cX6_feed 49 = .ok (.dup, 1) := by decide +kernel
theorem dX6_feed_50 : decode cX6_feed 50 = .ok (.getfield 61, 3) := by decide +kernel
theorem dX6_feed_53 : decode cX6_feed 53 = .ok (.iconst 1, 1) := by decide +kernel
theorem dX6_feed_54 : decode cX6_feed 54 = .ok (.iadd, 1) := by decide +kernel
theorem dX6_feed_55 : decode cX6_feed 55 = .ok (.putfield 61, 3) := by decide +kernel
theorem dX6_feed_58 : decode cX6_feed 58 = .ok (.aload_n 0, 1) := by decide +kernel
theorem dX6_feed_59 : decode cX6_feed 59 = .ok (.getfield 33, 3) := by decide +kernel
theorem dX6_feed_62 : decode cX6_feed 62 = .ok (.getfield 61, 3) := by decide +kernel
theorem dX6_feed_65 : decode cX6_feed 65 = .ok (.ireturn, 1) := by decide +kernel
theorem dX6_end_0 : decode cX6_end 0 = .ok (.iload_n 1, 1) := by decide +kernel
theorem dX6_end_1 : decode cX6_end 1 = .ok (.iconst 0, 1) := by decide +kernel
theorem dX6_end_2 : decode cX6_end 2 = .ok (.aload_n 0, 1) := by decide +kernel
theorem dX6_end_3 : decode cX6_end 3 = .ok (.getfield 33, 3) := by decide +kernel
theorem dX6_end_6 : decode cX6_end 6 = .ok (.getfield 61, 3) := by decide +kernel
theorem dX6_end_9 : decode cX6_end 9 = .ok (.invokestatic 57, 3) := by decide +kernel
theorem dX6_end_12 : decode cX6_end 12 = .ok (.ifCond .ne 5, 3) := by decide +kernel
theorem dX6_end_15 : decode cX6_end 15 = .ok (.iconst (-1), 1) := by decide +kernel
theorem dX6_end_16 : decode cX6_end 16 = .ok (.ireturn, 1) := by decide +kernel
theorem dX6_end_17 : decode cX6_end 17 = .ok (.aload_n 0, 1) := by decide +kernel
theorem dX6_end_18 : decode cX6_end 18 = .ok (.getfield 33, 3) := by decide +kernel
theorem dX6_end_21 : decode cX6_end 21 = .ok (.getfield 61, 3) := by decide +kernel
theorem dX6_end_24 : decode cX6_end 24 = .ok (.istore_n 2, 1) := by decide +kernel
theorem dX6_end_25 : decode cX6_end 25 = .ok (.aload_n 0, 1) := by decide +kernel
theorem dX6_end_26 : decode cX6_end 26 = .ok (.getfield 33, 3) := by decide +kernel
theorem dX6_end_29 : decode cX6_end 29 = .ok (.iload_n 1, 1) := by decide +kernel
theorem dX6_end_30 : decode cX6_end 30 = .ok (.putfield 61, 3) := by decide +kernel
theorem dX6_end_33 : decode cX6_end 33 = .ok (.iload_n 2, 1) := by decide +kernel
theorem dX6_end_34 : decode cX6_end 34 = .ok (.ireturn, 1) := by decide +kernel
theorem dX6_text_0 : decode cX6_text 0 = .ok (.aload_n 0, 1) := by decide +kernel
theorem dX6_text_1 : decode cX6_text 1 = .ok (.getfield 19, 3) := by decide +kernel
theorem dX6_text_4 : decode cX6_text 4 = .ok (.getfield 69, 3) := by decide +kernel
theorem dX6_text_7 : decode cX6_text 7 = .ok (.astore_n 1, 1) := by decide +kernel
theorem dX6_text_8 : decode cX6_text 8 = .ok (.aload_n 0, 1) := by decide +kernel
theorem dX6_text_9 : decode cX6_text 9 = .ok (.getfield 33, 3) := by decide +kernel
theorem dX6_text_12 : decode cX6_text 12 = .ok (.aload_n 1, 1) := by decide +kernel
theorem dX6_text_13 : decode cX6_text 13 = .ok (.invokevirtual 72, 3) := by decide +kernel
theorem dX6_text_16 : decode cX6_text 16 = .ok (.istore_n 2, 1) := by decide +kernel
theorem dX6_text_17 : decode cX6_text 17 = .ok (.aload_n 0, 1) := by decide +kernel
theorem dX6_text_18 : decode cX6_text 18 = .ok (.getfield 33, 3) := by decide +kernel
theorem dX6_text_21 : decode cX6_text 21 = .ok (.iconst 0, 1) := by decide +kernel
theorem dX6_text_22 : decode cX6_text 22 = .ok (.putfield 61, 3) := by decide +kernel
theorem dX6_text_25 : decode cX6_text 25 = .ok (.aload_n 0, 1) := by decide +kernel
theorem dX6_text_26 : decode cX6_text 26 = .ok (.getfield 33, 3) := by decide +kernel
theorem dX6_text_29 : decode cX6_text 29 = .ok (.getfield 76, 3) := by decide +kernel
theorem dX6_text_32 : decode cX6_text 32 = .ok (.ifCond .eq 14, 3) := by decide +kernel
theorem dX6_text_35 : decode cX6_text 35 = .ok (.bipush (-10), 2) := by decide +kernel
theorem dX6_text_37 : decode cX6_text 37 = .ok (.aload_n 0, 1) := by decide +kernel
theorem dX6_text_38 : decode cX6_text 38 = .ok (.getfield 33, 3) := by decide +kernel
theorem dX6_text_41 : decode cX6_text 41 = .ok (.getfield 79, 3) := by decide +kernel
theorem dX6_text_44 : decode cX6_text 44 = .ok (.isub, 1) := by decide +kernel
theorem dX6_text_45 : decode cX6_text 45 = .ok (.ireturn, 1) := by decide +kernel
theorem dX6_text_46 : decode cX6_text 46 = .ok (.aload_n 0, 1) := by decide +kernel
theorem dX6_text_47 : decode cX6_text 47 = .ok (.getfield 10, 3) := by decide +kernel
theorem dX6_text_50 : decode cX6_text 50 = .ok (.aload_n 1, 1) := by decide +kernel
theorem dX6_text_51 : decode cX6_text 51 = .ok (.invokevirtual 82, 3) := by decide +kernel
theorem dX6_text_54 : decode cX6_text 54 = .ok (.aload_n 0, 1) := by decide +kernel
theorem dX6_text_55 : decode cX6_text 55 = .ok (.getfield 40, 3) := by decide +kernel
theorem dX6_text_58 : decode cX6_text 58 = .ok (.iconst 0, 1) := by decide +kernel
theorem dX6_text_59 : decode cX6_text 59 = .ok (.putfield 86, 3) := by decide +kernel
theorem dX6_text_62 : decode cX6_text 62 = .ok (.aload_n 0, 1) := by decide +kernel
theorem dX6_text_63 : decode cX6_text 63 = .ok (.iconst 0, 1) := by decide +kernel
theorem dX6_text_64 : decode cX6_text 64 = .ok (.putfield 89, 3) := by decide +kernel
theorem dX6_text_67 : decode cX6_text 67 = .ok (.iload_n 2, 1) := by decide +kernel
theorem dX6_text_68 : decode cX6_text 68 = .ok (.ireturn, 1) := by decide +kernel
theorem dX6_fault_0 : decode cX6_fault 0 = .ok (.aload_n 0, 1) := by decide +kernel
theorem dX6_fault_1 : decode cX6_fault 1 = .ok (.getfield 33, 3) := by decide +kernel
theorem dX6_fault_4 : decode cX6_fault 4 = .ok (.getfield 76, 3) := by decide +kernel
theorem dX6_fault_7 : decode cX6_fault 7 = .ok (.ireturn, 1) := by decide +kernel
theorem dX6_rule_0 : decode cX6_rule 0 = .ok (.iload_n 1, 1) := by decide +kernel
theorem dX6_rule_1 : decode cX6_rule 1 = .ok (.tableswitch 109 0 5 #[39, 47, 55, 63, 71, 90], 39) := by decide +kernel
theorem dX6_rule_40 : decode cX6_rule 40 = .ok (.aload_n 0, 1) := by decide +kernel
theorem dX6_rule_41 : decode cX6_rule 41 = .ok (.getfield 10, 3) := by decide +kernel
theorem dX6_rule_44 : decode cX6_rule 44 = .ok (.getfield 92, 3) := by decide +kernel
theorem dX6_rule_47 : decode cX6_rule 47 = .ok (.ireturn, 1) := by decide +kernel
theorem dX6_rule_48 : decode cX6_rule 48 = .ok (.aload_n 0, 1) := by decide +kernel
theorem dX6_rule_49 : decode cX6_rule 49 = .ok (.getfield 10, 3) := by decide +kernel
theorem dX6_rule_52 : decode cX6_rule 52 = .ok (.getfield 95, 3) := by decide +kernel
theorem dX6_rule_55 : decode cX6_rule 55 = .ok (.ireturn, 1) := by decide +kernel
theorem dX6_rule_56 : decode cX6_rule 56 = .ok (.aload_n 0, 1) := by decide +kernel
theorem dX6_rule_57 : decode cX6_rule 57 = .ok (.getfield 10, 3) := by decide +kernel
theorem dX6_rule_60 : decode cX6_rule 60 = .ok (.getfield 98, 3) := by decide +kernel
theorem dX6_rule_63 : decode cX6_rule 63 = .ok (.ireturn, 1) := by decide +kernel
theorem dX6_rule_64 : decode cX6_rule 64 = .ok (.aload_n 0, 1) := by decide +kernel
theorem dX6_rule_65 : decode cX6_rule 65 = .ok (.getfield 10, 3) := by decide +kernel
theorem dX6_rule_68 : decode cX6_rule 68 = .ok (.getfield 101, 3) := by decide +kernel
theorem dX6_rule_71 : decode cX6_rule 71 = .ok (.ireturn, 1) := by decide +kernel
theorem dX6_rule_72 : decode cX6_rule 72 = .ok (.aload_n 0, 1) := by decide +kernel
theorem dX6_rule_73 : decode cX6_rule 73 = .ok (.getfield 19, 3) := by decide +kernel
theorem dX6_rule_76 : decode cX6_rule 76 = .ok (.aload_n 0, 1) := by decide +kernel
theorem dX6_rule_77 : decode cX6_rule 77 = .ok (.getfield 10, 3) := by decide +kernel
theorem dX6_rule_80 : decode cX6_rule 80 = .ok (.invokevirtual 104, 3) := by decide +kernel
theorem dX6_rule_83 : decode cX6_rule 83 = .ok (.aload_n 0, 1) := by decide +kernel
theorem dX6_rule_84 : decode cX6_rule 84 = .ok (.getfield 19, 3) := by decide +kernel
theorem dX6_rule_87 : decode cX6_rule 87 = .ok (.invokevirtual 107, 3) := by decide +kernel
theorem dX6_rule_90 : decode cX6_rule 90 = .ok (.ireturn, 1) := by decide +kernel
theorem dX6_rule_91 : decode cX6_rule 91 = .ok (.aload_n 0, 1) := by decide +kernel
theorem dX6_rule_92 : decode cX6_rule 92 = .ok (.getfield 19, 3) := by decide +kernel
theorem dX6_rule_95 : decode cX6_rule 95 = .ok (.aload_n 0, 1) := by decide +kernel
theorem dX6_rule_96 : decode cX6_rule 96 = .ok (.getfield 10, 3) := by decide +kernel
theorem dX6_rule_99 : decode cX6_rule 99 = .ok (.invokevirtual 104, 3) := by decide +kernel
theorem dX6_rule_102 : decode cX6_rule 102 = .ok (.aload_n 0, 1) := by decide +kernel
theorem dX6_rule_103 : decode cX6_rule 103 = .ok (.getfield 19, 3) := by decide +kernel
theorem dX6_rule_106 : decode cX6_rule 106 = .ok (.invokevirtual 111, 3) := by decide +kernel
theorem dX6_rule_109 : decode cX6_rule 109 = .ok (.ireturn, 1) := by decide +kernel
theorem dX6_rule_110 : decode cX6_rule 110 = .ok (.iconst (-1), 1) := by decide +kernel
theorem dX6_rule_111 : decode cX6_rule 111 = .ok (.ireturn, 1) := by decide +kernel
theorem dX6_work_0 : decode cX6_work 0 = .ok (.aload_n 0, 1) := by decide +kernel
theorem dX6_work_1 : decode cX6_work 1 = .ok (.getfield 10, 3) := by decide +kernel
theorem dX6_work_4 : decode cX6_work 4 = .ok (.iload_n 1, 1) := by decide +kernel
theorem dX6_work_5 : decode cX6_work 5 = .ok (.invokevirtual 114, 3) := by decide +kernel
theorem dX6_work_8 : decode cX6_work 8 = .ok (.ifCond .ne 5, 3) := by decide +kernel
theorem dX6_work_11 : decode cX6_work 11 = .ok (.iconst (-1), 1) := by decide +kernel
theorem dX6_work_12 : decode cX6_work 12 = .ok (.ireturn, 1) := by decide +kernel
theorem dX6_work_13 : decode cX6_work 13 = .ok (.iload_n 2, 1) := by decide +kernel
theorem dX6_work_14 : decode cX6_work 14 = .ok (.iconst 0, 1) := by decide +kernel
theorem dX6_work_15 : decode cX6_work 15 = .ok (.iconst 3, 1) := by decide +kernel
theorem dX6_work_16 : decode cX6_work 16 = .ok (.invokestatic 57, 3) := by decide +kernel
theorem dX6_work_19 : decode cX6_work 19 = .ok (.ifCond .eq 13, 3) := by decide +kernel
theorem dX6_work_22 : decode cX6_work 22 = .ok (.aload_n 0, 1) := by decide +kernel
theorem dX6_work_23 : decode cX6_work 23 = .ok (.getfield 10, 3) := by decide +kernel
theorem dX6_work_26 : decode cX6_work 26 = .ok (.iload_n 1, 1) := by decide +kernel
theorem dX6_work_27 : decode cX6_work 27 = .ok (.iload_n 2, 1) := by decide +kernel
theorem dX6_work_28 : decode cX6_work 28 = .ok (.invokevirtual 118, 3) := by decide +kernel
theorem dX6_work_31 : decode cX6_work 31 = .ok (.ireturn, 1) := by decide +kernel
theorem dX6_work_32 : decode cX6_work 32 = .ok (.iload_n 2, 1) := by decide +kernel
theorem dX6_work_33 : decode cX6_work 33 = .ok (.tableswitch 91 4 8 #[35, 44, 53, 62, 71], 35) := by decide +kernel
theorem dX6_work_68 : decode cX6_work 68 = .ok (.aload_n 0, 1) := by decide +kernel
theorem dX6_work_69 : decode cX6_work 69 = .ok (.getfield 10, 3) := by decide +kernel
theorem dX6_work_72 : decode cX6_work 72 = .ok (.iload_n 1, 1) := by decide +kernel
theorem dX6_work_73 : decode cX6_work 73 = .ok (.invokevirtual 122, 3) := by decide +kernel
theorem dX6_work_76 : decode cX6_work 76 = .ok (.ireturn, 1) := by decide +kernel
theorem dX6_work_77 : decode cX6_work 77 = .ok (.aload_n 0, 1) := by decide +kernel
theorem dX6_work_78 : decode cX6_work 78 = .ok (.getfield 10, 3) := by decide +kernel
theorem dX6_work_81 : decode cX6_work 81 = .ok (.iload_n 1, 1) := by decide +kernel
theorem dX6_work_82 : decode cX6_work 82 = .ok (.invokevirtual 126, 3) := by decide +kernel
theorem dX6_work_85 : decode cX6_work 85 = .ok (.ireturn, 1) := by decide +kernel
theorem dX6_work_86 : decode cX6_work 86 = .ok (.aload_n 0, 1) := by decide +kernel
theorem dX6_work_87 : decode cX6_work 87 = .ok (.getfield 10, 3) := by decide +kernel
theorem dX6_work_90 : decode cX6_work 90 = .ok (.iload_n 1, 1) := by decide +kernel
theorem dX6_work_91 : decode cX6_work 91 = .ok (.invokevirtual 129, 3) := by decide +kernel
theorem dX6_work_94 : decode cX6_work 94 = .ok (.ireturn, 1) := by decide +kernel
theorem dX6_work_95 : decode cX6_work 95 = .ok (.aload_n 0, 1) := by decide +kernel
theorem dX6_work_96 : decode cX6_work 96 = .ok (.getfield 10, 3) := by decide +kernel
theorem dX6_work_99 : decode cX6_work 99 = .ok (.iload_n 1, 1) := by decide +kernel
theorem dX6_work_100 : decode cX6_work 100 = .ok (.invokevirtual 132, 3) := by decide +kernel
theorem dX6_work_103 : decode cX6_work 103 = .ok (.ireturn, 1) := by decide +kernel
theorem dX6_work_104 : decode cX6_work 104 = .ok (.aload_n 0, 1) := by decide +kernel
theorem dX6_work_105 : decode cX6_work 105 = .ok (.getfield 19, 3) := by decide +kernel
theorem dX6_work_108 : decode cX6_work 108 = .ok (.aload_n 0, 1) := by decide +kernel
theorem dX6_work_109 : decode cX6_work 109 = .ok (.getfield 10, 3) := by decide +kernel
theorem dX6_work_112 : decode cX6_work 112 = .ok (.invokevirtual 104, 3) := by decide +kernel
theorem dX6_work_115 : decode cX6_work 115 = .ok (.aload_n 0, 1) := by decide +kernel
theorem dX6_work_116 : decode cX6_work 116 = .ok (.getfield 19, 3) := by decide +kernel
theorem dX6_work_119 : decode cX6_work 119 = .ok (.iload_n 1, 1) := by decide +kernel
theorem dX6_work_120 : decode cX6_work 120 = .ok (.invokevirtual 135, 3) := by decide +kernel
theorem dX6_work_123 : decode cX6_work 123 = .ok (.ireturn, 1) := by decide +kernel
theorem dX6_work_124 : decode cX6_work 124 = .ok (.iconst (-1), 1) := by decide +kernel
theorem dX6_work_125 : decode cX6_work 125 = .ok (.ireturn, 1) := by decide +kernel
theorem dX6_reader_0 : decode cX6_reader 0 = .ok (.aload_n 0, 1) := by decide +kernel
theorem dX6_reader_1 : decode cX6_reader 1 = .ok (.getfield 10, 3) := by decide +kernel
theorem dX6_reader_4 : decode cX6_reader 4 = .ok (.iload_n 1, 1) := by decide +kernel
theorem dX6_reader_5 : decode cX6_reader 5 = .ok (.invokevirtual 138, 3) := by decide +kernel
theorem dX6_reader_8 : decode cX6_reader 8 = .ok (.ifCond .ne 5, 3) := by decide +kernel
theorem dX6_reader_11 : decode cX6_reader 11 = .ok (.iconst (-1), 1) := by decide +kernel
theorem dX6_reader_12 : decode cX6_reader 12 = .ok (.ireturn, 1) := by decide +kernel
theorem dX6_reader_13 : decode cX6_reader 13 = .ok (.iload_n 2, 1) := by decide +kernel
theorem dX6_reader_14 : decode cX6_reader 14 = .ok (.iconst 0, 1) := by decide +kernel
theorem dX6_reader_15 : decode cX6_reader 15 = .ok (.iconst 1, 1) := by decide +kernel
theorem dX6_reader_16 : decode cX6_reader 16 = .ok (.invokestatic 57, 3) := by decide +kernel
theorem dX6_reader_19 : decode cX6_reader 19 = .ok (.ifCond .eq 13, 3) := by decide +kernel
theorem dX6_reader_22 : decode cX6_reader 22 = .ok (.aload_n 0, 1) := by decide +kernel
theorem dX6_reader_23 : decode cX6_reader 23 = .ok (.getfield 10, 3) := by decide +kernel
theorem dX6_reader_26 : decode cX6_reader 26 = .ok (.iload_n 1, 1) := by decide +kernel
theorem dX6_reader_27 : decode cX6_reader 27 = .ok (.iload_n 2, 1) := by decide +kernel
theorem dX6_reader_28 : decode cX6_reader 28 = .ok (.invokevirtual 141, 3) := by decide +kernel
theorem dX6_reader_31 : decode cX6_reader 31 = .ok (.ireturn, 1) := by decide +kernel
theorem dX6_reader_32 : decode cX6_reader 32 = .ok (.iload_n 2, 1) := by decide +kernel
theorem dX6_reader_33 : decode cX6_reader 33 = .ok (.iconst 2, 1) := by decide +kernel
theorem dX6_reader_34 : decode cX6_reader 34 = .ok (.iconst 3, 1) := by decide +kernel
theorem dX6_reader_35 : decode cX6_reader 35 = .ok (.invokestatic 57, 3) := by decide +kernel
theorem dX6_reader_38 : decode cX6_reader 38 = .ok (.ifCond .ne 5, 3) := by decide +kernel
theorem dX6_reader_41 : decode cX6_reader 41 = .ok (.iconst (-1), 1) := by decide +kernel
theorem dX6_reader_42 : decode cX6_reader 42 = .ok (.ireturn, 1) := by decide +kernel
theorem dX6_reader_43 : decode cX6_reader 43 = .ok (.aload_n 0, 1) := by decide +kernel
theorem dX6_reader_44 : decode cX6_reader 44 = .ok (.getfield 19, 3) := by decide +kernel
theorem dX6_reader_47 : decode cX6_reader 47 = .ok (.aload_n 0, 1) := by decide +kernel
theorem dX6_reader_48 : decode cX6_reader 48 = .ok (.getfield 10, 3) := by decide +kernel
theorem dX6_reader_51 : decode cX6_reader 51 = .ok (.invokevirtual 104, 3) := by decide +kernel
theorem dX6_reader_54 : decode cX6_reader 54 = .ok (.iload_n 2, 1) := by decide +kernel
theorem dX6_reader_55 : decode cX6_reader 55 = .ok (.iconst 2, 1) := by decide +kernel
theorem dX6_reader_56 : decode cX6_reader 56 = .ok (.if_icmp .ne 14, 3) := by decide +kernel
theorem dX6_reader_59 : decode cX6_reader 59 = .ok (.aload_n 0, 1) := by decide +kernel
theorem dX6_reader_60 : decode cX6_reader 60 = .ok (.getfield 19, 3) := by decide +kernel
theorem dX6_reader_63 : decode cX6_reader 63 = .ok (.iload_n 1, 1) := by decide +kernel
theorem dX6_reader_64 : decode cX6_reader 64 = .ok (.invokevirtual 144, 3) := by decide +kernel
theorem dX6_reader_67 : decode cX6_reader 67 = .ok (.goto 11, 3) := by decide +kernel
theorem dX6_reader_70 : decode cX6_reader 70 = .ok (.aload_n 0, 1) := by decide +kernel
theorem dX6_reader_71 : decode cX6_reader 71 = .ok (.getfield 19, 3) := by decide +kernel
theorem dX6_reader_74 : decode cX6_reader 74 = .ok (.iload_n 1, 1) := by decide +kernel
theorem dX6_reader_75 : decode cX6_reader 75 = .ok (.invokevirtual 147, 3) := by decide +kernel
theorem dX6_reader_78 : decode cX6_reader 78 = .ok (.ireturn, 1) := by decide +kernel
theorem dX6_reads_0 : decode cX6_reads 0 = .ok (.aload_n 0, 1) := by decide +kernel
theorem dX6_reads_1 : decode cX6_reads 1 = .ok (.getfield 10, 3) := by decide +kernel
theorem dX6_reads_4 : decode cX6_reads 4 = .ok (.iload_n 1, 1) := by decide +kernel
theorem dX6_reads_5 : decode cX6_reads 5 = .ok (.invokevirtual 138, 3) := by decide +kernel
theorem dX6_reads_8 : decode cX6_reads 8 = .ok (.ifCond .eq 14, 3) := by decide +kernel
theorem dX6_reads_11 : decode cX6_reads 11 = .ok (.aload_n 0, 1) := by decide +kernel
theorem dX6_reads_12 : decode cX6_reads 12 = .ok (.getfield 10, 3) := by decide +kernel
theorem dX6_reads_15 : decode cX6_reads 15 = .ok (.iload_n 2, 1) := by decide +kernel
theorem dX6_reads_16 : decode cX6_reads 16 = .ok (.invokevirtual 114, 3) := by decide +kernel
theorem dX6_reads_19 : decode cX6_reads 19 = .ok (.ifCond .ne 5, 3) := by decide +kernel
theorem dX6_reads_22 : decode cX6_reads 22 = .ok (.iconst (-1), 1) := by decide +kernel
theorem dX6_reads_23 : decode cX6_reads 23 = .ok (.ireturn, 1) := by decide +kernel
theorem dX6_reads_24 : decode cX6_reads 24 = .ok (.aload_n 0, 1) := by decide +kernel
theorem dX6_reads_25 : decode cX6_reads 25 = .ok (.getfield 19, 3) := by decide +kernel
theorem dX6_reads_28 : decode cX6_reads 28 = .ok (.aload_n 0, 1) := by decide +kernel
theorem dX6_reads_29 : decode cX6_reads 29 = .ok (.getfield 10, 3) := by decide +kernel
theorem dX6_reads_32 : decode cX6_reads 32 = .ok (.invokevirtual 104, 3) := by decide +kernel
theorem dX6_reads_35 : decode cX6_reads 35 = .ok (.aload_n 0, 1) := by decide +kernel
theorem dX6_reads_36 : decode cX6_reads 36 = .ok (.getfield 19, 3) := by decide +kernel
theorem dX6_reads_39 : decode cX6_reads 39 = .ok (.iload_n 1, 1) := by decide +kernel
theorem dX6_reads_40 : decode cX6_reads 40 = .ok (.iload_n 2, 1) := by decide +kernel
theorem dX6_reads_41 : decode cX6_reads 41 = .ok (.invokevirtual 150, 3) := by decide +kernel
theorem dX6_reads_44 : decode cX6_reads 44 = .ok (.ireturn, 1) := by decide +kernel
theorem dX6_looks_0 : decode cX6_looks 0 = .ok (.aload_n 0, 1) := by decide +kernel
theorem dX6_looks_1 : decode cX6_looks 1 = .ok (.getfield 10, 3) := by decide +kernel
theorem dX6_looks_4 : decode cX6_looks 4 = .ok (.iload_n 1, 1) := by decide +kernel
theorem dX6_looks_5 : decode cX6_looks 5 = .ok (.invokevirtual 138, 3) := by decide +kernel
theorem dX6_looks_8 : decode cX6_looks 8 = .ok (.ifCond .eq 13, 3) := by decide +kernel
theorem dX6_looks_11 : decode cX6_looks 11 = .ok (.iload_n 2, 1) := by decide +kernel
theorem dX6_looks_12 : decode cX6_looks 12 = .ok (.iconst 0, 1) := by decide +kernel
theorem dX6_looks_13 : decode cX6_looks 13 = .ok (.bipush 79, 2) := by decide +kernel
theorem dX6_looks_15 : decode cX6_looks 15 = .ok (.invokestatic 57, 3) := by decide +kernel
theorem dX6_looks_18 : decode cX6_looks 18 = .ok (.ifCond .ne 5, 3) := by decide +kernel
theorem dX6_looks_21 : decode cX6_looks 21 = .ok (.iconst (-1), 1) := by decide +kernel
theorem dX6_looks_22 : decode cX6_looks 22 = .ok (.ireturn, 1) := by decide +kernel
theorem dX6_looks_23 : decode cX6_looks 23 = .ok (.aload_n 0, 1) := by decide +kernel
theorem dX6_looks_24 : decode cX6_looks 24 = .ok (.getfield 19, 3) := by decide +kernel
theorem dX6_looks_27 : decode cX6_looks 27 = .ok (.aload_n 0, 1) := by decide +kernel
theorem dX6_looks_28 : decode cX6_looks 28 = .ok (.getfield 10, 3) := by decide +kernel
theorem dX6_looks_31 : decode cX6_looks 31 = .ok (.invokevirtual 104, 3) := by decide +kernel
theorem dX6_looks_34 : decode cX6_looks 34 = .ok (.aload_n 0, 1) := by decide +kernel
theorem dX6_looks_35 : decode cX6_looks 35 = .ok (.getfield 19, 3) := by decide +kernel
theorem dX6_looks_38 : decode cX6_looks 38 = .ok (.iload_n 1, 1) := by decide +kernel
theorem dX6_looks_39 : decode cX6_looks 39 = .ok (.iload_n 2, 1) := by decide +kernel
theorem dX6_looks_40 : decode cX6_looks 40 = .ok (.invokevirtual 153, 3) := by decide +kernel
theorem dX6_looks_43 : decode cX6_looks 43 = .ok (.ireturn, 1) := by decide +kernel
theorem dX6_sky_0 : decode cX6_sky 0 = .ok (.iload_n 1, 1) := by decide +kernel
theorem dX6_sky_1 : decode cX6_sky 1 = .ok (.iconst 0, 1) := by decide +kernel
theorem dX6_sky_2 : decode cX6_sky 2 = .ok (.bipush 79, 2) := by decide +kernel
theorem dX6_sky_4 : decode cX6_sky 4 = .ok (.invokestatic 57, 3) := by decide +kernel
theorem dX6_sky_7 : decode cX6_sky 7 = .ok (.ifCond .ne 5, 3) := by decide +kernel
theorem dX6_sky_10 : decode cX6_sky 10 = .ok (.iconst (-1), 1) := by decide +kernel
theorem dX6_sky_11 : decode cX6_sky 11 = .ok (.ireturn, 1) := by decide +kernel
theorem dX6_sky_12 : decode cX6_sky 12 = .ok (.aload_n 0, 1) := by decide +kernel
theorem dX6_sky_13 : decode cX6_sky 13 = .ok (.getfield 19, 3) := by decide +kernel
theorem dX6_sky_16 : decode cX6_sky 16 = .ok (.aload_n 0, 1) := by decide +kernel
theorem dX6_sky_17 : decode cX6_sky 17 = .ok (.getfield 10, 3) := by decide +kernel
theorem dX6_sky_20 : decode cX6_sky 20 = .ok (.invokevirtual 104, 3) := by decide +kernel
theorem dX6_sky_23 : decode cX6_sky 23 = .ok (.iconst 0, 1) := by decide +kernel
theorem dX6_sky_24 : decode cX6_sky 24 = .ok (.istore_n 2, 1) := by decide +kernel
theorem dX6_sky_25 : decode cX6_sky 25 = .ok (.iconst 0, 1) := by decide +kernel
theorem dX6_sky_26 : decode cX6_sky 26 = .ok (.istore_n 3, 1) := by decide +kernel
theorem dX6_sky_27 : decode cX6_sky 27 = .ok (.iload_n 3, 1) := by decide +kernel
theorem dX6_sky_28 : decode cX6_sky 28 = .ok (.aload_n 0, 1) := by decide +kernel
theorem dX6_sky_29 : decode cX6_sky 29 = .ok (.getfield 10, 3) := by decide +kernel
theorem dX6_sky_32 : decode cX6_sky 32 = .ok (.getfield 92, 3) := by decide +kernel
theorem dX6_sky_35 : decode cX6_sky 35 = .ok (.if_icmp .ge 27, 3) := by decide +kernel
theorem dX6_sky_38 : decode cX6_sky 38 = .ok (.aload_n 0, 1) := by decide +kernel
theorem dX6_sky_39 : decode cX6_sky 39 = .ok (.getfield 19, 3) := by decide +kernel
theorem dX6_sky_42 : decode cX6_sky 42 = .ok (.iload_n 3, 1) := by decide +kernel
theorem dX6_sky_43 : decode cX6_sky 43 = .ok (.iload_n 1, 1) := by decide +kernel
theorem dX6_sky_44 : decode cX6_sky 44 = .ok (.invokevirtual 156, 3) := by decide +kernel
theorem dX6_sky_47 : decode cX6_sky 47 = .ok (.ifCond .eq 9, 3) := by decide +kernel
theorem dX6_sky_50 : decode cX6_sky 50 = .ok (.iload_n 2, 1) := by decide +kernel
theorem dX6_sky_51 : decode cX6_sky 51 = .ok (.iconst 1, 1) := by decide +kernel
theorem dX6_sky_52 : decode cX6_sky 52 = .ok (.iload_n 3, 1) := by decide +kernel
theorem dX6_sky_53 : decode cX6_sky 53 = .ok (.ishl, 1) := by decide +kernel
theorem dX6_sky_54 : decode cX6_sky 54 = .ok (.ior, 1) := by decide +kernel
theorem dX6_sky_55 : decode cX6_sky 55 = .ok (.istore_n 2, 1) := by decide +kernel
theorem dX6_sky_56 : decode cX6_sky 56 = .ok (.iinc 3 1, 3) := by decide +kernel
theorem dX6_sky_59 : decode cX6_sky 59 = .ok (.goto (-32), 3) := by decide +kernel
theorem dX6_sky_62 : decode cX6_sky 62 = .ok (.iload_n 2, 1) := by decide +kernel
theorem dX6_sky_63 : decode cX6_sky 63 = .ok (.ireturn, 1) := by decide +kernel
theorem dX6_alter_0 : decode cX6_alter 0 = .ok (.aload_n 0, 1) := by decide +kernel
theorem dX6_alter_1 : decode cX6_alter 1 = .ok (.getfield 10, 3) := by decide +kernel
theorem dX6_alter_4 : decode cX6_alter 4 = .ok (.iload_n 1, 1) := by decide +kernel
theorem dX6_alter_5 : decode cX6_alter 5 = .ok (.invokevirtual 114, 3) := by decide +kernel
theorem dX6_alter_8 : decode cX6_alter 8 = .ok (.ifCond .eq 11, 3) := by decide +kernel
theorem dX6_alter_11 : decode cX6_alter 11 = .ok (.iload_n 2, 1) := by decide +kernel
theorem dX6_alter_12 : decode cX6_alter 12 = .ok (.iload_n 3, 1) := by decide +kernel
theorem dX6_alter_13 : decode cX6_alter 13 = .ok (.invokestatic 160, 3) := by decide +kernel
theorem dX6_alter_16 : decode cX6_alter 16 = .ok (.ifCond .ne 5, 3) := by decide +kernel
theorem dX6_alter_19 : decode cX6_alter 19 = .ok (.iconst (-1), 1) := by decide +kernel
theorem dX6_alter_20 : decode cX6_alter 20 = .ok (.ireturn, 1) := by decide +kernel
theorem dX6_alter_21 : decode cX6_alter 21 = .ok (.aload_n 0, 1) := by decide +kernel
theorem dX6_alter_22 : decode cX6_alter 22 = .ok (.getfield 10, 3) := by decide +kernel
theorem dX6_alter_25 : decode cX6_alter 25 = .ok (.iload_n 1, 1) := by decide +kernel
theorem dX6_alter_26 : decode cX6_alter 26 = .ok (.iload_n 2, 1) := by decide +kernel
theorem dX6_alter_27 : decode cX6_alter 27 = .ok (.invokevirtual 118, 3) := by decide +kernel
theorem dX6_alter_30 : decode cX6_alter 30 = .ok (.istore 4, 2) := by decide +kernel
theorem dX6_alter_32 : decode cX6_alter 32 = .ok (.aload_n 0, 1) := by decide +kernel
theorem dX6_alter_33 : decode cX6_alter 33 = .ok (.getfield 10, 3) := by decide +kernel
theorem dX6_alter_36 : decode cX6_alter 36 = .ok (.iload_n 1, 1) := by decide +kernel
theorem dX6_alter_37 : decode cX6_alter 37 = .ok (.iload_n 2, 1) := by decide +kernel
theorem dX6_alter_38 : decode cX6_alter 38 = .ok (.iload_n 3, 1) := by decide +kernel
theorem dX6_alter_39 : decode cX6_alter 39 = .ok (.invokevirtual 163, 3) := by decide +kernel
theorem dX6_alter_42 : decode cX6_alter 42 = .ok (.iload 4, 2) := by decide +kernel
theorem dX6_alter_44 : decode cX6_alter 44 = .ok (.ireturn, 1) := by decide +kernel
theorem dX6_move_0 : decode cX6_move 0 = .ok (.aload_n 0, 1) := by decide +kernel
theorem dX6_move_1 : decode cX6_move 1 = .ok (.getfield 10, 3) := by decide +kernel
theorem dX6_move_4 : decode cX6_move 4 = .ok (.iload_n 1, 1) := by decide +kernel
theorem dX6_move_5 : decode cX6_move 5 = .ok (.invokevirtual 138, 3) := by decide +kernel
theorem dX6_move_8 : decode cX6_move 8 = .ok (.ifCond .eq 11, 3) := by decide +kernel
theorem dX6_move_11 : decode cX6_move 11 = .ok (.iload_n 2, 1) := by decide +kernel
theorem dX6_move_12 : decode cX6_move 12 = .ok (.iload_n 3, 1) := by decide +kernel
theorem dX6_move_13 : decode cX6_move 13 = .ok (.invokestatic 167, 3) := by decide +kernel
theorem dX6_move_16 : decode cX6_move 16 = .ok (.ifCond .ne 5, 3) := by decide +kernel
theorem dX6_move_19 : decode cX6_move 19 = .ok (.iconst (-1), 1) := by decide +kernel
theorem dX6_move_20 : decode cX6_move 20 = .ok (.ireturn, 1) := by decide +kernel
theorem dX6_move_21 : decode cX6_move 21 = .ok (.aload_n 0, 1) := by decide +kernel
theorem dX6_move_22 : decode cX6_move 22 = .ok (.getfield 10, 3) := by decide +kernel
theorem dX6_move_25 : decode cX6_move 25 = .ok (.iload_n 1, 1) := by decide +kernel
theorem dX6_move_26 : decode cX6_move 26 = .ok (.iload_n 2, 1) := by decide +kernel
theorem dX6_move_27 : decode cX6_move 27 = .ok (.invokevirtual 141, 3) := by decide +kernel
theorem dX6_move_30 : decode cX6_move 30 = .ok (.istore 4, 2) := by decide +kernel
theorem dX6_move_32 : decode cX6_move 32 = .ok (.aload_n 0, 1) := by decide +kernel
theorem dX6_move_33 : decode cX6_move 33 = .ok (.getfield 10, 3) := by decide +kernel
theorem dX6_move_36 : decode cX6_move 36 = .ok (.iload_n 1, 1) := by decide +kernel
theorem dX6_move_37 : decode cX6_move 37 = .ok (.iload_n 2, 1) := by decide +kernel
theorem dX6_move_38 : decode cX6_move 38 = .ok (.iload_n 3, 1) := by decide +kernel
theorem dX6_move_39 : decode cX6_move 39 = .ok (.invokevirtual 170, 3) := by decide +kernel
theorem dX6_move_42 : decode cX6_move 42 = .ok (.iload 4, 2) := by decide +kernel
theorem dX6_move_44 : decode cX6_move 44 = .ok (.ireturn, 1) := by decide +kernel
theorem dX6_blow_0 : decode cX6_blow 0 = .ok (.iload_n 1, 1) := by decide +kernel
theorem dX6_blow_1 : decode cX6_blow 1 = .ok (.iconst 0, 1) := by decide +kernel
theorem dX6_blow_2 : decode cX6_blow 2 = .ok (.bipush 8, 2) := by decide +kernel
theorem dX6_blow_4 : decode cX6_blow 4 = .ok (.invokestatic 57, 3) := by decide +kernel
theorem dX6_blow_7 : decode cX6_blow 7 = .ok (.ifCond .ne 5, 3) := by decide +kernel
theorem dX6_blow_10 : decode cX6_blow 10 = .ok (.iconst (-1), 1) := by decide +kernel
theorem dX6_blow_11 : decode cX6_blow 11 = .ok (.ireturn, 1) := by decide +kernel
theorem dX6_blow_12 : decode cX6_blow 12 = .ok (.aload_n 0, 1) := by decide +kernel
theorem dX6_blow_13 : decode cX6_blow 13 = .ok (.getfield 10, 3) := by decide +kernel
theorem dX6_blow_16 : decode cX6_blow 16 = .ok (.getfield 98, 3) := by decide +kernel
theorem dX6_blow_19 : decode cX6_blow 19 = .ok (.istore_n 2, 1) := by decide +kernel
theorem dX6_blow_20 : decode cX6_blow 20 = .ok (.aload_n 0, 1) := by decide +kernel
theorem dX6_blow_21 : decode cX6_blow 21 = .ok (.getfield 10, 3) := by decide +kernel
theorem dX6_blow_24 : decode cX6_blow 24 = .ok (.iload_n 1, 1) := by decide +kernel
theorem dX6_blow_25 : decode cX6_blow 25 = .ok (.putfield 98, 3) := by decide +kernel
theorem dX6_blow_28 : decode cX6_blow 28 = .ok (.iload_n 2, 1) := by decide +kernel
theorem dX6_blow_29 : decode cX6_blow 29 = .ok (.ireturn, 1) := by decide +kernel
theorem dX6_damp_0 : decode cX6_damp 0 = .ok (.iload_n 1, 1) := by decide +kernel
theorem dX6_damp_1 : decode cX6_damp 1 = .ok (.iconst 0, 1) := by decide +kernel
theorem dX6_damp_2 : decode cX6_damp 2 = .ok (.bipush 9, 2) := by decide +kernel
theorem dX6_damp_4 : decode cX6_damp 4 = .ok (.invokestatic 57, 3) := by decide +kernel
theorem dX6_damp_7 : decode cX6_damp 7 = .ok (.ifCond .ne 5, 3) := by decide +kernel
theorem dX6_damp_10 : decode cX6_damp 10 = .ok (.iconst (-1), 1) := by decide +kernel
theorem dX6_damp_11 : decode cX6_damp 11 = .ok (.ireturn, 1) := by decide +kernel
theorem dX6_damp_12 : decode cX6_damp 12 = .ok (.aload_n 0, 1) := by decide +kernel
theorem dX6_damp_13 : decode cX6_damp 13 = .ok (.getfield 10, 3) := by decide +kernel
theorem dX6_damp_16 : decode cX6_damp 16 = .ok (.getfield 101, 3) := by decide +kernel
theorem dX6_damp_19 : decode cX6_damp 19 = .ok (.istore_n 2, 1) := by decide +kernel
theorem dX6_damp_20 : decode cX6_damp 20 = .ok (.aload_n 0, 1) := by decide +kernel
theorem dX6_damp_21 : decode cX6_damp 21 = .ok (.getfield 10, 3) := by decide +kernel
theorem dX6_damp_24 : decode cX6_damp 24 = .ok (.iload_n 1, 1) := by decide +kernel
theorem dX6_damp_25 : decode cX6_damp 25 = .ok (.putfield 101, 3) := by decide +kernel
theorem dX6_damp_28 : decode cX6_damp 28 = .ok (.iload_n 2, 1) := by decide +kernel
theorem dX6_damp_29 : decode cX6_damp 29 = .ok (.ireturn, 1) := by decide +kernel
theorem dX6_write_0 : decode cX6_write 0 = .ok (.aload_n 0, 1) := by decide +kernel
theorem dX6_write_1 : decode cX6_write 1 = .ok (.getfield 10, 3) := by decide +kernel
theorem dX6_write_4 : decode cX6_write 4 = .ok (.iload_n 1, 1) := by decide +kernel
theorem dX6_write_5 : decode cX6_write 5 = .ok (.iload_n 2, 1) := by decide +kernel
theorem dX6_write_6 : decode cX6_write 6 = .ok (.iload_n 3, 1) := by decide +kernel
theorem dX6_write_7 : decode cX6_write 7 = .ok (.iload 4, 2) := by decide +kernel
theorem dX6_write_9 : decode cX6_write 9 = .ok (.invokevirtual 173, 3) := by decide +kernel
theorem dX6_write_12 : decode cX6_write 12 = .ok (.ireturn, 1) := by decide +kernel
theorem dX6_come_0 : decode cX6_come 0 = .ok (.aload_n 0, 1) := by decide +kernel
theorem dX6_come_1 : decode cX6_come 1 = .ok (.getfield 10, 3) := by decide +kernel
theorem dX6_come_4 : decode cX6_come 4 = .ok (.iload_n 1, 1) := by decide +kernel
theorem dX6_come_5 : decode cX6_come 5 = .ok (.iload_n 2, 1) := by decide +kernel
theorem dX6_come_6 : decode cX6_come 6 = .ok (.invokevirtual 177, 3) := by decide +kernel
theorem dX6_come_9 : decode cX6_come 9 = .ok (.ireturn, 1) := by decide +kernel
theorem dX6_burn_0 : decode cX6_burn 0 = .ok (.iload_n 1, 1) := by decide +kernel
theorem dX6_burn_1 : decode cX6_burn 1 = .ok (.iconst 0, 1) := by decide +kernel
theorem dX6_burn_2 : decode cX6_burn 2 = .ok (.aload_n 0, 1) := by decide +kernel
theorem dX6_burn_3 : decode cX6_burn 3 = .ok (.getfield 10, 3) := by decide +kernel
theorem dX6_burn_6 : decode cX6_burn 6 = .ok (.getfield 92, 3) := by decide +kernel
theorem dX6_burn_9 : decode cX6_burn 9 = .ok (.invokestatic 57, 3) := by decide +kernel
theorem dX6_burn_12 : decode cX6_burn 12 = .ok (.ifCond .ne 5, 3) := by decide +kernel
theorem dX6_burn_15 : decode cX6_burn 15 = .ok (.iconst (-1), 1) := by decide +kernel
theorem dX6_burn_16 : decode cX6_burn 16 = .ok (.ireturn, 1) := by decide +kernel
theorem dX6_burn_17 : decode cX6_burn 17 = .ok (.aload_n 0, 1) := by decide +kernel
theorem dX6_burn_18 : decode cX6_burn 18 = .ok (.getfield 10, 3) := by decide +kernel
theorem dX6_burn_21 : decode cX6_burn 21 = .ok (.getfield 92, 3) := by decide +kernel
theorem dX6_burn_24 : decode cX6_burn 24 = .ok (.istore_n 2, 1) := by decide +kernel
theorem dX6_burn_25 : decode cX6_burn 25 = .ok (.aload_n 0, 1) := by decide +kernel
theorem dX6_burn_26 : decode cX6_burn 26 = .ok (.getfield 10, 3) := by decide +kernel
theorem dX6_burn_29 : decode cX6_burn 29 = .ok (.iload_n 1, 1) := by decide +kernel
theorem dX6_burn_30 : decode cX6_burn 30 = .ok (.putfield 92, 3) := by decide +kernel
theorem dX6_burn_33 : decode cX6_burn 33 = .ok (.iload_n 2, 1) := by decide +kernel
theorem dX6_burn_34 : decode cX6_burn 34 = .ok (.ireturn, 1) := by decide +kernel
theorem dX6_leave_0 : decode cX6_leave 0 = .ok (.iload_n 1, 1) := by decide +kernel
theorem dX6_leave_1 : decode cX6_leave 1 = .ok (.iconst 0, 1) := by decide +kernel
theorem dX6_leave_2 : decode cX6_leave 2 = .ok (.aload_n 0, 1) := by decide +kernel
theorem dX6_leave_3 : decode cX6_leave 3 = .ok (.getfield 10, 3) := by decide +kernel
theorem dX6_leave_6 : decode cX6_leave 6 = .ok (.getfield 95, 3) := by decide +kernel
theorem dX6_leave_9 : decode cX6_leave 9 = .ok (.invokestatic 57, 3) := by decide +kernel
theorem dX6_leave_12 : decode cX6_leave 12 = .ok (.ifCond .ne 5, 3) := by decide +kernel
theorem dX6_leave_15 : decode cX6_leave 15 = .ok (.iconst (-1), 1) := by decide +kernel
theorem dX6_leave_16 : decode cX6_leave 16 = .ok (.ireturn, 1) := by decide +kernel
theorem dX6_leave_17 : decode cX6_leave 17 = .ok (.aload_n 0, 1) := by decide +kernel
theorem dX6_leave_18 : decode cX6_leave 18 = .ok (.getfield 10, 3) := by decide +kernel
theorem dX6_leave_21 : decode cX6_leave 21 = .ok (.getfield 95, 3) := by decide +kernel
theorem dX6_leave_24 : decode cX6_leave 24 = .ok (.istore_n 2, 1) := by decide +kernel
theorem dX6_leave_25 : decode cX6_leave 25 = .ok (.aload_n 0, 1) := by decide +kernel
theorem dX6_leave_26 : decode cX6_leave 26 = .ok (.getfield 10, 3) := by decide +kernel
theorem dX6_leave_29 : decode cX6_leave 29 = .ok (.iload_n 1, 1) := by decide +kernel
theorem dX6_leave_30 : decode cX6_leave 30 = .ok (.putfield 95, 3) := by decide +kernel
theorem dX6_leave_33 : decode cX6_leave 33 = .ok (.iload_n 2, 1) := by decide +kernel
theorem dX6_leave_34 : decode cX6_leave 34 = .ok (.ireturn, 1) := by decide +kernel
theorem dX6_first_0 : decode cX6_first 0 = .ok (.aload_n 0, 1) := by decide +kernel
theorem dX6_first_1 : decode cX6_first 1 = .ok (.getfield 10, 3) := by decide +kernel
theorem dX6_first_4 : decode cX6_first 4 = .ok (.iload_n 1, 1) := by decide +kernel
theorem dX6_first_5 : decode cX6_first 5 = .ok (.invokevirtual 138, 3) := by decide +kernel
theorem dX6_first_8 : decode cX6_first 8 = .ok (.ifCond .ne 5, 3) := by decide +kernel
theorem dX6_first_11 : decode cX6_first 11 = .ok (.iconst (-1), 1) := by decide +kernel
theorem dX6_first_12 : decode cX6_first 12 = .ok (.ireturn, 1) := by decide +kernel
theorem dX6_first_13 : decode cX6_first 13 = .ok (.aload_n 0, 1) := by decide +kernel
theorem dX6_first_14 : decode cX6_first 14 = .ok (.getfield 19, 3) := by decide +kernel
theorem dX6_first_17 : decode cX6_first 17 = .ok (.aload_n 0, 1) := by decide +kernel
theorem dX6_first_18 : decode cX6_first 18 = .ok (.getfield 10, 3) := by decide +kernel
theorem dX6_first_21 : decode cX6_first 21 = .ok (.invokevirtual 104, 3) := by decide +kernel
theorem dX6_first_24 : decode cX6_first 24 = .ok (.iconst 0, 1) := by decide +kernel
theorem dX6_first_25 : decode cX6_first 25 = .ok (.istore_n 2, 1) := by decide +kernel
theorem dX6_first_26 : decode cX6_first 26 = .ok (.iload_n 2, 1) := by decide +kernel
theorem dX6_first_27 : decode cX6_first 27 = .ok (.bipush 80, 2) := by decide +kernel
theorem dX6_first_29 : decode cX6_first 29 = .ok (.if_icmp .ge 23, 3) := by decide +kernel
theorem dX6_first_32 : decode cX6_first 32 = .ok (.aload_n 0, 1) := by decide +kernel
theorem dX6_first_33 : decode cX6_first 33 = .ok (.getfield 19, 3) := by decide +kernel
theorem dX6_first_36 : decode cX6_first 36 = .ok (.iload_n 1, 1) := by decide +kernel
theorem dX6_first_37 : decode cX6_first 37 = .ok (.iload_n 2, 1) := by decide +kernel
theorem dX6_first_38 : decode cX6_first 38 = .ok (.invokevirtual 153, 3) := by decide +kernel
theorem dX6_first_41 : decode cX6_first 41 = .ok (.ifCond .lt 5, 3) := by decide +kernel
theorem dX6_first_44 : decode cX6_first 44 = .ok (.iload_n 2, 1) := by decide +kernel
theorem dX6_first_45 : decode cX6_first 45 = .ok (.ireturn, 1) := by decide +kernel
theorem dX6_first_46 : decode cX6_first 46 = .ok (.iinc 2 1, 3) := by decide +kernel
theorem dX6_first_49 : decode cX6_first 49 = .ok (.goto (-23), 3) := by decide +kernel
theorem dX6_first_52 : decode cX6_first 52 = .ok (.bipush (-4), 2) := by decide +kernel
theorem dX6_first_54 : decode cX6_first 54 = .ok (.ireturn, 1) := by decide +kernel
theorem dX6_dark_0 : decode cX6_dark 0 = .ok (.aload_n 0, 1) := by decide +kernel
theorem dX6_dark_1 : decode cX6_dark 1 = .ok (.getfield 19, 3) := by decide +kernel
theorem dX6_dark_4 : decode cX6_dark 4 = .ok (.aload_n 0, 1) := by decide +kernel
theorem dX6_dark_5 : decode cX6_dark 5 = .ok (.getfield 10, 3) := by decide +kernel
theorem dX6_dark_8 : decode cX6_dark 8 = .ok (.invokevirtual 104, 3) := by decide +kernel
theorem dX6_dark_11 : decode cX6_dark 11 = .ok (.iconst 0, 1) := by decide +kernel
theorem dX6_dark_12 : decode cX6_dark 12 = .ok (.istore_n 1, 1) := by decide +kernel
theorem dX6_dark_13 : decode cX6_dark 13 = .ok (.iconst 0, 1) := by decide +kernel
theorem dX6_dark_14 : decode cX6_dark 14 = .ok (.istore_n 2, 1) := by decide +kernel
theorem dX6_dark_15 : decode cX6_dark 15 = .ok (.iload_n 2, 1) := by decide +kernel
theorem dX6_dark_16 : decode cX6_dark 16 = .ok (.bipush 80, 2) := by decide +kernel
theorem dX6_dark_18 : decode cX6_dark 18 = .ok (.if_icmp .ge 23, 3) := by decide +kernel
theorem dX6_dark_21 : decode cX6_dark 21 = .ok (.aload_n 0, 1) := by decide +kernel
theorem dX6_dark_22 : decode cX6_dark 22 = .ok (.getfield 19, 3) := by decide +kernel
theorem dX6_dark_25 : decode cX6_dark 25 = .ok (.iload_n 2, 1) := by decide +kernel
theorem dX6_dark_26 : decode cX6_dark 26 = .ok (.invokevirtual 180, 3) := by decide +kernel
theorem dX6_dark_29 : decode cX6_dark 29 = .ok (.ifCond .ne 6, 3) := by decide +kernel
theorem dX6_dark_32 : decode cX6_dark 32 = .ok (.iinc 1 1, 3) := by decide +kernel
theorem dX6_dark_35 : decode cX6_dark 35 = .ok (.iinc 2 1, 3) := by decide +kernel
theorem dX6_dark_38 : decode cX6_dark 38 = .ok (.goto (-23), 3) := by decide +kernel
theorem dX6_dark_41 : decode cX6_dark 41 = .ok (.iload_n 1, 1) := by decide +kernel
theorem dX6_dark_42 : decode cX6_dark 42 = .ok (.ireturn, 1) := by decide +kernel
theorem dX6_peak_0 : decode cX6_peak 0 = .ok (.aload_n 0, 1) := by decide +kernel
theorem dX6_peak_1 : decode cX6_peak 1 = .ok (.getfield 10, 3) := by decide +kernel
theorem dX6_peak_4 : decode cX6_peak 4 = .ok (.iload_n 1, 1) := by decide +kernel
theorem dX6_peak_5 : decode cX6_peak 5 = .ok (.invokevirtual 114, 3) := by decide +kernel
theorem dX6_peak_8 : decode cX6_peak 8 = .ok (.ifCond .eq 12, 3) := by decide +kernel
theorem dX6_peak_11 : decode cX6_peak 11 = .ok (.iload_n 2, 1) := by decide +kernel
theorem dX6_peak_12 : decode cX6_peak 12 = .ok (.iconst 0, 1) := by decide +kernel
theorem dX6_peak_13 : decode cX6_peak 13 = .ok (.iconst 1, 1) := by decide +kernel
theorem dX6_peak_14 : decode cX6_peak 14 = .ok (.invokestatic 57, 3) := by decide +kernel
theorem dX6_peak_17 : decode cX6_peak 17 = .ok (.ifCond .ne 5, 3) := by decide +kernel
theorem dX6_peak_20 : decode cX6_peak 20 = .ok (.iconst (-1), 1) := by decide +kernel
theorem dX6_peak_21 : decode cX6_peak 21 = .ok (.ireturn, 1) := by decide +kernel
theorem dX6_peak_22 : decode cX6_peak 22 = .ok (.aload_n 0, 1) := by decide +kernel
theorem dX6_peak_23 : decode cX6_peak 23 = .ok (.getfield 19, 3) := by decide +kernel
theorem dX6_peak_26 : decode cX6_peak 26 = .ok (.aload_n 0, 1) := by decide +kernel
theorem dX6_peak_27 : decode cX6_peak 27 = .ok (.getfield 10, 3) := by decide +kernel
theorem dX6_peak_30 : decode cX6_peak 30 = .ok (.invokevirtual 104, 3) := by decide +kernel
theorem dX6_peak_33 : decode cX6_peak 33 = .ok (.aload_n 0, 1) := by decide +kernel
theorem dX6_peak_34 : decode cX6_peak 34 = .ok (.getfield 26, 3) := by decide +kernel
theorem dX6_peak_37 : decode cX6_peak 37 = .ok (.iconst 0, 1) := by decide +kernel
theorem dX6_peak_38 : decode cX6_peak 38 = .ok (.invokevirtual 183, 3) := by decide +kernel
theorem dX6_peak_41 : decode cX6_peak 41 = .ok (.iconst 0, 1) := by decide +kernel
theorem dX6_peak_42 : decode cX6_peak 42 = .ok (.istore_n 3, 1) := by decide +kernel
theorem dX6_peak_43 : decode cX6_peak 43 = .ok (.iload_n 3, 1) := by decide +kernel
theorem dX6_peak_44 : decode cX6_peak 44 = .ok (.bipush 80, 2) := by decide +kernel
theorem dX6_peak_46 : decode cX6_peak 46 = .ok (.if_icmp .ge 26, 3) := by decide +kernel
theorem dX6_peak_49 : decode cX6_peak 49 = .ok (.aload_n 0, 1) := by decide +kernel
theorem dX6_peak_50 : decode cX6_peak 50 = .ok (.getfield 26, 3) := by decide +kernel
theorem dX6_peak_53 : decode cX6_peak 53 = .ok (.iload_n 3, 1) := by decide +kernel
theorem dX6_peak_54 : decode cX6_peak 54 = .ok (.aload_n 0, 1) := by decide +kernel
theorem dX6_peak_55 : decode cX6_peak 55 = .ok (.getfield 19, 3) := by decide +kernel
theorem dX6_peak_58 : decode cX6_peak 58 = .ok (.iload_n 1, 1) := by decide +kernel
theorem dX6_peak_59 : decode cX6_peak 59 = .ok (.iload_n 3, 1) := by decide +kernel
theorem dX6_peak_60 : decode cX6_peak 60 = .ok (.invokevirtual 187, 3) := by decide +kernel
theorem dX6_peak_63 : decode cX6_peak 63 = .ok (.invokevirtual 190, 3) := by decide +kernel
theorem dX6_peak_66 : decode cX6_peak 66 = .ok (.iinc 3 1, 3) := by decide +kernel
theorem dX6_peak_69 : decode cX6_peak 69 = .ok (.goto (-26), 3) := by decide +kernel
theorem dX6_peak_72 : decode cX6_peak 72 = .ok (.aload_n 0, 1) := by decide +kernel
theorem dX6_peak_73 : decode cX6_peak 73 = .ok (.getfield 26, 3) := by decide +kernel
theorem dX6_peak_76 : decode cX6_peak 76 = .ok (.iload_n 2, 1) := by decide +kernel
theorem dX6_peak_77 : decode cX6_peak 77 = .ok (.invokevirtual 194, 3) := by decide +kernel
theorem dX6_peak_80 : decode cX6_peak 80 = .ok (.ireturn, 1) := by decide +kernel
theorem dX6_when_0 : decode cX6_when 0 = .ok (.aload_n 0, 1) := by decide +kernel
theorem dX6_when_1 : decode cX6_when 1 = .ok (.getfield 10, 3) := by decide +kernel
theorem dX6_when_4 : decode cX6_when 4 = .ok (.iload_n 1, 1) := by decide +kernel
theorem dX6_when_5 : decode cX6_when 5 = .ok (.invokevirtual 114, 3) := by decide +kernel
theorem dX6_when_8 : decode cX6_when 8 = .ok (.ifCond .eq 12, 3) := by decide +kernel
theorem dX6_when_11 : decode cX6_when 11 = .ok (.iload_n 2, 1) := by decide +kernel
theorem dX6_when_12 : decode cX6_when 12 = .ok (.iconst 0, 1) := by decide +kernel
theorem dX6_when_13 : decode cX6_when 13 = .ok (.iconst 1, 1) := by decide +kernel
theorem dX6_when_14 : decode cX6_when 14 = .ok (.invokestatic 57, 3) := by decide +kernel
theorem dX6_when_17 : decode cX6_when 17 = .ok (.ifCond .ne 5, 3) := by decide +kernel
theorem dX6_when_20 : decode cX6_when 20 = .ok (.iconst (-1), 1) := by decide +kernel
theorem dX6_when_21 : decode cX6_when 21 = .ok (.ireturn, 1) := by decide +kernel
theorem dX6_when_22 : decode cX6_when 22 = .ok (.aload_n 0, 1) := by decide +kernel
theorem dX6_when_23 : decode cX6_when 23 = .ok (.getfield 19, 3) := by decide +kernel
theorem dX6_when_26 : decode cX6_when 26 = .ok (.aload_n 0, 1) := by decide +kernel
theorem dX6_when_27 : decode cX6_when 27 = .ok (.getfield 10, 3) := by decide +kernel
theorem dX6_when_30 : decode cX6_when 30 = .ok (.invokevirtual 104, 3) := by decide +kernel
theorem dX6_when_33 : decode cX6_when 33 = .ok (.aload_n 0, 1) := by decide +kernel
theorem dX6_when_34 : decode cX6_when 34 = .ok (.getfield 26, 3) := by decide +kernel
theorem dX6_when_37 : decode cX6_when 37 = .ok (.iconst (-1), 1) := by decide +kernel
theorem dX6_when_38 : decode cX6_when 38 = .ok (.invokevirtual 183, 3) := by decide +kernel
theorem dX6_when_41 : decode cX6_when 41 = .ok (.iconst 0, 1) := by decide +kernel
theorem dX6_when_42 : decode cX6_when 42 = .ok (.istore_n 3, 1) := by decide +kernel
theorem dX6_when_43 : decode cX6_when 43 = .ok (.iload_n 3, 1) := by decide +kernel
theorem dX6_when_44 : decode cX6_when 44 = .ok (.getstatic 197, 3) := by decide +kernel
theorem dX6_when_47 : decode cX6_when 47 = .ok (.iconst 2, 1) := by decide +kernel
theorem dX6_when_48 : decode cX6_when 48 = .ok (.iaload, 1) := by decide +kernel
theorem dX6_when_49 : decode cX6_when 49 = .ok (.if_icmp .gt 48, 3) := by decide +kernel
theorem dX6_when_52 : decode cX6_when 52 = .ok (.aload_n 0, 1) := by decide +kernel
theorem dX6_when_53 : decode cX6_when 53 = .ok (.getfield 19, 3) := by decide +kernel
theorem dX6_when_56 : decode cX6_when 56 = .ok (.getfield 69, 3) := by decide +kernel
theorem dX6_when_59 : decode cX6_when 59 = .ok (.iload_n 1, 1) := by decide +kernel
theorem dX6_when_60 : decode cX6_when 60 = .ok (.iconst 2, 1) := by decide +kernel
theorem dX6_when_61 : decode cX6_when 61 = .ok (.iload_n 3, 1) := by decide +kernel
theorem dX6_when_62 : decode cX6_when 62 = .ok (.invokevirtual 163, 3) := by decide +kernel
theorem dX6_when_65 : decode cX6_when 65 = .ok (.aload_n 0, 1) := by decide +kernel
theorem dX6_when_66 : decode cX6_when 66 = .ok (.getfield 19, 3) := by decide +kernel
theorem dX6_when_69 : decode cX6_when 69 = .ok (.invokevirtual 201, 3) := by decide +kernel
theorem dX6_when_72 : decode cX6_when 72 = .ok (.aload_n 0, 1) := by decide +kernel
theorem dX6_when_73 : decode cX6_when 73 = .ok (.getfield 26, 3) := by decide +kernel
theorem dX6_when_76 : decode cX6_when 76 = .ok (.iload_n 3, 1) := by decide +kernel
theorem dX6_when_77 : decode cX6_when 77 = .ok (.aload_n 0, 1) := by decide +kernel
theorem dX6_when_78 : decode cX6_when 78 = .ok (.getfield 19, 3) := by decide +kernel
theorem dX6_when_81 : decode cX6_when 81 = .ok (.iload_n 1, 1) := by decide +kernel
theorem dX6_when_82 : decode cX6_when 82 = .ok (.invokevirtual 135, 3) := by decide +kernel
theorem dX6_when_85 : decode cX6_when 85 = .ok (.invokestatic 204, 3) := by decide +kernel
theorem dX6_when_88 : decode cX6_when 88 = .ok (.invokevirtual 190, 3) := by decide +kernel
theorem dX6_when_91 : decode cX6_when 91 = .ok (.iinc 3 1, 3) := by decide +kernel
theorem dX6_when_94 : decode cX6_when 94 = .ok (.goto (-51), 3) := by decide +kernel
theorem dX6_when_97 : decode cX6_when 97 = .ok (.aload_n 0, 1) := by decide +kernel
theorem dX6_when_98 : decode cX6_when 98 = .ok (.getfield 26, 3) := by decide +kernel
theorem dX6_when_101 : decode cX6_when 101 = .ok (.iload_n 2, 1) := by decide +kernel
theorem dX6_when_102 : decode cX6_when 102 = .ok (.invokevirtual 194, 3) := by decide +kernel
theorem dX6_when_105 : decode cX6_when 105 = .ok (.ireturn, 1) := by decide +kernel
end
section
theorem dX6_stand_0 : decode cX6_stand 0 = .ok (.aload_n 0, 1) := by decide +kernel
theorem dX6_stand_1 : decode cX6_stand 1 = .ok (.getfield 10, 3) := by decide +kernel
theorem dX6_stand_4 : decode cX6_stand 4 = .ok (.iload_n 1, 1) := by decide +kernel
theorem dX6_stand_5 : decode cX6_stand 5 = .ok (.invokevirtual 138, 3) := by decide +kernel
theorem dX6_stand_8 : decode cX6_stand 8 = .ok (.ifCond .eq 12, 3) := by decide +kernel
theorem dX6_stand_11 : decode cX6_stand 11 = .ok (.iload_n 2, 1) := by decide +kernel
theorem dX6_stand_12 : decode cX6_stand 12 = .ok (.iconst 0, 1) := by decide +kernel
theorem dX6_stand_13 : decode cX6_stand 13 = .ok (.iconst 1, 1) := by decide +kernel
theorem dX6_stand_14 : decode cX6_stand 14 = .ok (.invokestatic 57, 3) := by decide +kernel
theorem dX6_stand_17 : decode cX6_stand 17 = .ok (.ifCond .ne 5, 3) := by decide +kernel
theorem dX6_stand_20 : decode cX6_stand 20 = .ok (.iconst (-1), 1) := by decide +kernel
theorem dX6_stand_21 : decode cX6_stand 21 = .ok (.ireturn, 1) := by decide +kernel
theorem dX6_stand_22 : decode cX6_stand 22 = .ok (.aload_n 0, 1) := by decide +kernel
theorem dX6_stand_23 : decode cX6_stand 23 = .ok (.getfield 19, 3) := by decide +kernel
theorem dX6_stand_26 : decode cX6_stand 26 = .ok (.aload_n 0, 1) := by decide +kernel
theorem dX6_stand_27 : decode cX6_stand 27 = .ok (.getfield 10, 3) := by decide +kernel
theorem dX6_stand_30 : decode cX6_stand 30 = .ok (.invokevirtual 104, 3) := by decide +kernel
theorem dX6_stand_33 : decode cX6_stand 33 = .ok (.aload_n 0, 1) := by decide +kernel
theorem dX6_stand_34 : decode cX6_stand 34 = .ok (.getfield 26, 3) := by decide +kernel
theorem dX6_stand_37 : decode cX6_stand 37 = .ok (.iconst (-1), 1) := by decide +kernel
theorem dX6_stand_38 : decode cX6_stand 38 = .ok (.invokevirtual 183, 3) := by decide +kernel
theorem dX6_stand_41 : decode cX6_stand 41 = .ok (.iconst 0, 1) := by decide +kernel
theorem dX6_stand_42 : decode cX6_stand 42 = .ok (.istore_n 3, 1) := by decide +kernel
theorem dX6_stand_43 : decode cX6_stand 43 = .ok (.iload_n 3, 1) := by decide +kernel
theorem dX6_stand_44 : decode cX6_stand 44 = .ok (.bipush 12, 2) := by decide +kernel
theorem dX6_stand_46 : decode cX6_stand 46 = .ok (.if_icmp .ge 38, 3) := by decide +kernel
theorem dX6_stand_49 : decode cX6_stand 49 = .ok (.aload_n 0, 1) := by decide +kernel
theorem dX6_stand_50 : decode cX6_stand 50 = .ok (.getfield 19, 3) := by decide +kernel
theorem dX6_stand_53 : decode cX6_stand 53 = .ok (.getfield 69, 3) := by decide +kernel
theorem dX6_stand_56 : decode cX6_stand 56 = .ok (.iload_n 1, 1) := by decide +kernel
theorem dX6_stand_57 : decode cX6_stand 57 = .ok (.iconst 0, 1) := by decide +kernel
theorem dX6_stand_58 : decode cX6_stand 58 = .ok (.iload_n 3, 1) := by decide +kernel
theorem dX6_stand_59 : decode cX6_stand 59 = .ok (.invokevirtual 170, 3) := by decide +kernel
theorem dX6_stand_62 : decode cX6_stand 62 = .ok (.aload_n 0, 1) := by decide +kernel
theorem dX6_stand_63 : decode cX6_stand 63 = .ok (.getfield 26, 3) := by decide +kernel
theorem dX6_stand_66 : decode cX6_stand 66 = .ok (.iload_n 3, 1) := by decide +kernel
theorem dX6_stand_67 : decode cX6_stand 67 = .ok (.aload_n 0, 1) := by decide +kernel
theorem dX6_stand_68 : decode cX6_stand 68 = .ok (.getfield 19, 3) := by decide +kernel
theorem dX6_stand_71 : decode cX6_stand 71 = .ok (.iload_n 1, 1) := by decide +kernel
theorem dX6_stand_72 : decode cX6_stand 72 = .ok (.invokevirtual 147, 3) := by decide +kernel
theorem dX6_stand_75 : decode cX6_stand 75 = .ok (.invokevirtual 190, 3) := by decide +kernel
theorem dX6_stand_78 : decode cX6_stand 78 = .ok (.iinc 3 1, 3) := by decide +kernel
theorem dX6_stand_81 : decode cX6_stand 81 = .ok (.goto (-38), 3) := by decide +kernel
theorem dX6_stand_84 : decode cX6_stand 84 = .ok (.aload_n 0, 1) := by decide +kernel
theorem dX6_stand_85 : decode cX6_stand 85 = .ok (.getfield 26, 3) := by decide +kernel
theorem dX6_stand_88 : decode cX6_stand 88 = .ok (.iload_n 2, 1) := by decide +kernel
theorem dX6_stand_89 : decode cX6_stand 89 = .ok (.invokevirtual 194, 3) := by decide +kernel
theorem dX6_stand_92 : decode cX6_stand 92 = .ok (.ireturn, 1) := by decide +kernel
theorem dX6_swap_0 : decode cX6_swap 0 = .ok (.iload_n 1, 1) := by decide +kernel
theorem dX6_swap_1 : decode cX6_swap 1 = .ok (.iconst 0, 1) := by decide +kernel
theorem dX6_swap_2 : decode cX6_swap 2 = .ok (.iconst 1, 1) := by decide +kernel
theorem dX6_swap_3 : decode cX6_swap 3 = .ok (.invokestatic 57, 3) := by decide +kernel
theorem dX6_swap_6 : decode cX6_swap 6 = .ok (.ifCond .ne 5, 3) := by decide +kernel
theorem dX6_swap_9 : decode cX6_swap 9 = .ok (.iconst (-1), 1) := by decide +kernel
theorem dX6_swap_10 : decode cX6_swap 10 = .ok (.ireturn, 1) := by decide +kernel
theorem dX6_swap_11 : decode cX6_swap 11 = .ok (.aload_n 0, 1) := by decide +kernel
theorem dX6_swap_12 : decode cX6_swap 12 = .ok (.getfield 19, 3) := by decide +kernel
theorem dX6_swap_15 : decode cX6_swap 15 = .ok (.aload_n 0, 1) := by decide +kernel
theorem dX6_swap_16 : decode cX6_swap 16 = .ok (.getfield 10, 3) := by decide +kernel
theorem dX6_swap_19 : decode cX6_swap 19 = .ok (.invokevirtual 104, 3) := by decide +kernel
theorem dX6_swap_22 : decode cX6_swap 22 = .ok (.aload_n 0, 1) := by decide +kernel
theorem dX6_swap_23 : decode cX6_swap 23 = .ok (.getfield 26, 3) := by decide +kernel
theorem dX6_swap_26 : decode cX6_swap 26 = .ok (.aload_n 0, 1) := by decide +kernel
theorem dX6_swap_27 : decode cX6_swap 27 = .ok (.getfield 19, 3) := by decide +kernel
theorem dX6_swap_30 : decode cX6_swap 30 = .ok (.invokevirtual 107, 3) := by decide +kernel
theorem dX6_swap_33 : decode cX6_swap 33 = .ok (.invokevirtual 183, 3) := by decide +kernel
theorem dX6_swap_36 : decode cX6_swap 36 = .ok (.iconst 0, 1) := by decide +kernel
theorem dX6_swap_37 : decode cX6_swap 37 = .ok (.istore_n 2, 1) := by decide +kernel
theorem dX6_swap_38 : decode cX6_swap 38 = .ok (.iload_n 2, 1) := by decide +kernel
theorem dX6_swap_39 : decode cX6_swap 39 = .ok (.aload_n 0, 1) := by decide +kernel
theorem dX6_swap_40 : decode cX6_swap 40 = .ok (.getfield 10, 3) := by decide +kernel
theorem dX6_swap_43 : decode cX6_swap 43 = .ok (.getfield 92, 3) := by decide +kernel
theorem dX6_swap_46 : decode cX6_swap 46 = .ok (.if_icmp .ge 49, 3) := by decide +kernel
theorem dX6_swap_49 : decode cX6_swap 49 = .ok (.iload_n 2, 1) := by decide +kernel
theorem dX6_swap_50 : decode cX6_swap 50 = .ok (.iconst 1, 1) := by decide +kernel
theorem dX6_swap_51 : decode cX6_swap 51 = .ok (.iadd, 1) := by decide +kernel
theorem dX6_swap_52 : decode cX6_swap 52 = .ok (.istore_n 3, 1) := by decide +kernel
theorem dX6_swap_53 : decode cX6_swap 53 = .ok (.iload_n 3, 1) := by decide +kernel
theorem dX6_swap_54 : decode cX6_swap 54 = .ok (.aload_n 0, 1) := by decide +kernel
theorem dX6_swap_55 : decode cX6_swap 55 = .ok (.getfield 10, 3) := by decide +kernel
theorem dX6_swap_58 : decode cX6_swap 58 = .ok (.getfield 92, 3) := by decide +kernel
theorem dX6_swap_61 : decode cX6_swap 61 = .ok (.if_icmp .ge 28, 3) := by decide +kernel
theorem dX6_swap_64 : decode cX6_swap 64 = .ok (.aload_n 0, 1) := by decide +kernel
theorem dX6_swap_65 : decode cX6_swap 65 = .ok (.getfield 26, 3) := by decide +kernel
theorem dX6_swap_68 : decode cX6_swap 68 = .ok (.bipush 10, 2) := by decide +kernel
theorem dX6_swap_70 : decode cX6_swap 70 = .ok (.iload_n 2, 1) := by decide +kernel
theorem dX6_swap_71 : decode cX6_swap 71 = .ok (.imul, 1) := by decide +kernel
theorem dX6_swap_72 : decode cX6_swap 72 = .ok (.iload_n 3, 1) := by decide +kernel
theorem dX6_swap_73 : decode cX6_swap 73 = .ok (.iadd, 1) := by decide +kernel
theorem dX6_swap_74 : decode cX6_swap 74 = .ok (.aload_n 0, 1) := by decide +kernel
theorem dX6_swap_75 : decode cX6_swap 75 = .ok (.iload_n 2, 1) := by decide +kernel
theorem dX6_swap_76 : decode cX6_swap 76 = .ok (.iload_n 3, 1) := by decide +kernel
theorem dX6_swap_77 : decode cX6_swap 77 = .ok (.invokevirtual 209, 3) := by decide +kernel
theorem dX6_swap_80 : decode cX6_swap 80 = .ok (.invokevirtual 190, 3) := by decide +kernel
theorem dX6_swap_83 : decode cX6_swap 83 = .ok (.iinc 3 1, 3) := by decide +kernel
theorem dX6_swap_86 : decode cX6_swap 86 = .ok (.goto (-33), 3) := by decide +kernel
theorem dX6_swap_89 : decode cX6_swap 89 = .ok (.iinc 2 1, 3) := by decide +kernel
theorem dX6_swap_92 : decode cX6_swap 92 = .ok (.goto (-54), 3) := by decide +kernel
theorem dX6_swap_95 : decode cX6_swap 95 = .ok (.aload_n 0, 1) := by decide +kernel
theorem dX6_swap_96 : decode cX6_swap 96 = .ok (.getfield 26, 3) := by decide +kernel
theorem dX6_swap_99 : decode cX6_swap 99 = .ok (.iload_n 1, 1) := by decide +kernel
theorem dX6_swap_100 : decode cX6_swap 100 = .ok (.invokevirtual 194, 3) := by decide +kernel
theorem dX6_swap_103 : decode cX6_swap 103 = .ok (.ireturn, 1) := by decide +kernel
theorem dX6_minutesIfSwapped_0 : decode cX6_minutesIfSwapped 0 = .ok (.aload_n 0, 1) := by decide +kernel
theorem dX6_minutesIfSwapped_1 : decode cX6_minutesIfSwapped 1 = .ok (.getfield 19, 3) := by decide +kernel
theorem dX6_minutesIfSwapped_4 : decode cX6_minutesIfSwapped 4 = .ok (.getfield 69, 3) := by decide +kernel
theorem dX6_minutesIfSwapped_7 : decode cX6_minutesIfSwapped 7 = .ok (.aload_n 0, 1) := by decide +kernel
theorem dX6_minutesIfSwapped_8 : decode cX6_minutesIfSwapped 8 = .ok (.getfield 10, 3) := by decide +kernel
theorem dX6_minutesIfSwapped_11 : decode cX6_minutesIfSwapped 11 = .ok (.invokevirtual 82, 3) := by decide +kernel
theorem dX6_minutesIfSwapped_14 : decode cX6_minutesIfSwapped 14 = .ok (.aload_n 0, 1) := by decide +kernel
theorem dX6_minutesIfSwapped_15 : decode cX6_minutesIfSwapped 15 = .ok (.getfield 19, 3) := by decide +kernel
theorem dX6_minutesIfSwapped_18 : decode cX6_minutesIfSwapped 18 = .ok (.getfield 69, 3) := by decide +kernel
theorem dX6_minutesIfSwapped_21 : decode cX6_minutesIfSwapped 21 = .ok (.iload_n 1, 1) := by decide +kernel
theorem dX6_minutesIfSwapped_22 : decode cX6_minutesIfSwapped 22 = .ok (.iconst 2, 1) := by decide +kernel
theorem dX6_minutesIfSwapped_23 : decode cX6_minutesIfSwapped 23 = .ok (.aload_n 0, 1) := by decide +kernel
theorem dX6_minutesIfSwapped_24 : decode cX6_minutesIfSwapped 24 = .ok (.getfield 10, 3) := by decide +kernel
theorem dX6_minutesIfSwapped_27 : decode cX6_minutesIfSwapped 27 = .ok (.iload_n 2, 1) := by decide +kernel
theorem dX6_minutesIfSwapped_28 : decode cX6_minutesIfSwapped 28 = .ok (.iconst 2, 1) := by decide +kernel
theorem dX6_minutesIfSwapped_29 : decode cX6_minutesIfSwapped 29 = .ok (.invokevirtual 118, 3) := by decide +kernel
theorem dX6_minutesIfSwapped_32 : decode cX6_minutesIfSwapped 32 = .ok (.invokevirtual 163, 3) := by decide +kernel
theorem dX6_minutesIfSwapped_35 : decode cX6_minutesIfSwapped 35 = .ok (.aload_n 0, 1) := by decide +kernel
theorem dX6_minutesIfSwapped_36 : decode cX6_minutesIfSwapped 36 = .ok (.getfield 19, 3) := by decide +kernel
theorem dX6_minutesIfSwapped_39 : decode cX6_minutesIfSwapped 39 = .ok (.getfield 69, 3) := by decide +kernel
theorem dX6_minutesIfSwapped_42 : decode cX6_minutesIfSwapped 42 = .ok (.iload_n 2, 1) := by decide +kernel
theorem dX6_minutesIfSwapped_43 : decode cX6_minutesIfSwapped 43 = .ok (.iconst 2, 1) := by decide +kernel
theorem dX6_minutesIfSwapped_44 : decode cX6_minutesIfSwapped 44 = .ok (.aload_n 0, 1) := by decide +kernel
theorem dX6_minutesIfSwapped_45 : decode cX6_minutesIfSwapped 45 = .ok (.getfield 10, 3) := by decide +kernel
theorem dX6_minutesIfSwapped_48 : decode cX6_minutesIfSwapped 48 = .ok (.iload_n 1, 1) := by decide +kernel
theorem dX6_minutesIfSwapped_49 : decode cX6_minutesIfSwapped 49 = .ok (.iconst 2, 1) := by decide +kernel
theorem dX6_minutesIfSwapped_50 : decode cX6_minutesIfSwapped 50 = .ok (.invokevirtual 118, 3) := by decide +kernel
theorem dX6_minutesIfSwapped_53 : decode cX6_minutesIfSwapped 53 = .ok (.invokevirtual 163, 3) := by decide +kernel
theorem dX6_minutesIfSwapped_56 : decode cX6_minutesIfSwapped 56 = .ok (.aload_n 0, 1) := by decide +kernel
theorem dX6_minutesIfSwapped_57 : decode cX6_minutesIfSwapped 57 = .ok (.getfield 19, 3) := by decide +kernel
theorem dX6_minutesIfSwapped_60 : decode cX6_minutesIfSwapped 60 = .ok (.invokevirtual 201, 3) := by decide +kernel
theorem dX6_minutesIfSwapped_63 : decode cX6_minutesIfSwapped 63 = .ok (.aload_n 0, 1) := by decide +kernel
theorem dX6_minutesIfSwapped_64 : decode cX6_minutesIfSwapped 64 = .ok (.getfield 19, 3) := by decide +kernel
theorem dX6_minutesIfSwapped_67 : decode cX6_minutesIfSwapped 67 = .ok (.invokevirtual 107, 3) := by decide +kernel
theorem dX6_minutesIfSwapped_70 : decode cX6_minutesIfSwapped 70 = .ok (.ireturn, 1) := by decide +kernel
theorem dX6_lose_0 : decode cX6_lose 0 = .ok (.iload_n 1, 1) := by decide +kernel
theorem dX6_lose_1 : decode cX6_lose 1 = .ok (.iconst 0, 1) := by decide +kernel
theorem dX6_lose_2 : decode cX6_lose 2 = .ok (.iconst 1, 1) := by decide +kernel
theorem dX6_lose_3 : decode cX6_lose 3 = .ok (.invokestatic 57, 3) := by decide +kernel
theorem dX6_lose_6 : decode cX6_lose 6 = .ok (.ifCond .ne 5, 3) := by decide +kernel
theorem dX6_lose_9 : decode cX6_lose 9 = .ok (.iconst (-1), 1) := by decide +kernel
theorem dX6_lose_10 : decode cX6_lose 10 = .ok (.ireturn, 1) := by decide +kernel
theorem dX6_lose_11 : decode cX6_lose 11 = .ok (.aload_n 0, 1) := by decide +kernel
theorem dX6_lose_12 : decode cX6_lose 12 = .ok (.getfield 19, 3) := by decide +kernel
theorem dX6_lose_15 : decode cX6_lose 15 = .ok (.aload_n 0, 1) := by decide +kernel
theorem dX6_lose_16 : decode cX6_lose 16 = .ok (.getfield 10, 3) := by decide +kernel
theorem dX6_lose_19 : decode cX6_lose 19 = .ok (.invokevirtual 104, 3) := by decide +kernel
theorem dX6_lose_22 : decode cX6_lose 22 = .ok (.aload_n 0, 1) := by decide +kernel
theorem dX6_lose_23 : decode cX6_lose 23 = .ok (.getfield 26, 3) := by decide +kernel
theorem dX6_lose_26 : decode cX6_lose 26 = .ok (.aload_n 0, 1) := by decide +kernel
theorem dX6_lose_27 : decode cX6_lose 27 = .ok (.getfield 19, 3) := by decide +kernel
theorem dX6_lose_30 : decode cX6_lose 30 = .ok (.invokevirtual 111, 3) := by decide +kernel
theorem dX6_lose_33 : decode cX6_lose 33 = .ok (.invokevirtual 183, 3) := by decide +kernel
theorem dX6_lose_36 : decode cX6_lose 36 = .ok (.iconst 0, 1) := by decide +kernel
theorem dX6_lose_37 : decode cX6_lose 37 = .ok (.istore_n 2, 1) := by decide +kernel
theorem dX6_lose_38 : decode cX6_lose 38 = .ok (.iload_n 2, 1) := by decide +kernel
theorem dX6_lose_39 : decode cX6_lose 39 = .ok (.aload_n 0, 1) := by decide +kernel
theorem dX6_lose_40 : decode cX6_lose 40 = .ok (.getfield 10, 3) := by decide +kernel
theorem dX6_lose_43 : decode cX6_lose 43 = .ok (.getfield 92, 3) := by decide +kernel
theorem dX6_lose_46 : decode cX6_lose 46 = .ok (.if_icmp .ge 39, 3) := by decide +kernel
theorem dX6_lose_49 : decode cX6_lose 49 = .ok (.aload_n 0, 1) := by decide +kernel
theorem dX6_lose_50 : decode cX6_lose 50 = .ok (.getfield 19, 3) := by decide +kernel
theorem dX6_lose_53 : decode cX6_lose 53 = .ok (.invokevirtual 201, 3) := by decide +kernel
theorem dX6_lose_56 : decode cX6_lose 56 = .ok (.aload_n 0, 1) := by decide +kernel
theorem dX6_lose_57 : decode cX6_lose 57 = .ok (.getfield 19, 3) := by decide +kernel
theorem dX6_lose_60 : decode cX6_lose 60 = .ok (.iload_n 2, 1) := by decide +kernel
theorem dX6_lose_61 : decode cX6_lose 61 = .ok (.invokevirtual 212, 3) := by decide +kernel
theorem dX6_lose_64 : decode cX6_lose 64 = .ok (.aload_n 0, 1) := by decide +kernel
theorem dX6_lose_65 : decode cX6_lose 65 = .ok (.getfield 26, 3) := by decide +kernel
theorem dX6_lose_68 : decode cX6_lose 68 = .ok (.iload_n 2, 1) := by decide +kernel
theorem dX6_lose_69 : decode cX6_lose 69 = .ok (.aload_n 0, 1) := by decide +kernel
theorem dX6_lose_70 : decode cX6_lose 70 = .ok (.getfield 19, 3) := by decide +kernel
theorem dX6_lose_73 : decode cX6_lose 73 = .ok (.invokevirtual 111, 3) := by decide +kernel
theorem dX6_lose_76 : decode cX6_lose 76 = .ok (.invokevirtual 190, 3) := by decide +kernel
theorem dX6_lose_79 : decode cX6_lose 79 = .ok (.iinc 2 1, 3) := by decide +kernel
theorem dX6_lose_82 : decode cX6_lose 82 = .ok (.goto (-44), 3) := by decide +kernel
theorem dX6_lose_85 : decode cX6_lose 85 = .ok (.aload_n 0, 1) := by decide +kernel
theorem dX6_lose_86 : decode cX6_lose 86 = .ok (.getfield 26, 3) := by decide +kernel
theorem dX6_lose_89 : decode cX6_lose 89 = .ok (.iload_n 1, 1) := by decide +kernel
theorem dX6_lose_90 : decode cX6_lose 90 = .ok (.invokevirtual 194, 3) := by decide +kernel
theorem dX6_lose_93 : decode cX6_lose 93 = .ok (.ireturn, 1) := by decide +kernel
theorem dX6_need_0 : decode cX6_need 0 = .ok (.aload_n 0, 1) := by decide +kernel
theorem dX6_need_1 : decode cX6_need 1 = .ok (.getfield 10, 3) := by decide +kernel
theorem dX6_need_4 : decode cX6_need 4 = .ok (.iload_n 1, 1) := by decide +kernel
theorem dX6_need_5 : decode cX6_need 5 = .ok (.invokevirtual 114, 3) := by decide +kernel
theorem dX6_need_8 : decode cX6_need 8 = .ok (.ifCond .eq 14, 3) := by decide +kernel
theorem dX6_need_11 : decode cX6_need 11 = .ok (.aload_n 0, 1) := by decide +kernel
theorem dX6_need_12 : decode cX6_need 12 = .ok (.getfield 10, 3) := by decide +kernel
theorem dX6_need_15 : decode cX6_need 15 = .ok (.iload_n 2, 1) := by decide +kernel
theorem dX6_need_16 : decode cX6_need 16 = .ok (.invokevirtual 138, 3) := by decide +kernel
theorem dX6_need_19 : decode cX6_need 19 = .ok (.ifCond .ne 5, 3) := by decide +kernel
theorem dX6_need_22 : decode cX6_need 22 = .ok (.iconst (-1), 1) := by decide +kernel
theorem dX6_need_23 : decode cX6_need 23 = .ok (.ireturn, 1) := by decide +kernel
theorem dX6_need_24 : decode cX6_need 24 = .ok (.aload_n 0, 1) := by decide +kernel
theorem dX6_need_25 : decode cX6_need 25 = .ok (.getfield 19, 3) := by decide +kernel
theorem dX6_need_28 : decode cX6_need 28 = .ok (.aload_n 0, 1) := by decide +kernel
theorem dX6_need_29 : decode cX6_need 29 = .ok (.getfield 10, 3) := by decide +kernel
theorem dX6_need_32 : decode cX6_need 32 = .ok (.invokevirtual 104, 3) := by decide +kernel
theorem dX6_need_35 : decode cX6_need 35 = .ok (.getstatic 215, 3) := by decide +kernel
theorem dX6_need_38 : decode cX6_need 38 = .ok (.iconst 3, 1) := by decide +kernel
theorem dX6_need_39 : decode cX6_need 39 = .ok (.iaload, 1) := by decide +kernel
theorem dX6_need_40 : decode cX6_need 40 = .ok (.istore_n 3, 1) := by decide +kernel
theorem dX6_need_41 : decode cX6_need 41 = .ok (.iload_n 3, 1) := by decide +kernel
theorem dX6_need_42 : decode cX6_need 42 = .ok (.getstatic 197, 3) := by decide +kernel
theorem dX6_need_45 : decode cX6_need 45 = .ok (.iconst 3, 1) := by decide +kernel
theorem dX6_need_46 : decode cX6_need 46 = .ok (.iaload, 1) := by decide +kernel
theorem dX6_need_47 : decode cX6_need 47 = .ok (.if_icmp .gt 43, 3) := by decide +kernel
theorem dX6_need_50 : decode cX6_need 50 = .ok (.aload_n 0, 1) := by decide +kernel
theorem dX6_need_51 : decode cX6_need 51 = .ok (.getfield 19, 3) := by decide +kernel
theorem dX6_need_54 : decode cX6_need 54 = .ok (.getfield 69, 3) := by decide +kernel
theorem dX6_need_57 : decode cX6_need 57 = .ok (.iload_n 1, 1) := by decide +kernel
theorem dX6_need_58 : decode cX6_need 58 = .ok (.iconst 3, 1) := by decide +kernel
theorem dX6_need_59 : decode cX6_need 59 = .ok (.iload_n 3, 1) := by decide +kernel
theorem dX6_need_60 : decode cX6_need 60 = .ok (.invokevirtual 163, 3) := by decide +kernel
theorem dX6_need_63 : decode cX6_need 63 = .ok (.aload_n 0, 1) := by decide +kernel
theorem dX6_need_64 : decode cX6_need 64 = .ok (.getfield 19, 3) := by decide +kernel
theorem dX6_need_67 : decode cX6_need 67 = .ok (.invokevirtual 201, 3) := by decide +kernel
theorem dX6_need_70 : decode cX6_need 70 = .ok (.aload_n 0, 1) := by decide +kernel
theorem dX6_need_71 : decode cX6_need 71 = .ok (.getfield 19, 3) := by decide +kernel
theorem dX6_need_74 : decode cX6_need 74 = .ok (.iload_n 2, 1) := by decide +kernel
theorem dX6_need_75 : decode cX6_need 75 = .ok (.iload_n 1, 1) := by decide +kernel
theorem dX6_need_76 : decode cX6_need 76 = .ok (.invokevirtual 218, 3) := by decide +kernel
theorem dX6_need_79 : decode cX6_need 79 = .ok (.ifCond .eq 5, 3) := by decide +kernel
theorem dX6_need_82 : decode cX6_need 82 = .ok (.iload_n 3, 1) := by decide +kernel
theorem dX6_need_83 : decode cX6_need 83 = .ok (.ireturn, 1) := by decide +kernel
theorem dX6_need_84 : decode cX6_need 84 = .ok (.iinc 3 1, 3) := by decide +kernel
theorem dX6_need_87 : decode cX6_need 87 = .ok (.goto (-46), 3) := by decide +kernel
theorem dX6_need_90 : decode cX6_need 90 = .ok (.bipush (-4), 2) := by decide +kernel
theorem dX6_need_92 : decode cX6_need 92 = .ok (.ireturn, 1) := by decide +kernel
theorem dX6_dry_0 : decode cX6_dry 0 = .ok (.aload_n 0, 1) := by decide +kernel
theorem dX6_dry_1 : decode cX6_dry 1 = .ok (.getfield 10, 3) := by decide +kernel
theorem dX6_dry_4 : decode cX6_dry 4 = .ok (.iload_n 1, 1) := by decide +kernel
theorem dX6_dry_5 : decode cX6_dry 5 = .ok (.invokevirtual 138, 3) := by decide +kernel
theorem dX6_dry_8 : decode cX6_dry 8 = .ok (.ifCond .ne 5, 3) := by decide +kernel
theorem dX6_dry_11 : decode cX6_dry 11 = .ok (.iconst (-1), 1) := by decide +kernel
theorem dX6_dry_12 : decode cX6_dry 12 = .ok (.ireturn, 1) := by decide +kernel
theorem dX6_dry_13 : decode cX6_dry 13 = .ok (.aload_n 0, 1) := by decide +kernel
theorem dX6_dry_14 : decode cX6_dry 14 = .ok (.getfield 19, 3) := by decide +kernel
theorem dX6_dry_17 : decode cX6_dry 17 = .ok (.aload_n 0, 1) := by decide +kernel
theorem dX6_dry_18 : decode cX6_dry 18 = .ok (.getfield 10, 3) := by decide +kernel
theorem dX6_dry_21 : decode cX6_dry 21 = .ok (.invokevirtual 104, 3) := by decide +kernel
theorem dX6_dry_24 : decode cX6_dry 24 = .ok (.bipush 9, 2) := by decide +kernel
theorem dX6_dry_26 : decode cX6_dry 26 = .ok (.istore_n 2, 1) := by decide +kernel
theorem dX6_dry_27 : decode cX6_dry 27 = .ok (.iload_n 2, 1) := by decide +kernel
theorem dX6_dry_28 : decode cX6_dry 28 = .ok (.ifCond .lt 40, 3) := by decide +kernel
theorem dX6_dry_31 : decode cX6_dry 31 = .ok (.aload_n 0, 1) := by decide +kernel
theorem dX6_dry_32 : decode cX6_dry 32 = .ok (.getfield 19, 3) := by decide +kernel
theorem dX6_dry_35 : decode cX6_dry 35 = .ok (.getfield 69, 3) := by decide +kernel
theorem dX6_dry_38 : decode cX6_dry 38 = .ok (.iload_n 2, 1) := by decide +kernel
theorem dX6_dry_39 : decode cX6_dry 39 = .ok (.putfield 101, 3) := by decide +kernel
theorem dX6_dry_42 : decode cX6_dry 42 = .ok (.aload_n 0, 1) := by decide +kernel
theorem dX6_dry_43 : decode cX6_dry 43 = .ok (.getfield 19, 3) := by decide +kernel
theorem dX6_dry_46 : decode cX6_dry 46 = .ok (.invokevirtual 201, 3) := by decide +kernel
theorem dX6_dry_49 : decode cX6_dry 49 = .ok (.aload_n 0, 1) := by decide +kernel
theorem dX6_dry_50 : decode cX6_dry 50 = .ok (.getfield 19, 3) := by decide +kernel
theorem dX6_dry_53 : decode cX6_dry 53 = .ok (.iload_n 1, 1) := by decide +kernel
theorem dX6_dry_54 : decode cX6_dry 54 = .ok (.invokevirtual 147, 3) := by decide +kernel
theorem dX6_dry_57 : decode cX6_dry 57 = .ok (.ifCond .le 5, 3) := by decide +kernel
theorem dX6_dry_60 : decode cX6_dry 60 = .ok (.iload_n 2, 1) := by decide +kernel
theorem dX6_dry_61 : decode cX6_dry 61 = .ok (.ireturn, 1) := by decide +kernel
theorem dX6_dry_62 : decode cX6_dry 62 = .ok (.iinc 2 (-1), 3) := by decide +kernel
theorem dX6_dry_65 : decode cX6_dry 65 = .ok (.goto (-38), 3) := by decide +kernel
theorem dX6_dry_68 : decode cX6_dry 68 = .ok (.bipush (-4), 2) := by decide +kernel
theorem dX6_dry_70 : decode cX6_dry 70 = .ok (.ireturn, 1) := by decide +kernel
theorem dX6_kind_0 : decode cX6_kind 0 = .ok (.aload_n 0, 1) := by decide +kernel
theorem dX6_kind_1 : decode cX6_kind 1 = .ok (.getfield 10, 3) := by decide +kernel
theorem dX6_kind_4 : decode cX6_kind 4 = .ok (.iload_n 1, 1) := by decide +kernel
theorem dX6_kind_5 : decode cX6_kind 5 = .ok (.invokevirtual 114, 3) := by decide +kernel
theorem dX6_kind_8 : decode cX6_kind 8 = .ok (.ifCond .eq 12, 3) := by decide +kernel
theorem dX6_kind_11 : decode cX6_kind 11 = .ok (.iload_n 2, 1) := by decide +kernel
theorem dX6_kind_12 : decode cX6_kind 12 = .ok (.iconst 0, 1) := by decide +kernel
theorem dX6_kind_13 : decode cX6_kind 13 = .ok (.iconst 1, 1) := by decide +kernel
theorem dX6_kind_14 : decode cX6_kind 14 = .ok (.invokestatic 57, 3) := by decide +kernel
theorem dX6_kind_17 : decode cX6_kind 17 = .ok (.ifCond .ne 5, 3) := by decide +kernel
theorem dX6_kind_20 : decode cX6_kind 20 = .ok (.iconst (-1), 1) := by decide +kernel
theorem dX6_kind_21 : decode cX6_kind 21 = .ok (.ireturn, 1) := by decide +kernel
theorem dX6_kind_22 : decode cX6_kind 22 = .ok (.aload_n 0, 1) := by decide +kernel
theorem dX6_kind_23 : decode cX6_kind 23 = .ok (.getfield 19, 3) := by decide +kernel
theorem dX6_kind_26 : decode cX6_kind 26 = .ok (.aload_n 0, 1) := by decide +kernel
theorem dX6_kind_27 : decode cX6_kind 27 = .ok (.getfield 10, 3) := by decide +kernel
theorem dX6_kind_30 : decode cX6_kind 30 = .ok (.invokevirtual 104, 3) := by decide +kernel
theorem dX6_kind_33 : decode cX6_kind 33 = .ok (.aload_n 0, 1) := by decide +kernel
theorem dX6_kind_34 : decode cX6_kind 34 = .ok (.getfield 26, 3) := by decide +kernel
theorem dX6_kind_37 : decode cX6_kind 37 = .ok (.iconst (-1), 1) := by decide +kernel
theorem dX6_kind_38 : decode cX6_kind 38 = .ok (.invokevirtual 183, 3) := by decide +kernel
theorem dX6_kind_41 : decode cX6_kind 41 = .ok (.iconst 0, 1) := by decide +kernel
theorem dX6_kind_42 : decode cX6_kind 42 = .ok (.istore_n 3, 1) := by decide +kernel
theorem dX6_kind_43 : decode cX6_kind 43 = .ok (.iload_n 3, 1) := by decide +kernel
theorem dX6_kind_44 : decode cX6_kind 44 = .ok (.iconst 4, 1) := by decide +kernel
theorem dX6_kind_45 : decode cX6_kind 45 = .ok (.if_icmp .ge 45, 3) := by decide +kernel
theorem dX6_kind_48 : decode cX6_kind 48 = .ok (.aload_n 0, 1) := by decide +kernel
theorem dX6_kind_49 : decode cX6_kind 49 = .ok (.getfield 19, 3) := by decide +kernel
theorem dX6_kind_52 : decode cX6_kind 52 = .ok (.getfield 69, 3) := by decide +kernel
theorem dX6_kind_55 : decode cX6_kind 55 = .ok (.iload_n 1, 1) := by decide +kernel
theorem dX6_kind_56 : decode cX6_kind 56 = .ok (.iconst 0, 1) := by decide +kernel
theorem dX6_kind_57 : decode cX6_kind 57 = .ok (.iload_n 3, 1) := by decide +kernel
theorem dX6_kind_58 : decode cX6_kind 58 = .ok (.invokevirtual 163, 3) := by decide +kernel
theorem dX6_kind_61 : decode cX6_kind 61 = .ok (.aload_n 0, 1) := by decide +kernel
theorem dX6_kind_62 : decode cX6_kind 62 = .ok (.getfield 19, 3) := by decide +kernel
theorem dX6_kind_65 : decode cX6_kind 65 = .ok (.invokevirtual 201, 3) := by decide +kernel
theorem dX6_kind_68 : decode cX6_kind 68 = .ok (.aload_n 0, 1) := by decide +kernel
theorem dX6_kind_69 : decode cX6_kind 69 = .ok (.getfield 26, 3) := by decide +kernel
theorem dX6_kind_72 : decode cX6_kind 72 = .ok (.iload_n 3, 1) := by decide +kernel
theorem dX6_kind_73 : decode cX6_kind 73 = .ok (.aload_n 0, 1) := by decide +kernel
theorem dX6_kind_74 : decode cX6_kind 74 = .ok (.getfield 19, 3) := by decide +kernel
theorem dX6_kind_77 : decode cX6_kind 77 = .ok (.iload_n 1, 1) := by decide +kernel
theorem dX6_kind_78 : decode cX6_kind 78 = .ok (.invokevirtual 221, 3) := by decide +kernel
theorem dX6_kind_81 : decode cX6_kind 81 = .ok (.invokevirtual 190, 3) := by decide +kernel
theorem dX6_kind_84 : decode cX6_kind 84 = .ok (.iinc 3 1, 3) := by decide +kernel
theorem dX6_kind_87 : decode cX6_kind 87 = .ok (.goto (-44), 3) := by decide +kernel
theorem dX6_kind_90 : decode cX6_kind 90 = .ok (.aload_n 0, 1) := by decide +kernel
theorem dX6_kind_91 : decode cX6_kind 91 = .ok (.getfield 26, 3) := by decide +kernel
theorem dX6_kind_94 : decode cX6_kind 94 = .ok (.iload_n 2, 1) := by decide +kernel
theorem dX6_kind_95 : decode cX6_kind 95 = .ok (.invokevirtual 194, 3) := by decide +kernel
theorem dX6_kind_98 : decode cX6_kind 98 = .ok (.ireturn, 1) := by decide +kernel
theorem dX6_luck_0 : decode cX6_luck 0 = .ok (.iload_n 1, 1) := by decide +kernel
theorem dX6_luck_1 : decode cX6_luck 1 = .ok (.iconst 0, 1) := by decide +kernel
theorem dX6_luck_2 : decode cX6_luck 2 = .ok (.bipush 10, 2) := by decide +kernel
theorem dX6_luck_4 : decode cX6_luck 4 = .ok (.invokestatic 57, 3) := by decide +kernel
theorem dX6_luck_7 : decode cX6_luck 7 = .ok (.ifCond .eq 35, 3) := by decide +kernel
theorem dX6_luck_10 : decode cX6_luck 10 = .ok (.aload_n 0, 1) := by decide +kernel
theorem dX6_luck_11 : decode cX6_luck 11 = .ok (.getfield 10, 3) := by decide +kernel
theorem dX6_luck_14 : decode cX6_luck 14 = .ok (.iload_n 2, 1) := by decide +kernel
theorem dX6_luck_15 : decode cX6_luck 15 = .ok (.invokevirtual 138, 3) := by decide +kernel
theorem dX6_luck_18 : decode cX6_luck 18 = .ok (.ifCond .eq 24, 3) := by decide +kernel
theorem dX6_luck_21 : decode cX6_luck 21 = .ok (.aload_n 0, 1) := by decide +kernel
theorem dX6_luck_22 : decode cX6_luck 22 = .ok (.getfield 10, 3) := by decide +kernel
theorem dX6_luck_25 : decode cX6_luck 25 = .ok (.iload_n 3, 1) := by decide +kernel
theorem dX6_luck_26 : decode cX6_luck 26 = .ok (.invokevirtual 114, 3) := by decide +kernel
theorem dX6_luck_29 : decode cX6_luck 29 = .ok (.ifCond .eq 13, 3) := by decide +kernel
theorem dX6_luck_32 : decode cX6_luck 32 = .ok (.iload 4, 2) := by decide +kernel
theorem dX6_luck_34 : decode cX6_luck 34 = .ok (.iconst 0, 1) := by decide +kernel
theorem dX6_luck_35 : decode cX6_luck 35 = .ok (.iconst 1, 1) := by decide +kernel
theorem dX6_luck_36 : decode cX6_luck 36 = .ok (.invokestatic 57, 3) := by decide +kernel
theorem dX6_luck_39 : decode cX6_luck 39 = .ok (.ifCond .ne 7, 3) := by decide +kernel
theorem dX6_luck_42 : decode cX6_luck 42 = .ok (.ldc2_w 224, 3) := by decide +kernel
theorem dX6_luck_45 : decode cX6_luck 45 = .ok (.lreturn, 1) := by decide +kernel
theorem dX6_luck_46 : decode cX6_luck 46 = .ok (.aload_n 0, 1) := by decide +kernel
theorem dX6_luck_47 : decode cX6_luck 47 = .ok (.getfield 19, 3) := by decide +kernel
theorem dX6_luck_50 : decode cX6_luck 50 = .ok (.aload_n 0, 1) := by decide +kernel
theorem dX6_luck_51 : decode cX6_luck 51 = .ok (.getfield 10, 3) := by decide +kernel
theorem dX6_luck_54 : decode cX6_luck 54 = .ok (.invokevirtual 104, 3) := by decide +kernel
theorem dX6_luck_57 : decode cX6_luck 57 = .ok (.aload_n 0, 1) := by decide +kernel
theorem dX6_luck_58 : decode cX6_luck 58 = .ok (.getfield 19, 3) := by decide +kernel
theorem dX6_luck_61 : decode cX6_luck 61 = .ok (.iload_n 2, 1) := by decide +kernel
theorem dX6_luck_62 : decode cX6_luck 62 = .ok (.iload_n 3, 1) := by decide +kernel
theorem dX6_luck_63 : decode cX6_luck 63 = .ok (.invokevirtual 226, 3) := by decide +kernel
theorem dX6_luck_66 : decode cX6_luck 66 = .ok (.ifCond .ne 11, 3) := by decide +kernel
theorem dX6_luck_69 : decode cX6_luck 69 = .ok (.lconst 0, 1) := by decide +kernel
theorem dX6_luck_70 : decode cX6_luck 70 = .ok (.lconst 1, 1) := by decide +kernel
theorem dX6_luck_71 : decode cX6_luck 71 = .ok (.iload 4, 2) := by decide +kernel
theorem dX6_luck_73 : decode cX6_luck 73 = .ok (.invokestatic 229, 3) := by decide +kernel
theorem dX6_luck_76 : decode cX6_luck 76 = .ok (.lreturn, 1) := by decide +kernel
theorem dX6_luck_77 : decode cX6_luck 77 = .ok (.aload_n 0, 1) := by decide +kernel
theorem dX6_luck_78 : decode cX6_luck 78 = .ok (.getfield 19, 3) := by decide +kernel
theorem dX6_luck_81 : decode cX6_luck 81 = .ok (.iload_n 2, 1) := by decide +kernel
theorem dX6_luck_82 : decode cX6_luck 82 = .ok (.iload_n 3, 1) := by decide +kernel
theorem dX6_luck_83 : decode cX6_luck 83 = .ok (.invokevirtual 233, 3) := by decide +kernel
theorem dX6_luck_86 : decode cX6_luck 86 = .ok (.istore 5, 2) := by decide +kernel
theorem dX6_luck_88 : decode cX6_luck 88 = .ok (.bipush 10, 2) := by decide +kernel
theorem dX6_luck_90 : decode cX6_luck 90 = .ok (.iload_n 1, 1) := by decide +kernel
theorem dX6_luck_91 : decode cX6_luck 91 = .ok (.isub, 1) := by decide +kernel
theorem dX6_luck_92 : decode cX6_luck 92 = .ok (.i2l, 1) := by decide +kernel
theorem dX6_luck_93 : decode cX6_luck 93 = .ok (.iload_n 1, 1) := by decide +kernel
theorem dX6_luck_94 : decode cX6_luck 94 = .ok (.i2l, 1) := by decide +kernel
theorem dX6_luck_95 : decode cX6_luck 95 = .ok (.iload 5, 2) := by decide +kernel
theorem dX6_luck_97 : decode cX6_luck 97 = .ok (.invokestatic 236, 3) := by decide +kernel
theorem dX6_luck_100 : decode cX6_luck 100 = .ok (.lmul, 1) := by decide +kernel
theorem dX6_luck_101 : decode cX6_luck 101 = .ok (.ldc2_w 240, 3) := by decide +kernel
theorem dX6_luck_104 : decode cX6_luck 104 = .ok (.iload 5, 2) := by decide +kernel
theorem dX6_luck_106 : decode cX6_luck 106 = .ok (.iconst 1, 1) := by decide +kernel
theorem dX6_luck_107 : decode cX6_luck 107 = .ok (.iadd, 1) := by decide +kernel
theorem dX6_luck_108 : decode cX6_luck 108 = .ok (.invokestatic 236, 3) := by decide +kernel
theorem dX6_luck_111 : decode cX6_luck 111 = .ok (.iload 4, 2) := by decide +kernel
theorem dX6_luck_113 : decode cX6_luck 113 = .ok (.invokestatic 229, 3) := by decide +kernel
theorem dX6_luck_116 : decode cX6_luck 116 = .ok (.lreturn, 1) := by decide +kernel
theorem dX6_mean_0 : decode cX6_mean 0 = .ok (.iload_n 1, 1) := by decide +kernel
theorem dX6_mean_1 : decode cX6_mean 1 = .ok (.iconst 0, 1) := by decide +kernel
theorem dX6_mean_2 : decode cX6_mean 2 = .ok (.bipush 10, 2) := by decide +kernel
theorem dX6_mean_4 : decode cX6_mean 4 = .ok (.invokestatic 57, 3) := by decide +kernel
theorem dX6_mean_7 : decode cX6_mean 7 = .ok (.ifCond .eq 12, 3) := by decide +kernel
theorem dX6_mean_10 : decode cX6_mean 10 = .ok (.iload_n 2, 1) := by decide +kernel
theorem dX6_mean_11 : decode cX6_mean 11 = .ok (.iconst 0, 1) := by decide +kernel
theorem dX6_mean_12 : decode cX6_mean 12 = .ok (.iconst 1, 1) := by decide +kernel
theorem dX6_mean_13 : decode cX6_mean 13 = .ok (.invokestatic 57, 3) := by decide +kernel
theorem dX6_mean_16 : decode cX6_mean 16 = .ok (.ifCond .ne 7, 3) := by decide +kernel
theorem dX6_mean_19 : decode cX6_mean 19 = .ok (.ldc2_w 224, 3) := by decide +kernel
theorem dX6_mean_22 : decode cX6_mean 22 = .ok (.lreturn, 1) := by decide +kernel
theorem dX6_mean_23 : decode cX6_mean 23 = .ok (.aload_n 0, 1) := by decide +kernel
theorem dX6_mean_24 : decode cX6_mean 24 = .ok (.getfield 19, 3) := by decide +kernel
theorem dX6_mean_27 : decode cX6_mean 27 = .ok (.aload_n 0, 1) := by decide +kernel
theorem dX6_mean_28 : decode cX6_mean 28 = .ok (.getfield 10, 3) := by decide +kernel
theorem dX6_mean_31 : decode cX6_mean 31 = .ok (.invokevirtual 104, 3) := by decide +kernel
theorem dX6_mean_34 : decode cX6_mean 34 = .ok (.ldc2_w 240, 3) := by decide +kernel
theorem dX6_mean_37 : decode cX6_mean 37 = .ok (.bipush 6, 2) := by decide +kernel
theorem dX6_mean_39 : decode cX6_mean 39 = .ok (.invokestatic 236, 3) := by decide +kernel
theorem dX6_mean_42 : decode cX6_mean 42 = .ok (.lstore_n 3, 1) := by decide +kernel
theorem dX6_mean_43 : decode cX6_mean 43 = .ok (.lconst 0, 1) := by decide +kernel
theorem dX6_mean_44 : decode cX6_mean 44 = .ok (.lstore 5, 2) := by decide +kernel
theorem dX6_mean_46 : decode cX6_mean 46 = .ok (.iconst 0, 1) := by decide +kernel
theorem dX6_mean_47 : decode cX6_mean 47 = .ok (.istore 7, 2) := by decide +kernel
theorem dX6_mean_49 : decode cX6_mean 49 = .ok (.iload 7, 2) := by decide +kernel
theorem dX6_mean_51 : decode cX6_mean 51 = .ok (.aload_n 0, 1) := by decide +kernel
theorem dX6_mean_52 : decode cX6_mean 52 = .ok (.getfield 10, 3) := by decide +kernel
theorem dX6_mean_55 : decode cX6_mean 55 = .ok (.getfield 95, 3) := by decide +kernel
theorem dX6_mean_58 : decode cX6_mean 58 = .ok (.if_icmp .ge 64, 3) := by decide +kernel
theorem dX6_mean_61 : decode cX6_mean 61 = .ok (.iconst 0, 1) := by decide +kernel
theorem dX6_mean_62 : decode cX6_mean 62 = .ok (.istore 8, 2) := by decide +kernel
theorem dX6_mean_64 : decode cX6_mean 64 = .ok (.iload 8, 2) := by decide +kernel
theorem dX6_mean_66 : decode cX6_mean 66 = .ok (.bipush 80, 2) := by decide +kernel
theorem dX6_mean_68 : decode cX6_mean 68 = .ok (.if_icmp .ge 48, 3) := by decide +kernel
theorem dX6_mean_71 : decode cX6_mean 71 = .ok (.aload_n 0, 1) := by decide +kernel
theorem dX6_mean_72 : decode cX6_mean 72 = .ok (.getfield 19, 3) := by decide +kernel
theorem dX6_mean_75 : decode cX6_mean 75 = .ok (.iload 7, 2) := by decide +kernel
theorem dX6_mean_77 : decode cX6_mean 77 = .ok (.iload 8, 2) := by decide +kernel
theorem dX6_mean_79 : decode cX6_mean 79 = .ok (.invokevirtual 242, 3) := by decide +kernel
theorem dX6_mean_82 : decode cX6_mean 82 = .ok (.istore 9, 2) := by decide +kernel
theorem dX6_mean_84 : decode cX6_mean 84 = .ok (.lload 5, 2) := by decide +kernel
theorem dX6_mean_86 : decode cX6_mean 86 = .ok (.lload_n 3, 1) := by decide +kernel
theorem dX6_mean_87 : decode cX6_mean 87 = .ok (.iload_n 1, 1) := by decide +kernel
theorem dX6_mean_88 : decode cX6_mean 88 = .ok (.i2l, 1) := by decide +kernel
theorem dX6_mean_89 : decode cX6_mean 89 = .ok (.iload 9, 2) := by decide +kernel
theorem dX6_mean_91 : decode cX6_mean 91 = .ok (.invokestatic 236, 3) := by decide +kernel
theorem dX6_mean_94 : decode cX6_mean 94 = .ok (.ldc2_w 240, 3) := by decide +kernel
theorem dX6_mean_97 : decode cX6_mean 97 = .ok (.bipush 6, 2) := by decide +kernel
theorem dX6_mean_99 : decode cX6_mean 99 = .ok (.iload 9, 2) := by decide +kernel
theorem dX6_mean_101 : decode cX6_mean 101 = .ok (.isub, 1) := by decide +kernel
theorem dX6_mean_102 : decode cX6_mean 102 = .ok (.invokestatic 236, 3) := by decide +kernel
theorem dX6_mean_105 : decode cX6_mean 105 = .ok (.lmul, 1) := by decide +kernel
theorem dX6_mean_106 : decode cX6_mean 106 = .ok (.lsub, 1) := by decide +kernel
theorem dX6_mean_107 : decode cX6_mean 107 = .ok (.ladd, 1) := by decide +kernel
theorem dX6_mean_108 : decode cX6_mean 108 = .ok (.lstore 5, 2) := by decide +kernel
theorem dX6_mean_110 : decode cX6_mean 110 = .ok (.iinc 8 1, 3) := by decide +kernel
theorem dX6_mean_113 : decode cX6_mean 113 = .ok (.goto (-49), 3) := by decide +kernel
theorem dX6_mean_116 : decode cX6_mean 116 = .ok (.iinc 7 1, 3) := by decide +kernel
theorem dX6_mean_119 : decode cX6_mean 119 = .ok (.goto (-70), 3) := by decide +kernel
theorem dX6_mean_122 : decode cX6_mean 122 = .ok (.lload 5, 2) := by decide +kernel
theorem dX6_mean_124 : decode cX6_mean 124 = .ok (.lload_n 3, 1) := by decide +kernel
theorem dX6_mean_125 : decode cX6_mean 125 = .ok (.iload_n 2, 1) := by decide +kernel
theorem dX6_mean_126 : decode cX6_mean 126 = .ok (.invokestatic 229, 3) := by decide +kernel
theorem dX6_mean_129 : decode cX6_mean 129 = .ok (.lreturn, 1) := by decide +kernel
theorem dX6_see_0 : decode cX6_see 0 = .ok (.aload_n 0, 1) := by decide +kernel
theorem dX6_see_1 : decode cX6_see 1 = .ok (.getfield 10, 3) := by decide +kernel
theorem dX6_see_4 : decode cX6_see 4 = .ok (.iload_n 1, 1) := by decide +kernel
theorem dX6_see_5 : decode cX6_see 5 = .ok (.invokevirtual 114, 3) := by decide +kernel
theorem dX6_see_8 : decode cX6_see 8 = .ok (.ifCond .eq 13, 3) := by decide +kernel
theorem dX6_see_11 : decode cX6_see 11 = .ok (.iload_n 2, 1) := by decide +kernel
theorem dX6_see_12 : decode cX6_see 12 = .ok (.iconst 0, 1) := by decide +kernel
theorem dX6_see_13 : decode cX6_see 13 = .ok (.bipush 11, 2) := by decide +kernel
theorem dX6_see_15 : decode cX6_see 15 = .ok (.invokestatic 57, 3) := by decide +kernel
theorem dX6_see_18 : decode cX6_see 18 = .ok (.ifCond .ne 5, 3) := by decide +kernel
theorem dX6_see_21 : decode cX6_see 21 = .ok (.iconst (-1), 1) := by decide +kernel
theorem dX6_see_22 : decode cX6_see 22 = .ok (.ireturn, 1) := by decide +kernel
theorem dX6_see_23 : decode cX6_see 23 = .ok (.aload_n 0, 1) := by decide +kernel
theorem dX6_see_24 : decode cX6_see 24 = .ok (.getfield 40, 3) := by decide +kernel
theorem dX6_see_27 : decode cX6_see 27 = .ok (.getfield 86, 3) := by decide +kernel
theorem dX6_see_30 : decode cX6_see 30 = .ok (.bipush 6, 2) := by decide +kernel
theorem dX6_see_32 : decode cX6_see 32 = .ok (.if_icmp .lt 6, 3) := by decide +kernel
theorem dX6_see_35 : decode cX6_see 35 = .ok (.bipush (-3), 2) := by decide +kernel
theorem dX6_see_37 : decode cX6_see 37 = .ok (.ireturn, 1) := by decide +kernel
theorem dX6_see_38 : decode cX6_see 38 = .ok (.aload_n 0, 1) := by decide +kernel
theorem dX6_see_39 : decode cX6_see 39 = .ok (.getfield 40, 3) := by decide +kernel
theorem dX6_see_42 : decode cX6_see 42 = .ok (.iload_n 1, 1) := by decide +kernel
theorem dX6_see_43 : decode cX6_see 43 = .ok (.iload_n 2, 1) := by decide +kernel
theorem dX6_see_44 : decode cX6_see 44 = .ok (.invokevirtual 245, 3) := by decide +kernel
theorem dX6_see_47 : decode cX6_see 47 = .ok (.aload_n 0, 1) := by decide +kernel
theorem dX6_see_48 : decode cX6_see 48 = .ok (.getfield 40, 3) := by decide +kernel
theorem dX6_see_51 : decode cX6_see 51 = .ok (.getfield 86, 3) := by decide +kernel
theorem dX6_see_54 : decode cX6_see 54 = .ok (.ireturn, 1) := by decide +kernel
theorem dX6_forget_0 : decode cX6_forget 0 = .ok (.iload_n 1, 1) := by decide +kernel
theorem dX6_forget_1 : decode cX6_forget 1 = .ok (.iconst 0, 1) := by decide +kernel
theorem dX6_forget_2 : decode cX6_forget 2 = .ok (.aload_n 0, 1) := by decide +kernel
theorem dX6_forget_3 : decode cX6_forget 3 = .ok (.getfield 40, 3) := by decide +kernel
theorem dX6_forget_6 : decode cX6_forget 6 = .ok (.getfield 86, 3) := by decide +kernel
theorem dX6_forget_9 : decode cX6_forget 9 = .ok (.invokestatic 57, 3) := by decide +kernel
theorem dX6_forget_12 : decode cX6_forget 12 = .ok (.ifCond .ne 5, 3) := by decide +kernel
theorem dX6_forget_15 : decode cX6_forget 15 = .ok (.iconst (-1), 1) := by decide +kernel
theorem dX6_forget_16 : decode cX6_forget 16 = .ok (.ireturn, 1) := by decide +kernel
theorem dX6_forget_17 : decode cX6_forget 17 = .ok (.aload_n 0, 1) := by decide +kernel
theorem dX6_forget_18 : decode cX6_forget 18 = .ok (.getfield 40, 3) := by decide +kernel
theorem dX6_forget_21 : decode cX6_forget 21 = .ok (.getfield 86, 3) := by decide +kernel
theorem dX6_forget_24 : decode cX6_forget 24 = .ok (.istore_n 2, 1) := by decide +kernel
theorem dX6_forget_25 : decode cX6_forget 25 = .ok (.aload_n 0, 1) := by decide +kernel
theorem dX6_forget_26 : decode cX6_forget 26 = .ok (.getfield 40, 3) := by decide +kernel
theorem dX6_forget_29 : decode cX6_forget 29 = .ok (.iload_n 1, 1) := by decide +kernel
theorem dX6_forget_30 : decode cX6_forget 30 = .ok (.putfield 86, 3) := by decide +kernel
theorem dX6_forget_33 : decode cX6_forget 33 = .ok (.iload_n 2, 1) := by decide +kernel
theorem dX6_forget_34 : decode cX6_forget 34 = .ok (.ireturn, 1) := by decide +kernel
theorem dX6_winds_0 : decode cX6_winds 0 = .ok (.aload_n 0, 1) := by decide +kernel
theorem dX6_winds_1 : decode cX6_winds 1 = .ok (.getfield 19, 3) := by decide +kernel
theorem dX6_winds_4 : decode cX6_winds 4 = .ok (.getfield 69, 3) := by decide +kernel
theorem dX6_winds_7 : decode cX6_winds 7 = .ok (.astore_n 1, 1) := by decide +kernel
theorem dX6_winds_8 : decode cX6_winds 8 = .ok (.aload_n 1, 1) := by decide +kernel
theorem dX6_winds_9 : decode cX6_winds 9 = .ok (.aload_n 0, 1) := by decide +kernel
theorem dX6_winds_10 : decode cX6_winds 10 = .ok (.getfield 10, 3) := by decide +kernel
theorem dX6_winds_13 : decode cX6_winds 13 = .ok (.invokevirtual 82, 3) := by decide +kernel
theorem dX6_winds_16 : decode cX6_winds 16 = .ok (.iconst 0, 1) := by decide +kernel
theorem dX6_winds_17 : decode cX6_winds 17 = .ok (.istore_n 2, 1) := by decide +kernel
theorem dX6_winds_18 : decode cX6_winds 18 = .ok (.iconst 0, 1) := by decide +kernel
theorem dX6_winds_19 : decode cX6_winds 19 = .ok (.istore_n 3, 1) := by decide +kernel
theorem dX6_winds_20 : decode cX6_winds 20 = .ok (.iload_n 3, 1) := by decide +kernel
theorem dX6_winds_21 : decode cX6_winds 21 = .ok (.bipush 9, 2) := by decide +kernel
theorem dX6_winds_23 : decode cX6_winds 23 = .ok (.if_icmp .ge 31, 3) := by decide +kernel
theorem dX6_winds_26 : decode cX6_winds 26 = .ok (.aload_n 1, 1) := by decide +kernel
theorem dX6_winds_27 : decode cX6_winds 27 = .ok (.iload_n 3, 1) := by decide +kernel
theorem dX6_winds_28 : decode cX6_winds 28 = .ok (.putfield 98, 3) := by decide +kernel
theorem dX6_winds_31 : decode cX6_winds 31 = .ok (.aload_n 0, 1) := by decide +kernel
theorem dX6_winds_32 : decode cX6_winds 32 = .ok (.getfield 40, 3) := by decide +kernel
theorem dX6_winds_35 : decode cX6_winds 35 = .ok (.aload_n 1, 1) := by decide +kernel
theorem dX6_winds_36 : decode cX6_winds 36 = .ok (.invokevirtual 248, 3) := by decide +kernel
theorem dX6_winds_39 : decode cX6_winds 39 = .ok (.ifCond .eq 9, 3) := by decide +kernel
theorem dX6_winds_42 : decode cX6_winds 42 = .ok (.iload_n 2, 1) := by decide +kernel
theorem dX6_winds_43 : decode cX6_winds 43 = .ok (.iconst 1, 1) := by decide +kernel
theorem dX6_winds_44 : decode cX6_winds 44 = .ok (.iload_n 3, 1) := by decide +kernel
theorem dX6_winds_45 : decode cX6_winds 45 = .ok (.ishl, 1) := by decide +kernel
theorem dX6_winds_46 : decode cX6_winds 46 = .ok (.ior, 1) := by decide +kernel
theorem dX6_winds_47 : decode cX6_winds 47 = .ok (.istore_n 2, 1) := by decide +kernel
theorem dX6_winds_48 : decode cX6_winds 48 = .ok (.iinc 3 1, 3) := by decide +kernel
theorem dX6_winds_51 : decode cX6_winds 51 = .ok (.goto (-31), 3) := by decide +kernel
theorem dX6_winds_54 : decode cX6_winds 54 = .ok (.iload_n 2, 1) := by decide +kernel
theorem dX6_winds_55 : decode cX6_winds 55 = .ok (.ireturn, 1) := by decide +kernel
theorem dX6_froms_0 : decode cX6_froms 0 = .ok (.aload_n 0, 1) := by decide +kernel
theorem dX6_froms_1 : decode cX6_froms 1 = .ok (.getfield 10, 3) := by decide +kernel
theorem dX6_froms_4 : decode cX6_froms 4 = .ok (.iload_n 1, 1) := by decide +kernel
theorem dX6_froms_5 : decode cX6_froms 5 = .ok (.invokevirtual 114, 3) := by decide +kernel
theorem dX6_froms_8 : decode cX6_froms 8 = .ok (.ifCond .ne 5, 3) := by decide +kernel
theorem dX6_froms_11 : decode cX6_froms 11 = .ok (.iconst (-1), 1) := by decide +kernel
theorem dX6_froms_12 : decode cX6_froms 12 = .ok (.ireturn, 1) := by decide +kernel
theorem dX6_froms_13 : decode cX6_froms 13 = .ok (.aload_n 0, 1) := by decide +kernel
theorem dX6_froms_14 : decode cX6_froms 14 = .ok (.iload_n 1, 1) := by decide +kernel
theorem dX6_froms_15 : decode cX6_froms 15 = .ok (.iconst 1, 1) := by decide +kernel
theorem dX6_froms_16 : decode cX6_froms 16 = .ok (.invokevirtual 252, 3) := by decide +kernel
theorem dX6_froms_19 : decode cX6_froms 19 = .ok (.ireturn, 1) := by decide +kernel
theorem dX6_kinds_0 : decode cX6_kinds 0 = .ok (.aload_n 0, 1) := by decide +kernel
theorem dX6_kinds_1 : decode cX6_kinds 1 = .ok (.getfield 10, 3) := by decide +kernel
theorem dX6_kinds_4 : decode cX6_kinds 4 = .ok (.iload_n 1, 1) := by decide +kernel
theorem dX6_kinds_5 : decode cX6_kinds 5 = .ok (.invokevirtual 114, 3) := by decide +kernel
theorem dX6_kinds_8 : decode cX6_kinds 8 = .ok (.ifCond .ne 5, 3) := by decide +kernel
theorem dX6_kinds_11 : decode cX6_kinds 11 = .ok (.iconst (-1), 1) := by decide +kernel
theorem dX6_kinds_12 : decode cX6_kinds 12 = .ok (.ireturn, 1) := by decide +kernel
theorem dX6_kinds_13 : decode cX6_kinds 13 = .ok (.aload_n 0, 1) := by decide +kernel
theorem dX6_kinds_14 : decode cX6_kinds 14 = .ok (.iload_n 1, 1) := by decide +kernel
theorem dX6_kinds_15 : decode cX6_kinds 15 = .ok (.iconst 0, 1) := by decide +kernel
theorem dX6_kinds_16 : decode cX6_kinds 16 = .ok (.invokevirtual 252, 3) := by decide +kernel
theorem dX6_kinds_19 : decode cX6_kinds 19 = .ok (.ireturn, 1) := by decide +kernel
theorem dX6_valuesAsSeen_0 : decode cX6_valuesAsSeen 0 = .ok (.aload_n 0, 1) := by decide +kernel
theorem dX6_valuesAsSeen_1 : decode cX6_valuesAsSeen 1 = .ok (.getfield 19, 3) := by decide +kernel
theorem dX6_valuesAsSeen_4 : decode cX6_valuesAsSeen 4 = .ok (.getfield 69, 3) := by decide +kernel
theorem dX6_valuesAsSeen_7 : decode cX6_valuesAsSeen 7 = .ok (.astore_n 3, 1) := by decide +kernel
theorem dX6_valuesAsSeen_8 : decode cX6_valuesAsSeen 8 = .ok (.aload_n 3, 1) := by decide +kernel
theorem dX6_valuesAsSeen_9 : decode cX6_valuesAsSeen 9 = .ok (.aload_n 0, 1) := by decide +kernel
theorem dX6_valuesAsSeen_10 : decode cX6_valuesAsSeen 10 = .ok (.getfield 10, 3) := by decide +kernel
theorem dX6_valuesAsSeen_13 : decode cX6_valuesAsSeen 13 = .ok (.invokevirtual 82, 3) := by decide +kernel
theorem dX6_valuesAsSeen_16 : decode cX6_valuesAsSeen 16 = .ok (.iconst 0, 1) := by decide +kernel
theorem dX6_valuesAsSeen_17 : decode cX6_valuesAsSeen 17 = .ok (.istore 4, 2) := by decide +kernel
theorem dX6_valuesAsSeen_19 : decode cX6_valuesAsSeen 19 = .ok (.iconst 0, 1) := by decide +kernel
theorem dX6_valuesAsSeen_20 : decode cX6_valuesAsSeen 20 = .ok (.istore 5, 2) := by decide +kernel
theorem dX6_valuesAsSeen_22 : decode cX6_valuesAsSeen 22 = .ok (.iload 5, 2) := by decide +kernel
theorem dX6_valuesAsSeen_24 : decode cX6_valuesAsSeen 24 = .ok (.getstatic 197, 3) := by decide +kernel
theorem dX6_valuesAsSeen_27 : decode cX6_valuesAsSeen 27 = .ok (.iload_n 2, 1) := by decide +kernel
theorem dX6_valuesAsSeen_28 : decode cX6_valuesAsSeen 28 = .ok (.iaload, 1) := by decide +kernel
theorem dX6_valuesAsSeen_29 : decode cX6_valuesAsSeen 29 = .ok (.if_icmp .gt 37, 3) := by decide +kernel
theorem dX6_valuesAsSeen_32 : decode cX6_valuesAsSeen 32 = .ok (.aload_n 3, 1) := by decide +kernel
theorem dX6_valuesAsSeen_33 : decode cX6_valuesAsSeen 33 = .ok (.iload_n 1, 1) := by decide +kernel
theorem dX6_valuesAsSeen_34 : decode cX6_valuesAsSeen 34 = .ok (.iload_n 2, 1) := by decide +kernel
theorem dX6_valuesAsSeen_35 : decode cX6_valuesAsSeen 35 = .ok (.iload 5, 2) := by decide +kernel
theorem dX6_valuesAsSeen_37 : decode cX6_valuesAsSeen 37 = .ok (.invokevirtual 163, 3) := by decide +kernel
theorem dX6_valuesAsSeen_40 : decode cX6_valuesAsSeen 40 = .ok (.aload_n 0, 1) := by decide +kernel
theorem dX6_valuesAsSeen_41 : decode cX6_valuesAsSeen 41 = .ok (.getfield 40, 3) := by decide +kernel
theorem dX6_valuesAsSeen_44 : decode cX6_valuesAsSeen 44 = .ok (.aload_n 3, 1) := by decide +kernel
theorem dX6_valuesAsSeen_45 : decode cX6_valuesAsSeen 45 = .ok (.invokevirtual 248, 3) := by decide +kernel
theorem dX6_valuesAsSeen_48 : decode cX6_valuesAsSeen 48 = .ok (.ifCond .eq 12, 3) := by decide +kernel
theorem dX6_valuesAsSeen_51 : decode cX6_valuesAsSeen 51 = .ok (.iload 4, 2) := by decide +kernel
theorem dX6_valuesAsSeen_53 : decode cX6_valuesAsSeen 53 = .ok (.iconst 1, 1) := by decide +kernel
theorem dX6_valuesAsSeen_54 : decode cX6_valuesAsSeen 54 = .ok (.iload 5, 2) := by decide +kernel
theorem dX6_valuesAsSeen_56 : decode cX6_valuesAsSeen 56 = .ok (.ishl, 1) := by decide +kernel
theorem dX6_valuesAsSeen_57 : decode cX6_valuesAsSeen 57 = .ok (.ior, 1) := by decide +kernel
theorem dX6_valuesAsSeen_58 : decode cX6_valuesAsSeen 58 = .ok (.istore 4, 2) := by decide +kernel
theorem dX6_valuesAsSeen_60 : decode cX6_valuesAsSeen 60 = .ok (.iinc 5 1, 3) := by decide +kernel
theorem dX6_valuesAsSeen_63 : decode cX6_valuesAsSeen 63 = .ok (.goto (-41), 3) := by decide +kernel
theorem dX6_valuesAsSeen_66 : decode cX6_valuesAsSeen 66 = .ok (.iload 4, 2) := by decide +kernel
theorem dX6_valuesAsSeen_68 : decode cX6_valuesAsSeen 68 = .ok (.ireturn, 1) := by decide +kernel
theorem dX6_ask_0 : decode cX6_ask 0 = .ok (.iload_n 1, 1) := by decide +kernel
theorem dX6_ask_1 : decode cX6_ask 1 = .ok (.iconst 0, 1) := by decide +kernel
theorem dX6_ask_2 : decode cX6_ask 2 = .ok (.iconst 1, 1) := by decide +kernel
theorem dX6_ask_3 : decode cX6_ask 3 = .ok (.invokestatic 57, 3) := by decide +kernel
theorem dX6_ask_6 : decode cX6_ask 6 = .ok (.ifCond .ne 5, 3) := by decide +kernel
theorem dX6_ask_9 : decode cX6_ask 9 = .ok (.iconst (-1), 1) := by decide +kernel
theorem dX6_ask_10 : decode cX6_ask 10 = .ok (.ireturn, 1) := by decide +kernel
theorem dX6_ask_11 : decode cX6_ask 11 = .ok (.aload_n 0, 1) := by decide +kernel
theorem dX6_ask_12 : decode cX6_ask 12 = .ok (.invokevirtual 255, 3) := by decide +kernel
theorem dX6_ask_15 : decode cX6_ask 15 = .ok (.istore_n 2, 1) := by decide +kernel
theorem dX6_ask_16 : decode cX6_ask 16 = .ok (.iload_n 2, 1) := by decide +kernel
theorem dX6_ask_17 : decode cX6_ask 17 = .ok (.invokestatic 204, 3) := by decide +kernel
theorem dX6_ask_20 : decode cX6_ask 20 = .ok (.istore_n 3, 1) := by decide +kernel
theorem dX6_ask_21 : decode cX6_ask 21 = .ok (.aload_n 0, 1) := by decide +kernel
theorem dX6_ask_22 : decode cX6_ask 22 = .ok (.getfield 26, 3) := by decide +kernel
theorem dX6_ask_25 : decode cX6_ask 25 = .ok (.iconst 0, 1) := by decide +kernel
theorem dX6_ask_26 : decode cX6_ask 26 = .ok (.invokevirtual 183, 3) := by decide +kernel
theorem dX6_ask_29 : decode cX6_ask 29 = .ok (.iconst 0, 1) := by decide +kernel
theorem dX6_ask_30 : decode cX6_ask 30 = .ok (.istore 4, 2) := by decide +kernel
theorem dX6_ask_32 : decode cX6_ask 32 = .ok (.iload 4, 2) := by decide +kernel
theorem dX6_ask_34 : decode cX6_ask 34 = .ok (.aload_n 0, 1) := by decide +kernel
theorem dX6_ask_35 : decode cX6_ask 35 = .ok (.getfield 10, 3) := by decide +kernel
theorem dX6_ask_38 : decode cX6_ask 38 = .ok (.getfield 92, 3) := by decide +kernel
theorem dX6_ask_41 : decode cX6_ask 41 = .ok (.if_icmp .ge 27, 3) := by decide +kernel
theorem dX6_ask_44 : decode cX6_ask 44 = .ok (.aload_n 0, 1) := by decide +kernel
theorem dX6_ask_45 : decode cX6_ask 45 = .ok (.getfield 26, 3) := by decide +kernel
theorem dX6_ask_48 : decode cX6_ask 48 = .ok (.iload 4, 2) := by decide +kernel
theorem dX6_ask_50 : decode cX6_ask 50 = .ok (.iload_n 3, 1) := by decide +kernel
theorem dX6_ask_51 : decode cX6_ask 51 = .ok (.aload_n 0, 1) := by decide +kernel
theorem dX6_ask_52 : decode cX6_ask 52 = .ok (.iload 4, 2) := by decide +kernel
theorem dX6_ask_54 : decode cX6_ask 54 = .ok (.iload_n 2, 1) := by decide +kernel
theorem dX6_ask_55 : decode cX6_ask 55 = .ok (.invokevirtual 258, 3) := by decide +kernel
theorem dX6_ask_58 : decode cX6_ask 58 = .ok (.isub, 1) := by decide +kernel
theorem dX6_ask_59 : decode cX6_ask 59 = .ok (.invokevirtual 190, 3) := by decide +kernel
theorem dX6_ask_62 : decode cX6_ask 62 = .ok (.iinc 4 1, 3) := by decide +kernel
theorem dX6_ask_65 : decode cX6_ask 65 = .ok (.goto (-33), 3) := by decide +kernel
theorem dX6_ask_68 : decode cX6_ask 68 = .ok (.aload_n 0, 1) := by decide +kernel
theorem dX6_ask_69 : decode cX6_ask 69 = .ok (.getfield 26, 3) := by decide +kernel
theorem dX6_ask_72 : decode cX6_ask 72 = .ok (.getfield 261, 3) := by decide +kernel
theorem dX6_ask_75 : decode cX6_ask 75 = .ok (.ifCond .lt 7, 3) := by decide +kernel
theorem dX6_ask_78 : decode cX6_ask 78 = .ok (.iload_n 1, 1) := by decide +kernel
theorem dX6_ask_79 : decode cX6_ask 79 = .ok (.ifCond .ne 11, 3) := by decide +kernel
theorem dX6_ask_82 : decode cX6_ask 82 = .ok (.aload_n 0, 1) := by decide +kernel
theorem dX6_ask_83 : decode cX6_ask 83 = .ok (.getfield 26, 3) := by decide +kernel
theorem dX6_ask_86 : decode cX6_ask 86 = .ok (.getfield 261, 3) := by decide +kernel
theorem dX6_ask_89 : decode cX6_ask 89 = .ok (.ireturn, 1) := by decide +kernel
theorem dX6_ask_90 : decode cX6_ask 90 = .ok (.iload_n 3, 1) := by decide +kernel
theorem dX6_ask_91 : decode cX6_ask 91 = .ok (.aload_n 0, 1) := by decide +kernel
theorem dX6_ask_92 : decode cX6_ask 92 = .ok (.getfield 26, 3) := by decide +kernel
theorem dX6_ask_95 : decode cX6_ask 95 = .ok (.getfield 264, 3) := by decide +kernel
theorem dX6_ask_98 : decode cX6_ask 98 = .ok (.isub, 1) := by decide +kernel
theorem dX6_ask_99 : decode cX6_ask 99 = .ok (.ireturn, 1) := by decide +kernel
theorem dX6_windsLeftAtWorst_0 : decode cX6_windsLeftAtWorst 0 = .ok (.aload_n 0, 1) := by decide +kernel
theorem dX6_windsLeftAtWorst_1 : decode cX6_windsLeftAtWorst 1 = .ok (.getfield 19, 3) := by decide +kernel
theorem dX6_windsLeftAtWorst_4 : decode cX6_windsLeftAtWorst 4 = .ok (.getfield 69, 3) := by decide +kernel
theorem dX6_windsLeftAtWorst_7 : decode cX6_windsLeftAtWorst 7 = .ok (.aload_n 0, 1) := by decide +kernel
theorem dX6_windsLeftAtWorst_8 : decode cX6_windsLeftAtWorst 8 = .ok (.getfield 10, 3) := by decide +kernel
theorem dX6_windsLeftAtWorst_11 : decode cX6_windsLeftAtWorst 11 = .ok (.invokevirtual 82, 3) := by decide +kernel
theorem dX6_windsLeftAtWorst_14 : decode cX6_windsLeftAtWorst 14 = .ok (.iconst 0, 1) := by decide +kernel
theorem dX6_windsLeftAtWorst_15 : decode cX6_windsLeftAtWorst 15 = .ok (.istore_n 3, 1) := by decide +kernel
theorem dX6_windsLeftAtWorst_16 : decode cX6_windsLeftAtWorst 16 = .ok (.iconst 0, 1) := by decide +kernel
theorem dX6_windsLeftAtWorst_17 : decode cX6_windsLeftAtWorst 17 = .ok (.istore 4, 2) := by decide +kernel
theorem dX6_windsLeftAtWorst_19 : decode cX6_windsLeftAtWorst 19 = .ok (.iload 4, 2) := by decide +kernel
theorem dX6_windsLeftAtWorst_21 : decode cX6_windsLeftAtWorst 21 = .ok (.bipush 12, 2) := by decide +kernel
theorem dX6_windsLeftAtWorst_23 : decode cX6_windsLeftAtWorst 23 = .ok (.if_icmp .ge 28, 3) := by decide +kernel
theorem dX6_windsLeftAtWorst_26 : decode cX6_windsLeftAtWorst 26 = .ok (.iload_n 3, 1) := by decide +kernel
theorem dX6_windsLeftAtWorst_27 : decode cX6_windsLeftAtWorst 27 = .ok (.aload_n 0, 1) := by decide +kernel
theorem dX6_windsLeftAtWorst_28 : decode cX6_windsLeftAtWorst 28 = .ok (.getfield 19, 3) := by decide +kernel
theorem dX6_windsLeftAtWorst_31 : decode cX6_windsLeftAtWorst 31 = .ok (.getfield 69, 3) := by decide +kernel
theorem dX6_windsLeftAtWorst_34 : decode cX6_windsLeftAtWorst 34 = .ok (.iload_n 1, 1) := by decide +kernel
theorem dX6_windsLeftAtWorst_35 : decode cX6_windsLeftAtWorst 35 = .ok (.iload 4, 2) := by decide +kernel
theorem dX6_windsLeftAtWorst_37 : decode cX6_windsLeftAtWorst 37 = .ok (.iload_n 2, 1) := by decide +kernel
theorem dX6_windsLeftAtWorst_38 : decode cX6_windsLeftAtWorst 38 = .ok (.invokestatic 267, 3) := by decide +kernel
theorem dX6_windsLeftAtWorst_41 : decode cX6_windsLeftAtWorst 41 = .ok (.invokestatic 271, 3) := by decide +kernel
theorem dX6_windsLeftAtWorst_44 : decode cX6_windsLeftAtWorst 44 = .ok (.istore_n 3, 1) := by decide +kernel
theorem dX6_windsLeftAtWorst_45 : decode cX6_windsLeftAtWorst 45 = .ok (.iinc 4 1, 3) := by decide +kernel
theorem dX6_windsLeftAtWorst_48 : decode cX6_windsLeftAtWorst 48 = .ok (.goto (-29), 3) := by decide +kernel
theorem dX6_windsLeftAtWorst_51 : decode cX6_windsLeftAtWorst 51 = .ok (.iload_n 3, 1) := by decide +kernel
theorem dX6_windsLeftAtWorst_52 : decode cX6_windsLeftAtWorst 52 = .ok (.ireturn, 1) := by decide +kernel
theorem dX6_windsThatDrop_0 : decode cX6_windsThatDrop 0 = .ok (.iconst 0, 1) := by decide +kernel
theorem dX6_windsThatDrop_1 : decode cX6_windsThatDrop 1 = .ok (.istore 4, 2) := by decide +kernel
theorem dX6_windsThatDrop_3 : decode cX6_windsThatDrop 3 = .ok (.iconst 0, 1) := by decide +kernel
theorem dX6_windsThatDrop_4 : decode cX6_windsThatDrop 4 = .ok (.istore 5, 2) := by decide +kernel
theorem dX6_windsThatDrop_6 : decode cX6_windsThatDrop 6 = .ok (.iload 5, 2) := by decide +kernel
theorem dX6_windsThatDrop_8 : decode cX6_windsThatDrop 8 = .ok (.bipush 9, 2) := by decide +kernel
theorem dX6_windsThatDrop_10 : decode cX6_windsThatDrop 10 = .ok (.if_icmp .ge 37, 3) := by decide +kernel
theorem dX6_windsThatDrop_13 : decode cX6_windsThatDrop 13 = .ok (.aload_n 0, 1) := by decide +kernel
theorem dX6_windsThatDrop_14 : decode cX6_windsThatDrop 14 = .ok (.iload 5, 2) := by decide +kernel
theorem dX6_windsThatDrop_16 : decode cX6_windsThatDrop 16 = .ok (.putfield 98, 3) := by decide +kernel
theorem dX6_windsThatDrop_19 : decode cX6_windsThatDrop 19 = .ok (.iload_n 3, 1) := by decide +kernel
theorem dX6_windsThatDrop_20 : decode cX6_windsThatDrop 20 = .ok (.iload 5, 2) := by decide +kernel
theorem dX6_windsThatDrop_22 : decode cX6_windsThatDrop 22 = .ok (.ishr, 1) := by decide +kernel
theorem dX6_windsThatDrop_23 : decode cX6_windsThatDrop 23 = .ok (.iconst 1, 1) := by decide +kernel
theorem dX6_windsThatDrop_24 : decode cX6_windsThatDrop 24 = .ok (.iand, 1) := by decide +kernel
theorem dX6_windsThatDrop_25 : decode cX6_windsThatDrop 25 = .ok (.iconst 1, 1) := by decide +kernel
theorem dX6_windsThatDrop_26 : decode cX6_windsThatDrop 26 = .ok (.if_icmp .ne 15, 3) := by decide +kernel
theorem dX6_windsThatDrop_29 : decode cX6_windsThatDrop 29 = .ok (.aload_n 0, 1) := by decide +kernel
theorem dX6_windsThatDrop_30 : decode cX6_windsThatDrop 30 = .ok (.iload_n 1, 1) := by decide +kernel
theorem dX6_windsThatDrop_31 : decode cX6_windsThatDrop 31 = .ok (.invokevirtual 132, 3) := by decide +kernel
theorem dX6_windsThatDrop_34 : decode cX6_windsThatDrop 34 = .ok (.iload_n 2, 1) := by decide +kernel
theorem dX6_windsThatDrop_35 : decode cX6_windsThatDrop 35 = .ok (.if_icmp .ne 6, 3) := by decide +kernel
theorem dX6_windsThatDrop_38 : decode cX6_windsThatDrop 38 = .ok (.iinc 4 1, 3) := by decide +kernel
theorem dX6_windsThatDrop_41 : decode cX6_windsThatDrop 41 = .ok (.iinc 5 1, 3) := by decide +kernel
theorem dX6_windsThatDrop_44 : decode cX6_windsThatDrop 44 = .ok (.goto (-38), 3) := by decide +kernel
theorem dX6_windsThatDrop_47 : decode cX6_windsThatDrop 47 = .ok (.iload 4, 2) := by decide +kernel
theorem dX6_windsThatDrop_49 : decode cX6_windsThatDrop 49 = .ok (.ireturn, 1) := by decide +kernel
theorem dX6_drift_0 : decode cX6_drift 0 = .ok (.iload_n 2, 1) := by decide +kernel
theorem dX6_drift_1 : decode cX6_drift 1 = .ok (.iconst 1, 1) := by decide +kernel
theorem dX6_drift_2 : decode cX6_drift 2 = .ok (.bipush 60, 2) := by decide +kernel
theorem dX6_drift_4 : decode cX6_drift 4 = .ok (.invokestatic 57, 3) := by decide +kernel
theorem dX6_drift_7 : decode cX6_drift 7 = .ok (.ifCond .eq 12, 3) := by decide +kernel
theorem dX6_drift_10 : decode cX6_drift 10 = .ok (.iload_n 3, 1) := by decide +kernel
theorem dX6_drift_11 : decode cX6_drift 11 = .ok (.iconst 0, 1) := by decide +kernel
theorem dX6_drift_12 : decode cX6_drift 12 = .ok (.iconst 1, 1) := by decide +kernel
theorem dX6_drift_13 : decode cX6_drift 13 = .ok (.invokestatic 57, 3) := by decide +kernel
theorem dX6_drift_16 : decode cX6_drift 16 = .ok (.ifCond .ne 5, 3) := by decide +kernel
theorem dX6_drift_19 : decode cX6_drift 19 = .ok (.iconst (-1), 1) := by decide +kernel
theorem dX6_drift_20 : decode cX6_drift 20 = .ok (.ireturn, 1) := by decide +kernel
theorem dX6_drift_21 : decode cX6_drift 21 = .ok (.aload_n 0, 1) := by decide +kernel
theorem dX6_drift_22 : decode cX6_drift 22 = .ok (.getfield 19, 3) := by decide +kernel
theorem dX6_drift_25 : decode cX6_drift 25 = .ok (.aload_n 0, 1) := by decide +kernel
theorem dX6_drift_26 : decode cX6_drift 26 = .ok (.getfield 10, 3) := by decide +kernel
theorem dX6_drift_29 : decode cX6_drift 29 = .ok (.invokevirtual 104, 3) := by decide +kernel
theorem dX6_drift_32 : decode cX6_drift 32 = .ok (.iload_n 1, 1) := by decide +kernel
theorem dX6_drift_33 : decode cX6_drift 33 = .ok (.istore 4, 2) := by decide +kernel
theorem dX6_drift_35 : decode cX6_drift 35 = .ok (.iconst 0, 1) := by decide +kernel
theorem dX6_drift_36 : decode cX6_drift 36 = .ok (.istore 5, 2) := by decide +kernel
theorem dX6_drift_38 : decode cX6_drift 38 = .ok (.iconst 0, 1) := by decide +kernel
theorem dX6_drift_39 : decode cX6_drift 39 = .ok (.istore 6, 2) := by decide +kernel
theorem dX6_drift_41 : decode cX6_drift 41 = .ok (.iload 6, 2) := by decide +kernel
theorem dX6_drift_43 : decode cX6_drift 43 = .ok (.iload_n 2, 1) := by decide +kernel
theorem dX6_drift_44 : decode cX6_drift 44 = .ok (.if_icmp .ge 98, 3) := by decide +kernel
theorem dX6_drift_47 : decode cX6_drift 47 = .ok (.iload 4, 2) := by decide +kernel
theorem dX6_drift_49 : decode cX6_drift 49 = .ok (.ldc_w 276, 3) := by decide +kernel
theorem dX6_drift_52 : decode cX6_drift 52 = .ok (.imul, 1) := by decide +kernel
theorem dX6_drift_53 : decode cX6_drift 53 = .ok (.sipush 12345, 3) := by decide +kernel
theorem dX6_drift_56 : decode cX6_drift 56 = .ok (.iadd, 1) := by decide +kernel
theorem dX6_drift_57 : decode cX6_drift 57 = .ok (.istore 4, 2) := by decide +kernel
theorem dX6_drift_59 : decode cX6_drift 59 = .ok (.iload 4, 2) := by decide +kernel
theorem dX6_drift_61 : decode cX6_drift 61 = .ok (.bipush 16, 2) := by decide +kernel
theorem dX6_drift_63 : decode cX6_drift 63 = .ok (.ishr, 1) := by decide +kernel
theorem dX6_drift_64 : decode cX6_drift 64 = .ok (.sipush 32767, 3) := by decide +kernel
theorem dX6_drift_67 : decode cX6_drift 67 = .ok (.iand, 1) := by decide +kernel
theorem dX6_drift_68 : decode cX6_drift 68 = .ok (.istore 7, 2) := by decide +kernel
theorem dX6_drift_70 : decode cX6_drift 70 = .ok (.aload_n 0, 1) := by decide +kernel
theorem dX6_drift_71 : decode cX6_drift 71 = .ok (.getfield 19, 3) := by decide +kernel
theorem dX6_drift_74 : decode cX6_drift 74 = .ok (.getfield 69, 3) := by decide +kernel
theorem dX6_drift_77 : decode cX6_drift 77 = .ok (.iload 7, 2) := by decide +kernel
theorem dX6_drift_79 : decode cX6_drift 79 = .ok (.bipush 9, 2) := by decide +kernel
theorem dX6_drift_81 : decode cX6_drift 81 = .ok (.irem, 1) := by decide +kernel
theorem dX6_drift_82 : decode cX6_drift 82 = .ok (.putfield 98, 3) := by decide +kernel
theorem dX6_drift_85 : decode cX6_drift 85 = .ok (.aload_n 0, 1) := by decide +kernel
theorem dX6_drift_86 : decode cX6_drift 86 = .ok (.getfield 19, 3) := by decide +kernel
theorem dX6_drift_89 : decode cX6_drift 89 = .ok (.getfield 69, 3) := by decide +kernel
theorem dX6_drift_92 : decode cX6_drift 92 = .ok (.iload 7, 2) := by decide +kernel
theorem dX6_drift_94 : decode cX6_drift 94 = .ok (.bipush 16, 2) := by decide +kernel
theorem dX6_drift_96 : decode cX6_drift 96 = .ok (.idiv, 1) := by decide +kernel
theorem dX6_drift_97 : decode cX6_drift 97 = .ok (.bipush 10, 2) := by decide +kernel
theorem dX6_drift_99 : decode cX6_drift 99 = .ok (.irem, 1) := by decide +kernel
theorem dX6_drift_100 : decode cX6_drift 100 = .ok (.putfield 101, 3) := by decide +kernel
theorem dX6_drift_103 : decode cX6_drift 103 = .ok (.aload_n 0, 1) := by decide +kernel
theorem dX6_drift_104 : decode cX6_drift 104 = .ok (.getfield 19, 3) := by decide +kernel
theorem dX6_drift_107 : decode cX6_drift 107 = .ok (.invokevirtual 201, 3) := by decide +kernel
theorem dX6_drift_110 : decode cX6_drift 110 = .ok (.iload 5, 2) := by decide +kernel
theorem dX6_drift_112 : decode cX6_drift 112 = .ok (.iload_n 3, 1) := by decide +kernel
theorem dX6_drift_113 : decode cX6_drift 113 = .ok (.ifCond .ne 13, 3) := by decide +kernel
theorem dX6_drift_116 : decode cX6_drift 116 = .ok (.aload_n 0, 1) := by decide +kernel
theorem dX6_drift_117 : decode cX6_drift 117 = .ok (.getfield 19, 3) := by decide +kernel
theorem dX6_drift_120 : decode cX6_drift 120 = .ok (.invokevirtual 111, 3) := by decide +kernel
theorem dX6_drift_123 : decode cX6_drift 123 = .ok (.goto 10, 3) := by decide +kernel
theorem dX6_drift_126 : decode cX6_drift 126 = .ok (.aload_n 0, 1) := by decide +kernel
theorem dX6_drift_127 : decode cX6_drift 127 = .ok (.getfield 19, 3) := by decide +kernel
theorem dX6_drift_130 : decode cX6_drift 130 = .ok (.invokevirtual 107, 3) := by decide +kernel
theorem dX6_drift_133 : decode cX6_drift 133 = .ok (.iadd, 1) := by decide +kernel
theorem dX6_drift_134 : decode cX6_drift 134 = .ok (.istore 5, 2) := by decide +kernel
theorem dX6_drift_136 : decode cX6_drift 136 = .ok (.iinc 6 1, 3) := by decide +kernel
theorem dX6_drift_139 : decode cX6_drift 139 = .ok (.goto (-98), 3) := by decide +kernel
theorem dX6_drift_142 : decode cX6_drift 142 = .ok (.iload 5, 2) := by decide +kernel
theorem dX6_drift_144 : decode cX6_drift 144 = .ok (.ireturn, 1) := by decide +kernel
theorem dX6_keep_0 : decode cX6_keep 0 = .ok (.iload_n 1, 1) := by decide +kernel
theorem dX6_keep_1 : decode cX6_keep 1 = .ok (.iconst 0, 1) := by decide +kernel
theorem dX6_keep_2 : decode cX6_keep 2 = .ok (.iconst 1, 1) := by decide +kernel
theorem dX6_keep_3 : decode cX6_keep 3 = .ok (.invokestatic 57, 3) := by decide +kernel
theorem dX6_keep_6 : decode cX6_keep 6 = .ok (.ifCond .ne 5, 3) := by decide +kernel
theorem dX6_keep_9 : decode cX6_keep 9 = .ok (.iconst (-1), 1) := by decide +kernel
theorem dX6_keep_10 : decode cX6_keep 10 = .ok (.ireturn, 1) := by decide +kernel
theorem dX6_keep_11 : decode cX6_keep 11 = .ok (.aload_n 0, 1) := by decide +kernel
theorem dX6_keep_12 : decode cX6_keep 12 = .ok (.getfield 89, 3) := by decide +kernel
theorem dX6_keep_15 : decode cX6_keep 15 = .ok (.iload_n 1, 1) := by decide +kernel
theorem dX6_keep_16 : decode cX6_keep 16 = .ok (.ishr, 1) := by decide +kernel
theorem dX6_keep_17 : decode cX6_keep 17 = .ok (.iconst 1, 1) := by decide +kernel
theorem dX6_keep_18 : decode cX6_keep 18 = .ok (.iand, 1) := by decide +kernel
theorem dX6_keep_19 : decode cX6_keep 19 = .ok (.istore_n 2, 1) := by decide +kernel
theorem dX6_keep_20 : decode cX6_keep 20 = .ok (.aload_n 0, 1) := by decide +kernel
theorem dX6_keep_21 : decode cX6_keep 21 = .ok (.iload_n 1, 1) := by decide +kernel
theorem dX6_keep_22 : decode cX6_keep 22 = .ok (.invokevirtual 277, 3) := by decide +kernel
theorem dX6_keep_25 : decode cX6_keep 25 = .ok (.aload_n 0, 1) := by decide +kernel
theorem dX6_keep_26 : decode cX6_keep 26 = .ok (.getfield 10, 3) := by decide +kernel
theorem dX6_keep_29 : decode cX6_keep 29 = .ok (.invokevirtual 82, 3) := by decide +kernel
theorem dX6_keep_32 : decode cX6_keep 32 = .ok (.aload_n 0, 1) := by decide +kernel
theorem dX6_keep_33 : decode cX6_keep 33 = .ok (.dup, 1) := by decide +kernel
theorem dX6_keep_34 : decode cX6_keep 34 = .ok (.getfield 89, 3) := by decide +kernel
theorem dX6_keep_37 : decode cX6_keep 37 = .ok (.iconst 1, 1) := by decide +kernel
theorem dX6_keep_38 : decode cX6_keep 38 = .ok (.iload_n 1, 1) := by decide +kernel
theorem dX6_keep_39 : decode cX6_keep 39 = .ok (.ishl, 1) := by decide +kernel
theorem dX6_keep_40 : decode cX6_keep 40 = .ok (.ior, 1) := by decide +kernel
theorem dX6_keep_41 : decode cX6_keep 41 = .ok (.putfield 89, 3) := by decide +kernel
theorem dX6_keep_44 : decode cX6_keep 44 = .ok (.iload_n 2, 1) := by decide +kernel
theorem dX6_keep_45 : decode cX6_keep 45 = .ok (.ireturn, 1) := by decide +kernel
theorem dX6_back_0 : decode cX6_back 0 = .ok (.iload_n 1, 1) := by decide +kernel
theorem dX6_back_1 : decode cX6_back 1 = .ok (.iconst 0, 1) := by decide +kernel
theorem dX6_back_2 : decode cX6_back 2 = .ok (.iconst 1, 1) := by decide +kernel
theorem dX6_back_3 : decode cX6_back 3 = .ok (.invokestatic 57, 3) := by decide +kernel
theorem dX6_back_6 : decode cX6_back 6 = .ok (.ifCond .ne 5, 3) := by decide +kernel
theorem dX6_back_9 : decode cX6_back 9 = .ok (.iconst (-1), 1) := by decide +kernel
theorem dX6_back_10 : decode cX6_back 10 = .ok (.ireturn, 1) := by decide +kernel
theorem dX6_back_11 : decode cX6_back 11 = .ok (.aload_n 0, 1) := by decide +kernel
theorem dX6_back_12 : decode cX6_back 12 = .ok (.getfield 89, 3) := by decide +kernel
theorem dX6_back_15 : decode cX6_back 15 = .ok (.iload_n 1, 1) := by decide +kernel
theorem dX6_back_16 : decode cX6_back 16 = .ok (.ishr, 1) := by decide +kernel
theorem dX6_back_17 : decode cX6_back 17 = .ok (.iconst 1, 1) := by decide +kernel
theorem dX6_back_18 : decode cX6_back 18 = .ok (.iand, 1) := by decide +kernel
theorem dX6_back_19 : decode cX6_back 19 = .ok (.ifCond .ne 6, 3) := by decide +kernel
theorem dX6_back_22 : decode cX6_back 22 = .ok (.bipush (-2), 2) := by decide +kernel
theorem dX6_back_24 : decode cX6_back 24 = .ok (.ireturn, 1) := by decide +kernel
theorem dX6_back_25 : decode cX6_back 25 = .ok (.aload_n 0, 1) := by decide +kernel
theorem dX6_back_26 : decode cX6_back 26 = .ok (.getfield 10, 3) := by decide +kernel
theorem dX6_back_29 : decode cX6_back 29 = .ok (.aload_n 0, 1) := by decide +kernel
theorem dX6_back_30 : decode cX6_back 30 = .ok (.iload_n 1, 1) := by decide +kernel
theorem dX6_back_31 : decode cX6_back 31 = .ok (.invokevirtual 277, 3) := by decide +kernel
theorem dX6_back_34 : decode cX6_back 34 = .ok (.invokevirtual 82, 3) := by decide +kernel
theorem dX6_back_37 : decode cX6_back 37 = .ok (.aload_n 0, 1) := by decide +kernel
theorem dX6_back_38 : decode cX6_back 38 = .ok (.getfield 10, 3) := by decide +kernel
theorem dX6_back_41 : decode cX6_back 41 = .ok (.getfield 92, 3) := by decide +kernel
theorem dX6_back_44 : decode cX6_back 44 = .ok (.ireturn, 1) := by decide +kernel
theorem dX6_imageOf_0 : decode cX6_imageOf 0 = .ok (.iload_n 1, 1) := by decide +kernel
theorem dX6_imageOf_1 : decode cX6_imageOf 1 = .ok (.ifCond .ne 10, 3) := by decide +kernel
theorem dX6_imageOf_4 : decode cX6_imageOf 4 = .ok (.aload_n 0, 1) := by decide +kernel
theorem dX6_imageOf_5 : decode cX6_imageOf 5 = .ok (.getfield 51, 3) := by decide +kernel
theorem dX6_imageOf_8 : decode cX6_imageOf 8 = .ok (.goto 7, 3) := by decide +kernel
theorem dX6_imageOf_11 : decode cX6_imageOf 11 = .ok (.aload_n 0, 1) := by decide +kernel
theorem dX6_imageOf_12 : decode cX6_imageOf 12 = .ok (.getfield 54, 3) := by decide +kernel
theorem dX6_imageOf_15 : decode cX6_imageOf 15 = .ok (.areturn, 1) := by decide +kernel
theorem dX6_sheet_0 : decode cX6_sheet 0 = .ok (.iload_n 1, 1) := by decide +kernel
theorem dX6_sheet_1 : decode cX6_sheet 1 = .ok (.iconst 0, 1) := by decide +kernel
theorem dX6_sheet_2 : decode cX6_sheet 2 = .ok (.iconst 3, 1) := by decide +kernel
theorem dX6_sheet_3 : decode cX6_sheet 3 = .ok (.invokestatic 57, 3) := by decide +kernel
theorem dX6_sheet_6 : decode cX6_sheet 6 = .ok (.ifCond .eq 18, 3) := by decide +kernel
theorem dX6_sheet_9 : decode cX6_sheet 9 = .ok (.iload_n 2, 1) := by decide +kernel
theorem dX6_sheet_10 : decode cX6_sheet 10 = .ok (.iconst 0, 1) := by decide +kernel
theorem dX6_sheet_11 : decode cX6_sheet 11 = .ok (.iconst 2, 1) := by decide +kernel
theorem dX6_sheet_12 : decode cX6_sheet 12 = .ok (.invokestatic 57, 3) := by decide +kernel
theorem dX6_sheet_15 : decode cX6_sheet 15 = .ok (.ifCond .eq 9, 3) := by decide +kernel
theorem dX6_sheet_18 : decode cX6_sheet 18 = .ok (.iload_n 3, 1) := by decide +kernel
theorem dX6_sheet_19 : decode cX6_sheet 19 = .ok (.bipush 40, 2) := by decide +kernel
theorem dX6_sheet_21 : decode cX6_sheet 21 = .ok (.if_icmp .le 5, 3) := by decide +kernel
theorem dX6_sheet_24 : decode cX6_sheet 24 = .ok (.iconst (-1), 1) := by decide +kernel
theorem dX6_sheet_25 : decode cX6_sheet 25 = .ok (.ireturn, 1) := by decide +kernel
theorem dX6_sheet_26 : decode cX6_sheet 26 = .ok (.iload_n 3, 1) := by decide +kernel
theorem dX6_sheet_27 : decode cX6_sheet 27 = .ok (.ifCond .ge 6, 3) := by decide +kernel
theorem dX6_sheet_30 : decode cX6_sheet 30 = .ok (.bipush (-14), 2) := by decide +kernel
theorem dX6_sheet_32 : decode cX6_sheet 32 = .ok (.ireturn, 1) := by decide +kernel
theorem dX6_sheet_33 : decode cX6_sheet 33 = .ok (.aload_n 0, 1) := by decide +kernel
theorem dX6_sheet_34 : decode cX6_sheet 34 = .ok (.getfield 47, 3) := by decide +kernel
theorem dX6_sheet_37 : decode cX6_sheet 37 = .ok (.iload_n 1, 1) := by decide +kernel
theorem dX6_sheet_38 : decode cX6_sheet 38 = .ok (.iload_n 2, 1) := by decide +kernel
theorem dX6_sheet_39 : decode cX6_sheet 39 = .ok (.iload_n 3, 1) := by decide +kernel
theorem dX6_sheet_40 : decode cX6_sheet 40 = .ok (.invokevirtual 281, 3) := by decide +kernel
theorem dX6_sheet_43 : decode cX6_sheet 43 = .ok (.iconst 1, 1) := by decide +kernel
theorem dX6_sheet_44 : decode cX6_sheet 44 = .ok (.ireturn, 1) := by decide +kernel
theorem dX6_lay_0 : decode cX6_lay 0 = .ok (.iload_n 1, 1) := by decide +kernel
theorem dX6_lay_1 : decode cX6_lay 1 = .ok (.iconst 0, 1) := by decide +kernel
theorem dX6_lay_2 : decode cX6_lay 2 = .ok (.iconst 3, 1) := by decide +kernel
theorem dX6_lay_3 : decode cX6_lay 3 = .ok (.invokestatic 57, 3) := by decide +kernel
theorem dX6_lay_6 : decode cX6_lay 6 = .ok (.ifCond .ne 5, 3) := by decide +kernel
theorem dX6_lay_9 : decode cX6_lay 9 = .ok (.iconst (-1), 1) := by decide +kernel
theorem dX6_lay_10 : decode cX6_lay 10 = .ok (.ireturn, 1) := by decide +kernel
theorem dX6_lay_11 : decode cX6_lay 11 = .ok (.aload_n 0, 1) := by decide +kernel
theorem dX6_lay_12 : decode cX6_lay 12 = .ok (.getfield 47, 3) := by decide +kernel
theorem dX6_lay_15 : decode cX6_lay 15 = .ok (.iload_n 1, 1) := by decide +kernel
theorem dX6_lay_16 : decode cX6_lay 16 = .ok (.aload_n 0, 1) := by decide +kernel
theorem dX6_lay_17 : decode cX6_lay 17 = .ok (.getfield 47, 3) := by decide +kernel
theorem dX6_lay_20 : decode cX6_lay 20 = .ok (.iload_n 1, 1) := by decide +kernel
theorem dX6_lay_21 : decode cX6_lay 21 = .ok (.invokevirtual 284, 3) := by decide +kernel
theorem dX6_lay_24 : decode cX6_lay 24 = .ok (.iload_n 2, 1) := by decide +kernel
theorem dX6_lay_25 : decode cX6_lay 25 = .ok (.iconst 1, 1) := by decide +kernel
theorem dX6_lay_26 : decode cX6_lay 26 = .ok (.invokevirtual 287, 3) := by decide +kernel
theorem dX6_lay_29 : decode cX6_lay 29 = .ok (.istore 4, 2) := by decide +kernel
theorem dX6_lay_31 : decode cX6_lay 31 = .ok (.iload 4, 2) := by decide +kernel
theorem dX6_lay_33 : decode cX6_lay 33 = .ok (.ifCond .eq 9, 3) := by decide +kernel
theorem dX6_lay_36 : decode cX6_lay 36 = .ok (.bipush (-10), 2) := by decide +kernel
theorem dX6_lay_38 : decode cX6_lay 38 = .ok (.iload 4, 2) := by decide +kernel
theorem dX6_lay_40 : decode cX6_lay 40 = .ok (.isub, 1) := by decide +kernel
theorem dX6_lay_41 : decode cX6_lay 41 = .ok (.ireturn, 1) := by decide +kernel
theorem dX6_lay_42 : decode cX6_lay 42 = .ok (.aload_n 0, 1) := by decide +kernel
theorem dX6_lay_43 : decode cX6_lay 43 = .ok (.getfield 47, 3) := by decide +kernel
theorem dX6_lay_46 : decode cX6_lay 46 = .ok (.iload_n 1, 1) := by decide +kernel
theorem dX6_lay_47 : decode cX6_lay 47 = .ok (.iload_n 2, 1) := by decide +kernel
theorem dX6_lay_48 : decode cX6_lay 48 = .ok (.iload_n 3, 1) := by decide +kernel
theorem dX6_lay_49 : decode cX6_lay 49 = .ok (.invokevirtual 290, 3) := by decide +kernel
theorem dX6_lay_52 : decode cX6_lay 52 = .ok (.iconst 1, 1) := by decide +kernel
theorem dX6_lay_53 : decode cX6_lay 53 = .ok (.ireturn, 1) := by decide +kernel
theorem dX6_read_0 : decode cX6_read 0 = .ok (.iload_n 1, 1) := by decide +kernel
theorem dX6_read_1 : decode cX6_read 1 = .ok (.iconst 0, 1) := by decide +kernel
theorem dX6_read_2 : decode cX6_read 2 = .ok (.iconst 3, 1) := by decide +kernel
theorem dX6_read_3 : decode cX6_read 3 = .ok (.invokestatic 57, 3) := by decide +kernel
theorem dX6_read_6 : decode cX6_read 6 = .ok (.ifCond .eq 23, 3) := by decide +kernel
theorem dX6_read_9 : decode cX6_read 9 = .ok (.iload_n 2, 1) := by decide +kernel
theorem dX6_read_10 : decode cX6_read 10 = .ok (.iconst 0, 1) := by decide +kernel
theorem dX6_read_11 : decode cX6_read 11 = .ok (.iconst 2, 1) := by decide +kernel
theorem dX6_read_12 : decode cX6_read 12 = .ok (.invokestatic 57, 3) := by decide +kernel
theorem dX6_read_15 : decode cX6_read 15 = .ok (.ifCond .eq 14, 3) := by decide +kernel
theorem dX6_read_18 : decode cX6_read 18 = .ok (.iload 4, 2) := by decide +kernel
theorem dX6_read_20 : decode cX6_read 20 = .ok (.iconst 0, 1) := by decide +kernel
theorem dX6_read_21 : decode cX6_read 21 = .ok (.bipush 10, 2) := by decide +kernel
theorem dX6_read_23 : decode cX6_read 23 = .ok (.invokestatic 57, 3) := by decide +kernel
theorem dX6_read_26 : decode cX6_read 26 = .ok (.ifCond .ne 5, 3) := by decide +kernel
theorem dX6_read_29 : decode cX6_read 29 = .ok (.iconst (-1), 1) := by decide +kernel
theorem dX6_read_30 : decode cX6_read 30 = .ok (.ireturn, 1) := by decide +kernel
theorem dX6_read_31 : decode cX6_read 31 = .ok (.aload_n 0, 1) := by decide +kernel
theorem dX6_read_32 : decode cX6_read 32 = .ok (.getfield 10, 3) := by decide +kernel
theorem dX6_read_35 : decode cX6_read 35 = .ok (.getfield 92, 3) := by decide +kernel
theorem dX6_read_38 : decode cX6_read 38 = .ok (.istore 5, 2) := by decide +kernel
theorem dX6_read_40 : decode cX6_read 40 = .ok (.iconst 0, 1) := by decide +kernel
theorem dX6_read_41 : decode cX6_read 41 = .ok (.istore 6, 2) := by decide +kernel
theorem dX6_read_43 : decode cX6_read 43 = .ok (.iconst 0, 1) := by decide +kernel
theorem dX6_read_44 : decode cX6_read 44 = .ok (.istore 7, 2) := by decide +kernel
theorem dX6_read_46 : decode cX6_read 46 = .ok (.iconst 0, 1) := by decide +kernel
theorem dX6_read_47 : decode cX6_read 47 = .ok (.istore 8, 2) := by decide +kernel
theorem dX6_read_49 : decode cX6_read 49 = .ok (.iload 8, 2) := by decide +kernel
theorem dX6_read_51 : decode cX6_read 51 = .ok (.iload 4, 2) := by decide +kernel
theorem dX6_read_53 : decode cX6_read 53 = .ok (.if_icmp .ge 69, 3) := by decide +kernel
theorem dX6_read_56 : decode cX6_read 56 = .ok (.iload 6, 2) := by decide +kernel
theorem dX6_read_58 : decode cX6_read 58 = .ok (.ifCond .ne 64, 3) := by decide +kernel
theorem dX6_read_61 : decode cX6_read 61 = .ok (.iload_n 3, 1) := by decide +kernel
theorem dX6_read_62 : decode cX6_read 62 = .ok (.iconst 4, 1) := by decide +kernel
theorem dX6_read_63 : decode cX6_read 63 = .ok (.iload 8, 2) := by decide +kernel
theorem dX6_read_65 : decode cX6_read 65 = .ok (.imul, 1) := by decide +kernel
theorem dX6_read_66 : decode cX6_read 66 = .ok (.iadd, 1) := by decide +kernel
theorem dX6_read_67 : decode cX6_read 67 = .ok (.istore 9, 2) := by decide +kernel
theorem dX6_read_69 : decode cX6_read 69 = .ok (.aload_n 0, 1) := by decide +kernel
theorem dX6_read_70 : decode cX6_read 70 = .ok (.getfield 47, 3) := by decide +kernel
theorem dX6_read_73 : decode cX6_read 73 = .ok (.iload_n 1, 1) := by decide +kernel
theorem dX6_read_74 : decode cX6_read 74 = .ok (.iload_n 2, 1) := by decide +kernel
theorem dX6_read_75 : decode cX6_read 75 = .ok (.iload 9, 2) := by decide +kernel
theorem dX6_read_77 : decode cX6_read 77 = .ok (.iconst 4, 1) := by decide +kernel
theorem dX6_read_78 : decode cX6_read 78 = .ok (.invokevirtual 287, 3) := by decide +kernel
theorem dX6_read_81 : decode cX6_read 81 = .ok (.istore 6, 2) := by decide +kernel
theorem dX6_read_83 : decode cX6_read 83 = .ok (.iload 6, 2) := by decide +kernel
theorem dX6_read_85 : decode cX6_read 85 = .ok (.ifCond .ne 31, 3) := by decide +kernel
theorem dX6_read_88 : decode cX6_read 88 = .ok (.aload_n 0, 1) := by decide +kernel
theorem dX6_read_89 : decode cX6_read 89 = .ok (.iload_n 1, 1) := by decide +kernel
theorem dX6_read_90 : decode cX6_read 90 = .ok (.iload 9, 2) := by decide +kernel
theorem dX6_read_92 : decode cX6_read 92 = .ok (.invokevirtual 293, 3) := by decide +kernel
theorem dX6_read_95 : decode cX6_read 95 = .ok (.ifCond .ge 18, 3) := by decide +kernel
theorem dX6_read_98 : decode cX6_read 98 = .ok (.aload_n 0, 1) := by decide +kernel
theorem dX6_read_99 : decode cX6_read 99 = .ok (.getfield 10, 3) := by decide +kernel
theorem dX6_read_102 : decode cX6_read 102 = .ok (.iload 5, 2) := by decide +kernel
theorem dX6_read_104 : decode cX6_read 104 = .ok (.putfield 92, 3) := by decide +kernel
theorem dX6_read_107 : decode cX6_read 107 = .ok (.bipush (-20), 2) := by decide +kernel
theorem dX6_read_109 : decode cX6_read 109 = .ok (.iload 8, 2) := by decide +kernel
theorem dX6_read_111 : decode cX6_read 111 = .ok (.isub, 1) := by decide +kernel
theorem dX6_read_112 : decode cX6_read 112 = .ok (.ireturn, 1) := by decide +kernel
theorem dX6_read_113 : decode cX6_read 113 = .ok (.iinc 7 1, 3) := by decide +kernel
theorem dX6_read_116 : decode cX6_read 116 = .ok (.iinc 8 1, 3) := by decide +kernel
theorem dX6_read_119 : decode cX6_read 119 = .ok (.goto (-70), 3) := by decide +kernel
theorem dX6_read_122 : decode cX6_read 122 = .ok (.aload_n 0, 1) := by decide +kernel
theorem dX6_read_123 : decode cX6_read 123 = .ok (.iload 6, 2) := by decide +kernel
theorem dX6_read_125 : decode cX6_read 125 = .ok (.putfield 296, 3) := by decide +kernel
theorem dX6_read_128 : decode cX6_read 128 = .ok (.iload 7, 2) := by decide +kernel
theorem dX6_read_130 : decode cX6_read 130 = .ok (.ireturn, 1) := by decide +kernel
theorem dX6_addFromSheet_0 : decode cX6_addFromSheet 0 = .ok (.aload_n 0, 1) := by decide +kernel
theorem dX6_addFromSheet_1 : decode cX6_addFromSheet 1 = .ok (.getfield 10, 3) := by decide +kernel
theorem dX6_addFromSheet_4 : decode cX6_addFromSheet 4 = .ok (.aload_n 0, 1) := by decide +kernel
theorem dX6_addFromSheet_5 : decode cX6_addFromSheet 5 = .ok (.getfield 47, 3) := by decide +kernel
theorem dX6_addFromSheet_8 : decode cX6_addFromSheet 8 = .ok (.iload_n 1, 1) := by decide +kernel
theorem dX6_addFromSheet_9 : decode cX6_addFromSheet 9 = .ok (.iload_n 2, 1) := by decide +kernel
theorem dX6_addFromSheet_10 : decode cX6_addFromSheet 10 = .ok (.iconst 0, 1) := by decide +kernel
theorem dX6_addFromSheet_11 : decode cX6_addFromSheet 11 = .ok (.iadd, 1) := by decide +kernel
theorem dX6_addFromSheet_12 : decode cX6_addFromSheet 12 = .ok (.invokevirtual 299, 3) := by decide +kernel
theorem dX6_addFromSheet_15 : decode cX6_addFromSheet 15 = .ok (.aload_n 0, 1) := by decide +kernel
theorem dX6_addFromSheet_16 : decode cX6_addFromSheet 16 = .ok (.getfield 47, 3) := by decide +kernel
theorem dX6_addFromSheet_19 : decode cX6_addFromSheet 19 = .ok (.iload_n 1, 1) := by decide +kernel
theorem dX6_addFromSheet_20 : decode cX6_addFromSheet 20 = .ok (.iload_n 2, 1) := by decide +kernel
theorem dX6_addFromSheet_21 : decode cX6_addFromSheet 21 = .ok (.iconst 1, 1) := by decide +kernel
theorem dX6_addFromSheet_22 : decode cX6_addFromSheet 22 = .ok (.iadd, 1) := by decide +kernel
theorem dX6_addFromSheet_23 : decode cX6_addFromSheet 23 = .ok (.invokevirtual 299, 3) := by decide +kernel
theorem dX6_addFromSheet_26 : decode cX6_addFromSheet 26 = .ok (.aload_n 0, 1) := by decide +kernel
theorem dX6_addFromSheet_27 : decode cX6_addFromSheet 27 = .ok (.getfield 47, 3) := by decide +kernel
theorem dX6_addFromSheet_30 : decode cX6_addFromSheet 30 = .ok (.iload_n 1, 1) := by decide +kernel
theorem dX6_addFromSheet_31 : decode cX6_addFromSheet 31 = .ok (.iload_n 2, 1) := by decide +kernel
theorem dX6_addFromSheet_32 : decode cX6_addFromSheet 32 = .ok (.iconst 2, 1) := by decide +kernel
theorem dX6_addFromSheet_33 : decode cX6_addFromSheet 33 = .ok (.iadd, 1) := by decide +kernel
theorem dX6_addFromSheet_34 : decode cX6_addFromSheet 34 = .ok (.invokevirtual 299, 3) := by decide +kernel
theorem dX6_addFromSheet_37 : decode cX6_addFromSheet 37 = .ok (.aload_n 0, 1) := by decide +kernel
theorem dX6_addFromSheet_38 : decode cX6_addFromSheet 38 = .ok (.getfield 47, 3) := by decide +kernel
theorem dX6_addFromSheet_41 : decode cX6_addFromSheet 41 = .ok (.iload_n 1, 1) := by decide +kernel
theorem dX6_addFromSheet_42 : decode cX6_addFromSheet 42 = .ok (.iload_n 2, 1) := by decide +kernel
theorem dX6_addFromSheet_43 : decode cX6_addFromSheet 43 = .ok (.iconst 3, 1) := by decide +kernel
theorem dX6_addFromSheet_44 : decode cX6_addFromSheet 44 = .ok (.iadd, 1) := by decide +kernel
theorem dX6_addFromSheet_45 : decode cX6_addFromSheet 45 = .ok (.invokevirtual 299, 3) := by decide +kernel
theorem dX6_addFromSheet_48 : decode cX6_addFromSheet 48 = .ok (.invokevirtual 173, 3) := by decide +kernel
theorem dX6_addFromSheet_51 : decode cX6_addFromSheet 51 = .ok (.ireturn, 1) := by decide +kernel
theorem dX6_torn_0 : decode cX6_torn 0 = .ok (.aload_n 0, 1) := by decide +kernel
theorem dX6_torn_1 : decode cX6_torn 1 = .ok (.getfield 296, 3) := by decide +kernel
theorem dX6_torn_4 : decode cX6_torn 4 = .ok (.ireturn, 1) := by decide +kernel
theorem dX6_count_0 : decode cX6_count 0 = .ok (.iload_n 1, 1) := by decide +kernel
theorem dX6_count_1 : decode cX6_count 1 = .ok (.tableswitch 104 0 5 #[39, 47, 55, 63, 88, 96], 39) := by decide +kernel
theorem dX6_count_40 : decode cX6_count 40 = .ok (.aload_n 0, 1) := by decide +kernel
theorem dX6_count_41 : decode cX6_count 41 = .ok (.getfield 40, 3) := by decide +kernel
theorem dX6_count_44 : decode cX6_count 44 = .ok (.getfield 86, 3) := by decide +kernel
theorem dX6_count_47 : decode cX6_count 47 = .ok (.ireturn, 1) := by decide +kernel
theorem dX6_count_48 : decode cX6_count 48 = .ok (.aload_n 0, 1) := by decide +kernel
theorem dX6_count_49 : decode cX6_count 49 = .ok (.getfield 89, 3) := by decide +kernel
theorem dX6_count_52 : decode cX6_count 52 = .ok (.invokestatic 204, 3) := by decide +kernel
theorem dX6_count_55 : decode cX6_count 55 = .ok (.ireturn, 1) := by decide +kernel
theorem dX6_count_56 : decode cX6_count 56 = .ok (.aload_n 0, 1) := by decide +kernel
theorem dX6_count_57 : decode cX6_count 57 = .ok (.getfield 33, 3) := by decide +kernel
theorem dX6_count_60 : decode cX6_count 60 = .ok (.getfield 61, 3) := by decide +kernel
theorem dX6_count_63 : decode cX6_count 63 = .ok (.ireturn, 1) := by decide +kernel
theorem dX6_count_64 : decode cX6_count 64 = .ok (.aload_n 0, 1) := by decide +kernel
theorem dX6_count_65 : decode cX6_count 65 = .ok (.getfield 47, 3) := by decide +kernel
theorem dX6_count_68 : decode cX6_count 68 = .ok (.iconst 0, 1) := by decide +kernel
theorem dX6_count_69 : decode cX6_count 69 = .ok (.invokevirtual 302, 3) := by decide +kernel
theorem dX6_count_72 : decode cX6_count 72 = .ok (.ifCond .eq 8, 3) := by decide +kernel
theorem dX6_count_75 : decode cX6_count 75 = .ok (.bipush (-4), 2) := by decide +kernel
theorem dX6_count_77 : decode cX6_count 77 = .ok (.goto 11, 3) := by decide +kernel
theorem dX6_count_80 : decode cX6_count 80 = .ok (.aload_n 0, 1) := by decide +kernel
theorem dX6_count_81 : decode cX6_count 81 = .ok (.getfield 47, 3) := by decide +kernel
theorem dX6_count_84 : decode cX6_count 84 = .ok (.iconst 0, 1) := by decide +kernel
theorem dX6_count_85 : decode cX6_count 85 = .ok (.invokevirtual 305, 3) := by decide +kernel
theorem dX6_count_88 : decode cX6_count 88 = .ok (.ireturn, 1) := by decide +kernel
theorem dX6_count_89 : decode cX6_count 89 = .ok (.aload_n 0, 1) := by decide +kernel
theorem dX6_count_90 : decode cX6_count 90 = .ok (.getfield 10, 3) := by decide +kernel
theorem dX6_count_93 : decode cX6_count 93 = .ok (.invokevirtual 308, 3) := by decide +kernel
theorem dX6_count_96 : decode cX6_count 96 = .ok (.ireturn, 1) := by decide +kernel
theorem dX6_count_97 : decode cX6_count 97 = .ok (.aload_n 0, 1) := by decide +kernel
theorem dX6_count_98 : decode cX6_count 98 = .ok (.getfield 10, 3) := by decide +kernel
theorem dX6_count_101 : decode cX6_count 101 = .ok (.invokevirtual 311, 3) := by decide +kernel
theorem dX6_count_104 : decode cX6_count 104 = .ok (.ireturn, 1) := by decide +kernel
theorem dX6_count_105 : decode cX6_count 105 = .ok (.iconst (-1), 1) := by decide +kernel
theorem dX6_count_106 : decode cX6_count 106 = .ok (.ireturn, 1) := by decide +kernel
theorem dX6_within_0 : decode cX6_within 0 = .ok (.iload_n 0, 1) := by decide +kernel
theorem dX6_within_1 : decode cX6_within 1 = .ok (.iload_n 1, 1) := by decide +kernel
theorem dX6_within_2 : decode cX6_within 2 = .ok (.if_icmp .lt 12, 3) := by decide +kernel
theorem dX6_within_5 : decode cX6_within 5 = .ok (.iload_n 0, 1) := by decide +kernel
theorem dX6_within_6 : decode cX6_within 6 = .ok (.iload_n 2, 1) := by decide +kernel
theorem dX6_within_7 : decode cX6_within 7 = .ok (.if_icmp .gt 7, 3) := by decide +kernel
theorem dX6_within_10 : decode cX6_within 10 = .ok (.iconst 1, 1) := by decide +kernel
theorem dX6_within_11 : decode cX6_within 11 = .ok (.goto 4, 3) := by decide +kernel
theorem dX6_within_14 : decode cX6_within 14 = .ok (.iconst 0, 1) := by decide +kernel
theorem dX6_within_15 : decode cX6_within 15 = .ok (.ireturn, 1) := by decide +kernel
theorem dX6_fitsWork_0 : decode cX6_fitsWork 0 = .ok (.iload_n 0, 1) := by decide +kernel
theorem dX6_fitsWork_1 : decode cX6_fitsWork 1 = .ok (.iconst 0, 1) := by decide +kernel
theorem dX6_fitsWork_2 : decode cX6_fitsWork 2 = .ok (.iconst 3, 1) := by decide +kernel
theorem dX6_fitsWork_3 : decode cX6_fitsWork 3 = .ok (.invokestatic 57, 3) := by decide +kernel
theorem dX6_fitsWork_6 : decode cX6_fitsWork 6 = .ok (.ifCond .eq 24, 3) := by decide +kernel
theorem dX6_fitsWork_9 : decode cX6_fitsWork 9 = .ok (.iload_n 1, 1) := by decide +kernel
theorem dX6_fitsWork_10 : decode cX6_fitsWork 10 = .ok (.getstatic 215, 3) := by decide +kernel
theorem dX6_fitsWork_13 : decode cX6_fitsWork 13 = .ok (.iload_n 0, 1) := by decide +kernel
theorem dX6_fitsWork_14 : decode cX6_fitsWork 14 = .ok (.iaload, 1) := by decide +kernel
theorem dX6_fitsWork_15 : decode cX6_fitsWork 15 = .ok (.getstatic 197, 3) := by decide +kernel
theorem dX6_fitsWork_18 : decode cX6_fitsWork 18 = .ok (.iload_n 0, 1) := by decide +kernel
theorem dX6_fitsWork_19 : decode cX6_fitsWork 19 = .ok (.iaload, 1) := by decide +kernel
theorem dX6_fitsWork_20 : decode cX6_fitsWork 20 = .ok (.invokestatic 57, 3) := by decide +kernel
theorem dX6_fitsWork_23 : decode cX6_fitsWork 23 = .ok (.ifCond .eq 7, 3) := by decide +kernel
theorem dX6_fitsWork_26 : decode cX6_fitsWork 26 = .ok (.iconst 1, 1) := by decide +kernel
theorem dX6_fitsWork_27 : decode cX6_fitsWork 27 = .ok (.goto 4, 3) := by decide +kernel
theorem dX6_fitsWork_30 : decode cX6_fitsWork 30 = .ok (.iconst 0, 1) := by decide +kernel
theorem dX6_fitsWork_31 : decode cX6_fitsWork 31 = .ok (.ireturn, 1) := by decide +kernel
theorem dX6_fitsReader_0 : decode cX6_fitsReader 0 = .ok (.iload_n 0, 1) := by decide +kernel
theorem dX6_fitsReader_1 : decode cX6_fitsReader 1 = .ok (.iconst 0, 1) := by decide +kernel
theorem dX6_fitsReader_2 : decode cX6_fitsReader 2 = .ok (.iconst 1, 1) := by decide +kernel
theorem dX6_fitsReader_3 : decode cX6_fitsReader 3 = .ok (.invokestatic 57, 3) := by decide +kernel
theorem dX6_fitsReader_6 : decode cX6_fitsReader 6 = .ok (.ifCond .eq 20, 3) := by decide +kernel
theorem dX6_fitsReader_9 : decode cX6_fitsReader 9 = .ok (.iload_n 1, 1) := by decide +kernel
theorem dX6_fitsReader_10 : decode cX6_fitsReader 10 = .ok (.iconst 0, 1) := by decide +kernel
theorem dX6_fitsReader_11 : decode cX6_fitsReader 11 = .ok (.getstatic 314, 3) := by decide +kernel
theorem dX6_fitsReader_14 : decode cX6_fitsReader 14 = .ok (.iload_n 0, 1) := by decide +kernel
theorem dX6_fitsReader_15 : decode cX6_fitsReader 15 = .ok (.iaload, 1) := by decide +kernel
theorem dX6_fitsReader_16 : decode cX6_fitsReader 16 = .ok (.invokestatic 57, 3) := by decide +kernel
theorem dX6_fitsReader_19 : decode cX6_fitsReader 19 = .ok (.ifCond .eq 7, 3) := by decide +kernel
theorem dX6_fitsReader_22 : decode cX6_fitsReader 22 = .ok (.iconst 1, 1) := by decide +kernel
theorem dX6_fitsReader_23 : decode cX6_fitsReader 23 = .ok (.goto 4, 3) := by decide +kernel
theorem dX6_fitsReader_26 : decode cX6_fitsReader 26 = .ok (.iconst 0, 1) := by decide +kernel
theorem dX6_fitsReader_27 : decode cX6_fitsReader 27 = .ok (.ireturn, 1) := by decide +kernel
theorem dX6_clampToDyke_0 : decode cX6_clampToDyke 0 = .ok (.iconst 0, 1) := by decide +kernel
theorem dX6_clampToDyke_1 : decode cX6_clampToDyke 1 = .ok (.bipush 11, 2) := by decide +kernel
theorem dX6_clampToDyke_3 : decode cX6_clampToDyke 3 = .ok (.iload_n 0, 1) := by decide +kernel
theorem dX6_clampToDyke_4 : decode cX6_clampToDyke 4 = .ok (.invokestatic 317, 3) := by decide +kernel
theorem dX6_clampToDyke_7 : decode cX6_clampToDyke 7 = .ok (.invokestatic 271, 3) := by decide +kernel
theorem dX6_clampToDyke_10 : decode cX6_clampToDyke 10 = .ok (.ireturn, 1) := by decide +kernel
theorem dX6_power_0 : decode cX6_power 0 = .ok (.lconst 1, 1) := by decide +kernel
theorem dX6_power_1 : decode cX6_power 1 = .ok (.lstore_n 3, 1) := by decide +kernel
theorem dX6_power_2 : decode cX6_power 2 = .ok (.iconst 0, 1) := by decide +kernel
theorem dX6_power_3 : decode cX6_power 3 = .ok (.istore 5, 2) := by decide +kernel
theorem dX6_power_5 : decode cX6_power 5 = .ok (.iload 5, 2) := by decide +kernel
theorem dX6_power_7 : decode cX6_power 7 = .ok (.iload_n 2, 1) := by decide +kernel
theorem dX6_power_8 : decode cX6_power 8 = .ok (.if_icmp .ge 13, 3) := by decide +kernel
theorem dX6_power_11 : decode cX6_power 11 = .ok (.lload_n 3, 1) := by decide +kernel
theorem dX6_power_12 : decode cX6_power 12 = .ok (.lload_n 0, 1) := by decide +kernel
theorem dX6_power_13 : decode cX6_power 13 = .ok (.lmul, 1) := by decide +kernel
theorem dX6_power_14 : decode cX6_power 14 = .ok (.lstore_n 3, 1) := by decide +kernel
theorem dX6_power_15 : decode cX6_power 15 = .ok (.iinc 5 1, 3) := by decide +kernel
theorem dX6_power_18 : decode cX6_power 18 = .ok (.goto (-13), 3) := by decide +kernel
theorem dX6_power_21 : decode cX6_power 21 = .ok (.lload_n 3, 1) := by decide +kernel
theorem dX6_power_22 : decode cX6_power 22 = .ok (.lreturn, 1) := by decide +kernel
theorem dX6_partOf_0 : decode cX6_partOf 0 = .ok (.lload_n 0, 1) := by decide +kernel
theorem dX6_partOf_1 : decode cX6_partOf 1 = .ok (.lload_n 2, 1) := by decide +kernel
theorem dX6_partOf_2 : decode cX6_partOf 2 = .ok (.invokestatic 320, 3) := by decide +kernel
theorem dX6_partOf_5 : decode cX6_partOf 5 = .ok (.lstore 5, 2) := by decide +kernel
theorem dX6_partOf_7 : decode cX6_partOf 7 = .ok (.lload 5, 2) := by decide +kernel
theorem dX6_partOf_9 : decode cX6_partOf 9 = .ok (.lconst 1, 1) := by decide +kernel
theorem dX6_partOf_10 : decode cX6_partOf 10 = .ok (.lcmp, 1) := by decide +kernel
theorem dX6_partOf_11 : decode cX6_partOf 11 = .ok (.ifCond .ge 7, 3) := by decide +kernel
theorem dX6_partOf_14 : decode cX6_partOf 14 = .ok (.ldc2_w 224, 3) := by decide +kernel
theorem dX6_partOf_17 : decode cX6_partOf 17 = .ok (.lreturn, 1) := by decide +kernel
theorem dX6_partOf_18 : decode cX6_partOf 18 = .ok (.iload 4, 2) := by decide +kernel
theorem dX6_partOf_20 : decode cX6_partOf 20 = .ok (.ifCond .ne 10, 3) := by decide +kernel
theorem dX6_partOf_23 : decode cX6_partOf 23 = .ok (.lload_n 0, 1) := by decide +kernel
theorem dX6_partOf_24 : decode cX6_partOf 24 = .ok (.lload 5, 2) := by decide +kernel
theorem dX6_partOf_26 : decode cX6_partOf 26 = .ok (.ldiv, 1) := by decide +kernel
theorem dX6_partOf_27 : decode cX6_partOf 27 = .ok (.goto 7, 3) := by decide +kernel
theorem dX6_partOf_30 : decode cX6_partOf 30 = .ok (.lload_n 2, 1) := by decide +kernel
theorem dX6_partOf_31 : decode cX6_partOf 31 = .ok (.lload 5, 2) := by decide +kernel
theorem dX6_partOf_33 : decode cX6_partOf 33 = .ok (.ldiv, 1) := by decide +kernel
theorem dX6_partOf_34 : decode cX6_partOf 34 = .ok (.lreturn, 1) := by decide +kernel
end
section
theorem dX6_greatestDivisor_0 : decode cX6_greatestDivisor 0 = .ok (.lload_n 0, 1) := by decide +kernel
theorem dX6_greatestDivisor_1 : decode cX6_greatestDivisor 1 = .ok (.lstore 4, 2) := by decide +kernel
theorem dX6_greatestDivisor_3 : decode cX6_greatestDivisor 3 = .ok (.lload_n 2, 1) := by decide +kernel
theorem dX6_greatestDivisor_4 : decode cX6_greatestDivisor 4 = .ok (.lstore 6, 2) := by decide +kernel
theorem dX6_greatestDivisor_6 : decode cX6_greatestDivisor 6 = .ok (.iconst 0, 1) := by decide +kernel
theorem dX6_greatestDivisor_7 : decode cX6_greatestDivisor 7 = .ok (.istore 8, 2) := by decide +kernel
theorem dX6_greatestDivisor_9 : decode cX6_greatestDivisor 9 = .ok (.iload 8, 2) := by decide +kernel
theorem dX6_greatestDivisor_11 : decode cX6_greatestDivisor 11 = .ok (.bipush 100, 2) := by decide +kernel
theorem dX6_greatestDivisor_13 : decode cX6_greatestDivisor 13 = .ok (.if_icmp .ge 31, 3) := by decide +kernel
theorem dX6_greatestDivisor_16 : decode cX6_greatestDivisor 16 = .ok (.lload 6, 2) := by decide +kernel
theorem dX6_greatestDivisor_18 : decode cX6_greatestDivisor 18 = .ok (.lconst 0, 1) := by decide +kernel
theorem dX6_greatestDivisor_19 : decode cX6_greatestDivisor 19 = .ok (.lcmp, 1) := by decide +kernel
theorem dX6_greatestDivisor_20 : decode cX6_greatestDivisor 20 = .ok (.ifCond .eq 24, 3) := by decide +kernel
theorem dX6_greatestDivisor_23 : decode cX6_greatestDivisor 23 = .ok (.lload 4, 2) := by decide +kernel
theorem dX6_greatestDivisor_25 : decode cX6_greatestDivisor 25 = .ok (.lload 6, 2) := by decide +kernel
theorem dX6_greatestDivisor_27 : decode cX6_greatestDivisor 27 = .ok (.lrem, 1) := by decide +kernel
theorem dX6_greatestDivisor_28 : decode cX6_greatestDivisor 28 = .ok (.lstore 9, 2) := by decide +kernel
theorem dX6_greatestDivisor_30 : decode cX6_greatestDivisor 30 = .ok (.lload 6, 2) := by decide +kernel
theorem dX6_greatestDivisor_32 : decode cX6_greatestDivisor 32 = .ok (.lstore 4, 2) := by decide +kernel
theorem dX6_greatestDivisor_34 : decode cX6_greatestDivisor 34 = .ok (.lload 9, 2) := by decide +kernel
theorem dX6_greatestDivisor_36 : decode cX6_greatestDivisor 36 = .ok (.lstore 6, 2) := by decide +kernel
theorem dX6_greatestDivisor_38 : decode cX6_greatestDivisor 38 = .ok (.iinc 8 1, 3) := by decide +kernel
theorem dX6_greatestDivisor_41 : decode cX6_greatestDivisor 41 = .ok (.goto (-32), 3) := by decide +kernel
theorem dX6_greatestDivisor_44 : decode cX6_greatestDivisor 44 = .ok (.lload 4, 2) := by decide +kernel
theorem dX6_greatestDivisor_46 : decode cX6_greatestDivisor 46 = .ok (.lreturn, 1) := by decide +kernel
theorem dX7_init_0 : decode cX7_init 0 = .ok (.aload_n 0, 1) := by decide +kernel
theorem dX7_init_1 : decode cX7_init 1 = .ok (.invokespecial 1, 3) := by decide +kernel
theorem dX7_init_4 : decode cX7_init 4 = .ok (.aload_n 0, 1) := by decide +kernel
theorem dX7_init_5 : decode cX7_init 5 = .ok (.sipush 180, 3) := by decide +kernel
theorem dX7_init_8 : decode cX7_init 8 = .ok (.newarray .int, 2) := by decide +kernel
theorem dX7_init_10 : decode cX7_init 10 = .ok (.putfield 7, 3) := by decide +kernel
theorem dX7_init_13 : decode cX7_init 13 = .ok (.aload_n 0, 1) := by decide +kernel
theorem dX7_init_14 : decode cX7_init 14 = .ok (.bipush 36, 2) := by decide +kernel
theorem dX7_init_16 : decode cX7_init 16 = .ok (.newarray .int, 2) := by decide +kernel
theorem dX7_init_18 : decode cX7_init 18 = .ok (.putfield 13, 3) := by decide +kernel
theorem dX7_init_21 : decode cX7_init 21 = .ok (.aload_n 0, 1) := by decide +kernel
theorem dX7_init_22 : decode cX7_init 22 = .ok (.sipush 160, 3) := by decide +kernel
theorem dX7_init_25 : decode cX7_init 25 = .ok (.newarray .int, 2) := by decide +kernel
theorem dX7_init_27 : decode cX7_init 27 = .ok (.putfield 16, 3) := by decide +kernel
theorem dX7_init_30 : decode cX7_init 30 = .ok (.aload_n 0, 1) := by decide +kernel
theorem dX7_init_31 : decode cX7_init 31 = .ok (.bipush 8, 2) := by decide +kernel
theorem dX7_init_33 : decode cX7_init 33 = .ok (.newarray .int, 2) := by decide +kernel
theorem dX7_init_35 : decode cX7_init 35 = .ok (.dup, 1) := by decide +kernel
theorem dX7_init_36 : decode cX7_init 36 = .ok (.iconst 0, 1) := by decide +kernel
theorem dX7_init_37 : decode cX7_init 37 = .ok (.iconst 0, 1) := by decide +kernel
theorem dX7_init_38 : decode cX7_init 38 = .ok (.iastore, 1) := by decide +kernel
theorem dX7_init_39 : decode cX7_init 39 = .ok (.dup, 1) := by decide +kernel
theorem dX7_init_40 : decode cX7_init 40 = .ok (.iconst 1, 1) := by decide +kernel
theorem dX7_init_41 : decode cX7_init 41 = .ok (.iconst 4, 1) := by decide +kernel
theorem dX7_init_42 : decode cX7_init 42 = .ok (.iastore, 1) := by decide +kernel
theorem dX7_init_43 : decode cX7_init 43 = .ok (.dup, 1) := by decide +kernel
theorem dX7_init_44 : decode cX7_init 44 = .ok (.iconst 2, 1) := by decide +kernel
theorem dX7_init_45 : decode cX7_init 45 = .ok (.bipush 9, 2) := by decide +kernel
theorem dX7_init_47 : decode cX7_init 47 = .ok (.iastore, 1) := by decide +kernel
theorem dX7_init_48 : decode cX7_init 48 = .ok (.dup, 1) := by decide +kernel
theorem dX7_init_49 : decode cX7_init 49 = .ok (.iconst 3, 1) := by decide +kernel
theorem dX7_init_50 : decode cX7_init 50 = .ok (.bipush 17, 2) := by decide +kernel
theorem dX7_init_52 : decode cX7_init 52 = .ok (.iastore, 1) := by decide +kernel
theorem dX7_init_53 : decode cX7_init 53 = .ok (.dup, 1) := by decide +kernel
theorem dX7_init_54 : decode cX7_init 54 = .ok (.iconst 4, 1) := by decide +kernel
theorem dX7_init_55 : decode cX7_init 55 = .ok (.bipush 22, 2) := by decide +kernel
theorem dX7_init_57 : decode cX7_init 57 = .ok (.iastore, 1) := by decide +kernel
theorem dX7_init_58 : decode cX7_init 58 = .ok (.dup, 1) := by decide +kernel
theorem dX7_init_59 : decode cX7_init 59 = .ok (.iconst 5, 1) := by decide +kernel
theorem dX7_init_60 : decode cX7_init 60 = .ok (.bipush 28, 2) := by decide +kernel
theorem dX7_init_62 : decode cX7_init 62 = .ok (.iastore, 1) := by decide +kernel
theorem dX7_init_63 : decode cX7_init 63 = .ok (.dup, 1) := by decide +kernel
theorem dX7_init_64 : decode cX7_init 64 = .ok (.bipush 6, 2) := by decide +kernel
theorem dX7_init_66 : decode cX7_init 66 = .ok (.bipush 32, 2) := by decide +kernel
theorem dX7_init_68 : decode cX7_init 68 = .ok (.iastore, 1) := by decide +kernel
theorem dX7_init_69 : decode cX7_init 69 = .ok (.dup, 1) := by decide +kernel
theorem dX7_init_70 : decode cX7_init 70 = .ok (.bipush 7, 2) := by decide +kernel
theorem dX7_init_72 : decode cX7_init 72 = .ok (.bipush 36, 2) := by decide +kernel
theorem dX7_init_74 : decode cX7_init 74 = .ok (.iastore, 1) := by decide +kernel
theorem dX7_init_75 : decode cX7_init 75 = .ok (.putfield 19, 3) := by decide +kernel
theorem dX7_init_78 : decode cX7_init 78 = .ok (.aload_n 0, 1) := by decide +kernel
theorem dX7_init_79 : decode cX7_init 79 = .ok (.bipush 36, 2) := by decide +kernel
theorem dX7_init_81 : decode cX7_init 81 = .ok (.newarray .int, 2) := by decide +kernel
theorem dX7_init_83 : decode cX7_init 83 = .ok (.dup, 1) := by decide +kernel
theorem dX7_init_84 : decode cX7_init 84 = .ok (.iconst 0, 1) := by decide +kernel
theorem dX7_init_85 : decode cX7_init 85 = .ok (.bipush 115, 2) := by decide +kernel
theorem dX7_init_87 : decode cX7_init 87 = .ok (.iastore, 1) := by decide +kernel
theorem dX7_init_88 : decode cX7_init 88 = .ok (.dup, 1) := by decide +kernel
theorem dX7_init_89 : decode cX7_init 89 = .ok (.iconst 1, 1) := by decide +kernel
theorem dX7_init_90 : decode cX7_init 90 = .ok (.bipush 116, 2) := by decide +kernel
theorem dX7_init_92 : decode cX7_init 92 = .ok (.iastore, 1) := by decide +kernel
theorem dX7_init_93 : decode cX7_init 93 = .ok (.dup, 1) := by decide +kernel
theorem dX7_init_94 : decode cX7_init 94 = .ok (.iconst 2, 1) := by decide +kernel
theorem dX7_init_95 : decode cX7_init 95 = .ok (.bipush 97, 2) := by decide +kernel
theorem dX7_init_97 : decode cX7_init 97 = .ok (.iastore, 1) := by decide +kernel
theorem dX7_init_98 : decode cX7_init 98 = .ok (.dup, 1) := by decide +kernel
theorem dX7_init_99 : decode cX7_init 99 = .ok (.iconst 3, 1) := by decide +kernel
theorem dX7_init_100 : decode cX7_init 100 = .ok (.bipush 114, 2) := by decide +kernel
theorem dX7_init_102 : decode cX7_init 102 = .ok (.iastore, 1) := by decide +kernel
theorem dX7_init_103 : decode cX7_init 103 = .ok (.dup, 1) := by decide +kernel
theorem dX7_init_104 : decode cX7_init 104 = .ok (.iconst 4, 1) := by decide +kernel
theorem dX7_init_105 : decode cX7_init 105 = .ok (.bipush 119, 2) := by decide +kernel
theorem dX7_init_107 : decode cX7_init 107 = .ok (.iastore, 1) := by decide +kernel
theorem dX7_init_108 : decode cX7_init 108 = .ok (.dup, 1) := by decide +kernel
theorem dX7_init_109 : decode cX7_init 109 = .ok (.iconst 5, 1) := by decide +kernel
theorem dX7_init_110 : decode cX7_init 110 = .ok (.bipush 104, 2) := by decide +kernel
theorem dX7_init_112 : decode cX7_init 112 = .ok (.iastore, 1) := by decide +kernel
theorem dX7_init_113 : decode cX7_init 113 = .ok (.dup, 1) := by decide +kernel
theorem dX7_init_114 : decode cX7_init 114 = .ok (.bipush 6, 2) := by decide +kernel
theorem dX7_init_116 : decode cX7_init 116 = .ok (.bipush 101, 2) := by decide +kernel
theorem dX7_init_118 : decode cX7_init 118 = .ok (.iastore, 1) := by decide +kernel
theorem dX7_init_119 : decode cX7_init 119 = .ok (.dup, 1) := by decide +kernel
theorem dX7_init_120 : decode cX7_init 120 = .ok (.bipush 7, 2) := by decide +kernel
theorem dX7_init_122 : decode cX7_init 122 = .ok (.bipush 101, 2) := by decide +kernel
theorem dX7_init_124 : decode cX7_init 124 = .ok (.iastore, 1) := by decide +kernel
theorem dX7_init_125 : decode cX7_init 125 = .ok (.dup, 1) := by decide +kernel
theorem dX7_init_126 : decode cX7_init 126 = .ok (.bipush 8, 2) := by decide +kernel
theorem dX7_init_128 : decode cX7_init 128 = .ok (.bipush 108, 2) := by decide +kernel
theorem dX7_init_130 : decode cX7_init 130 = .ok (.iastore, 1) := by decide +kernel
theorem dX7_init_131 : decode cX7_init 131 = .ok (.dup, 1) := by decide +kernel
theorem dX7_init_132 : decode cX7_init 132 = .ok (.bipush 9, 2) := by decide +kernel
theorem dX7_init_134 : decode cX7_init 134 = .ok (.bipush 102, 2) := by decide +kernel
theorem dX7_init_136 : decode cX7_init 136 = .ok (.iastore, 1) := by decide +kernel
theorem dX7_init_137 : decode cX7_init 137 = .ok (.dup, 1) := by decide +kernel
theorem dX7_init_138 : decode cX7_init 138 = .ok (.bipush 10, 2) := by decide +kernel
theorem dX7_init_140 : decode cX7_init 140 = .ok (.bipush 111, 2) := by decide +kernel
theorem dX7_init_142 : decode cX7_init 142 = .ok (.iastore, 1) := by decide +kernel
theorem dX7_init_143 : decode cX7_init 143 = .ok (.dup, 1) := by decide +kernel
theorem dX7_init_144 : decode cX7_init 144 = .ok (.bipush 11, 2) := by decide +kernel
theorem dX7_init_146 : decode cX7_init 146 = .ok (.bipush 117, 2) := by decide +kernel
theorem dX7_init_148 : decode cX7_init 148 = .ok (.iastore, 1) := by decide +kernel
theorem dX7_init_149 : decode cX7_init 149 = .ok (.dup, 1) := by decide +kernel
theorem dX7_init_150 : decode cX7_init 150 = .ok (.bipush 12, 2) := by decide +kernel
theorem dX7_init_152 : decode cX7_init 152 = .ok (.bipush 110, 2) := by decide +kernel
theorem dX7_init_154 : decode cX7_init 154 = .ok (.iastore, 1) := by decide +kernel
theorem dX7_init_155 : decode cX7_init 155 = .ok (.dup, 1) := by decide +kernel
theorem dX7_init_156 : decode cX7_init 156 = .ok (.bipush 13, 2) := by decide +kernel
theorem dX7_init_158 : decode cX7_init 158 = .ok (.bipush 116, 2) := by decide +kernel
theorem dX7_init_160 : decode cX7_init 160 = .ok (.iastore, 1) := by decide +kernel
theorem dX7_init_161 : decode cX7_init 161 = .ok (.dup, 1) := by decide +kernel
theorem dX7_init_162 : decode cX7_init 162 = .ok (.bipush 14, 2) := by decide +kernel
theorem dX7_init_164 : decode cX7_init 164 = .ok (.bipush 97, 2) := by decide +kernel
theorem dX7_init_166 : decode cX7_init 166 = .ok (.iastore, 1) := by decide +kernel
theorem dX7_init_167 : decode cX7_init 167 = .ok (.dup, 1) := by decide +kernel
theorem dX7_init_168 : decode cX7_init 168 = .ok (.bipush 15, 2) := by decide +kernel
theorem dX7_init_170 : decode cX7_init 170 = .ok (.bipush 105, 2) := by decide +kernel
theorem dX7_init_172 : decode cX7_init 172 = .ok (.iastore, 1) := by decide +kernel
theorem dX7_init_173 : decode cX7_init 173 = .ok (.dup, 1) := by decide +kernel
theorem dX7_init_174 : decode cX7_init 174 = .ok (.bipush 16, 2) := by decide +kernel
theorem dX7_init_176 : decode cX7_init 176 = .ok (.bipush 110, 2) := by decide +kernel
theorem dX7_init_178 : decode cX7_init 178 = .ok (.iastore, 1) := by decide +kernel
theorem dX7_init_179 : decode cX7_init 179 = .ok (.dup, 1) := by decide +kernel
theorem dX7_init_180 : decode cX7_init 180 = .ok (.bipush 17, 2) := by decide +kernel
theorem dX7_init_182 : decode cX7_init 182 = .ok (.bipush 115, 2) := by decide +kernel
theorem dX7_init_184 : decode cX7_init 184 = .ok (.iastore, 1) := by decide +kernel
theorem dX7_init_185 : decode cX7_init 185 = .ok (.dup, 1) := by decide +kernel
theorem dX7_init_186 : decode cX7_init 186 = .ok (.bipush 18, 2) := by decide +kernel
theorem dX7_init_188 : decode cX7_init 188 = .ok (.bipush 113, 2) := by decide +kernel
theorem dX7_init_190 : decode cX7_init 190 = .ok (.iastore, 1) := by decide +kernel
theorem dX7_init_191 : decode cX7_init 191 = .ok (.dup, 1) := by decide +kernel
theorem dX7_init_192 : decode cX7_init 192 = .ok (.bipush 19, 2) := by decide +kernel
theorem dX7_init_194 : decode cX7_init 194 = .ok (.bipush 117, 2) := by decide +kernel
theorem dX7_init_196 : decode cX7_init 196 = .ok (.iastore, 1) := by decide +kernel
theorem dX7_init_197 : decode cX7_init 197 = .ok (.dup, 1) := by decide +kernel
theorem dX7_init_198 : decode cX7_init 198 = .ok (.bipush 20, 2) := by decide +kernel
theorem dX7_init_200 : decode cX7_init 200 = .ok (.bipush 105, 2) := by decide +kernel
theorem dX7_init_202 : decode cX7_init 202 = .ok (.iastore, 1) := by decide +kernel
theorem dX7_init_203 : decode cX7_init 203 = .ok (.dup, 1) := by decide +kernel
theorem dX7_init_204 : decode cX7_init 204 = .ok (.bipush 21, 2) := by decide +kernel
theorem dX7_init_206 : decode cX7_init 206 = .ok (.bipush 98, 2) := by decide +kernel
theorem dX7_init_208 : decode cX7_init 208 = .ok (.iastore, 1) := by decide +kernel
theorem dX7_init_209 : decode cX7_init 209 = .ok (.dup, 1) := by decide +kernel
theorem dX7_init_210 : decode cX7_init 210 = .ok (.bipush 22, 2) := by decide +kernel
theorem dX7_init_212 : decode cX7_init 212 = .ok (.bipush 114, 2) := by decide +kernel
theorem dX7_init_214 : decode cX7_init 214 = .ok (.iastore, 1) := by decide +kernel
theorem dX7_init_215 : decode cX7_init 215 = .ok (.dup, 1) := by decide +kernel
theorem dX7_init_216 : decode cX7_init 216 = .ok (.bipush 23, 2) := by decide +kernel
theorem dX7_init_218 : decode cX7_init 218 = .ok (.bipush 101, 2) := by decide +kernel
theorem dX7_init_220 : decode cX7_init 220 = .ok (.iastore, 1) := by decide +kernel
theorem dX7_init_221 : decode cX7_init 221 = .ok (.dup, 1) := by decide +kernel
theorem dX7_init_222 : decode cX7_init 222 = .ok (.bipush 24, 2) := by decide +kernel
theorem dX7_init_224 : decode cX7_init 224 = .ok (.bipush 97, 2) := by decide +kernel
theorem dX7_init_226 : decode cX7_init 226 = .ok (.iastore, 1) := by decide +kernel
theorem dX7_init_227 : decode cX7_init 227 = .ok (.dup, 1) := by decide +kernel
theorem dX7_init_228 : decode cX7_init 228 = .ok (.bipush 25, 2) := by decide +kernel
theorem dX7_init_230 : decode cX7_init 230 = .ok (.bipush 100, 2) := by decide +kernel
theorem dX7_init_232 : decode cX7_init 232 = .ok (.iastore, 1) := by decide +kernel
theorem dX7_init_233 : decode cX7_init 233 = .ok (.dup, 1) := by decide +kernel
theorem dX7_init_234 : decode cX7_init 234 = .ok (.bipush 26, 2) := by decide +kernel
theorem dX7_init_236 : decode cX7_init 236 = .ok (.bipush 101, 2) := by decide +kernel
theorem dX7_init_238 : decode cX7_init 238 = .ok (.iastore, 1) := by decide +kernel
theorem dX7_init_239 : decode cX7_init 239 = .ok (.dup, 1) := by decide +kernel
theorem dX7_init_240 : decode cX7_init 240 = .ok (.bipush 27, 2) := by decide +kernel
theorem dX7_init_242 : decode cX7_init 242 = .ok (.bipush 114, 2) := by decide +kernel
theorem dX7_init_244 : decode cX7_init 244 = .ok (.iastore, 1) := by decide +kernel
theorem dX7_init_245 : decode cX7_init 245 = .ok (.dup, 1) := by decide +kernel
theorem dX7_init_246 : decode cX7_init 246 = .ok (.bipush 28, 2) := by decide +kernel
theorem dX7_init_248 : decode cX7_init 248 = .ok (.bipush 119, 2) := by decide +kernel
theorem dX7_init_250 : decode cX7_init 250 = .ok (.iastore, 1) := by decide +kernel
theorem dX7_init_251 : decode cX7_init 251 = .ok (.dup, 1) := by decide +kernel
theorem dX7_init_252 : decode cX7_init 252 = .ok (.bipush 29, 2) := by decide +kernel
theorem dX7_init_254 : decode cX7_init 254 = .ok (.bipush 105, 2) := by decide +kernel
theorem dX7_init_256 : decode cX7_init 256 = .ok (.iastore, 1) := by decide +kernel
theorem dX7_init_257 : decode cX7_init 257 = .ok (.dup, 1) := by decide +kernel
theorem dX7_init_258 : decode cX7_init 258 = .ok (.bipush 30, 2) := by decide +kernel
theorem dX7_init_260 : decode cX7_init 260 = .ok (.bipush 110, 2) := by decide +kernel
theorem dX7_init_262 : decode cX7_init 262 = .ok (.iastore, 1) := by decide +kernel
theorem dX7_init_263 : decode cX7_init 263 = .ok (.dup, 1) := by decide +kernel
theorem dX7_init_264 : decode cX7_init 264 = .ok (.bipush 31, 2) := by decide +kernel
theorem dX7_init_266 : decode cX7_init 266 = .ok (.bipush 100, 2) := by decide +kernel
theorem dX7_init_268 : decode cX7_init 268 = .ok (.iastore, 1) := by decide +kernel
theorem dX7_init_269 : decode cX7_init 269 = .ok (.dup, 1) := by decide +kernel
theorem dX7_init_270 : decode cX7_init 270 = .ok (.bipush 32, 2) := by decide +kernel
theorem dX7_init_272 : decode cX7_init 272 = .ok (.bipush 100, 2) := by decide +kernel
theorem dX7_init_274 : decode cX7_init 274 = .ok (.iastore, 1) := by decide +kernel
theorem dX7_init_275 : decode cX7_init 275 = .ok (.dup, 1) := by decide +kernel
theorem dX7_init_276 : decode cX7_init 276 = .ok (.bipush 33, 2) := by decide +kernel
theorem dX7_init_278 : decode cX7_init 278 = .ok (.bipush 97, 2) := by decide +kernel
theorem dX7_init_280 : decode cX7_init 280 = .ok (.iastore, 1) := by decide +kernel
theorem dX7_init_281 : decode cX7_init 281 = .ok (.dup, 1) := by decide +kernel
theorem dX7_init_282 : decode cX7_init 282 = .ok (.bipush 34, 2) := by decide +kernel
theorem dX7_init_284 : decode cX7_init 284 = .ok (.bipush 109, 2) := by decide +kernel
theorem dX7_init_286 : decode cX7_init 286 = .ok (.iastore, 1) := by decide +kernel
theorem dX7_init_287 : decode cX7_init 287 = .ok (.dup, 1) := by decide +kernel
theorem dX7_init_288 : decode cX7_init 288 = .ok (.bipush 35, 2) := by decide +kernel
theorem dX7_init_290 : decode cX7_init 290 = .ok (.bipush 112, 2) := by decide +kernel
theorem dX7_init_292 : decode cX7_init 292 = .ok (.iastore, 1) := by decide +kernel
theorem dX7_init_293 : decode cX7_init 293 = .ok (.putfield 22, 3) := by decide +kernel
theorem dX7_init_296 : decode cX7_init 296 = .ok (.aload_n 0, 1) := by decide +kernel
theorem dX7_init_297 : decode cX7_init 297 = .ok (.bipush 24, 2) := by decide +kernel
theorem dX7_init_299 : decode cX7_init 299 = .ok (.newarray .int, 2) := by decide +kernel
theorem dX7_init_301 : decode cX7_init 301 = .ok (.putfield 25, 3) := by decide +kernel
theorem dX7_init_304 : decode cX7_init 304 = .ok (.aload_n 0, 1) := by decide +kernel
theorem dX7_init_305 : decode cX7_init 305 = .ok (.bipush 12, 2) := by decide +kernel
theorem dX7_init_307 : decode cX7_init 307 = .ok (.newarray .int, 2) := by decide +kernel
theorem dX7_init_309 : decode cX7_init 309 = .ok (.putfield 28, 3) := by decide +kernel
theorem dX7_init_312 : decode cX7_init 312 = .ok (.aload_n 0, 1) := by decide +kernel
theorem dX7_init_313 : decode cX7_init 313 = .ok (.bipush 54, 2) := by decide +kernel
theorem dX7_init_315 : decode cX7_init 315 = .ok (.newarray .int, 2) := by decide +kernel
theorem dX7_init_317 : decode cX7_init 317 = .ok (.putfield 31, 3) := by decide +kernel
theorem dX7_init_320 : decode cX7_init 320 = .ok (.aload_n 0, 1) := by decide +kernel
theorem dX7_init_321 : decode cX7_init 321 = .ok (.iconst 2, 1) := by decide +kernel
theorem dX7_init_322 : decode cX7_init 322 = .ok (.newarray .boolean, 2) := by decide +kernel
theorem dX7_init_324 : decode cX7_init 324 = .ok (.putfield 34, 3) := by decide +kernel
theorem dX7_init_327 : decode cX7_init 327 = .ok (.aload_n 0, 1) := by decide +kernel
theorem dX7_init_328 : decode cX7_init 328 = .ok (.iconst 4, 1) := by decide +kernel
theorem dX7_init_329 : decode cX7_init 329 = .ok (.newarray .int, 2) := by decide +kernel
theorem dX7_init_331 : decode cX7_init 331 = .ok (.dup, 1) := by decide +kernel
theorem dX7_init_332 : decode cX7_init 332 = .ok (.iconst 0, 1) := by decide +kernel
theorem dX7_init_333 : decode cX7_init 333 = .ok (.bipush (-4), 2) := by decide +kernel
theorem dX7_init_335 : decode cX7_init 335 = .ok (.iastore, 1) := by decide +kernel
theorem dX7_init_336 : decode cX7_init 336 = .ok (.dup, 1) := by decide +kernel
theorem dX7_init_337 : decode cX7_init 337 = .ok (.iconst 1, 1) := by decide +kernel
theorem dX7_init_338 : decode cX7_init 338 = .ok (.bipush (-4), 2) := by decide +kernel
theorem dX7_init_340 : decode cX7_init 340 = .ok (.iastore, 1) := by decide +kernel
theorem dX7_init_341 : decode cX7_init 341 = .ok (.dup, 1) := by decide +kernel
theorem dX7_init_342 : decode cX7_init 342 = .ok (.iconst 2, 1) := by decide +kernel
theorem dX7_init_343 : decode cX7_init 343 = .ok (.bipush (-4), 2) := by decide +kernel
theorem dX7_init_345 : decode cX7_init 345 = .ok (.iastore, 1) := by decide +kernel
theorem dX7_init_346 : decode cX7_init 346 = .ok (.dup, 1) := by decide +kernel
theorem dX7_init_347 : decode cX7_init 347 = .ok (.iconst 3, 1) := by decide +kernel
theorem dX7_init_348 : decode cX7_init 348 = .ok (.bipush (-4), 2) := by decide +kernel
theorem dX7_init_350 : decode cX7_init 350 = .ok (.iastore, 1) := by decide +kernel
theorem dX7_init_351 : decode cX7_init 351 = .ok (.putfield 38, 3) := by decide +kernel
theorem dX7_init_354 : decode cX7_init 354 = .ok (.aload_n 0, 1) := by decide +kernel
theorem dX7_init_355 : decode cX7_init 355 = .ok (.iconst 4, 1) := by decide +kernel
theorem dX7_init_356 : decode cX7_init 356 = .ok (.newarray .int, 2) := by decide +kernel
theorem dX7_init_358 : decode cX7_init 358 = .ok (.putfield 41, 3) := by decide +kernel
theorem dX7_init_361 : decode cX7_init 361 = .ok (.aload_n 0, 1) := by decide +kernel
theorem dX7_init_362 : decode cX7_init 362 = .ok (.sipush 160, 3) := by decide +kernel
theorem dX7_init_365 : decode cX7_init 365 = .ok (.newarray .int, 2) := by decide +kernel
theorem dX7_init_367 : decode cX7_init 367 = .ok (.putfield 44, 3) := by decide +kernel
theorem dX7_init_370 : decode cX7_init 370 = .ok (.return_, 1) := by decide +kernel
theorem dX7_in_0 : decode cX7_in 0 = .ok (.lload_n 0, 1) := by decide +kernel
theorem dX7_in_1 : decode cX7_in 1 = .ok (.lload_n 2, 1) := by decide +kernel
theorem dX7_in_2 : decode cX7_in 2 = .ok (.lcmp, 1) := by decide +kernel
theorem dX7_in_3 : decode cX7_in 3 = .ok (.ifCond .lt 14, 3) := by decide +kernel
theorem dX7_in_6 : decode cX7_in 6 = .ok (.lload_n 0, 1) := by decide +kernel
theorem dX7_in_7 : decode cX7_in 7 = .ok (.lload 4, 2) := by decide +kernel
theorem dX7_in_9 : decode cX7_in 9 = .ok (.lcmp, 1) := by decide +kernel
theorem dX7_in_10 : decode cX7_in 10 = .ok (.ifCond .gt 7, 3) := by decide +kernel
theorem dX7_in_13 : decode cX7_in 13 = .ok (.iconst 1, 1) := by decide +kernel
theorem dX7_in_14 : decode cX7_in 14 = .ok (.goto 4, 3) := by decide +kernel
theorem dX7_in_17 : decode cX7_in 17 = .ok (.iconst 0, 1) := by decide +kernel
theorem dX7_in_18 : decode cX7_in 18 = .ok (.ireturn, 1) := by decide +kernel
theorem dX7_feed_0 : decode cX7_feed 0 = .ok (.iload_n 1, 1) := by decide +kernel
theorem dX7_feed_1 : decode cX7_feed 1 = .ok (.i2l, 1) := by decide +kernel
theorem dX7_feed_2 : decode cX7_feed 2 = .ok (.lconst 0, 1) := by decide +kernel
theorem dX7_feed_3 : decode cX7_feed 3 = .ok (.ldc2_w 47, 3) := by decide +kernel
theorem dX7_feed_6 : decode cX7_feed 6 = .ok (.invokestatic 49, 3) := by decide +kernel
theorem dX7_feed_9 : decode cX7_feed 9 = .ok (.ifCond .ne 5, 3) := by decide +kernel
theorem dX7_feed_12 : decode cX7_feed 12 = .ok (.iconst (-1), 1) := by decide +kernel
theorem dX7_feed_13 : decode cX7_feed 13 = .ok (.ireturn, 1) := by decide +kernel
theorem dX7_feed_14 : decode cX7_feed 14 = .ok (.aload_n 0, 1) := by decide +kernel
theorem dX7_feed_15 : decode cX7_feed 15 = .ok (.getfield 53, 3) := by decide +kernel
theorem dX7_feed_18 : decode cX7_feed 18 = .ok (.sipush 160, 3) := by decide +kernel
theorem dX7_feed_21 : decode cX7_feed 21 = .ok (.if_icmp .ne 6, 3) := by decide +kernel
theorem dX7_feed_24 : decode cX7_feed 24 = .ok (.bipush (-3), 2) := by decide +kernel
theorem dX7_feed_26 : decode cX7_feed 26 = .ok (.ireturn, 1) := by decide +kernel
theorem dX7_feed_27 : decode cX7_feed 27 = .ok (.aload_n 0, 1) := by decide +kernel
theorem dX7_feed_28 : decode cX7_feed 28 = .ok (.getfield 16, 3) := by decide +kernel
theorem dX7_feed_31 : decode cX7_feed 31 = .ok (.aload_n 0, 1) := by decide +kernel
theorem dX7_feed_32 : decode cX7_feed 32 = .ok (.getfield 53, 3) := by decide +kernel
theorem dX7_feed_35 : decode cX7_feed 35 = .ok (.iload_n 1, 1) := by decide +kernel
theorem dX7_feed_36 : decode cX7_feed 36 = .ok (.iastore, 1) := by decide +kernel
theorem dX7_feed_37 : decode cX7_feed 37 = .ok (.aload_n 0, 1) := by decide +kernel
theorem dX7_feed_38 : decode cX7_feed 38 = .ok (.dup, 1) := by decide +kernel
theorem dX7_feed_39 : decode cX7_feed 39 = .ok (.getfield 53, 3) := by decide +kernel
theorem dX7_feed_42 : decode cX7_feed 42 = .ok (.iconst 1, 1) := by decide +kernel
theorem dX7_feed_43 : decode cX7_feed 43 = .ok (.iadd, 1) := by decide +kernel
theorem dX7_feed_44 : decode cX7_feed 44 = .ok (.putfield 53, 3) := by decide +kernel
theorem dX7_feed_47 : decode cX7_feed 47 = .ok (.aload_n 0, 1) := by decide +kernel
theorem dX7_feed_48 : decode cX7_feed 48 = .ok (.getfield 53, 3) := by decide +kernel
theorem dX7_feed_51 : decode cX7_feed 51 = .ok (.ireturn, 1) := by decide +kernel
theorem dX7_end_0 : decode cX7_end 0 = .ok (.iload_n 1, 1) := by decide +kernel
theorem dX7_end_1 : decode cX7_end 1 = .ok (.i2l, 1) := by decide +kernel
theorem dX7_end_2 : decode cX7_end 2 = .ok (.lconst 0, 1) := by decide +kernel
theorem dX7_end_3 : decode cX7_end 3 = .ok (.aload_n 0, 1) := by decide +kernel
theorem dX7_end_4 : decode cX7_end 4 = .ok (.getfield 53, 3) := by decide +kernel
theorem dX7_end_7 : decode cX7_end 7 = .ok (.i2l, 1) := by decide +kernel
theorem dX7_end_8 : decode cX7_end 8 = .ok (.invokestatic 49, 3) := by decide +kernel
theorem dX7_end_11 : decode cX7_end 11 = .ok (.ifCond .ne 5, 3) := by decide +kernel
theorem dX7_end_14 : decode cX7_end 14 = .ok (.iconst (-1), 1) := by decide +kernel
theorem dX7_end_15 : decode cX7_end 15 = .ok (.ireturn, 1) := by decide +kernel
theorem dX7_end_16 : decode cX7_end 16 = .ok (.aload_n 0, 1) := by decide +kernel
theorem dX7_end_17 : decode cX7_end 17 = .ok (.getfield 53, 3) := by decide +kernel
theorem dX7_end_20 : decode cX7_end 20 = .ok (.istore_n 2, 1) := by decide +kernel
theorem dX7_end_21 : decode cX7_end 21 = .ok (.aload_n 0, 1) := by decide +kernel
theorem dX7_end_22 : decode cX7_end 22 = .ok (.iload_n 1, 1) := by decide +kernel
theorem dX7_end_23 : decode cX7_end 23 = .ok (.putfield 53, 3) := by decide +kernel
theorem dX7_end_26 : decode cX7_end 26 = .ok (.iload_n 2, 1) := by decide +kernel
theorem dX7_end_27 : decode cX7_end 27 = .ok (.ireturn, 1) := by decide +kernel
theorem dX7_byteAt_0 : decode cX7_byteAt 0 = .ok (.iload_n 1, 1) := by decide +kernel
theorem dX7_byteAt_1 : decode cX7_byteAt 1 = .ok (.aload_n 0, 1) := by decide +kernel
theorem dX7_byteAt_2 : decode cX7_byteAt 2 = .ok (.getfield 53, 3) := by decide +kernel
theorem dX7_byteAt_5 : decode cX7_byteAt 5 = .ok (.if_icmp .ge 12, 3) := by decide +kernel
theorem dX7_byteAt_8 : decode cX7_byteAt 8 = .ok (.aload_n 0, 1) := by decide +kernel
theorem dX7_byteAt_9 : decode cX7_byteAt 9 = .ok (.getfield 16, 3) := by decide +kernel
theorem dX7_byteAt_12 : decode cX7_byteAt 12 = .ok (.iload_n 1, 1) := by decide +kernel
theorem dX7_byteAt_13 : decode cX7_byteAt 13 = .ok (.iaload, 1) := by decide +kernel
theorem dX7_byteAt_14 : decode cX7_byteAt 14 = .ok (.goto 5, 3) := by decide +kernel
theorem dX7_byteAt_17 : decode cX7_byteAt 17 = .ok (.bipush (-4), 2) := by decide +kernel
theorem dX7_byteAt_19 : decode cX7_byteAt 19 = .ok (.ireturn, 1) := by decide +kernel
theorem dX7_fails_0 : decode cX7_fails 0 = .ok (.aload_n 0, 1) := by decide +kernel
theorem dX7_fails_1 : decode cX7_fails 1 = .ok (.getfield 57, 3) := by decide +kernel
theorem dX7_fails_4 : decode cX7_fails 4 = .ok (.ifCond .ne 16, 3) := by decide +kernel
theorem dX7_fails_7 : decode cX7_fails 7 = .ok (.aload_n 0, 1) := by decide +kernel
theorem dX7_fails_8 : decode cX7_fails 8 = .ok (.iload_n 1, 1) := by decide +kernel
theorem dX7_fails_9 : decode cX7_fails 9 = .ok (.putfield 57, 3) := by decide +kernel
theorem dX7_fails_12 : decode cX7_fails 12 = .ok (.aload_n 0, 1) := by decide +kernel
theorem dX7_fails_13 : decode cX7_fails 13 = .ok (.aload_n 0, 1) := by decide +kernel
theorem dX7_fails_14 : decode cX7_fails 14 = .ok (.getfield 60, 3) := by decide +kernel
theorem dX7_fails_17 : decode cX7_fails 17 = .ok (.putfield 63, 3) := by decide +kernel
theorem dX7_fails_20 : decode cX7_fails 20 = .ok (.return_, 1) := by decide +kernel
theorem dX7_nameHere_0 : decode cX7_nameHere 0 = .ok (.iconst 0, 1) := by decide +kernel
theorem dX7_nameHere_1 : decode cX7_nameHere 1 = .ok (.istore_n 1, 1) := by decide +kernel
theorem dX7_nameHere_2 : decode cX7_nameHere 2 = .ok (.iload_n 1, 1) := by decide +kernel
theorem dX7_nameHere_3 : decode cX7_nameHere 3 = .ok (.bipush 7, 2) := by decide +kernel
theorem dX7_nameHere_5 : decode cX7_nameHere 5 = .ok (.if_icmp .ge 113, 3) := by decide +kernel
theorem dX7_nameHere_8 : decode cX7_nameHere 8 = .ok (.aload_n 0, 1) := by decide +kernel
theorem dX7_nameHere_9 : decode cX7_nameHere 9 = .ok (.getfield 66, 3) := by decide +kernel
theorem dX7_nameHere_12 : decode cX7_nameHere 12 = .ok (.iconst 1, 1) := by decide +kernel
theorem dX7_nameHere_13 : decode cX7_nameHere 13 = .ok (.if_icmp .ne 105, 3) := by decide +kernel
theorem dX7_nameHere_16 : decode cX7_nameHere 16 = .ok (.aload_n 0, 1) := by decide +kernel
theorem dX7_nameHere_17 : decode cX7_nameHere 17 = .ok (.getfield 69, 3) := by decide +kernel
theorem dX7_nameHere_20 : decode cX7_nameHere 20 = .ok (.aload_n 0, 1) := by decide +kernel
theorem dX7_nameHere_21 : decode cX7_nameHere 21 = .ok (.getfield 60, 3) := by decide +kernel
theorem dX7_nameHere_24 : decode cX7_nameHere 24 = .ok (.isub, 1) := by decide +kernel
theorem dX7_nameHere_25 : decode cX7_nameHere 25 = .ok (.aload_n 0, 1) := by decide +kernel
theorem dX7_nameHere_26 : decode cX7_nameHere 26 = .ok (.getfield 19, 3) := by decide +kernel
theorem dX7_nameHere_29 : decode cX7_nameHere 29 = .ok (.iload_n 1, 1) := by decide +kernel
theorem dX7_nameHere_30 : decode cX7_nameHere 30 = .ok (.iconst 1, 1) := by decide +kernel
theorem dX7_nameHere_31 : decode cX7_nameHere 31 = .ok (.iadd, 1) := by decide +kernel
theorem dX7_nameHere_32 : decode cX7_nameHere 32 = .ok (.iaload, 1) := by decide +kernel
theorem dX7_nameHere_33 : decode cX7_nameHere 33 = .ok (.aload_n 0, 1) := by decide +kernel
theorem dX7_nameHere_34 : decode cX7_nameHere 34 = .ok (.getfield 19, 3) := by decide +kernel
theorem dX7_nameHere_37 : decode cX7_nameHere 37 = .ok (.iload_n 1, 1) := by decide +kernel
theorem dX7_nameHere_38 : decode cX7_nameHere 38 = .ok (.iaload, 1) := by decide +kernel
theorem dX7_nameHere_39 : decode cX7_nameHere 39 = .ok (.isub, 1) := by decide +kernel
theorem dX7_nameHere_40 : decode cX7_nameHere 40 = .ok (.if_icmp .ne 7, 3) := by decide +kernel
theorem dX7_nameHere_43 : decode cX7_nameHere 43 = .ok (.iconst 1, 1) := by decide +kernel
theorem dX7_nameHere_44 : decode cX7_nameHere 44 = .ok (.goto 4, 3) := by decide +kernel
theorem dX7_nameHere_47 : decode cX7_nameHere 47 = .ok (.iconst 0, 1) := by decide +kernel
theorem dX7_nameHere_48 : decode cX7_nameHere 48 = .ok (.istore_n 2, 1) := by decide +kernel
theorem dX7_nameHere_49 : decode cX7_nameHere 49 = .ok (.iconst 0, 1) := by decide +kernel
theorem dX7_nameHere_50 : decode cX7_nameHere 50 = .ok (.istore_n 3, 1) := by decide +kernel
theorem dX7_nameHere_51 : decode cX7_nameHere 51 = .ok (.iload_n 2, 1) := by decide +kernel
theorem dX7_nameHere_52 : decode cX7_nameHere 52 = .ok (.ifCond .eq 54, 3) := by decide +kernel
theorem dX7_nameHere_55 : decode cX7_nameHere 55 = .ok (.iload_n 3, 1) := by decide +kernel
theorem dX7_nameHere_56 : decode cX7_nameHere 56 = .ok (.aload_n 0, 1) := by decide +kernel
theorem dX7_nameHere_57 : decode cX7_nameHere 57 = .ok (.getfield 69, 3) := by decide +kernel
theorem dX7_nameHere_60 : decode cX7_nameHere 60 = .ok (.aload_n 0, 1) := by decide +kernel
theorem dX7_nameHere_61 : decode cX7_nameHere 61 = .ok (.getfield 60, 3) := by decide +kernel
theorem dX7_nameHere_64 : decode cX7_nameHere 64 = .ok (.isub, 1) := by decide +kernel
theorem dX7_nameHere_65 : decode cX7_nameHere 65 = .ok (.if_icmp .ge 41, 3) := by decide +kernel
theorem dX7_nameHere_68 : decode cX7_nameHere 68 = .ok (.aload_n 0, 1) := by decide +kernel
theorem dX7_nameHere_69 : decode cX7_nameHere 69 = .ok (.aload_n 0, 1) := by decide +kernel
theorem dX7_nameHere_70 : decode cX7_nameHere 70 = .ok (.getfield 60, 3) := by decide +kernel
theorem dX7_nameHere_73 : decode cX7_nameHere 73 = .ok (.iload_n 3, 1) := by decide +kernel
theorem dX7_nameHere_74 : decode cX7_nameHere 74 = .ok (.iadd, 1) := by decide +kernel
theorem dX7_nameHere_75 : decode cX7_nameHere 75 = .ok (.invokevirtual 72, 3) := by decide +kernel
theorem dX7_nameHere_78 : decode cX7_nameHere 78 = .ok (.aload_n 0, 1) := by decide +kernel
theorem dX7_nameHere_79 : decode cX7_nameHere 79 = .ok (.getfield 22, 3) := by decide +kernel
theorem dX7_nameHere_82 : decode cX7_nameHere 82 = .ok (.aload_n 0, 1) := by decide +kernel
theorem dX7_nameHere_83 : decode cX7_nameHere 83 = .ok (.getfield 19, 3) := by decide +kernel
theorem dX7_nameHere_86 : decode cX7_nameHere 86 = .ok (.iload_n 1, 1) := by decide +kernel
theorem dX7_nameHere_87 : decode cX7_nameHere 87 = .ok (.iaload, 1) := by decide +kernel
theorem dX7_nameHere_88 : decode cX7_nameHere 88 = .ok (.iload_n 3, 1) := by decide +kernel
theorem dX7_nameHere_89 : decode cX7_nameHere 89 = .ok (.iadd, 1) := by decide +kernel
theorem dX7_nameHere_90 : decode cX7_nameHere 90 = .ok (.iaload, 1) := by decide +kernel
theorem dX7_nameHere_91 : decode cX7_nameHere 91 = .ok (.if_icmp .ne 7, 3) := by decide +kernel
theorem dX7_nameHere_94 : decode cX7_nameHere 94 = .ok (.iconst 1, 1) := by decide +kernel
theorem dX7_nameHere_95 : decode cX7_nameHere 95 = .ok (.goto 4, 3) := by decide +kernel
theorem dX7_nameHere_98 : decode cX7_nameHere 98 = .ok (.iconst 0, 1) := by decide +kernel
theorem dX7_nameHere_99 : decode cX7_nameHere 99 = .ok (.istore_n 2, 1) := by decide +kernel
theorem dX7_nameHere_100 : decode cX7_nameHere 100 = .ok (.iinc 3 1, 3) := by decide +kernel
theorem dX7_nameHere_103 : decode cX7_nameHere 103 = .ok (.goto (-52), 3) := by decide +kernel
theorem dX7_nameHere_106 : decode cX7_nameHere 106 = .ok (.iload_n 2, 1) := by decide +kernel
theorem dX7_nameHere_107 : decode cX7_nameHere 107 = .ok (.ifCond .eq 5, 3) := by decide +kernel
theorem dX7_nameHere_110 : decode cX7_nameHere 110 = .ok (.iload_n 1, 1) := by decide +kernel
theorem dX7_nameHere_111 : decode cX7_nameHere 111 = .ok (.ireturn, 1) := by decide +kernel
theorem dX7_nameHere_112 : decode cX7_nameHere 112 = .ok (.iinc 1 1, 3) := by decide +kernel
theorem dX7_nameHere_115 : decode cX7_nameHere 115 = .ok (.goto (-113), 3) := by decide +kernel
theorem dX7_nameHere_118 : decode cX7_nameHere 118 = .ok (.bipush (-4), 2) := by decide +kernel
theorem dX7_nameHere_120 : decode cX7_nameHere 120 = .ok (.ireturn, 1) := by decide +kernel
theorem dX7_step_0 : decode cX7_step 0 = .ok (.aload_n 0, 1) := by decide +kernel
theorem dX7_step_1 : decode cX7_step 1 = .ok (.getfield 57, 3) := by decide +kernel
theorem dX7_step_4 : decode cX7_step 4 = .ok (.ifCond .le 4, 3) := by decide +kernel
theorem dX7_step_7 : decode cX7_step 7 = .ok (.return_, 1) := by decide +kernel
theorem dX7_step_8 : decode cX7_step 8 = .ok (.aload_n 0, 1) := by decide +kernel
theorem dX7_step_9 : decode cX7_step 9 = .ok (.aload_n 0, 1) := by decide +kernel
theorem dX7_step_10 : decode cX7_step 10 = .ok (.getfield 69, 3) := by decide +kernel
theorem dX7_step_13 : decode cX7_step 13 = .ok (.invokevirtual 72, 3) := by decide +kernel
theorem dX7_step_16 : decode cX7_step 16 = .ok (.bipush 32, 2) := by decide +kernel
theorem dX7_step_18 : decode cX7_step 18 = .ok (.if_icmp .ne 16, 3) := by decide +kernel
theorem dX7_step_21 : decode cX7_step 21 = .ok (.aload_n 0, 1) := by decide +kernel
theorem dX7_step_22 : decode cX7_step 22 = .ok (.dup, 1) := by decide +kernel
theorem dX7_step_23 : decode cX7_step 23 = .ok (.getfield 69, 3) := by decide +kernel
theorem dX7_step_26 : decode cX7_step 26 = .ok (.iconst 1, 1) := by decide +kernel
theorem dX7_step_27 : decode cX7_step 27 = .ok (.iadd, 1) := by decide +kernel
theorem dX7_step_28 : decode cX7_step 28 = .ok (.putfield 69, 3) := by decide +kernel
theorem dX7_step_31 : decode cX7_step 31 = .ok (.goto (-23), 3) := by decide +kernel
theorem dX7_step_34 : decode cX7_step 34 = .ok (.aload_n 0, 1) := by decide +kernel
theorem dX7_step_35 : decode cX7_step 35 = .ok (.aload_n 0, 1) := by decide +kernel
theorem dX7_step_36 : decode cX7_step 36 = .ok (.getfield 69, 3) := by decide +kernel
theorem dX7_step_39 : decode cX7_step 39 = .ok (.putfield 60, 3) := by decide +kernel
theorem dX7_step_42 : decode cX7_step 42 = .ok (.aload_n 0, 1) := by decide +kernel
theorem dX7_step_43 : decode cX7_step 43 = .ok (.aload_n 0, 1) := by decide +kernel
theorem dX7_step_44 : decode cX7_step 44 = .ok (.getfield 69, 3) := by decide +kernel
theorem dX7_step_47 : decode cX7_step 47 = .ok (.invokevirtual 72, 3) := by decide +kernel
theorem dX7_step_50 : decode cX7_step 50 = .ok (.istore_n 1, 1) := by decide +kernel
theorem dX7_step_51 : decode cX7_step 51 = .ok (.aload_n 0, 1) := by decide +kernel
theorem dX7_step_52 : decode cX7_step 52 = .ok (.iconst 0, 1) := by decide +kernel
theorem dX7_step_53 : decode cX7_step 53 = .ok (.putfield 76, 3) := by decide +kernel
theorem dX7_step_56 : decode cX7_step 56 = .ok (.iload_n 1, 1) := by decide +kernel
theorem dX7_step_57 : decode cX7_step 57 = .ok (.bipush (-4), 2) := by decide +kernel
theorem dX7_step_59 : decode cX7_step 59 = .ok (.if_icmp .ne 11, 3) := by decide +kernel
theorem dX7_step_62 : decode cX7_step 62 = .ok (.aload_n 0, 1) := by decide +kernel
theorem dX7_step_63 : decode cX7_step 63 = .ok (.iconst 0, 1) := by decide +kernel
theorem dX7_step_64 : decode cX7_step 64 = .ok (.putfield 66, 3) := by decide +kernel
theorem dX7_step_67 : decode cX7_step 67 = .ok (.goto 202, 3) := by decide +kernel
theorem dX7_step_70 : decode cX7_step 70 = .ok (.iload_n 1, 1) := by decide +kernel
theorem dX7_step_71 : decode cX7_step 71 = .ok (.i2l, 1) := by decide +kernel
theorem dX7_step_72 : decode cX7_step 72 = .ok (.ldc2_w 79, 3) := by decide +kernel
theorem dX7_step_75 : decode cX7_step 75 = .ok (.ldc2_w 81, 3) := by decide +kernel
theorem dX7_step_78 : decode cX7_step 78 = .ok (.invokestatic 49, 3) := by decide +kernel
theorem dX7_step_81 : decode cX7_step 81 = .ok (.ifCond .eq 45, 3) := by decide +kernel
theorem dX7_step_84 : decode cX7_step 84 = .ok (.aload_n 0, 1) := by decide +kernel
theorem dX7_step_85 : decode cX7_step 85 = .ok (.aload_n 0, 1) := by decide +kernel
theorem dX7_step_86 : decode cX7_step 86 = .ok (.getfield 69, 3) := by decide +kernel
theorem dX7_step_89 : decode cX7_step 89 = .ok (.invokevirtual 72, 3) := by decide +kernel
theorem dX7_step_92 : decode cX7_step 92 = .ok (.i2l, 1) := by decide +kernel
theorem dX7_step_93 : decode cX7_step 93 = .ok (.ldc2_w 79, 3) := by decide +kernel
theorem dX7_step_96 : decode cX7_step 96 = .ok (.ldc2_w 81, 3) := by decide +kernel
theorem dX7_step_99 : decode cX7_step 99 = .ok (.invokestatic 49, 3) := by decide +kernel
theorem dX7_step_102 : decode cX7_step 102 = .ok (.ifCond .eq 16, 3) := by decide +kernel
theorem dX7_step_105 : decode cX7_step 105 = .ok (.aload_n 0, 1) := by decide +kernel
theorem dX7_step_106 : decode cX7_step 106 = .ok (.dup, 1) := by decide +kernel
theorem dX7_step_107 : decode cX7_step 107 = .ok (.getfield 69, 3) := by decide +kernel
theorem dX7_step_110 : decode cX7_step 110 = .ok (.iconst 1, 1) := by decide +kernel
theorem dX7_step_111 : decode cX7_step 111 = .ok (.iadd, 1) := by decide +kernel
theorem dX7_step_112 : decode cX7_step 112 = .ok (.putfield 69, 3) := by decide +kernel
theorem dX7_step_115 : decode cX7_step 115 = .ok (.goto (-31), 3) := by decide +kernel
theorem dX7_step_118 : decode cX7_step 118 = .ok (.aload_n 0, 1) := by decide +kernel
theorem dX7_step_119 : decode cX7_step 119 = .ok (.iconst 1, 1) := by decide +kernel
theorem dX7_step_120 : decode cX7_step 120 = .ok (.putfield 66, 3) := by decide +kernel
theorem dX7_step_123 : decode cX7_step 123 = .ok (.goto 146, 3) := by decide +kernel
theorem dX7_step_126 : decode cX7_step 126 = .ok (.iload_n 1, 1) := by decide +kernel
theorem dX7_step_127 : decode cX7_step 127 = .ok (.i2l, 1) := by decide +kernel
theorem dX7_step_128 : decode cX7_step 128 = .ok (.ldc2_w 83, 3) := by decide +kernel
theorem dX7_step_131 : decode cX7_step 131 = .ok (.ldc2_w 85, 3) := by decide +kernel
theorem dX7_step_134 : decode cX7_step 134 = .ok (.invokestatic 49, 3) := by decide +kernel
theorem dX7_step_137 : decode cX7_step 137 = .ok (.ifCond .eq 106, 3) := by decide +kernel
theorem dX7_step_140 : decode cX7_step 140 = .ok (.aload_n 0, 1) := by decide +kernel
theorem dX7_step_141 : decode cX7_step 141 = .ok (.aload_n 0, 1) := by decide +kernel
theorem dX7_step_142 : decode cX7_step 142 = .ok (.getfield 69, 3) := by decide +kernel
theorem dX7_step_145 : decode cX7_step 145 = .ok (.invokevirtual 72, 3) := by decide +kernel
theorem dX7_step_148 : decode cX7_step 148 = .ok (.i2l, 1) := by decide +kernel
theorem dX7_step_149 : decode cX7_step 149 = .ok (.ldc2_w 83, 3) := by decide +kernel
theorem dX7_step_152 : decode cX7_step 152 = .ok (.ldc2_w 85, 3) := by decide +kernel
theorem dX7_step_155 : decode cX7_step 155 = .ok (.invokestatic 49, 3) := by decide +kernel
theorem dX7_step_158 : decode cX7_step 158 = .ok (.ifCond .eq 59, 3) := by decide +kernel
theorem dX7_step_161 : decode cX7_step 161 = .ok (.aload_n 0, 1) := by decide +kernel
theorem dX7_step_162 : decode cX7_step 162 = .ok (.aload_n 0, 1) := by decide +kernel
theorem dX7_step_163 : decode cX7_step 163 = .ok (.getfield 69, 3) := by decide +kernel
theorem dX7_step_166 : decode cX7_step 166 = .ok (.aload_n 0, 1) := by decide +kernel
theorem dX7_step_167 : decode cX7_step 167 = .ok (.getfield 60, 3) := by decide +kernel
theorem dX7_step_170 : decode cX7_step 170 = .ok (.isub, 1) := by decide +kernel
theorem dX7_step_171 : decode cX7_step 171 = .ok (.iconst 2, 1) := by decide +kernel
theorem dX7_step_172 : decode cX7_step 172 = .ok (.if_icmp .ge 25, 3) := by decide +kernel
theorem dX7_step_175 : decode cX7_step 175 = .ok (.bipush 10, 2) := by decide +kernel
theorem dX7_step_177 : decode cX7_step 177 = .ok (.aload_n 0, 1) := by decide +kernel
theorem dX7_step_178 : decode cX7_step 178 = .ok (.getfield 76, 3) := by decide +kernel
theorem dX7_step_181 : decode cX7_step 181 = .ok (.imul, 1) := by decide +kernel
theorem dX7_step_182 : decode cX7_step 182 = .ok (.aload_n 0, 1) := by decide +kernel
theorem dX7_step_183 : decode cX7_step 183 = .ok (.aload_n 0, 1) := by decide +kernel
theorem dX7_step_184 : decode cX7_step 184 = .ok (.getfield 69, 3) := by decide +kernel
theorem dX7_step_187 : decode cX7_step 187 = .ok (.invokevirtual 72, 3) := by decide +kernel
theorem dX7_step_190 : decode cX7_step 190 = .ok (.iadd, 1) := by decide +kernel
theorem dX7_step_191 : decode cX7_step 191 = .ok (.bipush 48, 2) := by decide +kernel
theorem dX7_step_193 : decode cX7_step 193 = .ok (.isub, 1) := by decide +kernel
theorem dX7_step_194 : decode cX7_step 194 = .ok (.goto 7, 3) := by decide +kernel
theorem dX7_step_197 : decode cX7_step 197 = .ok (.aload_n 0, 1) := by decide +kernel
theorem dX7_step_198 : decode cX7_step 198 = .ok (.getfield 76, 3) := by decide +kernel
theorem dX7_step_201 : decode cX7_step 201 = .ok (.putfield 76, 3) := by decide +kernel
theorem dX7_step_204 : decode cX7_step 204 = .ok (.aload_n 0, 1) := by decide +kernel
theorem dX7_step_205 : decode cX7_step 205 = .ok (.dup, 1) := by decide +kernel
theorem dX7_step_206 : decode cX7_step 206 = .ok (.getfield 69, 3) := by decide +kernel
theorem dX7_step_209 : decode cX7_step 209 = .ok (.iconst 1, 1) := by decide +kernel
theorem dX7_step_210 : decode cX7_step 210 = .ok (.iadd, 1) := by decide +kernel
theorem dX7_step_211 : decode cX7_step 211 = .ok (.putfield 69, 3) := by decide +kernel
theorem dX7_step_214 : decode cX7_step 214 = .ok (.goto (-74), 3) := by decide +kernel
theorem dX7_step_217 : decode cX7_step 217 = .ok (.aload_n 0, 1) := by decide +kernel
theorem dX7_step_218 : decode cX7_step 218 = .ok (.iconst 2, 1) := by decide +kernel
theorem dX7_step_219 : decode cX7_step 219 = .ok (.putfield 66, 3) := by decide +kernel
theorem dX7_step_222 : decode cX7_step 222 = .ok (.aload_n 0, 1) := by decide +kernel
theorem dX7_step_223 : decode cX7_step 223 = .ok (.getfield 69, 3) := by decide +kernel
theorem dX7_step_226 : decode cX7_step 226 = .ok (.aload_n 0, 1) := by decide +kernel
theorem dX7_step_227 : decode cX7_step 227 = .ok (.getfield 60, 3) := by decide +kernel
theorem dX7_step_230 : decode cX7_step 230 = .ok (.isub, 1) := by decide +kernel
theorem dX7_step_231 : decode cX7_step 231 = .ok (.iconst 2, 1) := by decide +kernel
theorem dX7_step_232 : decode cX7_step 232 = .ok (.if_icmp .le 37, 3) := by decide +kernel
theorem dX7_step_235 : decode cX7_step 235 = .ok (.aload_n 0, 1) := by decide +kernel
theorem dX7_step_236 : decode cX7_step 236 = .ok (.iconst 1, 1) := by decide +kernel
theorem dX7_step_237 : decode cX7_step 237 = .ok (.invokevirtual 87, 3) := by decide +kernel
theorem dX7_step_240 : decode cX7_step 240 = .ok (.goto 29, 3) := by decide +kernel
theorem dX7_step_243 : decode cX7_step 243 = .ok (.aload_n 0, 1) := by decide +kernel
theorem dX7_step_244 : decode cX7_step 244 = .ok (.iconst 3, 1) := by decide +kernel
theorem dX7_step_245 : decode cX7_step 245 = .ok (.putfield 66, 3) := by decide +kernel
theorem dX7_step_248 : decode cX7_step 248 = .ok (.aload_n 0, 1) := by decide +kernel
theorem dX7_step_249 : decode cX7_step 249 = .ok (.dup, 1) := by decide +kernel
theorem dX7_step_250 : decode cX7_step 250 = .ok (.getfield 69, 3) := by decide +kernel
theorem dX7_step_253 : decode cX7_step 253 = .ok (.iconst 1, 1) := by decide +kernel
theorem dX7_step_254 : decode cX7_step 254 = .ok (.iadd, 1) := by decide +kernel
theorem dX7_step_255 : decode cX7_step 255 = .ok (.putfield 69, 3) := by decide +kernel
theorem dX7_step_258 : decode cX7_step 258 = .ok (.iload_n 1, 1) := by decide +kernel
theorem dX7_step_259 : decode cX7_step 259 = .ok (.bipush 59, 2) := by decide +kernel
theorem dX7_step_261 : decode cX7_step 261 = .ok (.if_icmp .eq 8, 3) := by decide +kernel
theorem dX7_step_264 : decode cX7_step 264 = .ok (.aload_n 0, 1) := by decide +kernel
theorem dX7_step_265 : decode cX7_step 265 = .ok (.iconst 1, 1) := by decide +kernel
theorem dX7_step_266 : decode cX7_step 266 = .ok (.invokevirtual 87, 3) := by decide +kernel
theorem dX7_step_269 : decode cX7_step 269 = .ok (.return_, 1) := by decide +kernel
theorem dX7_number_0 : decode cX7_number 0 = .ok (.aload_n 0, 1) := by decide +kernel
theorem dX7_number_1 : decode cX7_number 1 = .ok (.getfield 57, 3) := by decide +kernel
theorem dX7_number_4 : decode cX7_number 4 = .ok (.ifCond .ne 16, 3) := by decide +kernel
theorem dX7_number_7 : decode cX7_number 7 = .ok (.aload_n 0, 1) := by decide +kernel
theorem dX7_number_8 : decode cX7_number 8 = .ok (.getfield 66, 3) := by decide +kernel
theorem dX7_number_11 : decode cX7_number 11 = .ok (.iconst 2, 1) := by decide +kernel
theorem dX7_number_12 : decode cX7_number 12 = .ok (.if_icmp .eq 8, 3) := by decide +kernel
theorem dX7_number_15 : decode cX7_number 15 = .ok (.aload_n 0, 1) := by decide +kernel
theorem dX7_number_16 : decode cX7_number 16 = .ok (.iconst 2, 1) := by decide +kernel
theorem dX7_number_17 : decode cX7_number 17 = .ok (.invokevirtual 87, 3) := by decide +kernel
theorem dX7_number_20 : decode cX7_number 20 = .ok (.aload_n 0, 1) := by decide +kernel
theorem dX7_number_21 : decode cX7_number 21 = .ok (.getfield 57, 3) := by decide +kernel
theorem dX7_number_24 : decode cX7_number 24 = .ok (.ifCond .ne 23, 3) := by decide +kernel
theorem dX7_number_27 : decode cX7_number 27 = .ok (.aload_n 0, 1) := by decide +kernel
theorem dX7_number_28 : decode cX7_number 28 = .ok (.getfield 76, 3) := by decide +kernel
theorem dX7_number_31 : decode cX7_number 31 = .ok (.i2l, 1) := by decide +kernel
theorem dX7_number_32 : decode cX7_number 32 = .ok (.iload_n 1, 1) := by decide +kernel
theorem dX7_number_33 : decode cX7_number 33 = .ok (.i2l, 1) := by decide +kernel
theorem dX7_number_34 : decode cX7_number 34 = .ok (.iload_n 2, 1) := by decide +kernel
theorem dX7_number_35 : decode cX7_number 35 = .ok (.i2l, 1) := by decide +kernel
theorem dX7_number_36 : decode cX7_number 36 = .ok (.invokestatic 49, 3) := by decide +kernel
theorem dX7_number_39 : decode cX7_number 39 = .ok (.ifCond .ne 8, 3) := by decide +kernel
theorem dX7_number_42 : decode cX7_number 42 = .ok (.aload_n 0, 1) := by decide +kernel
theorem dX7_number_43 : decode cX7_number 43 = .ok (.iconst 3, 1) := by decide +kernel
theorem dX7_number_44 : decode cX7_number 44 = .ok (.invokevirtual 87, 3) := by decide +kernel
theorem dX7_number_47 : decode cX7_number 47 = .ok (.aload_n 0, 1) := by decide +kernel
theorem dX7_number_48 : decode cX7_number 48 = .ok (.getfield 57, 3) := by decide +kernel
theorem dX7_number_51 : decode cX7_number 51 = .ok (.ifCond .ne 10, 3) := by decide +kernel
theorem dX7_number_54 : decode cX7_number 54 = .ok (.aload_n 0, 1) := by decide +kernel
theorem dX7_number_55 : decode cX7_number 55 = .ok (.getfield 76, 3) := by decide +kernel
theorem dX7_number_58 : decode cX7_number 58 = .ok (.goto 4, 3) := by decide +kernel
theorem dX7_number_61 : decode cX7_number 61 = .ok (.iload_n 1, 1) := by decide +kernel
theorem dX7_number_62 : decode cX7_number 62 = .ok (.istore_n 3, 1) := by decide +kernel
theorem dX7_number_63 : decode cX7_number 63 = .ok (.aload_n 0, 1) := by decide +kernel
theorem dX7_number_64 : decode cX7_number 64 = .ok (.invokevirtual 91, 3) := by decide +kernel
theorem dX7_number_67 : decode cX7_number 67 = .ok (.iload_n 3, 1) := by decide +kernel
theorem dX7_number_68 : decode cX7_number 68 = .ok (.ireturn, 1) := by decide +kernel
theorem dX7_readMore_0 : decode cX7_readMore 0 = .ok (.iload_n 1, 1) := by decide +kernel
theorem dX7_readMore_1 : decode cX7_readMore 1 = .ok (.iconst 3, 1) := by decide +kernel
theorem dX7_readMore_2 : decode cX7_readMore 2 = .ok (.if_icmp .gt 80, 3) := by decide +kernel
theorem dX7_readMore_5 : decode cX7_readMore 5 = .ok (.aload_n 0, 1) := by decide +kernel
theorem dX7_readMore_6 : decode cX7_readMore 6 = .ok (.getfield 13, 3) := by decide +kernel
theorem dX7_readMore_9 : decode cX7_readMore 9 = .ok (.bipush 24, 2) := by decide +kernel
theorem dX7_readMore_11 : decode cX7_readMore 11 = .ok (.iaload, 1) := by decide +kernel
theorem dX7_readMore_12 : decode cX7_readMore 12 = .ok (.istore_n 2, 1) := by decide +kernel
theorem dX7_readMore_13 : decode cX7_readMore 13 = .ok (.aload_n 0, 1) := by decide +kernel
theorem dX7_readMore_14 : decode cX7_readMore 14 = .ok (.getfield 13, 3) := by decide +kernel
theorem dX7_readMore_17 : decode cX7_readMore 17 = .ok (.iload_n 2, 1) := by decide +kernel
theorem dX7_readMore_18 : decode cX7_readMore 18 = .ok (.iload_n 1, 1) := by decide +kernel
theorem dX7_readMore_19 : decode cX7_readMore 19 = .ok (.iastore, 1) := by decide +kernel
theorem dX7_readMore_20 : decode cX7_readMore 20 = .ok (.aload_n 0, 1) := by decide +kernel
theorem dX7_readMore_21 : decode cX7_readMore 21 = .ok (.getfield 13, 3) := by decide +kernel
theorem dX7_readMore_24 : decode cX7_readMore 24 = .ok (.bipush 6, 2) := by decide +kernel
theorem dX7_readMore_26 : decode cX7_readMore 26 = .ok (.iload_n 2, 1) := by decide +kernel
theorem dX7_readMore_27 : decode cX7_readMore 27 = .ok (.iadd, 1) := by decide +kernel
theorem dX7_readMore_28 : decode cX7_readMore 28 = .ok (.aload_n 0, 1) := by decide +kernel
theorem dX7_readMore_29 : decode cX7_readMore 29 = .ok (.iconst 0, 1) := by decide +kernel
theorem dX7_readMore_30 : decode cX7_readMore 30 = .ok (.bipush 11, 2) := by decide +kernel
theorem dX7_readMore_32 : decode cX7_readMore 32 = .ok (.invokevirtual 94, 3) := by decide +kernel
theorem dX7_readMore_35 : decode cX7_readMore 35 = .ok (.iastore, 1) := by decide +kernel
theorem dX7_readMore_36 : decode cX7_readMore 36 = .ok (.aload_n 0, 1) := by decide +kernel
theorem dX7_readMore_37 : decode cX7_readMore 37 = .ok (.getfield 13, 3) := by decide +kernel
theorem dX7_readMore_40 : decode cX7_readMore 40 = .ok (.bipush 12, 2) := by decide +kernel
theorem dX7_readMore_42 : decode cX7_readMore 42 = .ok (.iload_n 2, 1) := by decide +kernel
theorem dX7_readMore_43 : decode cX7_readMore 43 = .ok (.iadd, 1) := by decide +kernel
theorem dX7_readMore_44 : decode cX7_readMore 44 = .ok (.aload_n 0, 1) := by decide +kernel
theorem dX7_readMore_45 : decode cX7_readMore 45 = .ok (.iconst 0, 1) := by decide +kernel
theorem dX7_readMore_46 : decode cX7_readMore 46 = .ok (.bipush 59, 2) := by decide +kernel
theorem dX7_readMore_48 : decode cX7_readMore 48 = .ok (.invokevirtual 94, 3) := by decide +kernel
theorem dX7_readMore_51 : decode cX7_readMore 51 = .ok (.iastore, 1) := by decide +kernel
theorem dX7_readMore_52 : decode cX7_readMore 52 = .ok (.aload_n 0, 1) := by decide +kernel
theorem dX7_readMore_53 : decode cX7_readMore 53 = .ok (.getfield 13, 3) := by decide +kernel
theorem dX7_readMore_56 : decode cX7_readMore 56 = .ok (.bipush 18, 2) := by decide +kernel
theorem dX7_readMore_58 : decode cX7_readMore 58 = .ok (.iload_n 2, 1) := by decide +kernel
theorem dX7_readMore_59 : decode cX7_readMore 59 = .ok (.iadd, 1) := by decide +kernel
theorem dX7_readMore_60 : decode cX7_readMore 60 = .ok (.aload_n 0, 1) := by decide +kernel
theorem dX7_readMore_61 : decode cX7_readMore 61 = .ok (.iconst 1, 1) := by decide +kernel
theorem dX7_readMore_62 : decode cX7_readMore 62 = .ok (.bipush 9, 2) := by decide +kernel
theorem dX7_readMore_64 : decode cX7_readMore 64 = .ok (.invokevirtual 94, 3) := by decide +kernel
theorem dX7_readMore_67 : decode cX7_readMore 67 = .ok (.iastore, 1) := by decide +kernel
theorem dX7_readMore_68 : decode cX7_readMore 68 = .ok (.aload_n 0, 1) := by decide +kernel
theorem dX7_readMore_69 : decode cX7_readMore 69 = .ok (.getfield 13, 3) := by decide +kernel
theorem dX7_readMore_72 : decode cX7_readMore 72 = .ok (.bipush 24, 2) := by decide +kernel
theorem dX7_readMore_74 : decode cX7_readMore 74 = .ok (.dup2, 1) := by decide +kernel
theorem dX7_readMore_75 : decode cX7_readMore 75 = .ok (.iaload, 1) := by decide +kernel
theorem dX7_readMore_76 : decode cX7_readMore 76 = .ok (.iconst 1, 1) := by decide +kernel
theorem dX7_readMore_77 : decode cX7_readMore 77 = .ok (.iadd, 1) := by decide +kernel
theorem dX7_readMore_78 : decode cX7_readMore 78 = .ok (.iastore, 1) := by decide +kernel
theorem dX7_readMore_79 : decode cX7_readMore 79 = .ok (.goto 100, 3) := by decide +kernel
theorem dX7_readMore_82 : decode cX7_readMore 82 = .ok (.iload_n 1, 1) := by decide +kernel
theorem dX7_readMore_83 : decode cX7_readMore 83 = .ok (.iconst 4, 1) := by decide +kernel
theorem dX7_readMore_84 : decode cX7_readMore 84 = .ok (.if_icmp .ne 57, 3) := by decide +kernel
theorem dX7_readMore_87 : decode cX7_readMore 87 = .ok (.aload_n 0, 1) := by decide +kernel
theorem dX7_readMore_88 : decode cX7_readMore 88 = .ok (.getfield 13, 3) := by decide +kernel
theorem dX7_readMore_91 : decode cX7_readMore 91 = .ok (.bipush 33, 2) := by decide +kernel
theorem dX7_readMore_93 : decode cX7_readMore 93 = .ok (.iaload, 1) := by decide +kernel
theorem dX7_readMore_94 : decode cX7_readMore 94 = .ok (.istore_n 2, 1) := by decide +kernel
theorem dX7_readMore_95 : decode cX7_readMore 95 = .ok (.aload_n 0, 1) := by decide +kernel
theorem dX7_readMore_96 : decode cX7_readMore 96 = .ok (.getfield 13, 3) := by decide +kernel
theorem dX7_readMore_99 : decode cX7_readMore 99 = .ok (.bipush 25, 2) := by decide +kernel
theorem dX7_readMore_101 : decode cX7_readMore 101 = .ok (.iload_n 2, 1) := by decide +kernel
theorem dX7_readMore_102 : decode cX7_readMore 102 = .ok (.iadd, 1) := by decide +kernel
theorem dX7_readMore_103 : decode cX7_readMore 103 = .ok (.aload_n 0, 1) := by decide +kernel
theorem dX7_readMore_104 : decode cX7_readMore 104 = .ok (.iconst 0, 1) := by decide +kernel
theorem dX7_readMore_105 : decode cX7_readMore 105 = .ok (.bipush 11, 2) := by decide +kernel
theorem dX7_readMore_107 : decode cX7_readMore 107 = .ok (.invokevirtual 94, 3) := by decide +kernel
theorem dX7_readMore_110 : decode cX7_readMore 110 = .ok (.iastore, 1) := by decide +kernel
theorem dX7_readMore_111 : decode cX7_readMore 111 = .ok (.aload_n 0, 1) := by decide +kernel
theorem dX7_readMore_112 : decode cX7_readMore 112 = .ok (.getfield 13, 3) := by decide +kernel
theorem dX7_readMore_115 : decode cX7_readMore 115 = .ok (.bipush 29, 2) := by decide +kernel
theorem dX7_readMore_117 : decode cX7_readMore 117 = .ok (.iload_n 2, 1) := by decide +kernel
theorem dX7_readMore_118 : decode cX7_readMore 118 = .ok (.iadd, 1) := by decide +kernel
theorem dX7_readMore_119 : decode cX7_readMore 119 = .ok (.aload_n 0, 1) := by decide +kernel
theorem dX7_readMore_120 : decode cX7_readMore 120 = .ok (.iconst 0, 1) := by decide +kernel
theorem dX7_readMore_121 : decode cX7_readMore 121 = .ok (.bipush 9, 2) := by decide +kernel
theorem dX7_readMore_123 : decode cX7_readMore 123 = .ok (.invokevirtual 94, 3) := by decide +kernel
theorem dX7_readMore_126 : decode cX7_readMore 126 = .ok (.iastore, 1) := by decide +kernel
theorem dX7_readMore_127 : decode cX7_readMore 127 = .ok (.aload_n 0, 1) := by decide +kernel
theorem dX7_readMore_128 : decode cX7_readMore 128 = .ok (.getfield 13, 3) := by decide +kernel
theorem dX7_readMore_131 : decode cX7_readMore 131 = .ok (.bipush 33, 2) := by decide +kernel
theorem dX7_readMore_133 : decode cX7_readMore 133 = .ok (.dup2, 1) := by decide +kernel
theorem dX7_readMore_134 : decode cX7_readMore 134 = .ok (.iaload, 1) := by decide +kernel
theorem dX7_readMore_135 : decode cX7_readMore 135 = .ok (.iconst 1, 1) := by decide +kernel
theorem dX7_readMore_136 : decode cX7_readMore 136 = .ok (.iadd, 1) := by decide +kernel
theorem dX7_readMore_137 : decode cX7_readMore 137 = .ok (.iastore, 1) := by decide +kernel
theorem dX7_readMore_138 : decode cX7_readMore 138 = .ok (.goto 41, 3) := by decide +kernel
theorem dX7_readMore_141 : decode cX7_readMore 141 = .ok (.iload_n 1, 1) := by decide +kernel
theorem dX7_readMore_142 : decode cX7_readMore 142 = .ok (.iconst 5, 1) := by decide +kernel
theorem dX7_readMore_143 : decode cX7_readMore 143 = .ok (.if_icmp .ne 22, 3) := by decide +kernel
theorem dX7_readMore_146 : decode cX7_readMore 146 = .ok (.aload_n 0, 1) := by decide +kernel
theorem dX7_readMore_147 : decode cX7_readMore 147 = .ok (.getfield 13, 3) := by decide +kernel
theorem dX7_readMore_150 : decode cX7_readMore 150 = .ok (.bipush 34, 2) := by decide +kernel
theorem dX7_readMore_152 : decode cX7_readMore 152 = .ok (.aload_n 0, 1) := by decide +kernel
theorem dX7_readMore_153 : decode cX7_readMore 153 = .ok (.iconst 0, 1) := by decide +kernel
theorem dX7_readMore_154 : decode cX7_readMore 154 = .ok (.bipush 8, 2) := by decide +kernel
theorem dX7_readMore_156 : decode cX7_readMore 156 = .ok (.invokevirtual 94, 3) := by decide +kernel
theorem dX7_readMore_159 : decode cX7_readMore 159 = .ok (.iconst 4, 1) := by decide +kernel
theorem dX7_readMore_160 : decode cX7_readMore 160 = .ok (.isub, 1) := by decide +kernel
theorem dX7_readMore_161 : decode cX7_readMore 161 = .ok (.iastore, 1) := by decide +kernel
theorem dX7_readMore_162 : decode cX7_readMore 162 = .ok (.goto 17, 3) := by decide +kernel
theorem dX7_readMore_165 : decode cX7_readMore 165 = .ok (.aload_n 0, 1) := by decide +kernel
theorem dX7_readMore_166 : decode cX7_readMore 166 = .ok (.getfield 13, 3) := by decide +kernel
theorem dX7_readMore_169 : decode cX7_readMore 169 = .ok (.bipush 35, 2) := by decide +kernel
theorem dX7_readMore_171 : decode cX7_readMore 171 = .ok (.aload_n 0, 1) := by decide +kernel
theorem dX7_readMore_172 : decode cX7_readMore 172 = .ok (.iconst 0, 1) := by decide +kernel
theorem dX7_readMore_173 : decode cX7_readMore 173 = .ok (.bipush 9, 2) := by decide +kernel
theorem dX7_readMore_175 : decode cX7_readMore 175 = .ok (.invokevirtual 94, 3) := by decide +kernel
theorem dX7_readMore_178 : decode cX7_readMore 178 = .ok (.iastore, 1) := by decide +kernel
theorem dX7_readMore_179 : decode cX7_readMore 179 = .ok (.return_, 1) := by decide +kernel
theorem dX7_readLine_0 : decode cX7_readLine 0 = .ok (.aload_n 0, 1) := by decide +kernel
theorem dX7_readLine_1 : decode cX7_readLine 1 = .ok (.invokevirtual 98, 3) := by decide +kernel
theorem dX7_readLine_4 : decode cX7_readLine 4 = .ok (.istore_n 1, 1) := by decide +kernel
theorem dX7_readLine_5 : decode cX7_readLine 5 = .ok (.iload_n 1, 1) := by decide +kernel
theorem dX7_readLine_6 : decode cX7_readLine 6 = .ok (.i2l, 1) := by decide +kernel
theorem dX7_readLine_7 : decode cX7_readLine 7 = .ok (.lconst 0, 1) := by decide +kernel
theorem dX7_readLine_8 : decode cX7_readLine 8 = .ok (.ldc2_w 102, 3) := by decide +kernel
theorem dX7_readLine_11 : decode cX7_readLine 11 = .ok (.invokestatic 49, 3) := by decide +kernel
theorem dX7_readLine_14 : decode cX7_readLine 14 = .ok (.ifCond .ne 9, 3) := by decide +kernel
theorem dX7_readLine_17 : decode cX7_readLine 17 = .ok (.aload_n 0, 1) := by decide +kernel
theorem dX7_readLine_18 : decode cX7_readLine 18 = .ok (.iconst 2, 1) := by decide +kernel
theorem dX7_readLine_19 : decode cX7_readLine 19 = .ok (.invokevirtual 87, 3) := by decide +kernel
theorem dX7_readLine_22 : decode cX7_readLine 22 = .ok (.return_, 1) := by decide +kernel
theorem dX7_readLine_23 : decode cX7_readLine 23 = .ok (.iload_n 1, 1) := by decide +kernel
theorem dX7_readLine_24 : decode cX7_readLine 24 = .ok (.iconst 3, 1) := by decide +kernel
theorem dX7_readLine_25 : decode cX7_readLine 25 = .ok (.if_icmp .gt 15, 3) := by decide +kernel
theorem dX7_readLine_28 : decode cX7_readLine 28 = .ok (.aload_n 0, 1) := by decide +kernel
theorem dX7_readLine_29 : decode cX7_readLine 29 = .ok (.getfield 13, 3) := by decide +kernel
theorem dX7_readLine_32 : decode cX7_readLine 32 = .ok (.bipush 24, 2) := by decide +kernel
theorem dX7_readLine_34 : decode cX7_readLine 34 = .ok (.iaload, 1) := by decide +kernel
theorem dX7_readLine_35 : decode cX7_readLine 35 = .ok (.bipush 6, 2) := by decide +kernel
theorem dX7_readLine_37 : decode cX7_readLine 37 = .ok (.if_icmp .eq 19, 3) := by decide +kernel
theorem dX7_readLine_40 : decode cX7_readLine 40 = .ok (.iload_n 1, 1) := by decide +kernel
theorem dX7_readLine_41 : decode cX7_readLine 41 = .ok (.iconst 4, 1) := by decide +kernel
theorem dX7_readLine_42 : decode cX7_readLine 42 = .ok (.if_icmp .ne 19, 3) := by decide +kernel
theorem dX7_readLine_45 : decode cX7_readLine 45 = .ok (.aload_n 0, 1) := by decide +kernel
theorem dX7_readLine_46 : decode cX7_readLine 46 = .ok (.getfield 13, 3) := by decide +kernel
theorem dX7_readLine_49 : decode cX7_readLine 49 = .ok (.bipush 33, 2) := by decide +kernel
theorem dX7_readLine_51 : decode cX7_readLine 51 = .ok (.iaload, 1) := by decide +kernel
theorem dX7_readLine_52 : decode cX7_readLine 52 = .ok (.iconst 4, 1) := by decide +kernel
theorem dX7_readLine_53 : decode cX7_readLine 53 = .ok (.if_icmp .ne 8, 3) := by decide +kernel
theorem dX7_readLine_56 : decode cX7_readLine 56 = .ok (.aload_n 0, 1) := by decide +kernel
theorem dX7_readLine_57 : decode cX7_readLine 57 = .ok (.iconst 5, 1) := by decide +kernel
theorem dX7_readLine_58 : decode cX7_readLine 58 = .ok (.invokevirtual 87, 3) := by decide +kernel
theorem dX7_readLine_61 : decode cX7_readLine 61 = .ok (.iload_n 1, 1) := by decide +kernel
theorem dX7_readLine_62 : decode cX7_readLine 62 = .ok (.iconst 5, 1) := by decide +kernel
theorem dX7_readLine_63 : decode cX7_readLine 63 = .ok (.if_icmp .lt 20, 3) := by decide +kernel
theorem dX7_readLine_66 : decode cX7_readLine 66 = .ok (.aload_n 0, 1) := by decide +kernel
theorem dX7_readLine_67 : decode cX7_readLine 67 = .ok (.getfield 104, 3) := by decide +kernel
theorem dX7_readLine_70 : decode cX7_readLine 70 = .ok (.iload_n 1, 1) := by decide +kernel
theorem dX7_readLine_71 : decode cX7_readLine 71 = .ok (.ishr, 1) := by decide +kernel
theorem dX7_readLine_72 : decode cX7_readLine 72 = .ok (.iconst 1, 1) := by decide +kernel
theorem dX7_readLine_73 : decode cX7_readLine 73 = .ok (.iand, 1) := by decide +kernel
theorem dX7_readLine_74 : decode cX7_readLine 74 = .ok (.iconst 1, 1) := by decide +kernel
theorem dX7_readLine_75 : decode cX7_readLine 75 = .ok (.if_icmp .ne 8, 3) := by decide +kernel
theorem dX7_readLine_78 : decode cX7_readLine 78 = .ok (.aload_n 0, 1) := by decide +kernel
theorem dX7_readLine_79 : decode cX7_readLine 79 = .ok (.iconst 4, 1) := by decide +kernel
theorem dX7_readLine_80 : decode cX7_readLine 80 = .ok (.invokevirtual 87, 3) := by decide +kernel
theorem dX7_readLine_83 : decode cX7_readLine 83 = .ok (.aload_n 0, 1) := by decide +kernel
theorem dX7_readLine_84 : decode cX7_readLine 84 = .ok (.dup, 1) := by decide +kernel
theorem dX7_readLine_85 : decode cX7_readLine 85 = .ok (.getfield 104, 3) := by decide +kernel
theorem dX7_readLine_88 : decode cX7_readLine 88 = .ok (.iconst 1, 1) := by decide +kernel
theorem dX7_readLine_89 : decode cX7_readLine 89 = .ok (.iload_n 1, 1) := by decide +kernel
theorem dX7_readLine_90 : decode cX7_readLine 90 = .ok (.ishl, 1) := by decide +kernel
theorem dX7_readLine_91 : decode cX7_readLine 91 = .ok (.ior, 1) := by decide +kernel
theorem dX7_readLine_92 : decode cX7_readLine 92 = .ok (.putfield 104, 3) := by decide +kernel
theorem dX7_readLine_95 : decode cX7_readLine 95 = .ok (.aload_n 0, 1) := by decide +kernel
theorem dX7_readLine_96 : decode cX7_readLine 96 = .ok (.invokevirtual 91, 3) := by decide +kernel
theorem dX7_readLine_99 : decode cX7_readLine 99 = .ok (.aload_n 0, 1) := by decide +kernel
theorem dX7_readLine_100 : decode cX7_readLine 100 = .ok (.getfield 57, 3) := by decide +kernel
theorem dX7_readLine_103 : decode cX7_readLine 103 = .ok (.ifCond .le 4, 3) := by decide +kernel
theorem dX7_readLine_106 : decode cX7_readLine 106 = .ok (.return_, 1) := by decide +kernel
theorem dX7_readLine_107 : decode cX7_readLine 107 = .ok (.aload_n 0, 1) := by decide +kernel
theorem dX7_readLine_108 : decode cX7_readLine 108 = .ok (.iload_n 1, 1) := by decide +kernel
theorem dX7_readLine_109 : decode cX7_readLine 109 = .ok (.invokevirtual 107, 3) := by decide +kernel
theorem dX7_readLine_112 : decode cX7_readLine 112 = .ok (.aload_n 0, 1) := by decide +kernel
theorem dX7_readLine_113 : decode cX7_readLine 113 = .ok (.getfield 57, 3) := by decide +kernel
theorem dX7_readLine_116 : decode cX7_readLine 116 = .ok (.ifCond .ne 16, 3) := by decide +kernel
theorem dX7_readLine_119 : decode cX7_readLine 119 = .ok (.aload_n 0, 1) := by decide +kernel
theorem dX7_readLine_120 : decode cX7_readLine 120 = .ok (.getfield 66, 3) := by decide +kernel
theorem dX7_readLine_123 : decode cX7_readLine 123 = .ok (.iconst 3, 1) := by decide +kernel
theorem dX7_readLine_124 : decode cX7_readLine 124 = .ok (.if_icmp .eq 8, 3) := by decide +kernel
theorem dX7_readLine_127 : decode cX7_readLine 127 = .ok (.aload_n 0, 1) := by decide +kernel
theorem dX7_readLine_128 : decode cX7_readLine 128 = .ok (.iconst 2, 1) := by decide +kernel
theorem dX7_readLine_129 : decode cX7_readLine 129 = .ok (.invokevirtual 87, 3) := by decide +kernel
theorem dX7_readLine_132 : decode cX7_readLine 132 = .ok (.aload_n 0, 1) := by decide +kernel
theorem dX7_readLine_133 : decode cX7_readLine 133 = .ok (.invokevirtual 91, 3) := by decide +kernel
theorem dX7_readLine_136 : decode cX7_readLine 136 = .ok (.return_, 1) := by decide +kernel
theorem dX7_text_0 : decode cX7_text 0 = .ok (.aload_n 0, 1) := by decide +kernel
theorem dX7_text_1 : decode cX7_text 1 = .ok (.iconst 0, 1) := by decide +kernel
theorem dX7_text_2 : decode cX7_text 2 = .ok (.putfield 57, 3) := by decide +kernel
theorem dX7_text_5 : decode cX7_text 5 = .ok (.aload_n 0, 1) := by decide +kernel
theorem dX7_text_6 : decode cX7_text 6 = .ok (.iconst 0, 1) := by decide +kernel
theorem dX7_text_7 : decode cX7_text 7 = .ok (.putfield 69, 3) := by decide +kernel
theorem dX7_text_10 : decode cX7_text 10 = .ok (.aload_n 0, 1) := by decide +kernel
theorem dX7_text_11 : decode cX7_text 11 = .ok (.iconst 0, 1) := by decide +kernel
theorem dX7_text_12 : decode cX7_text 12 = .ok (.putfield 104, 3) := by decide +kernel
theorem dX7_text_15 : decode cX7_text 15 = .ok (.iconst 0, 1) := by decide +kernel
theorem dX7_text_16 : decode cX7_text 16 = .ok (.istore_n 1, 1) := by decide +kernel
theorem dX7_text_17 : decode cX7_text 17 = .ok (.iconst 0, 1) := by decide +kernel
theorem dX7_text_18 : decode cX7_text 18 = .ok (.istore_n 2, 1) := by decide +kernel
theorem dX7_text_19 : decode cX7_text 19 = .ok (.iload_n 2, 1) := by decide +kernel
theorem dX7_text_20 : decode cX7_text 20 = .ok (.bipush 36, 2) := by decide +kernel
theorem dX7_text_22 : decode cX7_text 22 = .ok (.if_icmp .ge 16, 3) := by decide +kernel
theorem dX7_text_25 : decode cX7_text 25 = .ok (.aload_n 0, 1) := by decide +kernel
theorem dX7_text_26 : decode cX7_text 26 = .ok (.getfield 13, 3) := by decide +kernel
theorem dX7_text_29 : decode cX7_text 29 = .ok (.iload_n 2, 1) := by decide +kernel
theorem dX7_text_30 : decode cX7_text 30 = .ok (.iconst 0, 1) := by decide +kernel
theorem dX7_text_31 : decode cX7_text 31 = .ok (.iastore, 1) := by decide +kernel
theorem dX7_text_32 : decode cX7_text 32 = .ok (.iinc 2 1, 3) := by decide +kernel
theorem dX7_text_35 : decode cX7_text 35 = .ok (.goto (-16), 3) := by decide +kernel
theorem dX7_text_38 : decode cX7_text 38 = .ok (.aload_n 0, 1) := by decide +kernel
theorem dX7_text_39 : decode cX7_text 39 = .ok (.invokevirtual 91, 3) := by decide +kernel
theorem dX7_text_42 : decode cX7_text 42 = .ok (.aload_n 0, 1) := by decide +kernel
theorem dX7_text_43 : decode cX7_text 43 = .ok (.getfield 57, 3) := by decide +kernel
theorem dX7_text_46 : decode cX7_text 46 = .ok (.ifCond .ne 20, 3) := by decide +kernel
theorem dX7_text_49 : decode cX7_text 49 = .ok (.aload_n 0, 1) := by decide +kernel
theorem dX7_text_50 : decode cX7_text 50 = .ok (.getfield 66, 3) := by decide +kernel
theorem dX7_text_53 : decode cX7_text 53 = .ok (.ifCond .eq 13, 3) := by decide +kernel
theorem dX7_text_56 : decode cX7_text 56 = .ok (.aload_n 0, 1) := by decide +kernel
theorem dX7_text_57 : decode cX7_text 57 = .ok (.invokevirtual 110, 3) := by decide +kernel
theorem dX7_text_60 : decode cX7_text 60 = .ok (.iinc 1 1, 3) := by decide +kernel
theorem dX7_text_63 : decode cX7_text 63 = .ok (.goto (-21), 3) := by decide +kernel
theorem dX7_text_66 : decode cX7_text 66 = .ok (.aload_n 0, 1) := by decide +kernel
theorem dX7_text_67 : decode cX7_text 67 = .ok (.iconst 0, 1) := by decide +kernel
theorem dX7_text_68 : decode cX7_text 68 = .ok (.putfield 53, 3) := by decide +kernel
theorem dX7_text_71 : decode cX7_text 71 = .ok (.aload_n 0, 1) := by decide +kernel
theorem dX7_text_72 : decode cX7_text 72 = .ok (.aload_n 0, 1) := by decide +kernel
theorem dX7_text_73 : decode cX7_text 73 = .ok (.getfield 57, 3) := by decide +kernel
theorem dX7_text_76 : decode cX7_text 76 = .ok (.putfield 113, 3) := by decide +kernel
theorem dX7_text_79 : decode cX7_text 79 = .ok (.aload_n 0, 1) := by decide +kernel
theorem dX7_text_80 : decode cX7_text 80 = .ok (.getfield 57, 3) := by decide +kernel
theorem dX7_text_83 : decode cX7_text 83 = .ok (.ifCond .le 11, 3) := by decide +kernel
theorem dX7_text_86 : decode cX7_text 86 = .ok (.bipush (-10), 2) := by decide +kernel
theorem dX7_text_88 : decode cX7_text 88 = .ok (.aload_n 0, 1) := by decide +kernel
theorem dX7_text_89 : decode cX7_text 89 = .ok (.getfield 63, 3) := by decide +kernel
theorem dX7_text_92 : decode cX7_text 92 = .ok (.isub, 1) := by decide +kernel
theorem dX7_text_93 : decode cX7_text 93 = .ok (.ireturn, 1) := by decide +kernel
theorem dX7_text_94 : decode cX7_text 94 = .ok (.iconst 0, 1) := by decide +kernel
theorem dX7_text_95 : decode cX7_text 95 = .ok (.istore_n 2, 1) := by decide +kernel
theorem dX7_text_96 : decode cX7_text 96 = .ok (.iload_n 2, 1) := by decide +kernel
theorem dX7_text_97 : decode cX7_text 97 = .ok (.bipush 36, 2) := by decide +kernel
theorem dX7_text_99 : decode cX7_text 99 = .ok (.if_icmp .ge 21, 3) := by decide +kernel
theorem dX7_text_102 : decode cX7_text 102 = .ok (.aload_n 0, 1) := by decide +kernel
theorem dX7_text_103 : decode cX7_text 103 = .ok (.getfield 7, 3) := by decide +kernel
theorem dX7_text_106 : decode cX7_text 106 = .ok (.iload_n 2, 1) := by decide +kernel
theorem dX7_text_107 : decode cX7_text 107 = .ok (.aload_n 0, 1) := by decide +kernel
theorem dX7_text_108 : decode cX7_text 108 = .ok (.getfield 13, 3) := by decide +kernel
theorem dX7_text_111 : decode cX7_text 111 = .ok (.iload_n 2, 1) := by decide +kernel
theorem dX7_text_112 : decode cX7_text 112 = .ok (.iaload, 1) := by decide +kernel
theorem dX7_text_113 : decode cX7_text 113 = .ok (.iastore, 1) := by decide +kernel
theorem dX7_text_114 : decode cX7_text 114 = .ok (.iinc 2 1, 3) := by decide +kernel
theorem dX7_text_117 : decode cX7_text 117 = .ok (.goto (-21), 3) := by decide +kernel
theorem dX7_text_120 : decode cX7_text 120 = .ok (.aload_n 0, 1) := by decide +kernel
theorem dX7_text_121 : decode cX7_text 121 = .ok (.iconst 0, 1) := by decide +kernel
theorem dX7_text_122 : decode cX7_text 122 = .ok (.putfield 116, 3) := by decide +kernel
theorem dX7_text_125 : decode cX7_text 125 = .ok (.aload_n 0, 1) := by decide +kernel
theorem dX7_text_126 : decode cX7_text 126 = .ok (.getfield 34, 3) := by decide +kernel
theorem dX7_text_129 : decode cX7_text 129 = .ok (.iconst 0, 1) := by decide +kernel
theorem dX7_text_130 : decode cX7_text 130 = .ok (.iconst 0, 1) := by decide +kernel
theorem dX7_text_131 : decode cX7_text 131 = .ok (.bastore, 1) := by decide +kernel
theorem dX7_text_132 : decode cX7_text 132 = .ok (.aload_n 0, 1) := by decide +kernel
theorem dX7_text_133 : decode cX7_text 133 = .ok (.getfield 34, 3) := by decide +kernel
theorem dX7_text_136 : decode cX7_text 136 = .ok (.iconst 1, 1) := by decide +kernel
theorem dX7_text_137 : decode cX7_text 137 = .ok (.iconst 0, 1) := by decide +kernel
theorem dX7_text_138 : decode cX7_text 138 = .ok (.bastore, 1) := by decide +kernel
theorem dX7_text_139 : decode cX7_text 139 = .ok (.iload_n 1, 1) := by decide +kernel
theorem dX7_text_140 : decode cX7_text 140 = .ok (.ireturn, 1) := by decide +kernel
theorem dX7_fault_0 : decode cX7_fault 0 = .ok (.aload_n 0, 1) := by decide +kernel
theorem dX7_fault_1 : decode cX7_fault 1 = .ok (.getfield 113, 3) := by decide +kernel
theorem dX7_fault_4 : decode cX7_fault 4 = .ok (.ireturn, 1) := by decide +kernel
theorem dX7_isWork_0 : decode cX7_isWork 0 = .ok (.iload_n 1, 1) := by decide +kernel
theorem dX7_isWork_1 : decode cX7_isWork 1 = .ok (.i2l, 1) := by decide +kernel
theorem dX7_isWork_2 : decode cX7_isWork 2 = .ok (.lconst 0, 1) := by decide +kernel
theorem dX7_isWork_3 : decode cX7_isWork 3 = .ok (.aload_n 0, 1) := by decide +kernel
theorem dX7_isWork_4 : decode cX7_isWork 4 = .ok (.getfield 7, 3) := by decide +kernel
theorem dX7_isWork_7 : decode cX7_isWork 7 = .ok (.bipush 24, 2) := by decide +kernel
theorem dX7_isWork_9 : decode cX7_isWork 9 = .ok (.iaload, 1) := by decide +kernel
theorem dX7_isWork_10 : decode cX7_isWork 10 = .ok (.iconst 1, 1) := by decide +kernel
theorem dX7_isWork_11 : decode cX7_isWork 11 = .ok (.isub, 1) := by decide +kernel
theorem dX7_isWork_12 : decode cX7_isWork 12 = .ok (.i2l, 1) := by decide +kernel
theorem dX7_isWork_13 : decode cX7_isWork 13 = .ok (.invokestatic 49, 3) := by decide +kernel
theorem dX7_isWork_16 : decode cX7_isWork 16 = .ok (.ireturn, 1) := by decide +kernel
theorem dX7_isReader_0 : decode cX7_isReader 0 = .ok (.iload_n 1, 1) := by decide +kernel
theorem dX7_isReader_1 : decode cX7_isReader 1 = .ok (.i2l, 1) := by decide +kernel
theorem dX7_isReader_2 : decode cX7_isReader 2 = .ok (.lconst 0, 1) := by decide +kernel
theorem dX7_isReader_3 : decode cX7_isReader 3 = .ok (.aload_n 0, 1) := by decide +kernel
theorem dX7_isReader_4 : decode cX7_isReader 4 = .ok (.getfield 7, 3) := by decide +kernel
theorem dX7_isReader_7 : decode cX7_isReader 7 = .ok (.bipush 33, 2) := by decide +kernel
theorem dX7_isReader_9 : decode cX7_isReader 9 = .ok (.iaload, 1) := by decide +kernel
theorem dX7_isReader_10 : decode cX7_isReader 10 = .ok (.iconst 1, 1) := by decide +kernel
theorem dX7_isReader_11 : decode cX7_isReader 11 = .ok (.isub, 1) := by decide +kernel
theorem dX7_isReader_12 : decode cX7_isReader 12 = .ok (.i2l, 1) := by decide +kernel
theorem dX7_isReader_13 : decode cX7_isReader 13 = .ok (.invokestatic 49, 3) := by decide +kernel
theorem dX7_isReader_16 : decode cX7_isReader 16 = .ok (.ireturn, 1) := by decide +kernel
theorem dX7_isPlace_0 : decode cX7_isPlace 0 = .ok (.iload_n 0, 1) := by decide +kernel
theorem dX7_isPlace_1 : decode cX7_isPlace 1 = .ok (.i2l, 1) := by decide +kernel
theorem dX7_isPlace_2 : decode cX7_isPlace 2 = .ok (.lconst 0, 1) := by decide +kernel
theorem dX7_isPlace_3 : decode cX7_isPlace 3 = .ok (.ldc2_w 119, 3) := by decide +kernel
theorem dX7_isPlace_6 : decode cX7_isPlace 6 = .ok (.invokestatic 49, 3) := by decide +kernel
theorem dX7_isPlace_9 : decode cX7_isPlace 9 = .ok (.ireturn, 1) := by decide +kernel
theorem dX7_isMinute_0 : decode cX7_isMinute 0 = .ok (.iload_n 0, 1) := by decide +kernel
theorem dX7_isMinute_1 : decode cX7_isMinute 1 = .ok (.i2l, 1) := by decide +kernel
theorem dX7_isMinute_2 : decode cX7_isMinute 2 = .ok (.lconst 0, 1) := by decide +kernel
theorem dX7_isMinute_3 : decode cX7_isMinute 3 = .ok (.ldc2_w 121, 3) := by decide +kernel
theorem dX7_isMinute_6 : decode cX7_isMinute 6 = .ok (.invokestatic 49, 3) := by decide +kernel
theorem dX7_isMinute_9 : decode cX7_isMinute 9 = .ok (.ireturn, 1) := by decide +kernel
theorem dX7_lastsOn_0 : decode cX7_lastsOn 0 = .ok (.aload_n 0, 1) := by decide +kernel
theorem dX7_lastsOn_1 : decode cX7_lastsOn 1 = .ok (.getfield 7, 3) := by decide +kernel
theorem dX7_lastsOn_4 : decode cX7_lastsOn 4 = .ok (.iload_n 1, 1) := by decide +kernel
theorem dX7_lastsOn_5 : decode cX7_lastsOn 5 = .ok (.iload_n 2, 1) := by decide +kernel
theorem dX7_lastsOn_6 : decode cX7_lastsOn 6 = .ok (.iadd, 1) := by decide +kernel
theorem dX7_lastsOn_7 : decode cX7_lastsOn 7 = .ok (.iaload, 1) := by decide +kernel
theorem dX7_lastsOn_8 : decode cX7_lastsOn 8 = .ok (.istore_n 3, 1) := by decide +kernel
theorem dX7_lastsOn_9 : decode cX7_lastsOn 9 = .ok (.aload_n 0, 1) := by decide +kernel
theorem dX7_lastsOn_10 : decode cX7_lastsOn 10 = .ok (.getfield 7, 3) := by decide +kernel
theorem dX7_lastsOn_13 : decode cX7_lastsOn 13 = .ok (.iload_n 1, 1) := by decide +kernel
theorem dX7_lastsOn_14 : decode cX7_lastsOn 14 = .ok (.bipush 18, 2) := by decide +kernel
theorem dX7_lastsOn_16 : decode cX7_lastsOn 16 = .ok (.iadd, 1) := by decide +kernel
theorem dX7_lastsOn_17 : decode cX7_lastsOn 17 = .ok (.iload_n 2, 1) := by decide +kernel
theorem dX7_lastsOn_18 : decode cX7_lastsOn 18 = .ok (.iadd, 1) := by decide +kernel
theorem dX7_lastsOn_19 : decode cX7_lastsOn 19 = .ok (.iaload, 1) := by decide +kernel
theorem dX7_lastsOn_20 : decode cX7_lastsOn 20 = .ok (.istore 4, 2) := by decide +kernel
theorem dX7_lastsOn_22 : decode cX7_lastsOn 22 = .ok (.iload_n 3, 1) := by decide +kernel
theorem dX7_lastsOn_23 : decode cX7_lastsOn 23 = .ok (.ifCond .ne 8, 3) := by decide +kernel
theorem dX7_lastsOn_26 : decode cX7_lastsOn 26 = .ok (.iload 4, 2) := by decide +kernel
theorem dX7_lastsOn_28 : decode cX7_lastsOn 28 = .ok (.goto 33, 3) := by decide +kernel
theorem dX7_lastsOn_31 : decode cX7_lastsOn 31 = .ok (.iload_n 3, 1) := by decide +kernel
theorem dX7_lastsOn_32 : decode cX7_lastsOn 32 = .ok (.iconst 1, 1) := by decide +kernel
theorem dX7_lastsOn_33 : decode cX7_lastsOn 33 = .ok (.if_icmp .ne 10, 3) := by decide +kernel
theorem dX7_lastsOn_36 : decode cX7_lastsOn 36 = .ok (.iconst 2, 1) := by decide +kernel
theorem dX7_lastsOn_37 : decode cX7_lastsOn 37 = .ok (.iload 4, 2) := by decide +kernel
theorem dX7_lastsOn_39 : decode cX7_lastsOn 39 = .ok (.imul, 1) := by decide +kernel
theorem dX7_lastsOn_40 : decode cX7_lastsOn 40 = .ok (.goto 21, 3) := by decide +kernel
theorem dX7_lastsOn_43 : decode cX7_lastsOn 43 = .ok (.iload_n 3, 1) := by decide +kernel
theorem dX7_lastsOn_44 : decode cX7_lastsOn 44 = .ok (.iconst 2, 1) := by decide +kernel
theorem dX7_lastsOn_45 : decode cX7_lastsOn 45 = .ok (.if_icmp .ne 12, 3) := by decide +kernel
theorem dX7_lastsOn_48 : decode cX7_lastsOn 48 = .ok (.iconst 1, 1) := by decide +kernel
theorem dX7_lastsOn_49 : decode cX7_lastsOn 49 = .ok (.iload 4, 2) := by decide +kernel
theorem dX7_lastsOn_51 : decode cX7_lastsOn 51 = .ok (.iconst 2, 1) := by decide +kernel
theorem dX7_lastsOn_52 : decode cX7_lastsOn 52 = .ok (.idiv, 1) := by decide +kernel
theorem dX7_lastsOn_53 : decode cX7_lastsOn 53 = .ok (.iadd, 1) := by decide +kernel
theorem dX7_lastsOn_54 : decode cX7_lastsOn 54 = .ok (.goto 7, 3) := by decide +kernel
theorem dX7_lastsOn_57 : decode cX7_lastsOn 57 = .ok (.iload 4, 2) := by decide +kernel
theorem dX7_lastsOn_59 : decode cX7_lastsOn 59 = .ok (.iconst 2, 1) := by decide +kernel
theorem dX7_lastsOn_60 : decode cX7_lastsOn 60 = .ok (.idiv, 1) := by decide +kernel
theorem dX7_lastsOn_61 : decode cX7_lastsOn 61 = .ok (.ireturn, 1) := by decide +kernel
theorem dX7_wideOn_0 : decode cX7_wideOn 0 = .ok (.aload_n 0, 1) := by decide +kernel
theorem dX7_wideOn_1 : decode cX7_wideOn 1 = .ok (.getfield 7, 3) := by decide +kernel
theorem dX7_wideOn_4 : decode cX7_wideOn 4 = .ok (.iload_n 1, 1) := by decide +kernel
theorem dX7_wideOn_5 : decode cX7_wideOn 5 = .ok (.iload_n 2, 1) := by decide +kernel
theorem dX7_wideOn_6 : decode cX7_wideOn 6 = .ok (.iadd, 1) := by decide +kernel
theorem dX7_wideOn_7 : decode cX7_wideOn 7 = .ok (.iaload, 1) := by decide +kernel
theorem dX7_wideOn_8 : decode cX7_wideOn 8 = .ok (.istore_n 3, 1) := by decide +kernel
theorem dX7_wideOn_9 : decode cX7_wideOn 9 = .ok (.aload_n 0, 1) := by decide +kernel
theorem dX7_wideOn_10 : decode cX7_wideOn 10 = .ok (.getfield 7, 3) := by decide +kernel
theorem dX7_wideOn_13 : decode cX7_wideOn 13 = .ok (.iload_n 1, 1) := by decide +kernel
theorem dX7_wideOn_14 : decode cX7_wideOn 14 = .ok (.bipush 18, 2) := by decide +kernel
theorem dX7_wideOn_16 : decode cX7_wideOn 16 = .ok (.iadd, 1) := by decide +kernel
theorem dX7_wideOn_17 : decode cX7_wideOn 17 = .ok (.iload_n 2, 1) := by decide +kernel
theorem dX7_wideOn_18 : decode cX7_wideOn 18 = .ok (.iadd, 1) := by decide +kernel
theorem dX7_wideOn_19 : decode cX7_wideOn 19 = .ok (.iaload, 1) := by decide +kernel
theorem dX7_wideOn_20 : decode cX7_wideOn 20 = .ok (.istore 4, 2) := by decide +kernel
theorem dX7_wideOn_22 : decode cX7_wideOn 22 = .ok (.iload_n 3, 1) := by decide +kernel
theorem dX7_wideOn_23 : decode cX7_wideOn 23 = .ok (.iconst 1, 1) := by decide +kernel
theorem dX7_wideOn_24 : decode cX7_wideOn 24 = .ok (.if_icmp .ne 10, 3) := by decide +kernel
theorem dX7_wideOn_27 : decode cX7_wideOn 27 = .ok (.iload 4, 2) := by decide +kernel
theorem dX7_wideOn_29 : decode cX7_wideOn 29 = .ok (.iconst 2, 1) := by decide +kernel
theorem dX7_wideOn_30 : decode cX7_wideOn 30 = .ok (.idiv, 1) := by decide +kernel
theorem dX7_wideOn_31 : decode cX7_wideOn 31 = .ok (.goto 17, 3) := by decide +kernel
theorem dX7_wideOn_34 : decode cX7_wideOn 34 = .ok (.iload_n 3, 1) := by decide +kernel
theorem dX7_wideOn_35 : decode cX7_wideOn 35 = .ok (.iconst 3, 1) := by decide +kernel
theorem dX7_wideOn_36 : decode cX7_wideOn 36 = .ok (.if_icmp .ne 10, 3) := by decide +kernel
theorem dX7_wideOn_39 : decode cX7_wideOn 39 = .ok (.iload 4, 2) := by decide +kernel
theorem dX7_wideOn_41 : decode cX7_wideOn 41 = .ok (.iconst 2, 1) := by decide +kernel
theorem dX7_wideOn_42 : decode cX7_wideOn 42 = .ok (.iadd, 1) := by decide +kernel
theorem dX7_wideOn_43 : decode cX7_wideOn 43 = .ok (.goto 5, 3) := by decide +kernel
theorem dX7_wideOn_46 : decode cX7_wideOn 46 = .ok (.iload 4, 2) := by decide +kernel
theorem dX7_wideOn_48 : decode cX7_wideOn 48 = .ok (.ireturn, 1) := by decide +kernel
theorem dX7_shore_0 : decode cX7_shore 0 = .ok (.iload_n 0, 1) := by decide +kernel
theorem dX7_shore_1 : decode cX7_shore 1 = .ok (.ifCond .ge 7, 3) := by decide +kernel
theorem dX7_shore_4 : decode cX7_shore 4 = .ok (.iconst 0, 1) := by decide +kernel
theorem dX7_shore_5 : decode cX7_shore 5 = .ok (.goto 15, 3) := by decide +kernel
theorem dX7_shore_8 : decode cX7_shore 8 = .ok (.iload_n 0, 1) := by decide +kernel
theorem dX7_shore_9 : decode cX7_shore 9 = .ok (.bipush 12, 2) := by decide +kernel
theorem dX7_shore_11 : decode cX7_shore 11 = .ok (.if_icmp .lt 8, 3) := by decide +kernel
theorem dX7_shore_14 : decode cX7_shore 14 = .ok (.bipush 11, 2) := by decide +kernel
theorem dX7_shore_16 : decode cX7_shore 16 = .ok (.goto 4, 3) := by decide +kernel
theorem dX7_shore_19 : decode cX7_shore 19 = .ok (.iload_n 0, 1) := by decide +kernel
theorem dX7_shore_20 : decode cX7_shore 20 = .ok (.ireturn, 1) := by decide +kernel
theorem dX7_burstOn_0 : decode cX7_burstOn 0 = .ok (.aload_n 0, 1) := by decide +kernel
theorem dX7_burstOn_1 : decode cX7_burstOn 1 = .ok (.getfield 7, 3) := by decide +kernel
theorem dX7_burstOn_4 : decode cX7_burstOn 4 = .ok (.iload_n 1, 1) := by decide +kernel
theorem dX7_burstOn_5 : decode cX7_burstOn 5 = .ok (.bipush 6, 2) := by decide +kernel
theorem dX7_burstOn_7 : decode cX7_burstOn 7 = .ok (.iadd, 1) := by decide +kernel
theorem dX7_burstOn_8 : decode cX7_burstOn 8 = .ok (.iload_n 2, 1) := by decide +kernel
theorem dX7_burstOn_9 : decode cX7_burstOn 9 = .ok (.iadd, 1) := by decide +kernel
theorem dX7_burstOn_10 : decode cX7_burstOn 10 = .ok (.iaload, 1) := by decide +kernel
theorem dX7_burstOn_11 : decode cX7_burstOn 11 = .ok (.aload_n 0, 1) := by decide +kernel
theorem dX7_burstOn_12 : decode cX7_burstOn 12 = .ok (.getfield 7, 3) := by decide +kernel
theorem dX7_burstOn_15 : decode cX7_burstOn 15 = .ok (.iload_n 1, 1) := by decide +kernel
theorem dX7_burstOn_16 : decode cX7_burstOn 16 = .ok (.bipush 34, 2) := by decide +kernel
theorem dX7_burstOn_18 : decode cX7_burstOn 18 = .ok (.iadd, 1) := by decide +kernel
theorem dX7_burstOn_19 : decode cX7_burstOn 19 = .ok (.iaload, 1) := by decide +kernel
theorem dX7_burstOn_20 : decode cX7_burstOn 20 = .ok (.iadd, 1) := by decide +kernel
theorem dX7_burstOn_21 : decode cX7_burstOn 21 = .ok (.invokestatic 123, 3) := by decide +kernel
theorem dX7_burstOn_24 : decode cX7_burstOn 24 = .ok (.ireturn, 1) := by decide +kernel
theorem dX7_stickOn_0 : decode cX7_stickOn 0 = .ok (.aload_n 0, 1) := by decide +kernel
theorem dX7_stickOn_1 : decode cX7_stickOn 1 = .ok (.getfield 7, 3) := by decide +kernel
theorem dX7_stickOn_4 : decode cX7_stickOn 4 = .ok (.iload_n 1, 1) := by decide +kernel
theorem dX7_stickOn_5 : decode cX7_stickOn 5 = .ok (.bipush 34, 2) := by decide +kernel
theorem dX7_stickOn_7 : decode cX7_stickOn 7 = .ok (.iadd, 1) := by decide +kernel
theorem dX7_stickOn_8 : decode cX7_stickOn 8 = .ok (.iaload, 1) := by decide +kernel
theorem dX7_stickOn_9 : decode cX7_stickOn 9 = .ok (.istore_n 3, 1) := by decide +kernel
theorem dX7_stickOn_10 : decode cX7_stickOn 10 = .ok (.iload_n 3, 1) := by decide +kernel
theorem dX7_stickOn_11 : decode cX7_stickOn 11 = .ok (.ifCond .ge 8, 3) := by decide +kernel
theorem dX7_stickOn_14 : decode cX7_stickOn 14 = .ok (.iload_n 3, 1) := by decide +kernel
theorem dX7_stickOn_15 : decode cX7_stickOn 15 = .ok (.ineg, 1) := by decide +kernel
theorem dX7_stickOn_16 : decode cX7_stickOn 16 = .ok (.goto 4, 3) := by decide +kernel
theorem dX7_stickOn_19 : decode cX7_stickOn 19 = .ok (.iload_n 3, 1) := by decide +kernel
theorem dX7_stickOn_20 : decode cX7_stickOn 20 = .ok (.aload_n 0, 1) := by decide +kernel
theorem dX7_stickOn_21 : decode cX7_stickOn 21 = .ok (.iload_n 1, 1) := by decide +kernel
theorem dX7_stickOn_22 : decode cX7_stickOn 22 = .ok (.iload_n 2, 1) := by decide +kernel
theorem dX7_stickOn_23 : decode cX7_stickOn 23 = .ok (.invokevirtual 126, 3) := by decide +kernel
theorem dX7_stickOn_26 : decode cX7_stickOn 26 = .ok (.imul, 1) := by decide +kernel
theorem dX7_stickOn_27 : decode cX7_stickOn 27 = .ok (.iconst 4, 1) := by decide +kernel
theorem dX7_stickOn_28 : decode cX7_stickOn 28 = .ok (.idiv, 1) := by decide +kernel
theorem dX7_stickOn_29 : decode cX7_stickOn 29 = .ok (.istore 4, 2) := by decide +kernel
theorem dX7_stickOn_31 : decode cX7_stickOn 31 = .ok (.aload_n 0, 1) := by decide +kernel
theorem dX7_stickOn_32 : decode cX7_stickOn 32 = .ok (.iload_n 1, 1) := by decide +kernel
theorem dX7_stickOn_33 : decode cX7_stickOn 33 = .ok (.iload_n 2, 1) := by decide +kernel
theorem dX7_stickOn_34 : decode cX7_stickOn 34 = .ok (.invokevirtual 129, 3) := by decide +kernel
theorem dX7_stickOn_37 : decode cX7_stickOn 37 = .ok (.iload_n 3, 1) := by decide +kernel
theorem dX7_stickOn_38 : decode cX7_stickOn 38 = .ok (.ifCond .ge 9, 3) := by decide +kernel
theorem dX7_stickOn_41 : decode cX7_stickOn 41 = .ok (.iload 4, 2) := by decide +kernel
theorem dX7_stickOn_43 : decode cX7_stickOn 43 = .ok (.ineg, 1) := by decide +kernel
theorem dX7_stickOn_44 : decode cX7_stickOn 44 = .ok (.goto 5, 3) := by decide +kernel
theorem dX7_stickOn_47 : decode cX7_stickOn 47 = .ok (.iload 4, 2) := by decide +kernel
theorem dX7_stickOn_49 : decode cX7_stickOn 49 = .ok (.iadd, 1) := by decide +kernel
theorem dX7_stickOn_50 : decode cX7_stickOn 50 = .ok (.invokestatic 123, 3) := by decide +kernel
theorem dX7_stickOn_53 : decode cX7_stickOn 53 = .ok (.ireturn, 1) := by decide +kernel
theorem dX7_goesUp_0 : decode cX7_goesUp 0 = .ok (.aload_n 0, 1) := by decide +kernel
theorem dX7_goesUp_1 : decode cX7_goesUp 1 = .ok (.getfield 7, 3) := by decide +kernel
theorem dX7_goesUp_4 : decode cX7_goesUp 4 = .ok (.iload_n 1, 1) := by decide +kernel
theorem dX7_goesUp_5 : decode cX7_goesUp 5 = .ok (.bipush 18, 2) := by decide +kernel
theorem dX7_goesUp_7 : decode cX7_goesUp 7 = .ok (.iadd, 1) := by decide +kernel
theorem dX7_goesUp_8 : decode cX7_goesUp 8 = .ok (.iload_n 2, 1) := by decide +kernel
theorem dX7_goesUp_9 : decode cX7_goesUp 9 = .ok (.iadd, 1) := by decide +kernel
theorem dX7_goesUp_10 : decode cX7_goesUp 10 = .ok (.iaload, 1) := by decide +kernel
theorem dX7_goesUp_11 : decode cX7_goesUp 11 = .ok (.aload_n 0, 1) := by decide +kernel
theorem dX7_goesUp_12 : decode cX7_goesUp 12 = .ok (.getfield 7, 3) := by decide +kernel
theorem dX7_goesUp_15 : decode cX7_goesUp 15 = .ok (.iload_n 1, 1) := by decide +kernel
theorem dX7_goesUp_16 : decode cX7_goesUp 16 = .ok (.bipush 35, 2) := by decide +kernel
theorem dX7_goesUp_18 : decode cX7_goesUp 18 = .ok (.iadd, 1) := by decide +kernel
theorem dX7_goesUp_19 : decode cX7_goesUp 19 = .ok (.iaload, 1) := by decide +kernel
theorem dX7_goesUp_20 : decode cX7_goesUp 20 = .ok (.if_icmp .le 18, 3) := by decide +kernel
theorem dX7_goesUp_23 : decode cX7_goesUp 23 = .ok (.aload_n 0, 1) := by decide +kernel
theorem dX7_goesUp_24 : decode cX7_goesUp 24 = .ok (.getfield 132, 3) := by decide +kernel
theorem dX7_goesUp_27 : decode cX7_goesUp 27 = .ok (.iload_n 2, 1) := by decide +kernel
theorem dX7_goesUp_28 : decode cX7_goesUp 28 = .ok (.ishr, 1) := by decide +kernel
theorem dX7_goesUp_29 : decode cX7_goesUp 29 = .ok (.iconst 1, 1) := by decide +kernel
theorem dX7_goesUp_30 : decode cX7_goesUp 30 = .ok (.iand, 1) := by decide +kernel
theorem dX7_goesUp_31 : decode cX7_goesUp 31 = .ok (.ifCond .ne 7, 3) := by decide +kernel
theorem dX7_goesUp_34 : decode cX7_goesUp 34 = .ok (.iconst 1, 1) := by decide +kernel
theorem dX7_goesUp_35 : decode cX7_goesUp 35 = .ok (.goto 4, 3) := by decide +kernel
theorem dX7_goesUp_38 : decode cX7_goesUp 38 = .ok (.iconst 0, 1) := by decide +kernel
theorem dX7_goesUp_39 : decode cX7_goesUp 39 = .ok (.ireturn, 1) := by decide +kernel
theorem dX7_isUp_0 : decode cX7_isUp 0 = .ok (.aload_n 0, 1) := by decide +kernel
theorem dX7_isUp_1 : decode cX7_isUp 1 = .ok (.iload_n 1, 1) := by decide +kernel
theorem dX7_isUp_2 : decode cX7_isUp 2 = .ok (.iload_n 2, 1) := by decide +kernel
theorem dX7_isUp_3 : decode cX7_isUp 3 = .ok (.invokevirtual 135, 3) := by decide +kernel
theorem dX7_isUp_6 : decode cX7_isUp 6 = .ok (.ifCond .eq 48, 3) := by decide +kernel
theorem dX7_isUp_9 : decode cX7_isUp 9 = .ok (.iload_n 3, 1) := by decide +kernel
theorem dX7_isUp_10 : decode cX7_isUp 10 = .ok (.i2l, 1) := by decide +kernel
theorem dX7_isUp_11 : decode cX7_isUp 11 = .ok (.aload_n 0, 1) := by decide +kernel
theorem dX7_isUp_12 : decode cX7_isUp 12 = .ok (.getfield 7, 3) := by decide +kernel
theorem dX7_isUp_15 : decode cX7_isUp 15 = .ok (.iload_n 1, 1) := by decide +kernel
theorem dX7_isUp_16 : decode cX7_isUp 16 = .ok (.bipush 12, 2) := by decide +kernel
theorem dX7_isUp_18 : decode cX7_isUp 18 = .ok (.iadd, 1) := by decide +kernel
theorem dX7_isUp_19 : decode cX7_isUp 19 = .ok (.iload_n 2, 1) := by decide +kernel
theorem dX7_isUp_20 : decode cX7_isUp 20 = .ok (.iadd, 1) := by decide +kernel
theorem dX7_isUp_21 : decode cX7_isUp 21 = .ok (.iaload, 1) := by decide +kernel
theorem dX7_isUp_22 : decode cX7_isUp 22 = .ok (.i2l, 1) := by decide +kernel
theorem dX7_isUp_23 : decode cX7_isUp 23 = .ok (.aload_n 0, 1) := by decide +kernel
theorem dX7_isUp_24 : decode cX7_isUp 24 = .ok (.getfield 7, 3) := by decide +kernel
theorem dX7_isUp_27 : decode cX7_isUp 27 = .ok (.iload_n 1, 1) := by decide +kernel
theorem dX7_isUp_28 : decode cX7_isUp 28 = .ok (.bipush 12, 2) := by decide +kernel
theorem dX7_isUp_30 : decode cX7_isUp 30 = .ok (.iadd, 1) := by decide +kernel
theorem dX7_isUp_31 : decode cX7_isUp 31 = .ok (.iload_n 2, 1) := by decide +kernel
theorem dX7_isUp_32 : decode cX7_isUp 32 = .ok (.iadd, 1) := by decide +kernel
theorem dX7_isUp_33 : decode cX7_isUp 33 = .ok (.iaload, 1) := by decide +kernel
theorem dX7_isUp_34 : decode cX7_isUp 34 = .ok (.aload_n 0, 1) := by decide +kernel
theorem dX7_isUp_35 : decode cX7_isUp 35 = .ok (.iload_n 1, 1) := by decide +kernel
theorem dX7_isUp_36 : decode cX7_isUp 36 = .ok (.iload_n 2, 1) := by decide +kernel
theorem dX7_isUp_37 : decode cX7_isUp 37 = .ok (.invokevirtual 126, 3) := by decide +kernel
theorem dX7_isUp_40 : decode cX7_isUp 40 = .ok (.iadd, 1) := by decide +kernel
theorem dX7_isUp_41 : decode cX7_isUp 41 = .ok (.iconst 1, 1) := by decide +kernel
theorem dX7_isUp_42 : decode cX7_isUp 42 = .ok (.isub, 1) := by decide +kernel
theorem dX7_isUp_43 : decode cX7_isUp 43 = .ok (.i2l, 1) := by decide +kernel
theorem dX7_isUp_44 : decode cX7_isUp 44 = .ok (.invokestatic 49, 3) := by decide +kernel
theorem dX7_isUp_47 : decode cX7_isUp 47 = .ok (.ifCond .eq 7, 3) := by decide +kernel
theorem dX7_isUp_50 : decode cX7_isUp 50 = .ok (.iconst 1, 1) := by decide +kernel
theorem dX7_isUp_51 : decode cX7_isUp 51 = .ok (.goto 4, 3) := by decide +kernel
theorem dX7_isUp_54 : decode cX7_isUp 54 = .ok (.iconst 0, 1) := by decide +kernel
theorem dX7_isUp_55 : decode cX7_isUp 55 = .ok (.ireturn, 1) := by decide +kernel
end
section
theorem dX7_apart_0 : decode cX7_apart 0 = .ok (.iload_n 0, 1) := by decide +kernel
theorem dX7_apart_1 : decode cX7_apart 1 = .ok (.iload_n 1, 1) := by decide +kernel
theorem dX7_apart_2 : decode cX7_apart 2 = .ok (.if_icmp .le 9, 3) := by decide +kernel
theorem dX7_apart_5 : decode cX7_apart 5 = .ok (.iload_n 0, 1) := by decide +kernel
theorem dX7_apart_6 : decode cX7_apart 6 = .ok (.iload_n 1, 1) := by decide +kernel
theorem dX7_apart_7 : decode cX7_apart 7 = .ok (.isub, 1) := by decide +kernel
theorem dX7_apart_8 : decode cX7_apart 8 = .ok (.goto 6, 3) := by decide +kernel
theorem dX7_apart_11 : decode cX7_apart 11 = .ok (.iload_n 1, 1) := by decide +kernel
theorem dX7_apart_12 : decode cX7_apart 12 = .ok (.iload_n 0, 1) := by decide +kernel
theorem dX7_apart_13 : decode cX7_apart 13 = .ok (.isub, 1) := by decide +kernel
theorem dX7_apart_14 : decode cX7_apart 14 = .ok (.ireturn, 1) := by decide +kernel
theorem dX7_looksOn_0 : decode cX7_looksOn 0 = .ok (.aload_n 0, 1) := by decide +kernel
theorem dX7_looksOn_1 : decode cX7_looksOn 1 = .ok (.getfield 7, 3) := by decide +kernel
theorem dX7_looksOn_4 : decode cX7_looksOn 4 = .ok (.iload_n 1, 1) := by decide +kernel
theorem dX7_looksOn_5 : decode cX7_looksOn 5 = .ok (.bipush 29, 2) := by decide +kernel
theorem dX7_looksOn_7 : decode cX7_looksOn 7 = .ok (.iadd, 1) := by decide +kernel
theorem dX7_looksOn_8 : decode cX7_looksOn 8 = .ok (.iload_n 2, 1) := by decide +kernel
theorem dX7_looksOn_9 : decode cX7_looksOn 9 = .ok (.iadd, 1) := by decide +kernel
theorem dX7_looksOn_10 : decode cX7_looksOn 10 = .ok (.iaload, 1) := by decide +kernel
theorem dX7_looksOn_11 : decode cX7_looksOn 11 = .ok (.istore 4, 2) := by decide +kernel
theorem dX7_looksOn_13 : decode cX7_looksOn 13 = .ok (.iload 4, 2) := by decide +kernel
theorem dX7_looksOn_15 : decode cX7_looksOn 15 = .ok (.ifCond .le 13, 3) := by decide +kernel
theorem dX7_looksOn_18 : decode cX7_looksOn 18 = .ok (.iload_n 3, 1) := by decide +kernel
theorem dX7_looksOn_19 : decode cX7_looksOn 19 = .ok (.iload 4, 2) := by decide +kernel
theorem dX7_looksOn_21 : decode cX7_looksOn 21 = .ok (.irem, 1) := by decide +kernel
theorem dX7_looksOn_22 : decode cX7_looksOn 22 = .ok (.ifCond .ne 6, 3) := by decide +kernel
theorem dX7_looksOn_25 : decode cX7_looksOn 25 = .ok (.bipush (-4), 2) := by decide +kernel
theorem dX7_looksOn_27 : decode cX7_looksOn 27 = .ok (.ireturn, 1) := by decide +kernel
theorem dX7_looksOn_28 : decode cX7_looksOn 28 = .ok (.bipush (-4), 2) := by decide +kernel
theorem dX7_looksOn_30 : decode cX7_looksOn 30 = .ok (.istore 5, 2) := by decide +kernel
theorem dX7_looksOn_32 : decode cX7_looksOn 32 = .ok (.bipush 12, 2) := by decide +kernel
theorem dX7_looksOn_34 : decode cX7_looksOn 34 = .ok (.istore 6, 2) := by decide +kernel
theorem dX7_looksOn_36 : decode cX7_looksOn 36 = .ok (.iconst 0, 1) := by decide +kernel
theorem dX7_looksOn_37 : decode cX7_looksOn 37 = .ok (.istore 7, 2) := by decide +kernel
theorem dX7_looksOn_39 : decode cX7_looksOn 39 = .ok (.iload 7, 2) := by decide +kernel
theorem dX7_looksOn_41 : decode cX7_looksOn 41 = .ok (.aload_n 0, 1) := by decide +kernel
theorem dX7_looksOn_42 : decode cX7_looksOn 42 = .ok (.getfield 7, 3) := by decide +kernel
theorem dX7_looksOn_45 : decode cX7_looksOn 45 = .ok (.iload_n 1, 1) := by decide +kernel
theorem dX7_looksOn_46 : decode cX7_looksOn 46 = .ok (.bipush 24, 2) := by decide +kernel
theorem dX7_looksOn_48 : decode cX7_looksOn 48 = .ok (.iadd, 1) := by decide +kernel
theorem dX7_looksOn_49 : decode cX7_looksOn 49 = .ok (.iaload, 1) := by decide +kernel
theorem dX7_looksOn_50 : decode cX7_looksOn 50 = .ok (.if_icmp .ge 70, 3) := by decide +kernel
theorem dX7_looksOn_53 : decode cX7_looksOn 53 = .ok (.aload_n 0, 1) := by decide +kernel
theorem dX7_looksOn_54 : decode cX7_looksOn 54 = .ok (.iload_n 1, 1) := by decide +kernel
theorem dX7_looksOn_55 : decode cX7_looksOn 55 = .ok (.iload 7, 2) := by decide +kernel
theorem dX7_looksOn_57 : decode cX7_looksOn 57 = .ok (.invokevirtual 129, 3) := by decide +kernel
theorem dX7_looksOn_60 : decode cX7_looksOn 60 = .ok (.aload_n 0, 1) := by decide +kernel
theorem dX7_looksOn_61 : decode cX7_looksOn 61 = .ok (.getfield 7, 3) := by decide +kernel
theorem dX7_looksOn_64 : decode cX7_looksOn 64 = .ok (.iload_n 1, 1) := by decide +kernel
theorem dX7_looksOn_65 : decode cX7_looksOn 65 = .ok (.bipush 25, 2) := by decide +kernel
theorem dX7_looksOn_67 : decode cX7_looksOn 67 = .ok (.iadd, 1) := by decide +kernel
theorem dX7_looksOn_68 : decode cX7_looksOn 68 = .ok (.iload_n 2, 1) := by decide +kernel
theorem dX7_looksOn_69 : decode cX7_looksOn 69 = .ok (.iadd, 1) := by decide +kernel
theorem dX7_looksOn_70 : decode cX7_looksOn 70 = .ok (.iaload, 1) := by decide +kernel
theorem dX7_looksOn_71 : decode cX7_looksOn 71 = .ok (.invokestatic 139, 3) := by decide +kernel
theorem dX7_looksOn_74 : decode cX7_looksOn 74 = .ok (.istore 8, 2) := by decide +kernel
theorem dX7_looksOn_76 : decode cX7_looksOn 76 = .ok (.iload 8, 2) := by decide +kernel
theorem dX7_looksOn_78 : decode cX7_looksOn 78 = .ok (.iload 6, 2) := by decide +kernel
theorem dX7_looksOn_80 : decode cX7_looksOn 80 = .ok (.if_icmp .ge 34, 3) := by decide +kernel
theorem dX7_looksOn_83 : decode cX7_looksOn 83 = .ok (.iload 8, 2) := by decide +kernel
theorem dX7_looksOn_85 : decode cX7_looksOn 85 = .ok (.aload_n 0, 1) := by decide +kernel
theorem dX7_looksOn_86 : decode cX7_looksOn 86 = .ok (.iload_n 1, 1) := by decide +kernel
theorem dX7_looksOn_87 : decode cX7_looksOn 87 = .ok (.iload 7, 2) := by decide +kernel
theorem dX7_looksOn_89 : decode cX7_looksOn 89 = .ok (.invokevirtual 142, 3) := by decide +kernel
theorem dX7_looksOn_92 : decode cX7_looksOn 92 = .ok (.if_icmp .gt 22, 3) := by decide +kernel
theorem dX7_looksOn_95 : decode cX7_looksOn 95 = .ok (.aload_n 0, 1) := by decide +kernel
theorem dX7_looksOn_96 : decode cX7_looksOn 96 = .ok (.iload_n 1, 1) := by decide +kernel
theorem dX7_looksOn_97 : decode cX7_looksOn 97 = .ok (.iload 7, 2) := by decide +kernel
theorem dX7_looksOn_99 : decode cX7_looksOn 99 = .ok (.iload_n 3, 1) := by decide +kernel
theorem dX7_looksOn_100 : decode cX7_looksOn 100 = .ok (.invokevirtual 145, 3) := by decide +kernel
theorem dX7_looksOn_103 : decode cX7_looksOn 103 = .ok (.ifCond .eq 11, 3) := by decide +kernel
theorem dX7_looksOn_106 : decode cX7_looksOn 106 = .ok (.iload 7, 2) := by decide +kernel
theorem dX7_looksOn_108 : decode cX7_looksOn 108 = .ok (.istore 5, 2) := by decide +kernel
theorem dX7_looksOn_110 : decode cX7_looksOn 110 = .ok (.iload 8, 2) := by decide +kernel
theorem dX7_looksOn_112 : decode cX7_looksOn 112 = .ok (.istore 6, 2) := by decide +kernel
theorem dX7_looksOn_114 : decode cX7_looksOn 114 = .ok (.iinc 7 1, 3) := by decide +kernel
theorem dX7_looksOn_117 : decode cX7_looksOn 117 = .ok (.goto (-78), 3) := by decide +kernel
theorem dX7_looksOn_120 : decode cX7_looksOn 120 = .ok (.iload 5, 2) := by decide +kernel
theorem dX7_looksOn_122 : decode cX7_looksOn 122 = .ok (.ireturn, 1) := by decide +kernel
theorem dX7_isWhole_0 : decode cX7_isWhole 0 = .ok (.aload_n 0, 1) := by decide +kernel
theorem dX7_isWhole_1 : decode cX7_isWhole 1 = .ok (.iload_n 1, 1) := by decide +kernel
theorem dX7_isWhole_2 : decode cX7_isWhole 2 = .ok (.iload_n 3, 1) := by decide +kernel
theorem dX7_isWhole_3 : decode cX7_isWhole 3 = .ok (.invokevirtual 126, 3) := by decide +kernel
theorem dX7_isWhole_6 : decode cX7_isWhole 6 = .ok (.istore 4, 2) := by decide +kernel
theorem dX7_isWhole_8 : decode cX7_isWhole 8 = .ok (.aload_n 0, 1) := by decide +kernel
theorem dX7_isWhole_9 : decode cX7_isWhole 9 = .ok (.iload_n 1, 1) := by decide +kernel
theorem dX7_isWhole_10 : decode cX7_isWhole 10 = .ok (.iload_n 3, 1) := by decide +kernel
theorem dX7_isWhole_11 : decode cX7_isWhole 11 = .ok (.invokevirtual 135, 3) := by decide +kernel
theorem dX7_isWhole_14 : decode cX7_isWhole 14 = .ok (.ifCond .eq 28, 3) := by decide +kernel
theorem dX7_isWhole_17 : decode cX7_isWhole 17 = .ok (.iload 4, 2) := by decide +kernel
theorem dX7_isWhole_19 : decode cX7_isWhole 19 = .ok (.ifCond .le 23, 3) := by decide +kernel
theorem dX7_isWhole_22 : decode cX7_isWhole 22 = .ok (.aload_n 0, 1) := by decide +kernel
theorem dX7_isWhole_23 : decode cX7_isWhole 23 = .ok (.getfield 25, 3) := by decide +kernel
theorem dX7_isWhole_26 : decode cX7_isWhole 26 = .ok (.bipush 6, 2) := by decide +kernel
theorem dX7_isWhole_28 : decode cX7_isWhole 28 = .ok (.iload_n 2, 1) := by decide +kernel
theorem dX7_isWhole_29 : decode cX7_isWhole 29 = .ok (.imul, 1) := by decide +kernel
theorem dX7_isWhole_30 : decode cX7_isWhole 30 = .ok (.iload_n 3, 1) := by decide +kernel
theorem dX7_isWhole_31 : decode cX7_isWhole 31 = .ok (.iadd, 1) := by decide +kernel
theorem dX7_isWhole_32 : decode cX7_isWhole 32 = .ok (.iaload, 1) := by decide +kernel
theorem dX7_isWhole_33 : decode cX7_isWhole 33 = .ok (.iload 4, 2) := by decide +kernel
theorem dX7_isWhole_35 : decode cX7_isWhole 35 = .ok (.if_icmp .ne 7, 3) := by decide +kernel
theorem dX7_isWhole_38 : decode cX7_isWhole 38 = .ok (.iconst 1, 1) := by decide +kernel
theorem dX7_isWhole_39 : decode cX7_isWhole 39 = .ok (.goto 4, 3) := by decide +kernel
theorem dX7_isWhole_42 : decode cX7_isWhole 42 = .ok (.iconst 0, 1) := by decide +kernel
theorem dX7_isWhole_43 : decode cX7_isWhole 43 = .ok (.ireturn, 1) := by decide +kernel
theorem dX7_nightOn_0 : decode cX7_nightOn 0 = .ok (.aload_n 0, 1) := by decide +kernel
theorem dX7_nightOn_1 : decode cX7_nightOn 1 = .ok (.iconst 0, 1) := by decide +kernel
theorem dX7_nightOn_2 : decode cX7_nightOn 2 = .ok (.putfield 149, 3) := by decide +kernel
theorem dX7_nightOn_5 : decode cX7_nightOn 5 = .ok (.aload_n 0, 1) := by decide +kernel
theorem dX7_nightOn_6 : decode cX7_nightOn 6 = .ok (.iconst 0, 1) := by decide +kernel
theorem dX7_nightOn_7 : decode cX7_nightOn 7 = .ok (.putfield 152, 3) := by decide +kernel
theorem dX7_nightOn_10 : decode cX7_nightOn 10 = .ok (.aload_n 0, 1) := by decide +kernel
theorem dX7_nightOn_11 : decode cX7_nightOn 11 = .ok (.iconst 0, 1) := by decide +kernel
theorem dX7_nightOn_12 : decode cX7_nightOn 12 = .ok (.putfield 155, 3) := by decide +kernel
theorem dX7_nightOn_15 : decode cX7_nightOn 15 = .ok (.iconst 0, 1) := by decide +kernel
theorem dX7_nightOn_16 : decode cX7_nightOn 16 = .ok (.istore_n 2, 1) := by decide +kernel
theorem dX7_nightOn_17 : decode cX7_nightOn 17 = .ok (.iload_n 2, 1) := by decide +kernel
theorem dX7_nightOn_18 : decode cX7_nightOn 18 = .ok (.bipush 24, 2) := by decide +kernel
theorem dX7_nightOn_20 : decode cX7_nightOn 20 = .ok (.if_icmp .ge 16, 3) := by decide +kernel
theorem dX7_nightOn_23 : decode cX7_nightOn 23 = .ok (.aload_n 0, 1) := by decide +kernel
theorem dX7_nightOn_24 : decode cX7_nightOn 24 = .ok (.getfield 25, 3) := by decide +kernel
theorem dX7_nightOn_27 : decode cX7_nightOn 27 = .ok (.iload_n 2, 1) := by decide +kernel
theorem dX7_nightOn_28 : decode cX7_nightOn 28 = .ok (.iconst 0, 1) := by decide +kernel
theorem dX7_nightOn_29 : decode cX7_nightOn 29 = .ok (.iastore, 1) := by decide +kernel
theorem dX7_nightOn_30 : decode cX7_nightOn 30 = .ok (.iinc 2 1, 3) := by decide +kernel
theorem dX7_nightOn_33 : decode cX7_nightOn 33 = .ok (.goto (-16), 3) := by decide +kernel
theorem dX7_nightOn_36 : decode cX7_nightOn 36 = .ok (.iconst 0, 1) := by decide +kernel
theorem dX7_nightOn_37 : decode cX7_nightOn 37 = .ok (.istore_n 2, 1) := by decide +kernel
theorem dX7_nightOn_38 : decode cX7_nightOn 38 = .ok (.iload_n 2, 1) := by decide +kernel
theorem dX7_nightOn_39 : decode cX7_nightOn 39 = .ok (.bipush 80, 2) := by decide +kernel
theorem dX7_nightOn_41 : decode cX7_nightOn 41 = .ok (.if_icmp .ge 103, 3) := by decide +kernel
theorem dX7_nightOn_44 : decode cX7_nightOn 44 = .ok (.aload_n 0, 1) := by decide +kernel
theorem dX7_nightOn_45 : decode cX7_nightOn 45 = .ok (.getfield 149, 3) := by decide +kernel
theorem dX7_nightOn_48 : decode cX7_nightOn 48 = .ok (.istore_n 3, 1) := by decide +kernel
theorem dX7_nightOn_49 : decode cX7_nightOn 49 = .ok (.iconst 0, 1) := by decide +kernel
theorem dX7_nightOn_50 : decode cX7_nightOn 50 = .ok (.istore 4, 2) := by decide +kernel
theorem dX7_nightOn_52 : decode cX7_nightOn 52 = .ok (.iload 4, 2) := by decide +kernel
theorem dX7_nightOn_54 : decode cX7_nightOn 54 = .ok (.aload_n 0, 1) := by decide +kernel
theorem dX7_nightOn_55 : decode cX7_nightOn 55 = .ok (.getfield 7, 3) := by decide +kernel
theorem dX7_nightOn_58 : decode cX7_nightOn 58 = .ok (.iload_n 1, 1) := by decide +kernel
theorem dX7_nightOn_59 : decode cX7_nightOn 59 = .ok (.bipush 33, 2) := by decide +kernel
theorem dX7_nightOn_61 : decode cX7_nightOn 61 = .ok (.iadd, 1) := by decide +kernel
theorem dX7_nightOn_62 : decode cX7_nightOn 62 = .ok (.iaload, 1) := by decide +kernel
theorem dX7_nightOn_63 : decode cX7_nightOn 63 = .ok (.if_icmp .ge 53, 3) := by decide +kernel
theorem dX7_nightOn_66 : decode cX7_nightOn 66 = .ok (.aload_n 0, 1) := by decide +kernel
theorem dX7_nightOn_67 : decode cX7_nightOn 67 = .ok (.iload_n 1, 1) := by decide +kernel
theorem dX7_nightOn_68 : decode cX7_nightOn 68 = .ok (.iload 4, 2) := by decide +kernel
theorem dX7_nightOn_70 : decode cX7_nightOn 70 = .ok (.iload_n 2, 1) := by decide +kernel
theorem dX7_nightOn_71 : decode cX7_nightOn 71 = .ok (.invokevirtual 158, 3) := by decide +kernel
theorem dX7_nightOn_74 : decode cX7_nightOn 74 = .ok (.istore 5, 2) := by decide +kernel
theorem dX7_nightOn_76 : decode cX7_nightOn 76 = .ok (.iload 5, 2) := by decide +kernel
theorem dX7_nightOn_78 : decode cX7_nightOn 78 = .ok (.bipush (-4), 2) := by decide +kernel
theorem dX7_nightOn_80 : decode cX7_nightOn 80 = .ok (.if_icmp .eq 30, 3) := by decide +kernel
theorem dX7_nightOn_83 : decode cX7_nightOn 83 = .ok (.aload_n 0, 1) := by decide +kernel
theorem dX7_nightOn_84 : decode cX7_nightOn 84 = .ok (.getfield 25, 3) := by decide +kernel
theorem dX7_nightOn_87 : decode cX7_nightOn 87 = .ok (.bipush 6, 2) := by decide +kernel
theorem dX7_nightOn_89 : decode cX7_nightOn 89 = .ok (.iload 4, 2) := by decide +kernel
theorem dX7_nightOn_91 : decode cX7_nightOn 91 = .ok (.imul, 1) := by decide +kernel
theorem dX7_nightOn_92 : decode cX7_nightOn 92 = .ok (.iload 5, 2) := by decide +kernel
theorem dX7_nightOn_94 : decode cX7_nightOn 94 = .ok (.iadd, 1) := by decide +kernel
theorem dX7_nightOn_95 : decode cX7_nightOn 95 = .ok (.dup2, 1) := by decide +kernel
theorem dX7_nightOn_96 : decode cX7_nightOn 96 = .ok (.iaload, 1) := by decide +kernel
theorem dX7_nightOn_97 : decode cX7_nightOn 97 = .ok (.iconst 1, 1) := by decide +kernel
theorem dX7_nightOn_98 : decode cX7_nightOn 98 = .ok (.iadd, 1) := by decide +kernel
theorem dX7_nightOn_99 : decode cX7_nightOn 99 = .ok (.iastore, 1) := by decide +kernel
theorem dX7_nightOn_100 : decode cX7_nightOn 100 = .ok (.aload_n 0, 1) := by decide +kernel
theorem dX7_nightOn_101 : decode cX7_nightOn 101 = .ok (.dup, 1) := by decide +kernel
theorem dX7_nightOn_102 : decode cX7_nightOn 102 = .ok (.getfield 149, 3) := by decide +kernel
theorem dX7_nightOn_105 : decode cX7_nightOn 105 = .ok (.iconst 1, 1) := by decide +kernel
theorem dX7_nightOn_106 : decode cX7_nightOn 106 = .ok (.iadd, 1) := by decide +kernel
theorem dX7_nightOn_107 : decode cX7_nightOn 107 = .ok (.putfield 149, 3) := by decide +kernel
theorem dX7_nightOn_110 : decode cX7_nightOn 110 = .ok (.iinc 4 1, 3) := by decide +kernel
theorem dX7_nightOn_113 : decode cX7_nightOn 113 = .ok (.goto (-61), 3) := by decide +kernel
theorem dX7_nightOn_116 : decode cX7_nightOn 116 = .ok (.aload_n 0, 1) := by decide +kernel
theorem dX7_nightOn_117 : decode cX7_nightOn 117 = .ok (.dup, 1) := by decide +kernel
theorem dX7_nightOn_118 : decode cX7_nightOn 118 = .ok (.getfield 152, 3) := by decide +kernel
theorem dX7_nightOn_121 : decode cX7_nightOn 121 = .ok (.aload_n 0, 1) := by decide +kernel
theorem dX7_nightOn_122 : decode cX7_nightOn 122 = .ok (.getfield 149, 3) := by decide +kernel
theorem dX7_nightOn_125 : decode cX7_nightOn 125 = .ok (.iload_n 3, 1) := by decide +kernel
theorem dX7_nightOn_126 : decode cX7_nightOn 126 = .ok (.if_icmp .ne 7, 3) := by decide +kernel
theorem dX7_nightOn_129 : decode cX7_nightOn 129 = .ok (.iconst 1, 1) := by decide +kernel
theorem dX7_nightOn_130 : decode cX7_nightOn 130 = .ok (.goto 4, 3) := by decide +kernel
theorem dX7_nightOn_133 : decode cX7_nightOn 133 = .ok (.iconst 0, 1) := by decide +kernel
theorem dX7_nightOn_134 : decode cX7_nightOn 134 = .ok (.iadd, 1) := by decide +kernel
theorem dX7_nightOn_135 : decode cX7_nightOn 135 = .ok (.putfield 152, 3) := by decide +kernel
theorem dX7_nightOn_138 : decode cX7_nightOn 138 = .ok (.iinc 2 1, 3) := by decide +kernel
theorem dX7_nightOn_141 : decode cX7_nightOn 141 = .ok (.goto (-103), 3) := by decide +kernel
theorem dX7_nightOn_144 : decode cX7_nightOn 144 = .ok (.iconst 0, 1) := by decide +kernel
theorem dX7_nightOn_145 : decode cX7_nightOn 145 = .ok (.istore_n 2, 1) := by decide +kernel
theorem dX7_nightOn_146 : decode cX7_nightOn 146 = .ok (.iload_n 2, 1) := by decide +kernel
theorem dX7_nightOn_147 : decode cX7_nightOn 147 = .ok (.aload_n 0, 1) := by decide +kernel
theorem dX7_nightOn_148 : decode cX7_nightOn 148 = .ok (.getfield 7, 3) := by decide +kernel
theorem dX7_nightOn_151 : decode cX7_nightOn 151 = .ok (.iload_n 1, 1) := by decide +kernel
theorem dX7_nightOn_152 : decode cX7_nightOn 152 = .ok (.bipush 33, 2) := by decide +kernel
theorem dX7_nightOn_154 : decode cX7_nightOn 154 = .ok (.iadd, 1) := by decide +kernel
theorem dX7_nightOn_155 : decode cX7_nightOn 155 = .ok (.iaload, 1) := by decide +kernel
theorem dX7_nightOn_156 : decode cX7_nightOn 156 = .ok (.if_icmp .ge 54, 3) := by decide +kernel
theorem dX7_nightOn_159 : decode cX7_nightOn 159 = .ok (.iconst 0, 1) := by decide +kernel
theorem dX7_nightOn_160 : decode cX7_nightOn 160 = .ok (.istore_n 3, 1) := by decide +kernel
theorem dX7_nightOn_161 : decode cX7_nightOn 161 = .ok (.iload_n 3, 1) := by decide +kernel
theorem dX7_nightOn_162 : decode cX7_nightOn 162 = .ok (.aload_n 0, 1) := by decide +kernel
theorem dX7_nightOn_163 : decode cX7_nightOn 163 = .ok (.getfield 7, 3) := by decide +kernel
theorem dX7_nightOn_166 : decode cX7_nightOn 166 = .ok (.iload_n 1, 1) := by decide +kernel
theorem dX7_nightOn_167 : decode cX7_nightOn 167 = .ok (.bipush 24, 2) := by decide +kernel
theorem dX7_nightOn_169 : decode cX7_nightOn 169 = .ok (.iadd, 1) := by decide +kernel
theorem dX7_nightOn_170 : decode cX7_nightOn 170 = .ok (.iaload, 1) := by decide +kernel
theorem dX7_nightOn_171 : decode cX7_nightOn 171 = .ok (.if_icmp .ge 33, 3) := by decide +kernel
theorem dX7_nightOn_174 : decode cX7_nightOn 174 = .ok (.aload_n 0, 1) := by decide +kernel
theorem dX7_nightOn_175 : decode cX7_nightOn 175 = .ok (.dup, 1) := by decide +kernel
theorem dX7_nightOn_176 : decode cX7_nightOn 176 = .ok (.getfield 155, 3) := by decide +kernel
theorem dX7_nightOn_179 : decode cX7_nightOn 179 = .ok (.aload_n 0, 1) := by decide +kernel
theorem dX7_nightOn_180 : decode cX7_nightOn 180 = .ok (.iload_n 1, 1) := by decide +kernel
theorem dX7_nightOn_181 : decode cX7_nightOn 181 = .ok (.iload_n 2, 1) := by decide +kernel
theorem dX7_nightOn_182 : decode cX7_nightOn 182 = .ok (.iload_n 3, 1) := by decide +kernel
theorem dX7_nightOn_183 : decode cX7_nightOn 183 = .ok (.invokevirtual 162, 3) := by decide +kernel
theorem dX7_nightOn_186 : decode cX7_nightOn 186 = .ok (.ifCond .eq 7, 3) := by decide +kernel
theorem dX7_nightOn_189 : decode cX7_nightOn 189 = .ok (.iconst 1, 1) := by decide +kernel
theorem dX7_nightOn_190 : decode cX7_nightOn 190 = .ok (.goto 4, 3) := by decide +kernel
theorem dX7_nightOn_193 : decode cX7_nightOn 193 = .ok (.iconst 0, 1) := by decide +kernel
theorem dX7_nightOn_194 : decode cX7_nightOn 194 = .ok (.iadd, 1) := by decide +kernel
theorem dX7_nightOn_195 : decode cX7_nightOn 195 = .ok (.putfield 155, 3) := by decide +kernel
theorem dX7_nightOn_198 : decode cX7_nightOn 198 = .ok (.iinc 3 1, 3) := by decide +kernel
theorem dX7_nightOn_201 : decode cX7_nightOn 201 = .ok (.goto (-40), 3) := by decide +kernel
theorem dX7_nightOn_204 : decode cX7_nightOn 204 = .ok (.iinc 2 1, 3) := by decide +kernel
theorem dX7_nightOn_207 : decode cX7_nightOn 207 = .ok (.goto (-61), 3) := by decide +kernel
theorem dX7_nightOn_210 : decode cX7_nightOn 210 = .ok (.return_, 1) := by decide +kernel
theorem dX7_rule_0 : decode cX7_rule 0 = .ok (.aload_n 0, 1) := by decide +kernel
theorem dX7_rule_1 : decode cX7_rule 1 = .ok (.iconst 0, 1) := by decide +kernel
theorem dX7_rule_2 : decode cX7_rule 2 = .ok (.invokevirtual 165, 3) := by decide +kernel
theorem dX7_rule_5 : decode cX7_rule 5 = .ok (.iload_n 1, 1) := by decide +kernel
theorem dX7_rule_6 : decode cX7_rule 6 = .ok (.tableswitch 82 0 5 #[38, 46, 54, 64, 72, 77], 38) := by decide +kernel
theorem dX7_rule_44 : decode cX7_rule 44 = .ok (.aload_n 0, 1) := by decide +kernel
theorem dX7_rule_45 : decode cX7_rule 45 = .ok (.getfield 7, 3) := by decide +kernel
theorem dX7_rule_48 : decode cX7_rule 48 = .ok (.bipush 24, 2) := by decide +kernel
theorem dX7_rule_50 : decode cX7_rule 50 = .ok (.iaload, 1) := by decide +kernel
theorem dX7_rule_51 : decode cX7_rule 51 = .ok (.ireturn, 1) := by decide +kernel
theorem dX7_rule_52 : decode cX7_rule 52 = .ok (.aload_n 0, 1) := by decide +kernel
theorem dX7_rule_53 : decode cX7_rule 53 = .ok (.getfield 7, 3) := by decide +kernel
theorem dX7_rule_56 : decode cX7_rule 56 = .ok (.bipush 33, 2) := by decide +kernel
theorem dX7_rule_58 : decode cX7_rule 58 = .ok (.iaload, 1) := by decide +kernel
theorem dX7_rule_59 : decode cX7_rule 59 = .ok (.ireturn, 1) := by decide +kernel
theorem dX7_rule_60 : decode cX7_rule 60 = .ok (.aload_n 0, 1) := by decide +kernel
theorem dX7_rule_61 : decode cX7_rule 61 = .ok (.getfield 7, 3) := by decide +kernel
theorem dX7_rule_64 : decode cX7_rule 64 = .ok (.bipush 34, 2) := by decide +kernel
theorem dX7_rule_66 : decode cX7_rule 66 = .ok (.iaload, 1) := by decide +kernel
theorem dX7_rule_67 : decode cX7_rule 67 = .ok (.iconst 4, 1) := by decide +kernel
theorem dX7_rule_68 : decode cX7_rule 68 = .ok (.iadd, 1) := by decide +kernel
theorem dX7_rule_69 : decode cX7_rule 69 = .ok (.ireturn, 1) := by decide +kernel
theorem dX7_rule_70 : decode cX7_rule 70 = .ok (.aload_n 0, 1) := by decide +kernel
theorem dX7_rule_71 : decode cX7_rule 71 = .ok (.getfield 7, 3) := by decide +kernel
theorem dX7_rule_74 : decode cX7_rule 74 = .ok (.bipush 35, 2) := by decide +kernel
theorem dX7_rule_76 : decode cX7_rule 76 = .ok (.iaload, 1) := by decide +kernel
theorem dX7_rule_77 : decode cX7_rule 77 = .ok (.ireturn, 1) := by decide +kernel
theorem dX7_rule_78 : decode cX7_rule 78 = .ok (.aload_n 0, 1) := by decide +kernel
theorem dX7_rule_79 : decode cX7_rule 79 = .ok (.getfield 149, 3) := by decide +kernel
theorem dX7_rule_82 : decode cX7_rule 82 = .ok (.ireturn, 1) := by decide +kernel
theorem dX7_rule_83 : decode cX7_rule 83 = .ok (.aload_n 0, 1) := by decide +kernel
theorem dX7_rule_84 : decode cX7_rule 84 = .ok (.getfield 155, 3) := by decide +kernel
theorem dX7_rule_87 : decode cX7_rule 87 = .ok (.ireturn, 1) := by decide +kernel
theorem dX7_rule_88 : decode cX7_rule 88 = .ok (.iconst (-1), 1) := by decide +kernel
theorem dX7_rule_89 : decode cX7_rule 89 = .ok (.ireturn, 1) := by decide +kernel
theorem dX7_wholeBy_0 : decode cX7_wholeBy 0 = .ok (.iconst 0, 1) := by decide +kernel
theorem dX7_wholeBy_1 : decode cX7_wholeBy 1 = .ok (.istore_n 3, 1) := by decide +kernel
theorem dX7_wholeBy_2 : decode cX7_wholeBy 2 = .ok (.iconst 0, 1) := by decide +kernel
theorem dX7_wholeBy_3 : decode cX7_wholeBy 3 = .ok (.istore 4, 2) := by decide +kernel
theorem dX7_wholeBy_5 : decode cX7_wholeBy 5 = .ok (.iload 4, 2) := by decide +kernel
theorem dX7_wholeBy_7 : decode cX7_wholeBy 7 = .ok (.aload_n 0, 1) := by decide +kernel
theorem dX7_wholeBy_8 : decode cX7_wholeBy 8 = .ok (.getfield 7, 3) := by decide +kernel
theorem dX7_wholeBy_11 : decode cX7_wholeBy 11 = .ok (.iload_n 1, 1) := by decide +kernel
theorem dX7_wholeBy_12 : decode cX7_wholeBy 12 = .ok (.bipush 33, 2) := by decide +kernel
theorem dX7_wholeBy_14 : decode cX7_wholeBy 14 = .ok (.iadd, 1) := by decide +kernel
theorem dX7_wholeBy_15 : decode cX7_wholeBy 15 = .ok (.iaload, 1) := by decide +kernel
theorem dX7_wholeBy_16 : decode cX7_wholeBy 16 = .ok (.if_icmp .ge 31, 3) := by decide +kernel
theorem dX7_wholeBy_19 : decode cX7_wholeBy 19 = .ok (.iload_n 3, 1) := by decide +kernel
theorem dX7_wholeBy_20 : decode cX7_wholeBy 20 = .ok (.aload_n 0, 1) := by decide +kernel
theorem dX7_wholeBy_21 : decode cX7_wholeBy 21 = .ok (.iload_n 1, 1) := by decide +kernel
theorem dX7_wholeBy_22 : decode cX7_wholeBy 22 = .ok (.iload 4, 2) := by decide +kernel
theorem dX7_wholeBy_24 : decode cX7_wholeBy 24 = .ok (.iload_n 2, 1) := by decide +kernel
theorem dX7_wholeBy_25 : decode cX7_wholeBy 25 = .ok (.invokevirtual 162, 3) := by decide +kernel
theorem dX7_wholeBy_28 : decode cX7_wholeBy 28 = .ok (.ifCond .eq 10, 3) := by decide +kernel
theorem dX7_wholeBy_31 : decode cX7_wholeBy 31 = .ok (.iconst 1, 1) := by decide +kernel
theorem dX7_wholeBy_32 : decode cX7_wholeBy 32 = .ok (.iload 4, 2) := by decide +kernel
theorem dX7_wholeBy_34 : decode cX7_wholeBy 34 = .ok (.ishl, 1) := by decide +kernel
theorem dX7_wholeBy_35 : decode cX7_wholeBy 35 = .ok (.goto 4, 3) := by decide +kernel
theorem dX7_wholeBy_38 : decode cX7_wholeBy 38 = .ok (.iconst 0, 1) := by decide +kernel
theorem dX7_wholeBy_39 : decode cX7_wholeBy 39 = .ok (.ior, 1) := by decide +kernel
theorem dX7_wholeBy_40 : decode cX7_wholeBy 40 = .ok (.istore_n 3, 1) := by decide +kernel
theorem dX7_wholeBy_41 : decode cX7_wholeBy 41 = .ok (.iinc 4 1, 3) := by decide +kernel
theorem dX7_wholeBy_44 : decode cX7_wholeBy 44 = .ok (.goto (-39), 3) := by decide +kernel
theorem dX7_wholeBy_47 : decode cX7_wholeBy 47 = .ok (.iload_n 3, 1) := by decide +kernel
theorem dX7_wholeBy_48 : decode cX7_wholeBy 48 = .ok (.ireturn, 1) := by decide +kernel
theorem dX7_minutesOf_0 : decode cX7_minutesOf 0 = .ok (.iconst 0, 1) := by decide +kernel
theorem dX7_minutesOf_1 : decode cX7_minutesOf 1 = .ok (.istore_n 2, 1) := by decide +kernel
theorem dX7_minutesOf_2 : decode cX7_minutesOf 2 = .ok (.iconst 0, 1) := by decide +kernel
theorem dX7_minutesOf_3 : decode cX7_minutesOf 3 = .ok (.istore_n 3, 1) := by decide +kernel
theorem dX7_minutesOf_4 : decode cX7_minutesOf 4 = .ok (.iload_n 3, 1) := by decide +kernel
theorem dX7_minutesOf_5 : decode cX7_minutesOf 5 = .ok (.bipush 6, 2) := by decide +kernel
theorem dX7_minutesOf_7 : decode cX7_minutesOf 7 = .ok (.if_icmp .ge 23, 3) := by decide +kernel
theorem dX7_minutesOf_10 : decode cX7_minutesOf 10 = .ok (.iload_n 2, 1) := by decide +kernel
theorem dX7_minutesOf_11 : decode cX7_minutesOf 11 = .ok (.aload_n 0, 1) := by decide +kernel
theorem dX7_minutesOf_12 : decode cX7_minutesOf 12 = .ok (.getfield 25, 3) := by decide +kernel
theorem dX7_minutesOf_15 : decode cX7_minutesOf 15 = .ok (.bipush 6, 2) := by decide +kernel
theorem dX7_minutesOf_17 : decode cX7_minutesOf 17 = .ok (.iload_n 1, 1) := by decide +kernel
theorem dX7_minutesOf_18 : decode cX7_minutesOf 18 = .ok (.imul, 1) := by decide +kernel
theorem dX7_minutesOf_19 : decode cX7_minutesOf 19 = .ok (.iload_n 3, 1) := by decide +kernel
theorem dX7_minutesOf_20 : decode cX7_minutesOf 20 = .ok (.iadd, 1) := by decide +kernel
theorem dX7_minutesOf_21 : decode cX7_minutesOf 21 = .ok (.iaload, 1) := by decide +kernel
theorem dX7_minutesOf_22 : decode cX7_minutesOf 22 = .ok (.iadd, 1) := by decide +kernel
theorem dX7_minutesOf_23 : decode cX7_minutesOf 23 = .ok (.istore_n 2, 1) := by decide +kernel
theorem dX7_minutesOf_24 : decode cX7_minutesOf 24 = .ok (.iinc 3 1, 3) := by decide +kernel
theorem dX7_minutesOf_27 : decode cX7_minutesOf 27 = .ok (.goto (-23), 3) := by decide +kernel
theorem dX7_minutesOf_30 : decode cX7_minutesOf 30 = .ok (.iload_n 2, 1) := by decide +kernel
theorem dX7_minutesOf_31 : decode cX7_minutesOf 31 = .ok (.ireturn, 1) := by decide +kernel
theorem dX7_work_0 : decode cX7_work 0 = .ok (.aload_n 0, 1) := by decide +kernel
theorem dX7_work_1 : decode cX7_work 1 = .ok (.iload_n 1, 1) := by decide +kernel
theorem dX7_work_2 : decode cX7_work 2 = .ok (.invokevirtual 168, 3) := by decide +kernel
theorem dX7_work_5 : decode cX7_work 5 = .ok (.ifCond .ne 5, 3) := by decide +kernel
theorem dX7_work_8 : decode cX7_work 8 = .ok (.iconst (-1), 1) := by decide +kernel
theorem dX7_work_9 : decode cX7_work 9 = .ok (.ireturn, 1) := by decide +kernel
theorem dX7_work_10 : decode cX7_work 10 = .ok (.iload_n 2, 1) := by decide +kernel
theorem dX7_work_11 : decode cX7_work 11 = .ok (.tableswitch 101 0 8 #[49, 49, 49, 49, 61, 68, 75, 82, 89], 49) := by decide +kernel
theorem dX7_work_60 : decode cX7_work 60 = .ok (.aload_n 0, 1) := by decide +kernel
theorem dX7_work_61 : decode cX7_work 61 = .ok (.getfield 7, 3) := by decide +kernel
theorem dX7_work_64 : decode cX7_work 64 = .ok (.bipush 6, 2) := by decide +kernel
theorem dX7_work_66 : decode cX7_work 66 = .ok (.iload_n 2, 1) := by decide +kernel
theorem dX7_work_67 : decode cX7_work 67 = .ok (.imul, 1) := by decide +kernel
theorem dX7_work_68 : decode cX7_work 68 = .ok (.iload_n 1, 1) := by decide +kernel
theorem dX7_work_69 : decode cX7_work 69 = .ok (.iadd, 1) := by decide +kernel
theorem dX7_work_70 : decode cX7_work 70 = .ok (.iaload, 1) := by decide +kernel
theorem dX7_work_71 : decode cX7_work 71 = .ok (.ireturn, 1) := by decide +kernel
theorem dX7_work_72 : decode cX7_work 72 = .ok (.aload_n 0, 1) := by decide +kernel
theorem dX7_work_73 : decode cX7_work 73 = .ok (.iconst 0, 1) := by decide +kernel
theorem dX7_work_74 : decode cX7_work 74 = .ok (.iload_n 1, 1) := by decide +kernel
theorem dX7_work_75 : decode cX7_work 75 = .ok (.invokevirtual 126, 3) := by decide +kernel
theorem dX7_work_78 : decode cX7_work 78 = .ok (.ireturn, 1) := by decide +kernel
theorem dX7_work_79 : decode cX7_work 79 = .ok (.aload_n 0, 1) := by decide +kernel
theorem dX7_work_80 : decode cX7_work 80 = .ok (.iconst 0, 1) := by decide +kernel
theorem dX7_work_81 : decode cX7_work 81 = .ok (.iload_n 1, 1) := by decide +kernel
theorem dX7_work_82 : decode cX7_work 82 = .ok (.invokevirtual 142, 3) := by decide +kernel
theorem dX7_work_85 : decode cX7_work 85 = .ok (.ireturn, 1) := by decide +kernel
theorem dX7_work_86 : decode cX7_work 86 = .ok (.aload_n 0, 1) := by decide +kernel
theorem dX7_work_87 : decode cX7_work 87 = .ok (.iconst 0, 1) := by decide +kernel
theorem dX7_work_88 : decode cX7_work 88 = .ok (.iload_n 1, 1) := by decide +kernel
theorem dX7_work_89 : decode cX7_work 89 = .ok (.invokevirtual 129, 3) := by decide +kernel
theorem dX7_work_92 : decode cX7_work 92 = .ok (.ireturn, 1) := by decide +kernel
theorem dX7_work_93 : decode cX7_work 93 = .ok (.aload_n 0, 1) := by decide +kernel
theorem dX7_work_94 : decode cX7_work 94 = .ok (.iconst 0, 1) := by decide +kernel
theorem dX7_work_95 : decode cX7_work 95 = .ok (.iload_n 1, 1) := by decide +kernel
theorem dX7_work_96 : decode cX7_work 96 = .ok (.invokevirtual 172, 3) := by decide +kernel
theorem dX7_work_99 : decode cX7_work 99 = .ok (.ireturn, 1) := by decide +kernel
theorem dX7_work_100 : decode cX7_work 100 = .ok (.aload_n 0, 1) := by decide +kernel
theorem dX7_work_101 : decode cX7_work 101 = .ok (.iconst 0, 1) := by decide +kernel
theorem dX7_work_102 : decode cX7_work 102 = .ok (.invokevirtual 165, 3) := by decide +kernel
theorem dX7_work_105 : decode cX7_work 105 = .ok (.aload_n 0, 1) := by decide +kernel
theorem dX7_work_106 : decode cX7_work 106 = .ok (.iconst 0, 1) := by decide +kernel
theorem dX7_work_107 : decode cX7_work 107 = .ok (.iload_n 1, 1) := by decide +kernel
theorem dX7_work_108 : decode cX7_work 108 = .ok (.invokevirtual 175, 3) := by decide +kernel
theorem dX7_work_111 : decode cX7_work 111 = .ok (.ireturn, 1) := by decide +kernel
theorem dX7_work_112 : decode cX7_work 112 = .ok (.iconst (-1), 1) := by decide +kernel
theorem dX7_work_113 : decode cX7_work 113 = .ok (.ireturn, 1) := by decide +kernel
theorem dX7_reader_0 : decode cX7_reader 0 = .ok (.aload_n 0, 1) := by decide +kernel
theorem dX7_reader_1 : decode cX7_reader 1 = .ok (.iload_n 1, 1) := by decide +kernel
theorem dX7_reader_2 : decode cX7_reader 2 = .ok (.invokevirtual 178, 3) := by decide +kernel
theorem dX7_reader_5 : decode cX7_reader 5 = .ok (.ifCond .eq 15, 3) := by decide +kernel
theorem dX7_reader_8 : decode cX7_reader 8 = .ok (.iload_n 2, 1) := by decide +kernel
theorem dX7_reader_9 : decode cX7_reader 9 = .ok (.i2l, 1) := by decide +kernel
theorem dX7_reader_10 : decode cX7_reader 10 = .ok (.lconst 0, 1) := by decide +kernel
theorem dX7_reader_11 : decode cX7_reader 11 = .ok (.ldc2_w 181, 3) := by decide +kernel
theorem dX7_reader_14 : decode cX7_reader 14 = .ok (.invokestatic 49, 3) := by decide +kernel
theorem dX7_reader_17 : decode cX7_reader 17 = .ok (.ifCond .ne 5, 3) := by decide +kernel
theorem dX7_reader_20 : decode cX7_reader 20 = .ok (.iconst (-1), 1) := by decide +kernel
theorem dX7_reader_21 : decode cX7_reader 21 = .ok (.ireturn, 1) := by decide +kernel
theorem dX7_reader_22 : decode cX7_reader 22 = .ok (.aload_n 0, 1) := by decide +kernel
theorem dX7_reader_23 : decode cX7_reader 23 = .ok (.iconst 0, 1) := by decide +kernel
theorem dX7_reader_24 : decode cX7_reader 24 = .ok (.invokevirtual 165, 3) := by decide +kernel
theorem dX7_reader_27 : decode cX7_reader 27 = .ok (.iconst 0, 1) := by decide +kernel
theorem dX7_reader_28 : decode cX7_reader 28 = .ok (.istore_n 3, 1) := by decide +kernel
theorem dX7_reader_29 : decode cX7_reader 29 = .ok (.iconst 0, 1) := by decide +kernel
theorem dX7_reader_30 : decode cX7_reader 30 = .ok (.istore 4, 2) := by decide +kernel
theorem dX7_reader_32 : decode cX7_reader 32 = .ok (.iload 4, 2) := by decide +kernel
theorem dX7_reader_34 : decode cX7_reader 34 = .ok (.aload_n 0, 1) := by decide +kernel
theorem dX7_reader_35 : decode cX7_reader 35 = .ok (.getfield 7, 3) := by decide +kernel
theorem dX7_reader_38 : decode cX7_reader 38 = .ok (.bipush 24, 2) := by decide +kernel
theorem dX7_reader_40 : decode cX7_reader 40 = .ok (.iaload, 1) := by decide +kernel
theorem dX7_reader_41 : decode cX7_reader 41 = .ok (.if_icmp .ge 31, 3) := by decide +kernel
theorem dX7_reader_44 : decode cX7_reader 44 = .ok (.iload_n 3, 1) := by decide +kernel
theorem dX7_reader_45 : decode cX7_reader 45 = .ok (.aload_n 0, 1) := by decide +kernel
theorem dX7_reader_46 : decode cX7_reader 46 = .ok (.iconst 0, 1) := by decide +kernel
theorem dX7_reader_47 : decode cX7_reader 47 = .ok (.iload_n 1, 1) := by decide +kernel
theorem dX7_reader_48 : decode cX7_reader 48 = .ok (.iload 4, 2) := by decide +kernel
theorem dX7_reader_50 : decode cX7_reader 50 = .ok (.invokevirtual 162, 3) := by decide +kernel
theorem dX7_reader_53 : decode cX7_reader 53 = .ok (.ifCond .eq 10, 3) := by decide +kernel
theorem dX7_reader_56 : decode cX7_reader 56 = .ok (.iconst 1, 1) := by decide +kernel
theorem dX7_reader_57 : decode cX7_reader 57 = .ok (.iload 4, 2) := by decide +kernel
theorem dX7_reader_59 : decode cX7_reader 59 = .ok (.ishl, 1) := by decide +kernel
theorem dX7_reader_60 : decode cX7_reader 60 = .ok (.goto 4, 3) := by decide +kernel
theorem dX7_reader_63 : decode cX7_reader 63 = .ok (.iconst 0, 1) := by decide +kernel
theorem dX7_reader_64 : decode cX7_reader 64 = .ok (.ior, 1) := by decide +kernel
theorem dX7_reader_65 : decode cX7_reader 65 = .ok (.istore_n 3, 1) := by decide +kernel
theorem dX7_reader_66 : decode cX7_reader 66 = .ok (.iinc 4 1, 3) := by decide +kernel
theorem dX7_reader_69 : decode cX7_reader 69 = .ok (.goto (-37), 3) := by decide +kernel
theorem dX7_reader_72 : decode cX7_reader 72 = .ok (.iload_n 2, 1) := by decide +kernel
theorem dX7_reader_73 : decode cX7_reader 73 = .ok (.iconst 2, 1) := by decide +kernel
theorem dX7_reader_74 : decode cX7_reader 74 = .ok (.if_icmp .ge 19, 3) := by decide +kernel
theorem dX7_reader_77 : decode cX7_reader 77 = .ok (.aload_n 0, 1) := by decide +kernel
theorem dX7_reader_78 : decode cX7_reader 78 = .ok (.getfield 7, 3) := by decide +kernel
theorem dX7_reader_81 : decode cX7_reader 81 = .ok (.bipush 25, 2) := by decide +kernel
theorem dX7_reader_83 : decode cX7_reader 83 = .ok (.iconst 4, 1) := by decide +kernel
theorem dX7_reader_84 : decode cX7_reader 84 = .ok (.iload_n 2, 1) := by decide +kernel
theorem dX7_reader_85 : decode cX7_reader 85 = .ok (.imul, 1) := by decide +kernel
theorem dX7_reader_86 : decode cX7_reader 86 = .ok (.iadd, 1) := by decide +kernel
theorem dX7_reader_87 : decode cX7_reader 87 = .ok (.iload_n 1, 1) := by decide +kernel
theorem dX7_reader_88 : decode cX7_reader 88 = .ok (.iadd, 1) := by decide +kernel
theorem dX7_reader_89 : decode cX7_reader 89 = .ok (.iaload, 1) := by decide +kernel
theorem dX7_reader_90 : decode cX7_reader 90 = .ok (.goto 17, 3) := by decide +kernel
theorem dX7_reader_93 : decode cX7_reader 93 = .ok (.iload_n 2, 1) := by decide +kernel
theorem dX7_reader_94 : decode cX7_reader 94 = .ok (.iconst 2, 1) := by decide +kernel
theorem dX7_reader_95 : decode cX7_reader 95 = .ok (.if_icmp .ne 7, 3) := by decide +kernel
theorem dX7_reader_98 : decode cX7_reader 98 = .ok (.iload_n 3, 1) := by decide +kernel
theorem dX7_reader_99 : decode cX7_reader 99 = .ok (.goto 8, 3) := by decide +kernel
theorem dX7_reader_102 : decode cX7_reader 102 = .ok (.aload_n 0, 1) := by decide +kernel
theorem dX7_reader_103 : decode cX7_reader 103 = .ok (.iload_n 1, 1) := by decide +kernel
theorem dX7_reader_104 : decode cX7_reader 104 = .ok (.invokevirtual 183, 3) := by decide +kernel
theorem dX7_reader_107 : decode cX7_reader 107 = .ok (.ireturn, 1) := by decide +kernel
theorem dX7_reads_0 : decode cX7_reads 0 = .ok (.aload_n 0, 1) := by decide +kernel
theorem dX7_reads_1 : decode cX7_reads 1 = .ok (.iload_n 1, 1) := by decide +kernel
theorem dX7_reads_2 : decode cX7_reads 2 = .ok (.invokevirtual 178, 3) := by decide +kernel
theorem dX7_reads_5 : decode cX7_reads 5 = .ok (.ifCond .eq 11, 3) := by decide +kernel
theorem dX7_reads_8 : decode cX7_reads 8 = .ok (.aload_n 0, 1) := by decide +kernel
theorem dX7_reads_9 : decode cX7_reads 9 = .ok (.iload_n 2, 1) := by decide +kernel
theorem dX7_reads_10 : decode cX7_reads 10 = .ok (.invokevirtual 168, 3) := by decide +kernel
theorem dX7_reads_13 : decode cX7_reads 13 = .ok (.ifCond .ne 5, 3) := by decide +kernel
theorem dX7_reads_16 : decode cX7_reads 16 = .ok (.iconst (-1), 1) := by decide +kernel
theorem dX7_reads_17 : decode cX7_reads 17 = .ok (.ireturn, 1) := by decide +kernel
theorem dX7_reads_18 : decode cX7_reads 18 = .ok (.aload_n 0, 1) := by decide +kernel
theorem dX7_reads_19 : decode cX7_reads 19 = .ok (.iconst 0, 1) := by decide +kernel
theorem dX7_reads_20 : decode cX7_reads 20 = .ok (.invokevirtual 165, 3) := by decide +kernel
theorem dX7_reads_23 : decode cX7_reads 23 = .ok (.aload_n 0, 1) := by decide +kernel
theorem dX7_reads_24 : decode cX7_reads 24 = .ok (.getfield 25, 3) := by decide +kernel
theorem dX7_reads_27 : decode cX7_reads 27 = .ok (.bipush 6, 2) := by decide +kernel
theorem dX7_reads_29 : decode cX7_reads 29 = .ok (.iload_n 1, 1) := by decide +kernel
theorem dX7_reads_30 : decode cX7_reads 30 = .ok (.imul, 1) := by decide +kernel
theorem dX7_reads_31 : decode cX7_reads 31 = .ok (.iload_n 2, 1) := by decide +kernel
theorem dX7_reads_32 : decode cX7_reads 32 = .ok (.iadd, 1) := by decide +kernel
theorem dX7_reads_33 : decode cX7_reads 33 = .ok (.iaload, 1) := by decide +kernel
theorem dX7_reads_34 : decode cX7_reads 34 = .ok (.ireturn, 1) := by decide +kernel
theorem dX7_looks_0 : decode cX7_looks 0 = .ok (.aload_n 0, 1) := by decide +kernel
theorem dX7_looks_1 : decode cX7_looks 1 = .ok (.iload_n 1, 1) := by decide +kernel
theorem dX7_looks_2 : decode cX7_looks 2 = .ok (.invokevirtual 178, 3) := by decide +kernel
theorem dX7_looks_5 : decode cX7_looks 5 = .ok (.ifCond .eq 20, 3) := by decide +kernel
theorem dX7_looks_8 : decode cX7_looks 8 = .ok (.iload_n 2, 1) := by decide +kernel
theorem dX7_looks_9 : decode cX7_looks 9 = .ok (.invokestatic 186, 3) := by decide +kernel
theorem dX7_looks_12 : decode cX7_looks 12 = .ok (.ifCond .eq 13, 3) := by decide +kernel
theorem dX7_looks_15 : decode cX7_looks 15 = .ok (.aload_n 0, 1) := by decide +kernel
theorem dX7_looks_16 : decode cX7_looks 16 = .ok (.iconst 0, 1) := by decide +kernel
theorem dX7_looks_17 : decode cX7_looks 17 = .ok (.iload_n 1, 1) := by decide +kernel
theorem dX7_looks_18 : decode cX7_looks 18 = .ok (.iload_n 2, 1) := by decide +kernel
theorem dX7_looks_19 : decode cX7_looks 19 = .ok (.invokevirtual 158, 3) := by decide +kernel
theorem dX7_looks_22 : decode cX7_looks 22 = .ok (.goto 4, 3) := by decide +kernel
theorem dX7_looks_25 : decode cX7_looks 25 = .ok (.iconst (-1), 1) := by decide +kernel
theorem dX7_looks_26 : decode cX7_looks 26 = .ok (.ireturn, 1) := by decide +kernel
theorem dX7_sky_0 : decode cX7_sky 0 = .ok (.iload_n 1, 1) := by decide +kernel
theorem dX7_sky_1 : decode cX7_sky 1 = .ok (.invokestatic 186, 3) := by decide +kernel
theorem dX7_sky_4 : decode cX7_sky 4 = .ok (.ifCond .ne 5, 3) := by decide +kernel
theorem dX7_sky_7 : decode cX7_sky 7 = .ok (.iconst (-1), 1) := by decide +kernel
theorem dX7_sky_8 : decode cX7_sky 8 = .ok (.ireturn, 1) := by decide +kernel
theorem dX7_sky_9 : decode cX7_sky 9 = .ok (.iconst 0, 1) := by decide +kernel
theorem dX7_sky_10 : decode cX7_sky 10 = .ok (.istore_n 2, 1) := by decide +kernel
theorem dX7_sky_11 : decode cX7_sky 11 = .ok (.iconst 0, 1) := by decide +kernel
theorem dX7_sky_12 : decode cX7_sky 12 = .ok (.istore_n 3, 1) := by decide +kernel
theorem dX7_sky_13 : decode cX7_sky 13 = .ok (.iload_n 3, 1) := by decide +kernel
theorem dX7_sky_14 : decode cX7_sky 14 = .ok (.aload_n 0, 1) := by decide +kernel
theorem dX7_sky_15 : decode cX7_sky 15 = .ok (.getfield 7, 3) := by decide +kernel
theorem dX7_sky_18 : decode cX7_sky 18 = .ok (.bipush 24, 2) := by decide +kernel
theorem dX7_sky_20 : decode cX7_sky 20 = .ok (.iaload, 1) := by decide +kernel
theorem dX7_sky_21 : decode cX7_sky 21 = .ok (.if_icmp .ge 29, 3) := by decide +kernel
theorem dX7_sky_24 : decode cX7_sky 24 = .ok (.iload_n 2, 1) := by decide +kernel
theorem dX7_sky_25 : decode cX7_sky 25 = .ok (.aload_n 0, 1) := by decide +kernel
theorem dX7_sky_26 : decode cX7_sky 26 = .ok (.iconst 0, 1) := by decide +kernel
theorem dX7_sky_27 : decode cX7_sky 27 = .ok (.iload_n 3, 1) := by decide +kernel
theorem dX7_sky_28 : decode cX7_sky 28 = .ok (.iload_n 1, 1) := by decide +kernel
theorem dX7_sky_29 : decode cX7_sky 29 = .ok (.invokevirtual 145, 3) := by decide +kernel
theorem dX7_sky_32 : decode cX7_sky 32 = .ok (.ifCond .eq 9, 3) := by decide +kernel
theorem dX7_sky_35 : decode cX7_sky 35 = .ok (.iconst 1, 1) := by decide +kernel
theorem dX7_sky_36 : decode cX7_sky 36 = .ok (.iload_n 3, 1) := by decide +kernel
theorem dX7_sky_37 : decode cX7_sky 37 = .ok (.ishl, 1) := by decide +kernel
theorem dX7_sky_38 : decode cX7_sky 38 = .ok (.goto 4, 3) := by decide +kernel
theorem dX7_sky_41 : decode cX7_sky 41 = .ok (.iconst 0, 1) := by decide +kernel
theorem dX7_sky_42 : decode cX7_sky 42 = .ok (.ior, 1) := by decide +kernel
theorem dX7_sky_43 : decode cX7_sky 43 = .ok (.istore_n 2, 1) := by decide +kernel
theorem dX7_sky_44 : decode cX7_sky 44 = .ok (.iinc 3 1, 3) := by decide +kernel
theorem dX7_sky_47 : decode cX7_sky 47 = .ok (.goto (-34), 3) := by decide +kernel
theorem dX7_sky_50 : decode cX7_sky 50 = .ok (.iload_n 2, 1) := by decide +kernel
theorem dX7_sky_51 : decode cX7_sky 51 = .ok (.ireturn, 1) := by decide +kernel
theorem dX7_puts_0 : decode cX7_puts 0 = .ok (.iload_n 1, 1) := by decide +kernel
theorem dX7_puts_1 : decode cX7_puts 1 = .ok (.ifCond .ne 5, 3) := by decide +kernel
theorem dX7_puts_4 : decode cX7_puts 4 = .ok (.iconst (-1), 1) := by decide +kernel
theorem dX7_puts_5 : decode cX7_puts 5 = .ok (.ireturn, 1) := by decide +kernel
theorem dX7_puts_6 : decode cX7_puts 6 = .ok (.aload_n 0, 1) := by decide +kernel
theorem dX7_puts_7 : decode cX7_puts 7 = .ok (.getfield 7, 3) := by decide +kernel
theorem dX7_puts_10 : decode cX7_puts 10 = .ok (.iload_n 2, 1) := by decide +kernel
theorem dX7_puts_11 : decode cX7_puts 11 = .ok (.iaload, 1) := by decide +kernel
theorem dX7_puts_12 : decode cX7_puts 12 = .ok (.iload 4, 2) := by decide +kernel
theorem dX7_puts_14 : decode cX7_puts 14 = .ok (.iadd, 1) := by decide +kernel
theorem dX7_puts_15 : decode cX7_puts 15 = .ok (.istore 5, 2) := by decide +kernel
theorem dX7_puts_17 : decode cX7_puts 17 = .ok (.aload_n 0, 1) := by decide +kernel
theorem dX7_puts_18 : decode cX7_puts 18 = .ok (.getfield 7, 3) := by decide +kernel
theorem dX7_puts_21 : decode cX7_puts 21 = .ok (.iload_n 2, 1) := by decide +kernel
theorem dX7_puts_22 : decode cX7_puts 22 = .ok (.iload_n 3, 1) := by decide +kernel
theorem dX7_puts_23 : decode cX7_puts 23 = .ok (.iload 4, 2) := by decide +kernel
theorem dX7_puts_25 : decode cX7_puts 25 = .ok (.isub, 1) := by decide +kernel
theorem dX7_puts_26 : decode cX7_puts 26 = .ok (.iastore, 1) := by decide +kernel
theorem dX7_puts_27 : decode cX7_puts 27 = .ok (.iload 5, 2) := by decide +kernel
theorem dX7_puts_29 : decode cX7_puts 29 = .ok (.ireturn, 1) := by decide +kernel
theorem dX7_isGood_0 : decode cX7_isGood 0 = .ok (.iload_n 0, 1) := by decide +kernel
theorem dX7_isGood_1 : decode cX7_isGood 1 = .ok (.ifCond .ne 15, 3) := by decide +kernel
theorem dX7_isGood_4 : decode cX7_isGood 4 = .ok (.iload_n 1, 1) := by decide +kernel
theorem dX7_isGood_5 : decode cX7_isGood 5 = .ok (.i2l, 1) := by decide +kernel
theorem dX7_isGood_6 : decode cX7_isGood 6 = .ok (.lconst 0, 1) := by decide +kernel
theorem dX7_isGood_7 : decode cX7_isGood 7 = .ok (.ldc2_w 181, 3) := by decide +kernel
theorem dX7_isGood_10 : decode cX7_isGood 10 = .ok (.invokestatic 49, 3) := by decide +kernel
theorem dX7_isGood_13 : decode cX7_isGood 13 = .ok (.goto 54, 3) := by decide +kernel
theorem dX7_isGood_16 : decode cX7_isGood 16 = .ok (.iload_n 0, 1) := by decide +kernel
theorem dX7_isGood_17 : decode cX7_isGood 17 = .ok (.iconst 1, 1) := by decide +kernel
theorem dX7_isGood_18 : decode cX7_isGood 18 = .ok (.if_icmp .ne 10, 3) := by decide +kernel
theorem dX7_isGood_21 : decode cX7_isGood 21 = .ok (.iload_n 1, 1) := by decide +kernel
theorem dX7_isGood_22 : decode cX7_isGood 22 = .ok (.invokestatic 189, 3) := by decide +kernel
theorem dX7_isGood_25 : decode cX7_isGood 25 = .ok (.goto 42, 3) := by decide +kernel
theorem dX7_isGood_28 : decode cX7_isGood 28 = .ok (.iload_n 0, 1) := by decide +kernel
theorem dX7_isGood_29 : decode cX7_isGood 29 = .ok (.iconst 2, 1) := by decide +kernel
theorem dX7_isGood_30 : decode cX7_isGood 30 = .ok (.if_icmp .ne 15, 3) := by decide +kernel
theorem dX7_isGood_33 : decode cX7_isGood 33 = .ok (.iload_n 1, 1) := by decide +kernel
theorem dX7_isGood_34 : decode cX7_isGood 34 = .ok (.i2l, 1) := by decide +kernel
theorem dX7_isGood_35 : decode cX7_isGood 35 = .ok (.lconst 0, 1) := by decide +kernel
theorem dX7_isGood_36 : decode cX7_isGood 36 = .ok (.ldc2_w 192, 3) := by decide +kernel
theorem dX7_isGood_39 : decode cX7_isGood 39 = .ok (.invokestatic 49, 3) := by decide +kernel
theorem dX7_isGood_42 : decode cX7_isGood 42 = .ok (.goto 25, 3) := by decide +kernel
theorem dX7_isGood_45 : decode cX7_isGood 45 = .ok (.iload_n 0, 1) := by decide +kernel
theorem dX7_isGood_46 : decode cX7_isGood 46 = .ok (.iconst 3, 1) := by decide +kernel
theorem dX7_isGood_47 : decode cX7_isGood 47 = .ok (.if_icmp .ne 19, 3) := by decide +kernel
theorem dX7_isGood_50 : decode cX7_isGood 50 = .ok (.iload_n 1, 1) := by decide +kernel
theorem dX7_isGood_51 : decode cX7_isGood 51 = .ok (.i2l, 1) := by decide +kernel
theorem dX7_isGood_52 : decode cX7_isGood 52 = .ok (.lconst 1, 1) := by decide +kernel
theorem dX7_isGood_53 : decode cX7_isGood 53 = .ok (.ldc2_w 194, 3) := by decide +kernel
theorem dX7_isGood_56 : decode cX7_isGood 56 = .ok (.invokestatic 49, 3) := by decide +kernel
theorem dX7_isGood_59 : decode cX7_isGood 59 = .ok (.ifCond .eq 7, 3) := by decide +kernel
theorem dX7_isGood_62 : decode cX7_isGood 62 = .ok (.iconst 1, 1) := by decide +kernel
theorem dX7_isGood_63 : decode cX7_isGood 63 = .ok (.goto 4, 3) := by decide +kernel
theorem dX7_isGood_66 : decode cX7_isGood 66 = .ok (.iconst 0, 1) := by decide +kernel
theorem dX7_isGood_67 : decode cX7_isGood 67 = .ok (.ireturn, 1) := by decide +kernel
theorem dX7_alter_0 : decode cX7_alter 0 = .ok (.aload_n 0, 1) := by decide +kernel
theorem dX7_alter_1 : decode cX7_alter 1 = .ok (.aload_n 0, 1) := by decide +kernel
theorem dX7_alter_2 : decode cX7_alter 2 = .ok (.iload_n 1, 1) := by decide +kernel
theorem dX7_alter_3 : decode cX7_alter 3 = .ok (.invokevirtual 168, 3) := by decide +kernel
theorem dX7_alter_6 : decode cX7_alter 6 = .ok (.ifCond .eq 15, 3) := by decide +kernel
theorem dX7_alter_9 : decode cX7_alter 9 = .ok (.iload_n 2, 1) := by decide +kernel
theorem dX7_alter_10 : decode cX7_alter 10 = .ok (.iload_n 3, 1) := by decide +kernel
theorem dX7_alter_11 : decode cX7_alter 11 = .ok (.invokestatic 196, 3) := by decide +kernel
theorem dX7_alter_14 : decode cX7_alter 14 = .ok (.ifCond .eq 7, 3) := by decide +kernel
theorem dX7_alter_17 : decode cX7_alter 17 = .ok (.iconst 1, 1) := by decide +kernel
theorem dX7_alter_18 : decode cX7_alter 18 = .ok (.goto 4, 3) := by decide +kernel
theorem dX7_alter_21 : decode cX7_alter 21 = .ok (.iconst 0, 1) := by decide +kernel
theorem dX7_alter_22 : decode cX7_alter 22 = .ok (.bipush 6, 2) := by decide +kernel
theorem dX7_alter_24 : decode cX7_alter 24 = .ok (.iload_n 2, 1) := by decide +kernel
theorem dX7_alter_25 : decode cX7_alter 25 = .ok (.imul, 1) := by decide +kernel
theorem dX7_alter_26 : decode cX7_alter 26 = .ok (.iload_n 1, 1) := by decide +kernel
theorem dX7_alter_27 : decode cX7_alter 27 = .ok (.iadd, 1) := by decide +kernel
theorem dX7_alter_28 : decode cX7_alter 28 = .ok (.iload_n 3, 1) := by decide +kernel
theorem dX7_alter_29 : decode cX7_alter 29 = .ok (.iconst 0, 1) := by decide +kernel
theorem dX7_alter_30 : decode cX7_alter 30 = .ok (.invokevirtual 199, 3) := by decide +kernel
theorem dX7_alter_33 : decode cX7_alter 33 = .ok (.ireturn, 1) := by decide +kernel
theorem dX7_move_0 : decode cX7_move 0 = .ok (.iload_n 2, 1) := by decide +kernel
theorem dX7_move_1 : decode cX7_move 1 = .ok (.ifCond .ne 10, 3) := by decide +kernel
theorem dX7_move_4 : decode cX7_move 4 = .ok (.iload_n 3, 1) := by decide +kernel
theorem dX7_move_5 : decode cX7_move 5 = .ok (.invokestatic 189, 3) := by decide +kernel
theorem dX7_move_8 : decode cX7_move 8 = .ok (.goto 25, 3) := by decide +kernel
theorem dX7_move_11 : decode cX7_move 11 = .ok (.iload_n 2, 1) := by decide +kernel
theorem dX7_move_12 : decode cX7_move 12 = .ok (.iconst 1, 1) := by decide +kernel
theorem dX7_move_13 : decode cX7_move 13 = .ok (.if_icmp .ne 19, 3) := by decide +kernel
theorem dX7_move_16 : decode cX7_move 16 = .ok (.iload_n 3, 1) := by decide +kernel
theorem dX7_move_17 : decode cX7_move 17 = .ok (.i2l, 1) := by decide +kernel
theorem dX7_move_18 : decode cX7_move 18 = .ok (.lconst 0, 1) := by decide +kernel
theorem dX7_move_19 : decode cX7_move 19 = .ok (.ldc2_w 194, 3) := by decide +kernel
theorem dX7_move_22 : decode cX7_move 22 = .ok (.invokestatic 49, 3) := by decide +kernel
theorem dX7_move_25 : decode cX7_move 25 = .ok (.ifCond .eq 7, 3) := by decide +kernel
theorem dX7_move_28 : decode cX7_move 28 = .ok (.iconst 1, 1) := by decide +kernel
theorem dX7_move_29 : decode cX7_move 29 = .ok (.goto 4, 3) := by decide +kernel
theorem dX7_move_32 : decode cX7_move 32 = .ok (.iconst 0, 1) := by decide +kernel
theorem dX7_move_33 : decode cX7_move 33 = .ok (.istore 4, 2) := by decide +kernel
theorem dX7_move_35 : decode cX7_move 35 = .ok (.aload_n 0, 1) := by decide +kernel
theorem dX7_move_36 : decode cX7_move 36 = .ok (.aload_n 0, 1) := by decide +kernel
theorem dX7_move_37 : decode cX7_move 37 = .ok (.iload_n 1, 1) := by decide +kernel
theorem dX7_move_38 : decode cX7_move 38 = .ok (.invokevirtual 178, 3) := by decide +kernel
theorem dX7_move_41 : decode cX7_move 41 = .ok (.ifCond .eq 12, 3) := by decide +kernel
theorem dX7_move_44 : decode cX7_move 44 = .ok (.iload 4, 2) := by decide +kernel
theorem dX7_move_46 : decode cX7_move 46 = .ok (.ifCond .eq 7, 3) := by decide +kernel
theorem dX7_move_49 : decode cX7_move 49 = .ok (.iconst 1, 1) := by decide +kernel
theorem dX7_move_50 : decode cX7_move 50 = .ok (.goto 4, 3) := by decide +kernel
theorem dX7_move_53 : decode cX7_move 53 = .ok (.iconst 0, 1) := by decide +kernel
theorem dX7_move_54 : decode cX7_move 54 = .ok (.bipush 25, 2) := by decide +kernel
theorem dX7_move_56 : decode cX7_move 56 = .ok (.iconst 4, 1) := by decide +kernel
theorem dX7_move_57 : decode cX7_move 57 = .ok (.iload_n 2, 1) := by decide +kernel
theorem dX7_move_58 : decode cX7_move 58 = .ok (.imul, 1) := by decide +kernel
theorem dX7_move_59 : decode cX7_move 59 = .ok (.iadd, 1) := by decide +kernel
theorem dX7_move_60 : decode cX7_move 60 = .ok (.iload_n 1, 1) := by decide +kernel
theorem dX7_move_61 : decode cX7_move 61 = .ok (.iadd, 1) := by decide +kernel
theorem dX7_move_62 : decode cX7_move 62 = .ok (.iload_n 3, 1) := by decide +kernel
theorem dX7_move_63 : decode cX7_move 63 = .ok (.iconst 0, 1) := by decide +kernel
theorem dX7_move_64 : decode cX7_move 64 = .ok (.invokevirtual 199, 3) := by decide +kernel
theorem dX7_move_67 : decode cX7_move 67 = .ok (.ireturn, 1) := by decide +kernel
theorem dX7_blow_0 : decode cX7_blow 0 = .ok (.aload_n 0, 1) := by decide +kernel
theorem dX7_blow_1 : decode cX7_blow 1 = .ok (.iload_n 1, 1) := by decide +kernel
theorem dX7_blow_2 : decode cX7_blow 2 = .ok (.i2l, 1) := by decide +kernel
theorem dX7_blow_3 : decode cX7_blow 3 = .ok (.lconst 0, 1) := by decide +kernel
theorem dX7_blow_4 : decode cX7_blow 4 = .ok (.ldc2_w 203, 3) := by decide +kernel
theorem dX7_blow_7 : decode cX7_blow 7 = .ok (.invokestatic 49, 3) := by decide +kernel
theorem dX7_blow_10 : decode cX7_blow 10 = .ok (.bipush 34, 2) := by decide +kernel
theorem dX7_blow_12 : decode cX7_blow 12 = .ok (.iload_n 1, 1) := by decide +kernel
theorem dX7_blow_13 : decode cX7_blow 13 = .ok (.iconst 4, 1) := by decide +kernel
theorem dX7_blow_14 : decode cX7_blow 14 = .ok (.invokevirtual 199, 3) := by decide +kernel
theorem dX7_blow_17 : decode cX7_blow 17 = .ok (.ireturn, 1) := by decide +kernel
theorem dX7_damp_0 : decode cX7_damp 0 = .ok (.aload_n 0, 1) := by decide +kernel
theorem dX7_damp_1 : decode cX7_damp 1 = .ok (.iload_n 1, 1) := by decide +kernel
theorem dX7_damp_2 : decode cX7_damp 2 = .ok (.i2l, 1) := by decide +kernel
theorem dX7_damp_3 : decode cX7_damp 3 = .ok (.lconst 0, 1) := by decide +kernel
theorem dX7_damp_4 : decode cX7_damp 4 = .ok (.ldc2_w 194, 3) := by decide +kernel
theorem dX7_damp_7 : decode cX7_damp 7 = .ok (.invokestatic 49, 3) := by decide +kernel
theorem dX7_damp_10 : decode cX7_damp 10 = .ok (.bipush 35, 2) := by decide +kernel
theorem dX7_damp_12 : decode cX7_damp 12 = .ok (.iload_n 1, 1) := by decide +kernel
theorem dX7_damp_13 : decode cX7_damp 13 = .ok (.iconst 0, 1) := by decide +kernel
theorem dX7_damp_14 : decode cX7_damp 14 = .ok (.invokevirtual 199, 3) := by decide +kernel
theorem dX7_damp_17 : decode cX7_damp 17 = .ok (.ireturn, 1) := by decide +kernel
theorem dX7_writes_0 : decode cX7_writes 0 = .ok (.iconst 0, 1) := by decide +kernel
theorem dX7_writes_1 : decode cX7_writes 1 = .ok (.iload_n 1, 1) := by decide +kernel
theorem dX7_writes_2 : decode cX7_writes 2 = .ok (.invokestatic 196, 3) := by decide +kernel
theorem dX7_writes_5 : decode cX7_writes 5 = .ok (.ifCond .eq 28, 3) := by decide +kernel
theorem dX7_writes_8 : decode cX7_writes 8 = .ok (.iconst 1, 1) := by decide +kernel
theorem dX7_writes_9 : decode cX7_writes 9 = .ok (.iload_n 2, 1) := by decide +kernel
theorem dX7_writes_10 : decode cX7_writes 10 = .ok (.invokestatic 196, 3) := by decide +kernel
theorem dX7_writes_13 : decode cX7_writes 13 = .ok (.ifCond .eq 20, 3) := by decide +kernel
theorem dX7_writes_16 : decode cX7_writes 16 = .ok (.iconst 2, 1) := by decide +kernel
theorem dX7_writes_17 : decode cX7_writes 17 = .ok (.iload_n 3, 1) := by decide +kernel
theorem dX7_writes_18 : decode cX7_writes 18 = .ok (.invokestatic 196, 3) := by decide +kernel
theorem dX7_writes_21 : decode cX7_writes 21 = .ok (.ifCond .eq 12, 3) := by decide +kernel
theorem dX7_writes_24 : decode cX7_writes 24 = .ok (.iconst 3, 1) := by decide +kernel
theorem dX7_writes_25 : decode cX7_writes 25 = .ok (.iload 4, 2) := by decide +kernel
theorem dX7_writes_27 : decode cX7_writes 27 = .ok (.invokestatic 196, 3) := by decide +kernel
theorem dX7_writes_30 : decode cX7_writes 30 = .ok (.ifCond .ne 5, 3) := by decide +kernel
theorem dX7_writes_33 : decode cX7_writes 33 = .ok (.iconst (-1), 1) := by decide +kernel
theorem dX7_writes_34 : decode cX7_writes 34 = .ok (.ireturn, 1) := by decide +kernel
theorem dX7_writes_35 : decode cX7_writes 35 = .ok (.aload_n 0, 1) := by decide +kernel
theorem dX7_writes_36 : decode cX7_writes 36 = .ok (.getfield 7, 3) := by decide +kernel
theorem dX7_writes_39 : decode cX7_writes 39 = .ok (.bipush 24, 2) := by decide +kernel
theorem dX7_writes_41 : decode cX7_writes 41 = .ok (.iaload, 1) := by decide +kernel
theorem dX7_writes_42 : decode cX7_writes 42 = .ok (.istore 5, 2) := by decide +kernel
theorem dX7_writes_44 : decode cX7_writes 44 = .ok (.iload 5, 2) := by decide +kernel
theorem dX7_writes_46 : decode cX7_writes 46 = .ok (.bipush 6, 2) := by decide +kernel
theorem dX7_writes_48 : decode cX7_writes 48 = .ok (.if_icmp .ne 6, 3) := by decide +kernel
theorem dX7_writes_51 : decode cX7_writes 51 = .ok (.bipush (-3), 2) := by decide +kernel
theorem dX7_writes_53 : decode cX7_writes 53 = .ok (.ireturn, 1) := by decide +kernel
theorem dX7_writes_54 : decode cX7_writes 54 = .ok (.aload_n 0, 1) := by decide +kernel
theorem dX7_writes_55 : decode cX7_writes 55 = .ok (.getfield 7, 3) := by decide +kernel
theorem dX7_writes_58 : decode cX7_writes 58 = .ok (.iload 5, 2) := by decide +kernel
theorem dX7_writes_60 : decode cX7_writes 60 = .ok (.iload_n 1, 1) := by decide +kernel
theorem dX7_writes_61 : decode cX7_writes 61 = .ok (.iastore, 1) := by decide +kernel
theorem dX7_writes_62 : decode cX7_writes 62 = .ok (.aload_n 0, 1) := by decide +kernel
theorem dX7_writes_63 : decode cX7_writes 63 = .ok (.getfield 7, 3) := by decide +kernel
theorem dX7_writes_66 : decode cX7_writes 66 = .ok (.bipush 6, 2) := by decide +kernel
theorem dX7_writes_68 : decode cX7_writes 68 = .ok (.iload 5, 2) := by decide +kernel
theorem dX7_writes_70 : decode cX7_writes 70 = .ok (.iadd, 1) := by decide +kernel
theorem dX7_writes_71 : decode cX7_writes 71 = .ok (.iload_n 2, 1) := by decide +kernel
theorem dX7_writes_72 : decode cX7_writes 72 = .ok (.iastore, 1) := by decide +kernel
theorem dX7_writes_73 : decode cX7_writes 73 = .ok (.aload_n 0, 1) := by decide +kernel
theorem dX7_writes_74 : decode cX7_writes 74 = .ok (.getfield 7, 3) := by decide +kernel
theorem dX7_writes_77 : decode cX7_writes 77 = .ok (.bipush 12, 2) := by decide +kernel
theorem dX7_writes_79 : decode cX7_writes 79 = .ok (.iload 5, 2) := by decide +kernel
theorem dX7_writes_81 : decode cX7_writes 81 = .ok (.iadd, 1) := by decide +kernel
theorem dX7_writes_82 : decode cX7_writes 82 = .ok (.iload_n 3, 1) := by decide +kernel
theorem dX7_writes_83 : decode cX7_writes 83 = .ok (.iastore, 1) := by decide +kernel
theorem dX7_writes_84 : decode cX7_writes 84 = .ok (.aload_n 0, 1) := by decide +kernel
theorem dX7_writes_85 : decode cX7_writes 85 = .ok (.getfield 7, 3) := by decide +kernel
theorem dX7_writes_88 : decode cX7_writes 88 = .ok (.bipush 18, 2) := by decide +kernel
theorem dX7_writes_90 : decode cX7_writes 90 = .ok (.iload 5, 2) := by decide +kernel
theorem dX7_writes_92 : decode cX7_writes 92 = .ok (.iadd, 1) := by decide +kernel
theorem dX7_writes_93 : decode cX7_writes 93 = .ok (.iload 4, 2) := by decide +kernel
theorem dX7_writes_95 : decode cX7_writes 95 = .ok (.iastore, 1) := by decide +kernel
theorem dX7_writes_96 : decode cX7_writes 96 = .ok (.aload_n 0, 1) := by decide +kernel
theorem dX7_writes_97 : decode cX7_writes 97 = .ok (.getfield 7, 3) := by decide +kernel
theorem dX7_writes_100 : decode cX7_writes 100 = .ok (.bipush 24, 2) := by decide +kernel
theorem dX7_writes_102 : decode cX7_writes 102 = .ok (.dup2, 1) := by decide +kernel
theorem dX7_writes_103 : decode cX7_writes 103 = .ok (.iaload, 1) := by decide +kernel
theorem dX7_writes_104 : decode cX7_writes 104 = .ok (.iconst 1, 1) := by decide +kernel
theorem dX7_writes_105 : decode cX7_writes 105 = .ok (.iadd, 1) := by decide +kernel
theorem dX7_writes_106 : decode cX7_writes 106 = .ok (.iastore, 1) := by decide +kernel
theorem dX7_writes_107 : decode cX7_writes 107 = .ok (.aload_n 0, 1) := by decide +kernel
theorem dX7_writes_108 : decode cX7_writes 108 = .ok (.getfield 7, 3) := by decide +kernel
theorem dX7_writes_111 : decode cX7_writes 111 = .ok (.bipush 24, 2) := by decide +kernel
theorem dX7_writes_113 : decode cX7_writes 113 = .ok (.iaload, 1) := by decide +kernel
theorem dX7_writes_114 : decode cX7_writes 114 = .ok (.ireturn, 1) := by decide +kernel
theorem dX7_write_0 : decode cX7_write 0 = .ok (.aload_n 0, 1) := by decide +kernel
theorem dX7_write_1 : decode cX7_write 1 = .ok (.iload_n 1, 1) := by decide +kernel
theorem dX7_write_2 : decode cX7_write 2 = .ok (.iload_n 2, 1) := by decide +kernel
theorem dX7_write_3 : decode cX7_write 3 = .ok (.iload_n 3, 1) := by decide +kernel
theorem dX7_write_4 : decode cX7_write 4 = .ok (.iload 4, 2) := by decide +kernel
theorem dX7_write_6 : decode cX7_write 6 = .ok (.invokevirtual 205, 3) := by decide +kernel
theorem dX7_write_9 : decode cX7_write 9 = .ok (.ireturn, 1) := by decide +kernel
theorem dX7_come_0 : decode cX7_come 0 = .ok (.iload_n 1, 1) := by decide +kernel
theorem dX7_come_1 : decode cX7_come 1 = .ok (.invokestatic 189, 3) := by decide +kernel
theorem dX7_come_4 : decode cX7_come 4 = .ok (.ifCond .eq 15, 3) := by decide +kernel
theorem dX7_come_7 : decode cX7_come 7 = .ok (.iload_n 2, 1) := by decide +kernel
theorem dX7_come_8 : decode cX7_come 8 = .ok (.i2l, 1) := by decide +kernel
theorem dX7_come_9 : decode cX7_come 9 = .ok (.lconst 0, 1) := by decide +kernel
theorem dX7_come_10 : decode cX7_come 10 = .ok (.ldc2_w 194, 3) := by decide +kernel
theorem dX7_come_13 : decode cX7_come 13 = .ok (.invokestatic 49, 3) := by decide +kernel
theorem dX7_come_16 : decode cX7_come 16 = .ok (.ifCond .ne 5, 3) := by decide +kernel
theorem dX7_come_19 : decode cX7_come 19 = .ok (.iconst (-1), 1) := by decide +kernel
theorem dX7_come_20 : decode cX7_come 20 = .ok (.ireturn, 1) := by decide +kernel
theorem dX7_come_21 : decode cX7_come 21 = .ok (.aload_n 0, 1) := by decide +kernel
theorem dX7_come_22 : decode cX7_come 22 = .ok (.getfield 7, 3) := by decide +kernel
theorem dX7_come_25 : decode cX7_come 25 = .ok (.bipush 33, 2) := by decide +kernel
theorem dX7_come_27 : decode cX7_come 27 = .ok (.iaload, 1) := by decide +kernel
theorem dX7_come_28 : decode cX7_come 28 = .ok (.istore_n 3, 1) := by decide +kernel
theorem dX7_come_29 : decode cX7_come 29 = .ok (.iload_n 3, 1) := by decide +kernel
theorem dX7_come_30 : decode cX7_come 30 = .ok (.iconst 4, 1) := by decide +kernel
theorem dX7_come_31 : decode cX7_come 31 = .ok (.if_icmp .ne 6, 3) := by decide +kernel
theorem dX7_come_34 : decode cX7_come 34 = .ok (.bipush (-3), 2) := by decide +kernel
theorem dX7_come_36 : decode cX7_come 36 = .ok (.ireturn, 1) := by decide +kernel
theorem dX7_come_37 : decode cX7_come 37 = .ok (.aload_n 0, 1) := by decide +kernel
theorem dX7_come_38 : decode cX7_come 38 = .ok (.getfield 7, 3) := by decide +kernel
theorem dX7_come_41 : decode cX7_come 41 = .ok (.bipush 25, 2) := by decide +kernel
theorem dX7_come_43 : decode cX7_come 43 = .ok (.iload_n 3, 1) := by decide +kernel
theorem dX7_come_44 : decode cX7_come 44 = .ok (.iadd, 1) := by decide +kernel
theorem dX7_come_45 : decode cX7_come 45 = .ok (.iload_n 1, 1) := by decide +kernel
theorem dX7_come_46 : decode cX7_come 46 = .ok (.iastore, 1) := by decide +kernel
theorem dX7_come_47 : decode cX7_come 47 = .ok (.aload_n 0, 1) := by decide +kernel
theorem dX7_come_48 : decode cX7_come 48 = .ok (.getfield 7, 3) := by decide +kernel
theorem dX7_come_51 : decode cX7_come 51 = .ok (.bipush 29, 2) := by decide +kernel
theorem dX7_come_53 : decode cX7_come 53 = .ok (.iload_n 3, 1) := by decide +kernel
theorem dX7_come_54 : decode cX7_come 54 = .ok (.iadd, 1) := by decide +kernel
theorem dX7_come_55 : decode cX7_come 55 = .ok (.iload_n 2, 1) := by decide +kernel
theorem dX7_come_56 : decode cX7_come 56 = .ok (.iastore, 1) := by decide +kernel
theorem dX7_come_57 : decode cX7_come 57 = .ok (.aload_n 0, 1) := by decide +kernel
theorem dX7_come_58 : decode cX7_come 58 = .ok (.getfield 7, 3) := by decide +kernel
theorem dX7_come_61 : decode cX7_come 61 = .ok (.bipush 33, 2) := by decide +kernel
theorem dX7_come_63 : decode cX7_come 63 = .ok (.dup2, 1) := by decide +kernel
theorem dX7_come_64 : decode cX7_come 64 = .ok (.iaload, 1) := by decide +kernel
theorem dX7_come_65 : decode cX7_come 65 = .ok (.iconst 1, 1) := by decide +kernel
theorem dX7_come_66 : decode cX7_come 66 = .ok (.iadd, 1) := by decide +kernel
theorem dX7_come_67 : decode cX7_come 67 = .ok (.iastore, 1) := by decide +kernel
theorem dX7_come_68 : decode cX7_come 68 = .ok (.aload_n 0, 1) := by decide +kernel
theorem dX7_come_69 : decode cX7_come 69 = .ok (.getfield 7, 3) := by decide +kernel
theorem dX7_come_72 : decode cX7_come 72 = .ok (.bipush 33, 2) := by decide +kernel
theorem dX7_come_74 : decode cX7_come 74 = .ok (.iaload, 1) := by decide +kernel
theorem dX7_come_75 : decode cX7_come 75 = .ok (.ireturn, 1) := by decide +kernel
theorem dX7_burn_0 : decode cX7_burn 0 = .ok (.aload_n 0, 1) := by decide +kernel
theorem dX7_burn_1 : decode cX7_burn 1 = .ok (.iload_n 1, 1) := by decide +kernel
theorem dX7_burn_2 : decode cX7_burn 2 = .ok (.i2l, 1) := by decide +kernel
theorem dX7_burn_3 : decode cX7_burn 3 = .ok (.lconst 0, 1) := by decide +kernel
theorem dX7_burn_4 : decode cX7_burn 4 = .ok (.aload_n 0, 1) := by decide +kernel
theorem dX7_burn_5 : decode cX7_burn 5 = .ok (.getfield 7, 3) := by decide +kernel
theorem dX7_burn_8 : decode cX7_burn 8 = .ok (.bipush 24, 2) := by decide +kernel
theorem dX7_burn_10 : decode cX7_burn 10 = .ok (.iaload, 1) := by decide +kernel
theorem dX7_burn_11 : decode cX7_burn 11 = .ok (.i2l, 1) := by decide +kernel
theorem dX7_burn_12 : decode cX7_burn 12 = .ok (.invokestatic 49, 3) := by decide +kernel
theorem dX7_burn_15 : decode cX7_burn 15 = .ok (.bipush 24, 2) := by decide +kernel
theorem dX7_burn_17 : decode cX7_burn 17 = .ok (.iload_n 1, 1) := by decide +kernel
theorem dX7_burn_18 : decode cX7_burn 18 = .ok (.iconst 0, 1) := by decide +kernel
theorem dX7_burn_19 : decode cX7_burn 19 = .ok (.invokevirtual 199, 3) := by decide +kernel
theorem dX7_burn_22 : decode cX7_burn 22 = .ok (.ireturn, 1) := by decide +kernel
theorem dX7_leave_0 : decode cX7_leave 0 = .ok (.aload_n 0, 1) := by decide +kernel
theorem dX7_leave_1 : decode cX7_leave 1 = .ok (.iload_n 1, 1) := by decide +kernel
theorem dX7_leave_2 : decode cX7_leave 2 = .ok (.i2l, 1) := by decide +kernel
theorem dX7_leave_3 : decode cX7_leave 3 = .ok (.lconst 0, 1) := by decide +kernel
theorem dX7_leave_4 : decode cX7_leave 4 = .ok (.aload_n 0, 1) := by decide +kernel
theorem dX7_leave_5 : decode cX7_leave 5 = .ok (.getfield 7, 3) := by decide +kernel
theorem dX7_leave_8 : decode cX7_leave 8 = .ok (.bipush 33, 2) := by decide +kernel
theorem dX7_leave_10 : decode cX7_leave 10 = .ok (.iaload, 1) := by decide +kernel
theorem dX7_leave_11 : decode cX7_leave 11 = .ok (.i2l, 1) := by decide +kernel
theorem dX7_leave_12 : decode cX7_leave 12 = .ok (.invokestatic 49, 3) := by decide +kernel
theorem dX7_leave_15 : decode cX7_leave 15 = .ok (.bipush 33, 2) := by decide +kernel
theorem dX7_leave_17 : decode cX7_leave 17 = .ok (.iload_n 1, 1) := by decide +kernel
theorem dX7_leave_18 : decode cX7_leave 18 = .ok (.iconst 0, 1) := by decide +kernel
theorem dX7_leave_19 : decode cX7_leave 19 = .ok (.invokevirtual 199, 3) := by decide +kernel
theorem dX7_leave_22 : decode cX7_leave 22 = .ok (.ireturn, 1) := by decide +kernel
theorem dX7_first_0 : decode cX7_first 0 = .ok (.aload_n 0, 1) := by decide +kernel
theorem dX7_first_1 : decode cX7_first 1 = .ok (.iload_n 1, 1) := by decide +kernel
theorem dX7_first_2 : decode cX7_first 2 = .ok (.invokevirtual 178, 3) := by decide +kernel
theorem dX7_first_5 : decode cX7_first 5 = .ok (.ifCond .ne 5, 3) := by decide +kernel
theorem dX7_first_8 : decode cX7_first 8 = .ok (.iconst (-1), 1) := by decide +kernel
theorem dX7_first_9 : decode cX7_first 9 = .ok (.ireturn, 1) := by decide +kernel
theorem dX7_first_10 : decode cX7_first 10 = .ok (.iconst 0, 1) := by decide +kernel
theorem dX7_first_11 : decode cX7_first 11 = .ok (.istore_n 2, 1) := by decide +kernel
theorem dX7_first_12 : decode cX7_first 12 = .ok (.iload_n 2, 1) := by decide +kernel
theorem dX7_first_13 : decode cX7_first 13 = .ok (.bipush 80, 2) := by decide +kernel
theorem dX7_first_15 : decode cX7_first 15 = .ok (.if_icmp .ge 23, 3) := by decide +kernel
theorem dX7_first_18 : decode cX7_first 18 = .ok (.aload_n 0, 1) := by decide +kernel
theorem dX7_first_19 : decode cX7_first 19 = .ok (.iconst 0, 1) := by decide +kernel
theorem dX7_first_20 : decode cX7_first 20 = .ok (.iload_n 1, 1) := by decide +kernel
theorem dX7_first_21 : decode cX7_first 21 = .ok (.iload_n 2, 1) := by decide +kernel
theorem dX7_first_22 : decode cX7_first 22 = .ok (.invokevirtual 158, 3) := by decide +kernel
theorem dX7_first_25 : decode cX7_first 25 = .ok (.bipush (-4), 2) := by decide +kernel
theorem dX7_first_27 : decode cX7_first 27 = .ok (.if_icmp .eq 5, 3) := by decide +kernel
theorem dX7_first_30 : decode cX7_first 30 = .ok (.iload_n 2, 1) := by decide +kernel
theorem dX7_first_31 : decode cX7_first 31 = .ok (.ireturn, 1) := by decide +kernel
theorem dX7_first_32 : decode cX7_first 32 = .ok (.iinc 2 1, 3) := by decide +kernel
theorem dX7_first_35 : decode cX7_first 35 = .ok (.goto (-23), 3) := by decide +kernel
theorem dX7_first_38 : decode cX7_first 38 = .ok (.bipush (-4), 2) := by decide +kernel
theorem dX7_first_40 : decode cX7_first 40 = .ok (.ireturn, 1) := by decide +kernel
theorem dX7_dark_0 : decode cX7_dark 0 = .ok (.aload_n 0, 1) := by decide +kernel
theorem dX7_dark_1 : decode cX7_dark 1 = .ok (.iconst 0, 1) := by decide +kernel
theorem dX7_dark_2 : decode cX7_dark 2 = .ok (.invokevirtual 165, 3) := by decide +kernel
theorem dX7_dark_5 : decode cX7_dark 5 = .ok (.aload_n 0, 1) := by decide +kernel
theorem dX7_dark_6 : decode cX7_dark 6 = .ok (.getfield 152, 3) := by decide +kernel
theorem dX7_dark_9 : decode cX7_dark 9 = .ok (.ireturn, 1) := by decide +kernel
theorem dX7_peak_0 : decode cX7_peak 0 = .ok (.aload_n 0, 1) := by decide +kernel
theorem dX7_peak_1 : decode cX7_peak 1 = .ok (.iload_n 1, 1) := by decide +kernel
theorem dX7_peak_2 : decode cX7_peak 2 = .ok (.invokevirtual 168, 3) := by decide +kernel
theorem dX7_peak_5 : decode cX7_peak 5 = .ok (.ifCond .eq 13, 3) := by decide +kernel
theorem dX7_peak_8 : decode cX7_peak 8 = .ok (.iload_n 2, 1) := by decide +kernel
theorem dX7_peak_9 : decode cX7_peak 9 = .ok (.i2l, 1) := by decide +kernel
theorem dX7_peak_10 : decode cX7_peak 10 = .ok (.lconst 0, 1) := by decide +kernel
theorem dX7_peak_11 : decode cX7_peak 11 = .ok (.lconst 1, 1) := by decide +kernel
theorem dX7_peak_12 : decode cX7_peak 12 = .ok (.invokestatic 49, 3) := by decide +kernel
theorem dX7_peak_15 : decode cX7_peak 15 = .ok (.ifCond .ne 5, 3) := by decide +kernel
theorem dX7_peak_18 : decode cX7_peak 18 = .ok (.iconst (-1), 1) := by decide +kernel
theorem dX7_peak_19 : decode cX7_peak 19 = .ok (.ireturn, 1) := by decide +kernel
theorem dX7_peak_20 : decode cX7_peak 20 = .ok (.iconst 0, 1) := by decide +kernel
theorem dX7_peak_21 : decode cX7_peak 21 = .ok (.istore_n 3, 1) := by decide +kernel
theorem dX7_peak_22 : decode cX7_peak 22 = .ok (.bipush (-4), 2) := by decide +kernel
theorem dX7_peak_24 : decode cX7_peak 24 = .ok (.istore 4, 2) := by decide +kernel
theorem dX7_peak_26 : decode cX7_peak 26 = .ok (.iconst 0, 1) := by decide +kernel
theorem dX7_peak_27 : decode cX7_peak 27 = .ok (.istore 5, 2) := by decide +kernel
theorem dX7_peak_29 : decode cX7_peak 29 = .ok (.iload 5, 2) := by decide +kernel
theorem dX7_peak_31 : decode cX7_peak 31 = .ok (.bipush 80, 2) := by decide +kernel
theorem dX7_peak_33 : decode cX7_peak 33 = .ok (.if_icmp .ge 84, 3) := by decide +kernel
theorem dX7_peak_36 : decode cX7_peak 36 = .ok (.iconst 0, 1) := by decide +kernel
theorem dX7_peak_37 : decode cX7_peak 37 = .ok (.istore 6, 2) := by decide +kernel
theorem dX7_peak_39 : decode cX7_peak 39 = .ok (.iconst 0, 1) := by decide +kernel
theorem dX7_peak_40 : decode cX7_peak 40 = .ok (.istore 7, 2) := by decide +kernel
theorem dX7_peak_42 : decode cX7_peak 42 = .ok (.iload 7, 2) := by decide +kernel
theorem dX7_peak_44 : decode cX7_peak 44 = .ok (.aload_n 0, 1) := by decide +kernel
theorem dX7_peak_45 : decode cX7_peak 45 = .ok (.getfield 7, 3) := by decide +kernel
theorem dX7_peak_48 : decode cX7_peak 48 = .ok (.bipush 33, 2) := by decide +kernel
theorem dX7_peak_50 : decode cX7_peak 50 = .ok (.iaload, 1) := by decide +kernel
theorem dX7_peak_51 : decode cX7_peak 51 = .ok (.if_icmp .ge 32, 3) := by decide +kernel
theorem dX7_peak_54 : decode cX7_peak 54 = .ok (.iload 6, 2) := by decide +kernel
theorem dX7_peak_56 : decode cX7_peak 56 = .ok (.aload_n 0, 1) := by decide +kernel
theorem dX7_peak_57 : decode cX7_peak 57 = .ok (.iconst 0, 1) := by decide +kernel
theorem dX7_peak_58 : decode cX7_peak 58 = .ok (.iload 7, 2) := by decide +kernel
theorem dX7_peak_60 : decode cX7_peak 60 = .ok (.iload 5, 2) := by decide +kernel
theorem dX7_peak_62 : decode cX7_peak 62 = .ok (.invokevirtual 158, 3) := by decide +kernel
theorem dX7_peak_65 : decode cX7_peak 65 = .ok (.iload_n 1, 1) := by decide +kernel
theorem dX7_peak_66 : decode cX7_peak 66 = .ok (.if_icmp .ne 7, 3) := by decide +kernel
theorem dX7_peak_69 : decode cX7_peak 69 = .ok (.iconst 1, 1) := by decide +kernel
theorem dX7_peak_70 : decode cX7_peak 70 = .ok (.goto 4, 3) := by decide +kernel
theorem dX7_peak_73 : decode cX7_peak 73 = .ok (.iconst 0, 1) := by decide +kernel
theorem dX7_peak_74 : decode cX7_peak 74 = .ok (.iadd, 1) := by decide +kernel
theorem dX7_peak_75 : decode cX7_peak 75 = .ok (.istore 6, 2) := by decide +kernel
theorem dX7_peak_77 : decode cX7_peak 77 = .ok (.iinc 7 1, 3) := by decide +kernel
theorem dX7_peak_80 : decode cX7_peak 80 = .ok (.goto (-38), 3) := by decide +kernel
theorem dX7_peak_83 : decode cX7_peak 83 = .ok (.iload 6, 2) := by decide +kernel
theorem dX7_peak_85 : decode cX7_peak 85 = .ok (.iload_n 3, 1) := by decide +kernel
theorem dX7_peak_86 : decode cX7_peak 86 = .ok (.if_icmp .le 8, 3) := by decide +kernel
theorem dX7_peak_89 : decode cX7_peak 89 = .ok (.iload 5, 2) := by decide +kernel
theorem dX7_peak_91 : decode cX7_peak 91 = .ok (.goto 5, 3) := by decide +kernel
theorem dX7_peak_94 : decode cX7_peak 94 = .ok (.iload 4, 2) := by decide +kernel
theorem dX7_peak_96 : decode cX7_peak 96 = .ok (.istore 4, 2) := by decide +kernel
theorem dX7_peak_98 : decode cX7_peak 98 = .ok (.iload 6, 2) := by decide +kernel
theorem dX7_peak_100 : decode cX7_peak 100 = .ok (.iload_n 3, 1) := by decide +kernel
theorem dX7_peak_101 : decode cX7_peak 101 = .ok (.if_icmp .le 8, 3) := by decide +kernel
theorem dX7_peak_104 : decode cX7_peak 104 = .ok (.iload 6, 2) := by decide +kernel
theorem dX7_peak_106 : decode cX7_peak 106 = .ok (.goto 4, 3) := by decide +kernel
theorem dX7_peak_109 : decode cX7_peak 109 = .ok (.iload_n 3, 1) := by decide +kernel
theorem dX7_peak_110 : decode cX7_peak 110 = .ok (.istore_n 3, 1) := by decide +kernel
theorem dX7_peak_111 : decode cX7_peak 111 = .ok (.iinc 5 1, 3) := by decide +kernel
theorem dX7_peak_114 : decode cX7_peak 114 = .ok (.goto (-85), 3) := by decide +kernel
theorem dX7_peak_117 : decode cX7_peak 117 = .ok (.iload 4, 2) := by decide +kernel
theorem dX7_peak_119 : decode cX7_peak 119 = .ok (.bipush (-4), 2) := by decide +kernel
theorem dX7_peak_121 : decode cX7_peak 121 = .ok (.if_icmp .eq 7, 3) := by decide +kernel
theorem dX7_peak_124 : decode cX7_peak 124 = .ok (.iload_n 2, 1) := by decide +kernel
theorem dX7_peak_125 : decode cX7_peak 125 = .ok (.ifCond .ne 8, 3) := by decide +kernel
theorem dX7_peak_128 : decode cX7_peak 128 = .ok (.iload 4, 2) := by decide +kernel
theorem dX7_peak_130 : decode cX7_peak 130 = .ok (.goto 4, 3) := by decide +kernel
theorem dX7_peak_133 : decode cX7_peak 133 = .ok (.iload_n 3, 1) := by decide +kernel
theorem dX7_peak_134 : decode cX7_peak 134 = .ok (.ireturn, 1) := by decide +kernel
theorem dX7_copies_0 : decode cX7_copies 0 = .ok (.iconst 0, 1) := by decide +kernel
theorem dX7_copies_1 : decode cX7_copies 1 = .ok (.istore_n 3, 1) := by decide +kernel
theorem dX7_copies_2 : decode cX7_copies 2 = .ok (.iload_n 3, 1) := by decide +kernel
theorem dX7_copies_3 : decode cX7_copies 3 = .ok (.bipush 36, 2) := by decide +kernel
theorem dX7_copies_5 : decode cX7_copies 5 = .ok (.if_icmp .ge 25, 3) := by decide +kernel
theorem dX7_copies_8 : decode cX7_copies 8 = .ok (.aload_n 0, 1) := by decide +kernel
theorem dX7_copies_9 : decode cX7_copies 9 = .ok (.getfield 7, 3) := by decide +kernel
theorem dX7_copies_12 : decode cX7_copies 12 = .ok (.iload_n 2, 1) := by decide +kernel
theorem dX7_copies_13 : decode cX7_copies 13 = .ok (.iload_n 3, 1) := by decide +kernel
theorem dX7_copies_14 : decode cX7_copies 14 = .ok (.iadd, 1) := by decide +kernel
theorem dX7_copies_15 : decode cX7_copies 15 = .ok (.aload_n 0, 1) := by decide +kernel
theorem dX7_copies_16 : decode cX7_copies 16 = .ok (.getfield 7, 3) := by decide +kernel
theorem dX7_copies_19 : decode cX7_copies 19 = .ok (.iload_n 1, 1) := by decide +kernel
theorem dX7_copies_20 : decode cX7_copies 20 = .ok (.iload_n 3, 1) := by decide +kernel
theorem dX7_copies_21 : decode cX7_copies 21 = .ok (.iadd, 1) := by decide +kernel
theorem dX7_copies_22 : decode cX7_copies 22 = .ok (.iaload, 1) := by decide +kernel
theorem dX7_copies_23 : decode cX7_copies 23 = .ok (.iastore, 1) := by decide +kernel
theorem dX7_copies_24 : decode cX7_copies 24 = .ok (.iinc 3 1, 3) := by decide +kernel
theorem dX7_copies_27 : decode cX7_copies 27 = .ok (.goto (-25), 3) := by decide +kernel
theorem dX7_copies_30 : decode cX7_copies 30 = .ok (.return_, 1) := by decide +kernel
theorem dX7_bitsOf_0 : decode cX7_bitsOf 0 = .ok (.iconst 0, 1) := by decide +kernel
theorem dX7_bitsOf_1 : decode cX7_bitsOf 1 = .ok (.istore_n 1, 1) := by decide +kernel
theorem dX7_bitsOf_2 : decode cX7_bitsOf 2 = .ok (.iload_n 0, 1) := by decide +kernel
theorem dX7_bitsOf_3 : decode cX7_bitsOf 3 = .ok (.istore_n 2, 1) := by decide +kernel
theorem dX7_bitsOf_4 : decode cX7_bitsOf 4 = .ok (.iload_n 2, 1) := by decide +kernel
theorem dX7_bitsOf_5 : decode cX7_bitsOf 5 = .ok (.ifCond .le 16, 3) := by decide +kernel
theorem dX7_bitsOf_8 : decode cX7_bitsOf 8 = .ok (.iload_n 1, 1) := by decide +kernel
theorem dX7_bitsOf_9 : decode cX7_bitsOf 9 = .ok (.iload_n 2, 1) := by decide +kernel
theorem dX7_bitsOf_10 : decode cX7_bitsOf 10 = .ok (.iconst 1, 1) := by decide +kernel
theorem dX7_bitsOf_11 : decode cX7_bitsOf 11 = .ok (.iand, 1) := by decide +kernel
theorem dX7_bitsOf_12 : decode cX7_bitsOf 12 = .ok (.iadd, 1) := by decide +kernel
theorem dX7_bitsOf_13 : decode cX7_bitsOf 13 = .ok (.istore_n 1, 1) := by decide +kernel
theorem dX7_bitsOf_14 : decode cX7_bitsOf 14 = .ok (.iload_n 2, 1) := by decide +kernel
theorem dX7_bitsOf_15 : decode cX7_bitsOf 15 = .ok (.iconst 1, 1) := by decide +kernel
theorem dX7_bitsOf_16 : decode cX7_bitsOf 16 = .ok (.ishr, 1) := by decide +kernel
theorem dX7_bitsOf_17 : decode cX7_bitsOf 17 = .ok (.istore_n 2, 1) := by decide +kernel
theorem dX7_bitsOf_18 : decode cX7_bitsOf 18 = .ok (.goto (-14), 3) := by decide +kernel
theorem dX7_bitsOf_21 : decode cX7_bitsOf 21 = .ok (.iload_n 1, 1) := by decide +kernel
theorem dX7_bitsOf_22 : decode cX7_bitsOf 22 = .ok (.ireturn, 1) := by decide +kernel
theorem dX7_when_0 : decode cX7_when 0 = .ok (.aload_n 0, 1) := by decide +kernel
theorem dX7_when_1 : decode cX7_when 1 = .ok (.iload_n 1, 1) := by decide +kernel
theorem dX7_when_2 : decode cX7_when 2 = .ok (.invokevirtual 168, 3) := by decide +kernel
theorem dX7_when_5 : decode cX7_when 5 = .ok (.ifCond .eq 13, 3) := by decide +kernel
theorem dX7_when_8 : decode cX7_when 8 = .ok (.iload_n 2, 1) := by decide +kernel
theorem dX7_when_9 : decode cX7_when 9 = .ok (.i2l, 1) := by decide +kernel
theorem dX7_when_10 : decode cX7_when 10 = .ok (.lconst 0, 1) := by decide +kernel
theorem dX7_when_11 : decode cX7_when 11 = .ok (.lconst 1, 1) := by decide +kernel
theorem dX7_when_12 : decode cX7_when 12 = .ok (.invokestatic 49, 3) := by decide +kernel
theorem dX7_when_15 : decode cX7_when 15 = .ok (.ifCond .ne 5, 3) := by decide +kernel
theorem dX7_when_18 : decode cX7_when 18 = .ok (.iconst (-1), 1) := by decide +kernel
theorem dX7_when_19 : decode cX7_when 19 = .ok (.ireturn, 1) := by decide +kernel
theorem dX7_when_20 : decode cX7_when 20 = .ok (.iconst (-1), 1) := by decide +kernel
theorem dX7_when_21 : decode cX7_when 21 = .ok (.istore_n 3, 1) := by decide +kernel
theorem dX7_when_22 : decode cX7_when 22 = .ok (.iconst 0, 1) := by decide +kernel
theorem dX7_when_23 : decode cX7_when 23 = .ok (.istore 4, 2) := by decide +kernel
theorem dX7_when_25 : decode cX7_when 25 = .ok (.aload_n 0, 1) := by decide +kernel
theorem dX7_when_26 : decode cX7_when 26 = .ok (.iconst 0, 1) := by decide +kernel
theorem dX7_when_27 : decode cX7_when 27 = .ok (.sipush 144, 3) := by decide +kernel
theorem dX7_when_30 : decode cX7_when 30 = .ok (.invokevirtual 209, 3) := by decide +kernel
theorem dX7_when_33 : decode cX7_when 33 = .ok (.iconst 0, 1) := by decide +kernel
theorem dX7_when_34 : decode cX7_when 34 = .ok (.istore 5, 2) := by decide +kernel
theorem dX7_when_36 : decode cX7_when 36 = .ok (.iload 5, 2) := by decide +kernel
theorem dX7_when_38 : decode cX7_when 38 = .ok (.bipush 59, 2) := by decide +kernel
theorem dX7_when_40 : decode cX7_when 40 = .ok (.if_icmp .gt 69, 3) := by decide +kernel
theorem dX7_when_43 : decode cX7_when 43 = .ok (.aload_n 0, 1) := by decide +kernel
theorem dX7_when_44 : decode cX7_when 44 = .ok (.getfield 7, 3) := by decide +kernel
theorem dX7_when_47 : decode cX7_when 47 = .ok (.sipush 156, 3) := by decide +kernel
theorem dX7_when_50 : decode cX7_when 50 = .ok (.iload_n 1, 1) := by decide +kernel
theorem dX7_when_51 : decode cX7_when 51 = .ok (.iadd, 1) := by decide +kernel
theorem dX7_when_52 : decode cX7_when 52 = .ok (.iload 5, 2) := by decide +kernel
theorem dX7_when_54 : decode cX7_when 54 = .ok (.iastore, 1) := by decide +kernel
theorem dX7_when_55 : decode cX7_when 55 = .ok (.aload_n 0, 1) := by decide +kernel
theorem dX7_when_56 : decode cX7_when 56 = .ok (.sipush 144, 3) := by decide +kernel
theorem dX7_when_59 : decode cX7_when 59 = .ok (.invokevirtual 165, 3) := by decide +kernel
theorem dX7_when_62 : decode cX7_when 62 = .ok (.aload_n 0, 1) := by decide +kernel
theorem dX7_when_63 : decode cX7_when 63 = .ok (.sipush 144, 3) := by decide +kernel
theorem dX7_when_66 : decode cX7_when 66 = .ok (.iload_n 1, 1) := by decide +kernel
theorem dX7_when_67 : decode cX7_when 67 = .ok (.invokevirtual 175, 3) := by decide +kernel
theorem dX7_when_70 : decode cX7_when 70 = .ok (.invokestatic 213, 3) := by decide +kernel
theorem dX7_when_73 : decode cX7_when 73 = .ok (.istore 6, 2) := by decide +kernel
theorem dX7_when_75 : decode cX7_when 75 = .ok (.iload 6, 2) := by decide +kernel
theorem dX7_when_77 : decode cX7_when 77 = .ok (.iload_n 3, 1) := by decide +kernel
theorem dX7_when_78 : decode cX7_when 78 = .ok (.if_icmp .le 8, 3) := by decide +kernel
theorem dX7_when_81 : decode cX7_when 81 = .ok (.iload 5, 2) := by decide +kernel
theorem dX7_when_83 : decode cX7_when 83 = .ok (.goto 5, 3) := by decide +kernel
theorem dX7_when_86 : decode cX7_when 86 = .ok (.iload 4, 2) := by decide +kernel
theorem dX7_when_88 : decode cX7_when 88 = .ok (.istore 4, 2) := by decide +kernel
theorem dX7_when_90 : decode cX7_when 90 = .ok (.iload 6, 2) := by decide +kernel
theorem dX7_when_92 : decode cX7_when 92 = .ok (.iload_n 3, 1) := by decide +kernel
theorem dX7_when_93 : decode cX7_when 93 = .ok (.if_icmp .le 8, 3) := by decide +kernel
theorem dX7_when_96 : decode cX7_when 96 = .ok (.iload 6, 2) := by decide +kernel
theorem dX7_when_98 : decode cX7_when 98 = .ok (.goto 4, 3) := by decide +kernel
theorem dX7_when_101 : decode cX7_when 101 = .ok (.iload_n 3, 1) := by decide +kernel
theorem dX7_when_102 : decode cX7_when 102 = .ok (.istore_n 3, 1) := by decide +kernel
theorem dX7_when_103 : decode cX7_when 103 = .ok (.iinc 5 1, 3) := by decide +kernel
theorem dX7_when_106 : decode cX7_when 106 = .ok (.goto (-70), 3) := by decide +kernel
theorem dX7_when_109 : decode cX7_when 109 = .ok (.iload_n 2, 1) := by decide +kernel
theorem dX7_when_110 : decode cX7_when 110 = .ok (.ifCond .ne 8, 3) := by decide +kernel
theorem dX7_when_113 : decode cX7_when 113 = .ok (.iload 4, 2) := by decide +kernel
theorem dX7_when_115 : decode cX7_when 115 = .ok (.goto 4, 3) := by decide +kernel
theorem dX7_when_118 : decode cX7_when 118 = .ok (.iload_n 3, 1) := by decide +kernel
theorem dX7_when_119 : decode cX7_when 119 = .ok (.ireturn, 1) := by decide +kernel
theorem dX7_stand_0 : decode cX7_stand 0 = .ok (.aload_n 0, 1) := by decide +kernel
theorem dX7_stand_1 : decode cX7_stand 1 = .ok (.iload_n 1, 1) := by decide +kernel
theorem dX7_stand_2 : decode cX7_stand 2 = .ok (.invokevirtual 178, 3) := by decide +kernel
theorem dX7_stand_5 : decode cX7_stand 5 = .ok (.ifCond .eq 13, 3) := by decide +kernel
theorem dX7_stand_8 : decode cX7_stand 8 = .ok (.iload_n 2, 1) := by decide +kernel
theorem dX7_stand_9 : decode cX7_stand 9 = .ok (.i2l, 1) := by decide +kernel
theorem dX7_stand_10 : decode cX7_stand 10 = .ok (.lconst 0, 1) := by decide +kernel
theorem dX7_stand_11 : decode cX7_stand 11 = .ok (.lconst 1, 1) := by decide +kernel
theorem dX7_stand_12 : decode cX7_stand 12 = .ok (.invokestatic 49, 3) := by decide +kernel
theorem dX7_stand_15 : decode cX7_stand 15 = .ok (.ifCond .ne 5, 3) := by decide +kernel
theorem dX7_stand_18 : decode cX7_stand 18 = .ok (.iconst (-1), 1) := by decide +kernel
theorem dX7_stand_19 : decode cX7_stand 19 = .ok (.ireturn, 1) := by decide +kernel
theorem dX7_stand_20 : decode cX7_stand 20 = .ok (.iconst (-1), 1) := by decide +kernel
theorem dX7_stand_21 : decode cX7_stand 21 = .ok (.istore_n 3, 1) := by decide +kernel
theorem dX7_stand_22 : decode cX7_stand 22 = .ok (.iconst 0, 1) := by decide +kernel
theorem dX7_stand_23 : decode cX7_stand 23 = .ok (.istore 4, 2) := by decide +kernel
theorem dX7_stand_25 : decode cX7_stand 25 = .ok (.aload_n 0, 1) := by decide +kernel
theorem dX7_stand_26 : decode cX7_stand 26 = .ok (.iconst 0, 1) := by decide +kernel
theorem dX7_stand_27 : decode cX7_stand 27 = .ok (.sipush 144, 3) := by decide +kernel
theorem dX7_stand_30 : decode cX7_stand 30 = .ok (.invokevirtual 209, 3) := by decide +kernel
theorem dX7_stand_33 : decode cX7_stand 33 = .ok (.iconst 0, 1) := by decide +kernel
theorem dX7_stand_34 : decode cX7_stand 34 = .ok (.istore 5, 2) := by decide +kernel
theorem dX7_stand_36 : decode cX7_stand 36 = .ok (.iload 5, 2) := by decide +kernel
theorem dX7_stand_38 : decode cX7_stand 38 = .ok (.bipush 12, 2) := by decide +kernel
theorem dX7_stand_40 : decode cX7_stand 40 = .ok (.if_icmp .ge 63, 3) := by decide +kernel
theorem dX7_stand_43 : decode cX7_stand 43 = .ok (.aload_n 0, 1) := by decide +kernel
theorem dX7_stand_44 : decode cX7_stand 44 = .ok (.getfield 7, 3) := by decide +kernel
theorem dX7_stand_47 : decode cX7_stand 47 = .ok (.sipush 169, 3) := by decide +kernel
theorem dX7_stand_50 : decode cX7_stand 50 = .ok (.iload_n 1, 1) := by decide +kernel
theorem dX7_stand_51 : decode cX7_stand 51 = .ok (.iadd, 1) := by decide +kernel
theorem dX7_stand_52 : decode cX7_stand 52 = .ok (.iload 5, 2) := by decide +kernel
theorem dX7_stand_54 : decode cX7_stand 54 = .ok (.iastore, 1) := by decide +kernel
theorem dX7_stand_55 : decode cX7_stand 55 = .ok (.aload_n 0, 1) := by decide +kernel
theorem dX7_stand_56 : decode cX7_stand 56 = .ok (.sipush 144, 3) := by decide +kernel
theorem dX7_stand_59 : decode cX7_stand 59 = .ok (.invokevirtual 165, 3) := by decide +kernel
theorem dX7_stand_62 : decode cX7_stand 62 = .ok (.aload_n 0, 1) := by decide +kernel
theorem dX7_stand_63 : decode cX7_stand 63 = .ok (.iload_n 1, 1) := by decide +kernel
theorem dX7_stand_64 : decode cX7_stand 64 = .ok (.invokevirtual 183, 3) := by decide +kernel
theorem dX7_stand_67 : decode cX7_stand 67 = .ok (.istore 6, 2) := by decide +kernel
theorem dX7_stand_69 : decode cX7_stand 69 = .ok (.iload 6, 2) := by decide +kernel
theorem dX7_stand_71 : decode cX7_stand 71 = .ok (.iload_n 3, 1) := by decide +kernel
theorem dX7_stand_72 : decode cX7_stand 72 = .ok (.if_icmp .le 8, 3) := by decide +kernel
theorem dX7_stand_75 : decode cX7_stand 75 = .ok (.iload 5, 2) := by decide +kernel
theorem dX7_stand_77 : decode cX7_stand 77 = .ok (.goto 5, 3) := by decide +kernel
theorem dX7_stand_80 : decode cX7_stand 80 = .ok (.iload 4, 2) := by decide +kernel
theorem dX7_stand_82 : decode cX7_stand 82 = .ok (.istore 4, 2) := by decide +kernel
theorem dX7_stand_84 : decode cX7_stand 84 = .ok (.iload 6, 2) := by decide +kernel
theorem dX7_stand_86 : decode cX7_stand 86 = .ok (.iload_n 3, 1) := by decide +kernel
theorem dX7_stand_87 : decode cX7_stand 87 = .ok (.if_icmp .le 8, 3) := by decide +kernel
theorem dX7_stand_90 : decode cX7_stand 90 = .ok (.iload 6, 2) := by decide +kernel
theorem dX7_stand_92 : decode cX7_stand 92 = .ok (.goto 4, 3) := by decide +kernel
theorem dX7_stand_95 : decode cX7_stand 95 = .ok (.iload_n 3, 1) := by decide +kernel
theorem dX7_stand_96 : decode cX7_stand 96 = .ok (.istore_n 3, 1) := by decide +kernel
theorem dX7_stand_97 : decode cX7_stand 97 = .ok (.iinc 5 1, 3) := by decide +kernel
theorem dX7_stand_100 : decode cX7_stand 100 = .ok (.goto (-64), 3) := by decide +kernel
theorem dX7_stand_103 : decode cX7_stand 103 = .ok (.iload_n 2, 1) := by decide +kernel
theorem dX7_stand_104 : decode cX7_stand 104 = .ok (.ifCond .ne 8, 3) := by decide +kernel
theorem dX7_stand_107 : decode cX7_stand 107 = .ok (.iload 4, 2) := by decide +kernel
theorem dX7_stand_109 : decode cX7_stand 109 = .ok (.goto 4, 3) := by decide +kernel
theorem dX7_stand_112 : decode cX7_stand 112 = .ok (.iload_n 3, 1) := by decide +kernel
theorem dX7_stand_113 : decode cX7_stand 113 = .ok (.ireturn, 1) := by decide +kernel
theorem dX7_swap_0 : decode cX7_swap 0 = .ok (.iload_n 1, 1) := by decide +kernel
theorem dX7_swap_1 : decode cX7_swap 1 = .ok (.i2l, 1) := by decide +kernel
theorem dX7_swap_2 : decode cX7_swap 2 = .ok (.lconst 0, 1) := by decide +kernel
theorem dX7_swap_3 : decode cX7_swap 3 = .ok (.lconst 1, 1) := by decide +kernel
theorem dX7_swap_4 : decode cX7_swap 4 = .ok (.invokestatic 49, 3) := by decide +kernel
theorem dX7_swap_7 : decode cX7_swap 7 = .ok (.ifCond .ne 5, 3) := by decide +kernel
theorem dX7_swap_10 : decode cX7_swap 10 = .ok (.iconst (-1), 1) := by decide +kernel
theorem dX7_swap_11 : decode cX7_swap 11 = .ok (.ireturn, 1) := by decide +kernel
theorem dX7_swap_12 : decode cX7_swap 12 = .ok (.aload_n 0, 1) := by decide +kernel
theorem dX7_swap_13 : decode cX7_swap 13 = .ok (.iconst 0, 1) := by decide +kernel
theorem dX7_swap_14 : decode cX7_swap 14 = .ok (.invokevirtual 165, 3) := by decide +kernel
theorem dX7_swap_17 : decode cX7_swap 17 = .ok (.aload_n 0, 1) := by decide +kernel
theorem dX7_swap_18 : decode cX7_swap 18 = .ok (.getfield 149, 3) := by decide +kernel
theorem dX7_swap_21 : decode cX7_swap 21 = .ok (.istore_n 2, 1) := by decide +kernel
theorem dX7_swap_22 : decode cX7_swap 22 = .ok (.bipush (-4), 2) := by decide +kernel
theorem dX7_swap_24 : decode cX7_swap 24 = .ok (.istore_n 3, 1) := by decide +kernel
theorem dX7_swap_25 : decode cX7_swap 25 = .ok (.iconst 0, 1) := by decide +kernel
theorem dX7_swap_26 : decode cX7_swap 26 = .ok (.istore 4, 2) := by decide +kernel
theorem dX7_swap_28 : decode cX7_swap 28 = .ok (.iload 4, 2) := by decide +kernel
theorem dX7_swap_30 : decode cX7_swap 30 = .ok (.aload_n 0, 1) := by decide +kernel
theorem dX7_swap_31 : decode cX7_swap 31 = .ok (.getfield 7, 3) := by decide +kernel
theorem dX7_swap_34 : decode cX7_swap 34 = .ok (.bipush 24, 2) := by decide +kernel
theorem dX7_swap_36 : decode cX7_swap 36 = .ok (.iaload, 1) := by decide +kernel
theorem dX7_swap_37 : decode cX7_swap 37 = .ok (.if_icmp .ge 128, 3) := by decide +kernel
theorem dX7_swap_40 : decode cX7_swap 40 = .ok (.iload 4, 2) := by decide +kernel
theorem dX7_swap_42 : decode cX7_swap 42 = .ok (.iconst 1, 1) := by decide +kernel
theorem dX7_swap_43 : decode cX7_swap 43 = .ok (.iadd, 1) := by decide +kernel
theorem dX7_swap_44 : decode cX7_swap 44 = .ok (.istore 5, 2) := by decide +kernel
theorem dX7_swap_46 : decode cX7_swap 46 = .ok (.iload 5, 2) := by decide +kernel
theorem dX7_swap_48 : decode cX7_swap 48 = .ok (.aload_n 0, 1) := by decide +kernel
theorem dX7_swap_49 : decode cX7_swap 49 = .ok (.getfield 7, 3) := by decide +kernel
theorem dX7_swap_52 : decode cX7_swap 52 = .ok (.bipush 24, 2) := by decide +kernel
theorem dX7_swap_54 : decode cX7_swap 54 = .ok (.iaload, 1) := by decide +kernel
theorem dX7_swap_55 : decode cX7_swap 55 = .ok (.if_icmp .ge 104, 3) := by decide +kernel
theorem dX7_swap_58 : decode cX7_swap 58 = .ok (.aload_n 0, 1) := by decide +kernel
theorem dX7_swap_59 : decode cX7_swap 59 = .ok (.iconst 0, 1) := by decide +kernel
theorem dX7_swap_60 : decode cX7_swap 60 = .ok (.sipush 144, 3) := by decide +kernel
theorem dX7_swap_63 : decode cX7_swap 63 = .ok (.invokevirtual 209, 3) := by decide +kernel
theorem dX7_swap_66 : decode cX7_swap 66 = .ok (.aload_n 0, 1) := by decide +kernel
theorem dX7_swap_67 : decode cX7_swap 67 = .ok (.getfield 7, 3) := by decide +kernel
theorem dX7_swap_70 : decode cX7_swap 70 = .ok (.sipush 156, 3) := by decide +kernel
theorem dX7_swap_73 : decode cX7_swap 73 = .ok (.iload 4, 2) := by decide +kernel
theorem dX7_swap_75 : decode cX7_swap 75 = .ok (.iadd, 1) := by decide +kernel
theorem dX7_swap_76 : decode cX7_swap 76 = .ok (.aload_n 0, 1) := by decide +kernel
theorem dX7_swap_77 : decode cX7_swap 77 = .ok (.getfield 7, 3) := by decide +kernel
theorem dX7_swap_80 : decode cX7_swap 80 = .ok (.bipush 12, 2) := by decide +kernel
theorem dX7_swap_82 : decode cX7_swap 82 = .ok (.iload 5, 2) := by decide +kernel
theorem dX7_swap_84 : decode cX7_swap 84 = .ok (.iadd, 1) := by decide +kernel
theorem dX7_swap_85 : decode cX7_swap 85 = .ok (.iaload, 1) := by decide +kernel
theorem dX7_swap_86 : decode cX7_swap 86 = .ok (.iastore, 1) := by decide +kernel
theorem dX7_swap_87 : decode cX7_swap 87 = .ok (.aload_n 0, 1) := by decide +kernel
theorem dX7_swap_88 : decode cX7_swap 88 = .ok (.getfield 7, 3) := by decide +kernel
theorem dX7_swap_91 : decode cX7_swap 91 = .ok (.sipush 156, 3) := by decide +kernel
theorem dX7_swap_94 : decode cX7_swap 94 = .ok (.iload 5, 2) := by decide +kernel
theorem dX7_swap_96 : decode cX7_swap 96 = .ok (.iadd, 1) := by decide +kernel
theorem dX7_swap_97 : decode cX7_swap 97 = .ok (.aload_n 0, 1) := by decide +kernel
theorem dX7_swap_98 : decode cX7_swap 98 = .ok (.getfield 7, 3) := by decide +kernel
theorem dX7_swap_101 : decode cX7_swap 101 = .ok (.bipush 12, 2) := by decide +kernel
theorem dX7_swap_103 : decode cX7_swap 103 = .ok (.iload 4, 2) := by decide +kernel
theorem dX7_swap_105 : decode cX7_swap 105 = .ok (.iadd, 1) := by decide +kernel
theorem dX7_swap_106 : decode cX7_swap 106 = .ok (.iaload, 1) := by decide +kernel
theorem dX7_swap_107 : decode cX7_swap 107 = .ok (.iastore, 1) := by decide +kernel
theorem dX7_swap_108 : decode cX7_swap 108 = .ok (.aload_n 0, 1) := by decide +kernel
theorem dX7_swap_109 : decode cX7_swap 109 = .ok (.sipush 144, 3) := by decide +kernel
theorem dX7_swap_112 : decode cX7_swap 112 = .ok (.invokevirtual 165, 3) := by decide +kernel
theorem dX7_swap_115 : decode cX7_swap 115 = .ok (.aload_n 0, 1) := by decide +kernel
theorem dX7_swap_116 : decode cX7_swap 116 = .ok (.getfield 149, 3) := by decide +kernel
theorem dX7_swap_119 : decode cX7_swap 119 = .ok (.iload_n 2, 1) := by decide +kernel
theorem dX7_swap_120 : decode cX7_swap 120 = .ok (.if_icmp .le 14, 3) := by decide +kernel
theorem dX7_swap_123 : decode cX7_swap 123 = .ok (.bipush 10, 2) := by decide +kernel
theorem dX7_swap_125 : decode cX7_swap 125 = .ok (.iload 4, 2) := by decide +kernel
theorem dX7_swap_127 : decode cX7_swap 127 = .ok (.imul, 1) := by decide +kernel
theorem dX7_swap_128 : decode cX7_swap 128 = .ok (.iload 5, 2) := by decide +kernel
theorem dX7_swap_130 : decode cX7_swap 130 = .ok (.iadd, 1) := by decide +kernel
theorem dX7_swap_131 : decode cX7_swap 131 = .ok (.goto 4, 3) := by decide +kernel
theorem dX7_swap_134 : decode cX7_swap 134 = .ok (.iload_n 3, 1) := by decide +kernel
theorem dX7_swap_135 : decode cX7_swap 135 = .ok (.istore_n 3, 1) := by decide +kernel
theorem dX7_swap_136 : decode cX7_swap 136 = .ok (.aload_n 0, 1) := by decide +kernel
theorem dX7_swap_137 : decode cX7_swap 137 = .ok (.getfield 149, 3) := by decide +kernel
theorem dX7_swap_140 : decode cX7_swap 140 = .ok (.iload_n 2, 1) := by decide +kernel
theorem dX7_swap_141 : decode cX7_swap 141 = .ok (.if_icmp .le 10, 3) := by decide +kernel
theorem dX7_swap_144 : decode cX7_swap 144 = .ok (.aload_n 0, 1) := by decide +kernel
theorem dX7_swap_145 : decode cX7_swap 145 = .ok (.getfield 149, 3) := by decide +kernel
theorem dX7_swap_148 : decode cX7_swap 148 = .ok (.goto 4, 3) := by decide +kernel
theorem dX7_swap_151 : decode cX7_swap 151 = .ok (.iload_n 2, 1) := by decide +kernel
theorem dX7_swap_152 : decode cX7_swap 152 = .ok (.istore_n 2, 1) := by decide +kernel
theorem dX7_swap_153 : decode cX7_swap 153 = .ok (.iinc 5 1, 3) := by decide +kernel
theorem dX7_swap_156 : decode cX7_swap 156 = .ok (.goto (-110), 3) := by decide +kernel
theorem dX7_swap_159 : decode cX7_swap 159 = .ok (.iinc 4 1, 3) := by decide +kernel
theorem dX7_swap_162 : decode cX7_swap 162 = .ok (.goto (-134), 3) := by decide +kernel
theorem dX7_swap_165 : decode cX7_swap 165 = .ok (.iload_n 3, 1) := by decide +kernel
theorem dX7_swap_166 : decode cX7_swap 166 = .ok (.bipush (-4), 2) := by decide +kernel
theorem dX7_swap_168 : decode cX7_swap 168 = .ok (.if_icmp .eq 7, 3) := by decide +kernel
theorem dX7_swap_171 : decode cX7_swap 171 = .ok (.iload_n 1, 1) := by decide +kernel
theorem dX7_swap_172 : decode cX7_swap 172 = .ok (.ifCond .ne 7, 3) := by decide +kernel
theorem dX7_swap_175 : decode cX7_swap 175 = .ok (.iload_n 3, 1) := by decide +kernel
theorem dX7_swap_176 : decode cX7_swap 176 = .ok (.goto 4, 3) := by decide +kernel
theorem dX7_swap_179 : decode cX7_swap 179 = .ok (.iload_n 2, 1) := by decide +kernel
theorem dX7_swap_180 : decode cX7_swap 180 = .ok (.ireturn, 1) := by decide +kernel
end
section
theorem dX7_lose_0 : decode cX7_lose 0 = .ok (.iload_n 1, 1) := by decide +kernel
theorem dX7_lose_1 : decode cX7_lose 1 = .ok (.i2l, 1) := by decide +kernel
theorem dX7_lose_2 : decode cX7_lose 2 = .ok (.lconst 0, 1) := by decide +kernel
theorem dX7_lose_3 : decode cX7_lose 3 = .ok (.lconst 1, 1) := by decide +kernel
theorem dX7_lose_4 : decode cX7_lose 4 = .ok (.invokestatic 49, 3) := by decide +kernel
theorem dX7_lose_7 : decode cX7_lose 7 = .ok (.ifCond .ne 5, 3) := by decide +kernel
theorem dX7_lose_10 : decode cX7_lose 10 = .ok (.iconst (-1), 1) := by decide +kernel
theorem dX7_lose_11 : decode cX7_lose 11 = .ok (.ireturn, 1) := by decide +kernel
theorem dX7_lose_12 : decode cX7_lose 12 = .ok (.aload_n 0, 1) := by decide +kernel
theorem dX7_lose_13 : decode cX7_lose 13 = .ok (.iconst 0, 1) := by decide +kernel
theorem dX7_lose_14 : decode cX7_lose 14 = .ok (.invokevirtual 165, 3) := by decide +kernel
theorem dX7_lose_17 : decode cX7_lose 17 = .ok (.aload_n 0, 1) := by decide +kernel
theorem dX7_lose_18 : decode cX7_lose 18 = .ok (.getfield 155, 3) := by decide +kernel
theorem dX7_lose_21 : decode cX7_lose 21 = .ok (.istore_n 2, 1) := by decide +kernel
theorem dX7_lose_22 : decode cX7_lose 22 = .ok (.bipush (-4), 2) := by decide +kernel
theorem dX7_lose_24 : decode cX7_lose 24 = .ok (.istore_n 3, 1) := by decide +kernel
theorem dX7_lose_25 : decode cX7_lose 25 = .ok (.iconst 0, 1) := by decide +kernel
theorem dX7_lose_26 : decode cX7_lose 26 = .ok (.istore 4, 2) := by decide +kernel
theorem dX7_lose_28 : decode cX7_lose 28 = .ok (.iload 4, 2) := by decide +kernel
theorem dX7_lose_30 : decode cX7_lose 30 = .ok (.aload_n 0, 1) := by decide +kernel
theorem dX7_lose_31 : decode cX7_lose 31 = .ok (.getfield 7, 3) := by decide +kernel
theorem dX7_lose_34 : decode cX7_lose 34 = .ok (.bipush 24, 2) := by decide +kernel
theorem dX7_lose_36 : decode cX7_lose 36 = .ok (.iaload, 1) := by decide +kernel
theorem dX7_lose_37 : decode cX7_lose 37 = .ok (.if_icmp .ge 59, 3) := by decide +kernel
theorem dX7_lose_40 : decode cX7_lose 40 = .ok (.aload_n 0, 1) := by decide +kernel
theorem dX7_lose_41 : decode cX7_lose 41 = .ok (.iconst 1, 1) := by decide +kernel
theorem dX7_lose_42 : decode cX7_lose 42 = .ok (.iload 4, 2) := by decide +kernel
theorem dX7_lose_44 : decode cX7_lose 44 = .ok (.ishl, 1) := by decide +kernel
theorem dX7_lose_45 : decode cX7_lose 45 = .ok (.putfield 132, 3) := by decide +kernel
theorem dX7_lose_48 : decode cX7_lose 48 = .ok (.aload_n 0, 1) := by decide +kernel
theorem dX7_lose_49 : decode cX7_lose 49 = .ok (.iconst 0, 1) := by decide +kernel
theorem dX7_lose_50 : decode cX7_lose 50 = .ok (.invokevirtual 165, 3) := by decide +kernel
theorem dX7_lose_53 : decode cX7_lose 53 = .ok (.aload_n 0, 1) := by decide +kernel
theorem dX7_lose_54 : decode cX7_lose 54 = .ok (.iconst 0, 1) := by decide +kernel
theorem dX7_lose_55 : decode cX7_lose 55 = .ok (.putfield 132, 3) := by decide +kernel
theorem dX7_lose_58 : decode cX7_lose 58 = .ok (.aload_n 0, 1) := by decide +kernel
theorem dX7_lose_59 : decode cX7_lose 59 = .ok (.getfield 155, 3) := by decide +kernel
theorem dX7_lose_62 : decode cX7_lose 62 = .ok (.iload_n 2, 1) := by decide +kernel
theorem dX7_lose_63 : decode cX7_lose 63 = .ok (.if_icmp .le 8, 3) := by decide +kernel
theorem dX7_lose_66 : decode cX7_lose 66 = .ok (.iload 4, 2) := by decide +kernel
theorem dX7_lose_68 : decode cX7_lose 68 = .ok (.goto 4, 3) := by decide +kernel
theorem dX7_lose_71 : decode cX7_lose 71 = .ok (.iload_n 3, 1) := by decide +kernel
theorem dX7_lose_72 : decode cX7_lose 72 = .ok (.istore_n 3, 1) := by decide +kernel
theorem dX7_lose_73 : decode cX7_lose 73 = .ok (.aload_n 0, 1) := by decide +kernel
theorem dX7_lose_74 : decode cX7_lose 74 = .ok (.getfield 155, 3) := by decide +kernel
theorem dX7_lose_77 : decode cX7_lose 77 = .ok (.iload_n 2, 1) := by decide +kernel
theorem dX7_lose_78 : decode cX7_lose 78 = .ok (.if_icmp .le 10, 3) := by decide +kernel
theorem dX7_lose_81 : decode cX7_lose 81 = .ok (.aload_n 0, 1) := by decide +kernel
theorem dX7_lose_82 : decode cX7_lose 82 = .ok (.getfield 155, 3) := by decide +kernel
theorem dX7_lose_85 : decode cX7_lose 85 = .ok (.goto 4, 3) := by decide +kernel
theorem dX7_lose_88 : decode cX7_lose 88 = .ok (.iload_n 2, 1) := by decide +kernel
theorem dX7_lose_89 : decode cX7_lose 89 = .ok (.istore_n 2, 1) := by decide +kernel
theorem dX7_lose_90 : decode cX7_lose 90 = .ok (.iinc 4 1, 3) := by decide +kernel
theorem dX7_lose_93 : decode cX7_lose 93 = .ok (.goto (-65), 3) := by decide +kernel
theorem dX7_lose_96 : decode cX7_lose 96 = .ok (.iload_n 3, 1) := by decide +kernel
theorem dX7_lose_97 : decode cX7_lose 97 = .ok (.bipush (-4), 2) := by decide +kernel
theorem dX7_lose_99 : decode cX7_lose 99 = .ok (.if_icmp .eq 7, 3) := by decide +kernel
theorem dX7_lose_102 : decode cX7_lose 102 = .ok (.iload_n 1, 1) := by decide +kernel
theorem dX7_lose_103 : decode cX7_lose 103 = .ok (.ifCond .ne 7, 3) := by decide +kernel
theorem dX7_lose_106 : decode cX7_lose 106 = .ok (.iload_n 3, 1) := by decide +kernel
theorem dX7_lose_107 : decode cX7_lose 107 = .ok (.goto 4, 3) := by decide +kernel
theorem dX7_lose_110 : decode cX7_lose 110 = .ok (.iload_n 2, 1) := by decide +kernel
theorem dX7_lose_111 : decode cX7_lose 111 = .ok (.ireturn, 1) := by decide +kernel
theorem dX7_need_0 : decode cX7_need 0 = .ok (.aload_n 0, 1) := by decide +kernel
theorem dX7_need_1 : decode cX7_need 1 = .ok (.iload_n 1, 1) := by decide +kernel
theorem dX7_need_2 : decode cX7_need 2 = .ok (.invokevirtual 168, 3) := by decide +kernel
theorem dX7_need_5 : decode cX7_need 5 = .ok (.ifCond .eq 11, 3) := by decide +kernel
theorem dX7_need_8 : decode cX7_need 8 = .ok (.aload_n 0, 1) := by decide +kernel
theorem dX7_need_9 : decode cX7_need 9 = .ok (.iload_n 2, 1) := by decide +kernel
theorem dX7_need_10 : decode cX7_need 10 = .ok (.invokevirtual 178, 3) := by decide +kernel
theorem dX7_need_13 : decode cX7_need 13 = .ok (.ifCond .ne 5, 3) := by decide +kernel
theorem dX7_need_16 : decode cX7_need 16 = .ok (.iconst (-1), 1) := by decide +kernel
theorem dX7_need_17 : decode cX7_need 17 = .ok (.ireturn, 1) := by decide +kernel
theorem dX7_need_18 : decode cX7_need 18 = .ok (.aload_n 0, 1) := by decide +kernel
theorem dX7_need_19 : decode cX7_need 19 = .ok (.iconst 0, 1) := by decide +kernel
theorem dX7_need_20 : decode cX7_need 20 = .ok (.sipush 144, 3) := by decide +kernel
theorem dX7_need_23 : decode cX7_need 23 = .ok (.invokevirtual 209, 3) := by decide +kernel
theorem dX7_need_26 : decode cX7_need 26 = .ok (.iconst 1, 1) := by decide +kernel
theorem dX7_need_27 : decode cX7_need 27 = .ok (.istore_n 3, 1) := by decide +kernel
theorem dX7_need_28 : decode cX7_need 28 = .ok (.iload_n 3, 1) := by decide +kernel
theorem dX7_need_29 : decode cX7_need 29 = .ok (.bipush 9, 2) := by decide +kernel
theorem dX7_need_31 : decode cX7_need 31 = .ok (.if_icmp .gt 41, 3) := by decide +kernel
theorem dX7_need_34 : decode cX7_need 34 = .ok (.aload_n 0, 1) := by decide +kernel
theorem dX7_need_35 : decode cX7_need 35 = .ok (.getfield 7, 3) := by decide +kernel
theorem dX7_need_38 : decode cX7_need 38 = .ok (.sipush 162, 3) := by decide +kernel
theorem dX7_need_41 : decode cX7_need 41 = .ok (.iload_n 1, 1) := by decide +kernel
theorem dX7_need_42 : decode cX7_need 42 = .ok (.iadd, 1) := by decide +kernel
theorem dX7_need_43 : decode cX7_need 43 = .ok (.iload_n 3, 1) := by decide +kernel
theorem dX7_need_44 : decode cX7_need 44 = .ok (.iastore, 1) := by decide +kernel
theorem dX7_need_45 : decode cX7_need 45 = .ok (.aload_n 0, 1) := by decide +kernel
theorem dX7_need_46 : decode cX7_need 46 = .ok (.sipush 144, 3) := by decide +kernel
theorem dX7_need_49 : decode cX7_need 49 = .ok (.invokevirtual 165, 3) := by decide +kernel
theorem dX7_need_52 : decode cX7_need 52 = .ok (.aload_n 0, 1) := by decide +kernel
theorem dX7_need_53 : decode cX7_need 53 = .ok (.sipush 144, 3) := by decide +kernel
theorem dX7_need_56 : decode cX7_need 56 = .ok (.iload_n 2, 1) := by decide +kernel
theorem dX7_need_57 : decode cX7_need 57 = .ok (.iload_n 1, 1) := by decide +kernel
theorem dX7_need_58 : decode cX7_need 58 = .ok (.invokevirtual 162, 3) := by decide +kernel
theorem dX7_need_61 : decode cX7_need 61 = .ok (.ifCond .eq 5, 3) := by decide +kernel
theorem dX7_need_64 : decode cX7_need 64 = .ok (.iload_n 3, 1) := by decide +kernel
theorem dX7_need_65 : decode cX7_need 65 = .ok (.ireturn, 1) := by decide +kernel
theorem dX7_need_66 : decode cX7_need 66 = .ok (.iinc 3 1, 3) := by decide +kernel
theorem dX7_need_69 : decode cX7_need 69 = .ok (.goto (-41), 3) := by decide +kernel
theorem dX7_need_72 : decode cX7_need 72 = .ok (.bipush (-4), 2) := by decide +kernel
theorem dX7_need_74 : decode cX7_need 74 = .ok (.ireturn, 1) := by decide +kernel
theorem dX7_dry_0 : decode cX7_dry 0 = .ok (.aload_n 0, 1) := by decide +kernel
theorem dX7_dry_1 : decode cX7_dry 1 = .ok (.iload_n 1, 1) := by decide +kernel
theorem dX7_dry_2 : decode cX7_dry 2 = .ok (.invokevirtual 178, 3) := by decide +kernel
theorem dX7_dry_5 : decode cX7_dry 5 = .ok (.ifCond .ne 5, 3) := by decide +kernel
theorem dX7_dry_8 : decode cX7_dry 8 = .ok (.iconst (-1), 1) := by decide +kernel
theorem dX7_dry_9 : decode cX7_dry 9 = .ok (.ireturn, 1) := by decide +kernel
theorem dX7_dry_10 : decode cX7_dry 10 = .ok (.aload_n 0, 1) := by decide +kernel
theorem dX7_dry_11 : decode cX7_dry 11 = .ok (.iconst 0, 1) := by decide +kernel
theorem dX7_dry_12 : decode cX7_dry 12 = .ok (.sipush 144, 3) := by decide +kernel
theorem dX7_dry_15 : decode cX7_dry 15 = .ok (.invokevirtual 209, 3) := by decide +kernel
theorem dX7_dry_18 : decode cX7_dry 18 = .ok (.bipush 9, 2) := by decide +kernel
theorem dX7_dry_20 : decode cX7_dry 20 = .ok (.istore_n 2, 1) := by decide +kernel
theorem dX7_dry_21 : decode cX7_dry 21 = .ok (.iload_n 2, 1) := by decide +kernel
theorem dX7_dry_22 : decode cX7_dry 22 = .ok (.ifCond .lt 35, 3) := by decide +kernel
theorem dX7_dry_25 : decode cX7_dry 25 = .ok (.aload_n 0, 1) := by decide +kernel
theorem dX7_dry_26 : decode cX7_dry 26 = .ok (.getfield 7, 3) := by decide +kernel
theorem dX7_dry_29 : decode cX7_dry 29 = .ok (.sipush 179, 3) := by decide +kernel
theorem dX7_dry_32 : decode cX7_dry 32 = .ok (.iload_n 2, 1) := by decide +kernel
theorem dX7_dry_33 : decode cX7_dry 33 = .ok (.iastore, 1) := by decide +kernel
theorem dX7_dry_34 : decode cX7_dry 34 = .ok (.aload_n 0, 1) := by decide +kernel
theorem dX7_dry_35 : decode cX7_dry 35 = .ok (.sipush 144, 3) := by decide +kernel
theorem dX7_dry_38 : decode cX7_dry 38 = .ok (.invokevirtual 165, 3) := by decide +kernel
theorem dX7_dry_41 : decode cX7_dry 41 = .ok (.aload_n 0, 1) := by decide +kernel
theorem dX7_dry_42 : decode cX7_dry 42 = .ok (.iload_n 1, 1) := by decide +kernel
theorem dX7_dry_43 : decode cX7_dry 43 = .ok (.invokevirtual 183, 3) := by decide +kernel
theorem dX7_dry_46 : decode cX7_dry 46 = .ok (.ifCond .le 5, 3) := by decide +kernel
theorem dX7_dry_49 : decode cX7_dry 49 = .ok (.iload_n 2, 1) := by decide +kernel
theorem dX7_dry_50 : decode cX7_dry 50 = .ok (.ireturn, 1) := by decide +kernel
theorem dX7_dry_51 : decode cX7_dry 51 = .ok (.iinc 2 (-1), 3) := by decide +kernel
theorem dX7_dry_54 : decode cX7_dry 54 = .ok (.goto (-33), 3) := by decide +kernel
theorem dX7_dry_57 : decode cX7_dry 57 = .ok (.bipush (-4), 2) := by decide +kernel
theorem dX7_dry_59 : decode cX7_dry 59 = .ok (.ireturn, 1) := by decide +kernel
theorem dX7_kind_0 : decode cX7_kind 0 = .ok (.aload_n 0, 1) := by decide +kernel
theorem dX7_kind_1 : decode cX7_kind 1 = .ok (.iload_n 1, 1) := by decide +kernel
theorem dX7_kind_2 : decode cX7_kind 2 = .ok (.invokevirtual 168, 3) := by decide +kernel
theorem dX7_kind_5 : decode cX7_kind 5 = .ok (.ifCond .eq 13, 3) := by decide +kernel
theorem dX7_kind_8 : decode cX7_kind 8 = .ok (.iload_n 2, 1) := by decide +kernel
theorem dX7_kind_9 : decode cX7_kind 9 = .ok (.i2l, 1) := by decide +kernel
theorem dX7_kind_10 : decode cX7_kind 10 = .ok (.lconst 0, 1) := by decide +kernel
theorem dX7_kind_11 : decode cX7_kind 11 = .ok (.lconst 1, 1) := by decide +kernel
theorem dX7_kind_12 : decode cX7_kind 12 = .ok (.invokestatic 49, 3) := by decide +kernel
theorem dX7_kind_15 : decode cX7_kind 15 = .ok (.ifCond .ne 5, 3) := by decide +kernel
theorem dX7_kind_18 : decode cX7_kind 18 = .ok (.iconst (-1), 1) := by decide +kernel
theorem dX7_kind_19 : decode cX7_kind 19 = .ok (.ireturn, 1) := by decide +kernel
theorem dX7_kind_20 : decode cX7_kind 20 = .ok (.iconst (-1), 1) := by decide +kernel
theorem dX7_kind_21 : decode cX7_kind 21 = .ok (.istore_n 3, 1) := by decide +kernel
theorem dX7_kind_22 : decode cX7_kind 22 = .ok (.iconst 0, 1) := by decide +kernel
theorem dX7_kind_23 : decode cX7_kind 23 = .ok (.istore 4, 2) := by decide +kernel
theorem dX7_kind_25 : decode cX7_kind 25 = .ok (.aload_n 0, 1) := by decide +kernel
theorem dX7_kind_26 : decode cX7_kind 26 = .ok (.iconst 0, 1) := by decide +kernel
theorem dX7_kind_27 : decode cX7_kind 27 = .ok (.sipush 144, 3) := by decide +kernel
theorem dX7_kind_30 : decode cX7_kind 30 = .ok (.invokevirtual 209, 3) := by decide +kernel
theorem dX7_kind_33 : decode cX7_kind 33 = .ok (.iconst 0, 1) := by decide +kernel
theorem dX7_kind_34 : decode cX7_kind 34 = .ok (.istore 5, 2) := by decide +kernel
theorem dX7_kind_36 : decode cX7_kind 36 = .ok (.iload 5, 2) := by decide +kernel
theorem dX7_kind_38 : decode cX7_kind 38 = .ok (.iconst 4, 1) := by decide +kernel
theorem dX7_kind_39 : decode cX7_kind 39 = .ok (.if_icmp .ge 97, 3) := by decide +kernel
theorem dX7_kind_42 : decode cX7_kind 42 = .ok (.aload_n 0, 1) := by decide +kernel
theorem dX7_kind_43 : decode cX7_kind 43 = .ok (.getfield 7, 3) := by decide +kernel
theorem dX7_kind_46 : decode cX7_kind 46 = .ok (.sipush 144, 3) := by decide +kernel
theorem dX7_kind_49 : decode cX7_kind 49 = .ok (.iload_n 1, 1) := by decide +kernel
theorem dX7_kind_50 : decode cX7_kind 50 = .ok (.iadd, 1) := by decide +kernel
theorem dX7_kind_51 : decode cX7_kind 51 = .ok (.iload 5, 2) := by decide +kernel
theorem dX7_kind_53 : decode cX7_kind 53 = .ok (.iastore, 1) := by decide +kernel
theorem dX7_kind_54 : decode cX7_kind 54 = .ok (.aload_n 0, 1) := by decide +kernel
theorem dX7_kind_55 : decode cX7_kind 55 = .ok (.sipush 144, 3) := by decide +kernel
theorem dX7_kind_58 : decode cX7_kind 58 = .ok (.invokevirtual 165, 3) := by decide +kernel
theorem dX7_kind_61 : decode cX7_kind 61 = .ok (.iconst 0, 1) := by decide +kernel
theorem dX7_kind_62 : decode cX7_kind 62 = .ok (.istore 6, 2) := by decide +kernel
theorem dX7_kind_64 : decode cX7_kind 64 = .ok (.iconst 0, 1) := by decide +kernel
theorem dX7_kind_65 : decode cX7_kind 65 = .ok (.istore 7, 2) := by decide +kernel
theorem dX7_kind_67 : decode cX7_kind 67 = .ok (.iload 7, 2) := by decide +kernel
theorem dX7_kind_69 : decode cX7_kind 69 = .ok (.aload_n 0, 1) := by decide +kernel
theorem dX7_kind_70 : decode cX7_kind 70 = .ok (.getfield 7, 3) := by decide +kernel
theorem dX7_kind_73 : decode cX7_kind 73 = .ok (.bipush 33, 2) := by decide +kernel
theorem dX7_kind_75 : decode cX7_kind 75 = .ok (.iaload, 1) := by decide +kernel
theorem dX7_kind_76 : decode cX7_kind 76 = .ok (.if_icmp .ge 26, 3) := by decide +kernel
theorem dX7_kind_79 : decode cX7_kind 79 = .ok (.iload 6, 2) := by decide +kernel
theorem dX7_kind_81 : decode cX7_kind 81 = .ok (.aload_n 0, 1) := by decide +kernel
theorem dX7_kind_82 : decode cX7_kind 82 = .ok (.getfield 25, 3) := by decide +kernel
theorem dX7_kind_85 : decode cX7_kind 85 = .ok (.bipush 6, 2) := by decide +kernel
theorem dX7_kind_87 : decode cX7_kind 87 = .ok (.iload 7, 2) := by decide +kernel
theorem dX7_kind_89 : decode cX7_kind 89 = .ok (.imul, 1) := by decide +kernel
theorem dX7_kind_90 : decode cX7_kind 90 = .ok (.iload_n 1, 1) := by decide +kernel
theorem dX7_kind_91 : decode cX7_kind 91 = .ok (.iadd, 1) := by decide +kernel
theorem dX7_kind_92 : decode cX7_kind 92 = .ok (.iaload, 1) := by decide +kernel
theorem dX7_kind_93 : decode cX7_kind 93 = .ok (.iadd, 1) := by decide +kernel
theorem dX7_kind_94 : decode cX7_kind 94 = .ok (.istore 6, 2) := by decide +kernel
theorem dX7_kind_96 : decode cX7_kind 96 = .ok (.iinc 7 1, 3) := by decide +kernel
theorem dX7_kind_99 : decode cX7_kind 99 = .ok (.goto (-32), 3) := by decide +kernel
theorem dX7_kind_102 : decode cX7_kind 102 = .ok (.iload 6, 2) := by decide +kernel
theorem dX7_kind_104 : decode cX7_kind 104 = .ok (.iload_n 3, 1) := by decide +kernel
theorem dX7_kind_105 : decode cX7_kind 105 = .ok (.if_icmp .le 8, 3) := by decide +kernel
theorem dX7_kind_108 : decode cX7_kind 108 = .ok (.iload 5, 2) := by decide +kernel
theorem dX7_kind_110 : decode cX7_kind 110 = .ok (.goto 5, 3) := by decide +kernel
theorem dX7_kind_113 : decode cX7_kind 113 = .ok (.iload 4, 2) := by decide +kernel
theorem dX7_kind_115 : decode cX7_kind 115 = .ok (.istore 4, 2) := by decide +kernel
theorem dX7_kind_117 : decode cX7_kind 117 = .ok (.iload 6, 2) := by decide +kernel
theorem dX7_kind_119 : decode cX7_kind 119 = .ok (.iload_n 3, 1) := by decide +kernel
theorem dX7_kind_120 : decode cX7_kind 120 = .ok (.if_icmp .le 8, 3) := by decide +kernel
theorem dX7_kind_123 : decode cX7_kind 123 = .ok (.iload 6, 2) := by decide +kernel
theorem dX7_kind_125 : decode cX7_kind 125 = .ok (.goto 4, 3) := by decide +kernel
theorem dX7_kind_128 : decode cX7_kind 128 = .ok (.iload_n 3, 1) := by decide +kernel
theorem dX7_kind_129 : decode cX7_kind 129 = .ok (.istore_n 3, 1) := by decide +kernel
theorem dX7_kind_130 : decode cX7_kind 130 = .ok (.iinc 5 1, 3) := by decide +kernel
theorem dX7_kind_133 : decode cX7_kind 133 = .ok (.goto (-97), 3) := by decide +kernel
theorem dX7_kind_136 : decode cX7_kind 136 = .ok (.iload_n 2, 1) := by decide +kernel
theorem dX7_kind_137 : decode cX7_kind 137 = .ok (.ifCond .ne 8, 3) := by decide +kernel
theorem dX7_kind_140 : decode cX7_kind 140 = .ok (.iload 4, 2) := by decide +kernel
theorem dX7_kind_142 : decode cX7_kind 142 = .ok (.goto 4, 3) := by decide +kernel
theorem dX7_kind_145 : decode cX7_kind 145 = .ok (.iload_n 3, 1) := by decide +kernel
theorem dX7_kind_146 : decode cX7_kind 146 = .ok (.ireturn, 1) := by decide +kernel
theorem dX7_lowest_0 : decode cX7_lowest 0 = .ok (.lload_n 0, 1) := by decide +kernel
theorem dX7_lowest_1 : decode cX7_lowest 1 = .ok (.lstore 5, 2) := by decide +kernel
theorem dX7_lowest_3 : decode cX7_lowest 3 = .ok (.lload_n 2, 1) := by decide +kernel
theorem dX7_lowest_4 : decode cX7_lowest 4 = .ok (.lstore 7, 2) := by decide +kernel
theorem dX7_lowest_6 : decode cX7_lowest 6 = .ok (.lload 7, 2) := by decide +kernel
theorem dX7_lowest_8 : decode cX7_lowest 8 = .ok (.lconst 0, 1) := by decide +kernel
theorem dX7_lowest_9 : decode cX7_lowest 9 = .ok (.lcmp, 1) := by decide +kernel
theorem dX7_lowest_10 : decode cX7_lowest 10 = .ok (.ifCond .eq 21, 3) := by decide +kernel
theorem dX7_lowest_13 : decode cX7_lowest 13 = .ok (.lload 5, 2) := by decide +kernel
theorem dX7_lowest_15 : decode cX7_lowest 15 = .ok (.lload 7, 2) := by decide +kernel
theorem dX7_lowest_17 : decode cX7_lowest 17 = .ok (.lrem, 1) := by decide +kernel
theorem dX7_lowest_18 : decode cX7_lowest 18 = .ok (.lstore 9, 2) := by decide +kernel
theorem dX7_lowest_20 : decode cX7_lowest 20 = .ok (.lload 7, 2) := by decide +kernel
theorem dX7_lowest_22 : decode cX7_lowest 22 = .ok (.lstore 5, 2) := by decide +kernel
theorem dX7_lowest_24 : decode cX7_lowest 24 = .ok (.lload 9, 2) := by decide +kernel
theorem dX7_lowest_26 : decode cX7_lowest 26 = .ok (.lstore 7, 2) := by decide +kernel
theorem dX7_lowest_28 : decode cX7_lowest 28 = .ok (.goto (-22), 3) := by decide +kernel
theorem dX7_lowest_31 : decode cX7_lowest 31 = .ok (.iload 4, 2) := by decide +kernel
theorem dX7_lowest_33 : decode cX7_lowest 33 = .ok (.ifCond .ne 7, 3) := by decide +kernel
theorem dX7_lowest_36 : decode cX7_lowest 36 = .ok (.lload_n 0, 1) := by decide +kernel
theorem dX7_lowest_37 : decode cX7_lowest 37 = .ok (.goto 4, 3) := by decide +kernel
theorem dX7_lowest_40 : decode cX7_lowest 40 = .ok (.lload_n 2, 1) := by decide +kernel
theorem dX7_lowest_41 : decode cX7_lowest 41 = .ok (.lload 5, 2) := by decide +kernel
theorem dX7_lowest_43 : decode cX7_lowest 43 = .ok (.ldiv, 1) := by decide +kernel
theorem dX7_lowest_44 : decode cX7_lowest 44 = .ok (.lreturn, 1) := by decide +kernel
theorem dX7_byDamp_0 : decode cX7_byDamp 0 = .ok (.lconst 0, 1) := by decide +kernel
theorem dX7_byDamp_1 : decode cX7_byDamp 1 = .ok (.lstore 5, 2) := by decide +kernel
theorem dX7_byDamp_3 : decode cX7_byDamp 3 = .ok (.lconst 1, 1) := by decide +kernel
theorem dX7_byDamp_4 : decode cX7_byDamp 4 = .ok (.lstore 7, 2) := by decide +kernel
theorem dX7_byDamp_6 : decode cX7_byDamp 6 = .ok (.iconst 0, 1) := by decide +kernel
theorem dX7_byDamp_7 : decode cX7_byDamp 7 = .ok (.istore 9, 2) := by decide +kernel
theorem dX7_byDamp_9 : decode cX7_byDamp 9 = .ok (.iload 9, 2) := by decide +kernel
theorem dX7_byDamp_11 : decode cX7_byDamp 11 = .ok (.aload_n 0, 1) := by decide +kernel
theorem dX7_byDamp_12 : decode cX7_byDamp 12 = .ok (.getfield 7, 3) := by decide +kernel
theorem dX7_byDamp_15 : decode cX7_byDamp 15 = .ok (.bipush 24, 2) := by decide +kernel
theorem dX7_byDamp_17 : decode cX7_byDamp 17 = .ok (.iaload, 1) := by decide +kernel
theorem dX7_byDamp_18 : decode cX7_byDamp 18 = .ok (.if_icmp .ge 17, 3) := by decide +kernel
theorem dX7_byDamp_21 : decode cX7_byDamp 21 = .ok (.lload 7, 2) := by decide +kernel
theorem dX7_byDamp_23 : decode cX7_byDamp 23 = .ok (.ldc2_w 216, 3) := by decide +kernel
theorem dX7_byDamp_26 : decode cX7_byDamp 26 = .ok (.lmul, 1) := by decide +kernel
theorem dX7_byDamp_27 : decode cX7_byDamp 27 = .ok (.lstore 7, 2) := by decide +kernel
theorem dX7_byDamp_29 : decode cX7_byDamp 29 = .ok (.iinc 9 1, 3) := by decide +kernel
theorem dX7_byDamp_32 : decode cX7_byDamp 32 = .ok (.goto (-23), 3) := by decide +kernel
theorem dX7_byDamp_35 : decode cX7_byDamp 35 = .ok (.iconst 0, 1) := by decide +kernel
theorem dX7_byDamp_36 : decode cX7_byDamp 36 = .ok (.istore 9, 2) := by decide +kernel
theorem dX7_byDamp_38 : decode cX7_byDamp 38 = .ok (.iload 9, 2) := by decide +kernel
theorem dX7_byDamp_40 : decode cX7_byDamp 40 = .ok (.iconst 1, 1) := by decide +kernel
theorem dX7_byDamp_41 : decode cX7_byDamp 41 = .ok (.aload_n 0, 1) := by decide +kernel
theorem dX7_byDamp_42 : decode cX7_byDamp 42 = .ok (.getfield 7, 3) := by decide +kernel
theorem dX7_byDamp_45 : decode cX7_byDamp 45 = .ok (.bipush 24, 2) := by decide +kernel
theorem dX7_byDamp_47 : decode cX7_byDamp 47 = .ok (.iaload, 1) := by decide +kernel
theorem dX7_byDamp_48 : decode cX7_byDamp 48 = .ok (.ishl, 1) := by decide +kernel
theorem dX7_byDamp_49 : decode cX7_byDamp 49 = .ok (.if_icmp .ge 114, 3) := by decide +kernel
theorem dX7_byDamp_52 : decode cX7_byDamp 52 = .ok (.lconst 1, 1) := by decide +kernel
theorem dX7_byDamp_53 : decode cX7_byDamp 53 = .ok (.lstore 10, 2) := by decide +kernel
theorem dX7_byDamp_55 : decode cX7_byDamp 55 = .ok (.iconst 0, 1) := by decide +kernel
theorem dX7_byDamp_56 : decode cX7_byDamp 56 = .ok (.istore 12, 2) := by decide +kernel
theorem dX7_byDamp_58 : decode cX7_byDamp 58 = .ok (.iload 12, 2) := by decide +kernel
theorem dX7_byDamp_60 : decode cX7_byDamp 60 = .ok (.aload_n 0, 1) := by decide +kernel
theorem dX7_byDamp_61 : decode cX7_byDamp 61 = .ok (.getfield 7, 3) := by decide +kernel
theorem dX7_byDamp_64 : decode cX7_byDamp 64 = .ok (.bipush 24, 2) := by decide +kernel
theorem dX7_byDamp_66 : decode cX7_byDamp 66 = .ok (.iaload, 1) := by decide +kernel
theorem dX7_byDamp_67 : decode cX7_byDamp 67 = .ok (.if_icmp .ge 35, 3) := by decide +kernel
theorem dX7_byDamp_70 : decode cX7_byDamp 70 = .ok (.lload 10, 2) := by decide +kernel
theorem dX7_byDamp_72 : decode cX7_byDamp 72 = .ok (.iload 9, 2) := by decide +kernel
theorem dX7_byDamp_74 : decode cX7_byDamp 74 = .ok (.iload 12, 2) := by decide +kernel
theorem dX7_byDamp_76 : decode cX7_byDamp 76 = .ok (.ishr, 1) := by decide +kernel
theorem dX7_byDamp_77 : decode cX7_byDamp 77 = .ok (.iconst 1, 1) := by decide +kernel
theorem dX7_byDamp_78 : decode cX7_byDamp 78 = .ok (.iand, 1) := by decide +kernel
theorem dX7_byDamp_79 : decode cX7_byDamp 79 = .ok (.iconst 1, 1) := by decide +kernel
theorem dX7_byDamp_80 : decode cX7_byDamp 80 = .ok (.if_icmp .ne 8, 3) := by decide +kernel
theorem dX7_byDamp_83 : decode cX7_byDamp 83 = .ok (.iload_n 1, 1) := by decide +kernel
theorem dX7_byDamp_84 : decode cX7_byDamp 84 = .ok (.i2l, 1) := by decide +kernel
theorem dX7_byDamp_85 : decode cX7_byDamp 85 = .ok (.goto 8, 3) := by decide +kernel
theorem dX7_byDamp_88 : decode cX7_byDamp 88 = .ok (.bipush 10, 2) := by decide +kernel
theorem dX7_byDamp_90 : decode cX7_byDamp 90 = .ok (.iload_n 1, 1) := by decide +kernel
theorem dX7_byDamp_91 : decode cX7_byDamp 91 = .ok (.isub, 1) := by decide +kernel
theorem dX7_byDamp_92 : decode cX7_byDamp 92 = .ok (.i2l, 1) := by decide +kernel
theorem dX7_byDamp_93 : decode cX7_byDamp 93 = .ok (.lmul, 1) := by decide +kernel
theorem dX7_byDamp_94 : decode cX7_byDamp 94 = .ok (.lstore 10, 2) := by decide +kernel
theorem dX7_byDamp_96 : decode cX7_byDamp 96 = .ok (.iinc 12 1, 3) := by decide +kernel
theorem dX7_byDamp_99 : decode cX7_byDamp 99 = .ok (.goto (-41), 3) := by decide +kernel
theorem dX7_byDamp_102 : decode cX7_byDamp 102 = .ok (.lload 10, 2) := by decide +kernel
theorem dX7_byDamp_104 : decode cX7_byDamp 104 = .ok (.lconst 0, 1) := by decide +kernel
theorem dX7_byDamp_105 : decode cX7_byDamp 105 = .ok (.lcmp, 1) := by decide +kernel
theorem dX7_byDamp_106 : decode cX7_byDamp 106 = .ok (.ifCond .le 51, 3) := by decide +kernel
theorem dX7_byDamp_109 : decode cX7_byDamp 109 = .ok (.aload_n 0, 1) := by decide +kernel
theorem dX7_byDamp_110 : decode cX7_byDamp 110 = .ok (.iload 9, 2) := by decide +kernel
theorem dX7_byDamp_112 : decode cX7_byDamp 112 = .ok (.putfield 132, 3) := by decide +kernel
theorem dX7_byDamp_115 : decode cX7_byDamp 115 = .ok (.aload_n 0, 1) := by decide +kernel
theorem dX7_byDamp_116 : decode cX7_byDamp 116 = .ok (.iconst 0, 1) := by decide +kernel
theorem dX7_byDamp_117 : decode cX7_byDamp 117 = .ok (.invokevirtual 165, 3) := by decide +kernel
theorem dX7_byDamp_120 : decode cX7_byDamp 120 = .ok (.lload 5, 2) := by decide +kernel
theorem dX7_byDamp_122 : decode cX7_byDamp 122 = .ok (.lload 10, 2) := by decide +kernel
theorem dX7_byDamp_124 : decode cX7_byDamp 124 = .ok (.iload_n 2, 1) := by decide +kernel
theorem dX7_byDamp_125 : decode cX7_byDamp 125 = .ok (.bipush (-4), 2) := by decide +kernel
theorem dX7_byDamp_127 : decode cX7_byDamp 127 = .ok (.if_icmp .ne 10, 3) := by decide +kernel
theorem dX7_byDamp_130 : decode cX7_byDamp 130 = .ok (.aload_n 0, 1) := by decide +kernel
theorem dX7_byDamp_131 : decode cX7_byDamp 131 = .ok (.getfield 149, 3) := by decide +kernel
theorem dX7_byDamp_134 : decode cX7_byDamp 134 = .ok (.goto 18, 3) := by decide +kernel
theorem dX7_byDamp_137 : decode cX7_byDamp 137 = .ok (.aload_n 0, 1) := by decide +kernel
theorem dX7_byDamp_138 : decode cX7_byDamp 138 = .ok (.iconst 0, 1) := by decide +kernel
theorem dX7_byDamp_139 : decode cX7_byDamp 139 = .ok (.iload_n 2, 1) := by decide +kernel
theorem dX7_byDamp_140 : decode cX7_byDamp 140 = .ok (.iload_n 3, 1) := by decide +kernel
theorem dX7_byDamp_141 : decode cX7_byDamp 141 = .ok (.invokevirtual 162, 3) := by decide +kernel
theorem dX7_byDamp_144 : decode cX7_byDamp 144 = .ok (.ifCond .eq 7, 3) := by decide +kernel
theorem dX7_byDamp_147 : decode cX7_byDamp 147 = .ok (.iconst 1, 1) := by decide +kernel
theorem dX7_byDamp_148 : decode cX7_byDamp 148 = .ok (.goto 4, 3) := by decide +kernel
theorem dX7_byDamp_151 : decode cX7_byDamp 151 = .ok (.iconst 0, 1) := by decide +kernel
theorem dX7_byDamp_152 : decode cX7_byDamp 152 = .ok (.i2l, 1) := by decide +kernel
theorem dX7_byDamp_153 : decode cX7_byDamp 153 = .ok (.lmul, 1) := by decide +kernel
theorem dX7_byDamp_154 : decode cX7_byDamp 154 = .ok (.ladd, 1) := by decide +kernel
theorem dX7_byDamp_155 : decode cX7_byDamp 155 = .ok (.lstore 5, 2) := by decide +kernel
theorem dX7_byDamp_157 : decode cX7_byDamp 157 = .ok (.iinc 9 1, 3) := by decide +kernel
theorem dX7_byDamp_160 : decode cX7_byDamp 160 = .ok (.goto (-122), 3) := by decide +kernel
theorem dX7_byDamp_163 : decode cX7_byDamp 163 = .ok (.aload_n 0, 1) := by decide +kernel
theorem dX7_byDamp_164 : decode cX7_byDamp 164 = .ok (.iconst 0, 1) := by decide +kernel
theorem dX7_byDamp_165 : decode cX7_byDamp 165 = .ok (.putfield 132, 3) := by decide +kernel
theorem dX7_byDamp_168 : decode cX7_byDamp 168 = .ok (.lload 5, 2) := by decide +kernel
theorem dX7_byDamp_170 : decode cX7_byDamp 170 = .ok (.lload 7, 2) := by decide +kernel
theorem dX7_byDamp_172 : decode cX7_byDamp 172 = .ok (.iload 4, 2) := by decide +kernel
theorem dX7_byDamp_174 : decode cX7_byDamp 174 = .ok (.invokestatic 218, 3) := by decide +kernel
theorem dX7_byDamp_177 : decode cX7_byDamp 177 = .ok (.lreturn, 1) := by decide +kernel
theorem dX7_luck_0 : decode cX7_luck 0 = .ok (.iload_n 1, 1) := by decide +kernel
theorem dX7_luck_1 : decode cX7_luck 1 = .ok (.i2l, 1) := by decide +kernel
theorem dX7_luck_2 : decode cX7_luck 2 = .ok (.lconst 0, 1) := by decide +kernel
theorem dX7_luck_3 : decode cX7_luck 3 = .ok (.ldc2_w 216, 3) := by decide +kernel
theorem dX7_luck_6 : decode cX7_luck 6 = .ok (.invokestatic 49, 3) := by decide +kernel
theorem dX7_luck_9 : decode cX7_luck 9 = .ok (.ifCond .eq 42, 3) := by decide +kernel
theorem dX7_luck_12 : decode cX7_luck 12 = .ok (.aload_n 0, 1) := by decide +kernel
theorem dX7_luck_13 : decode cX7_luck 13 = .ok (.iload_n 2, 1) := by decide +kernel
theorem dX7_luck_14 : decode cX7_luck 14 = .ok (.invokevirtual 178, 3) := by decide +kernel
theorem dX7_luck_17 : decode cX7_luck 17 = .ok (.ifCond .eq 34, 3) := by decide +kernel
theorem dX7_luck_20 : decode cX7_luck 20 = .ok (.aload_n 0, 1) := by decide +kernel
theorem dX7_luck_21 : decode cX7_luck 21 = .ok (.iload_n 3, 1) := by decide +kernel
theorem dX7_luck_22 : decode cX7_luck 22 = .ok (.invokevirtual 168, 3) := by decide +kernel
theorem dX7_luck_25 : decode cX7_luck 25 = .ok (.ifCond .eq 26, 3) := by decide +kernel
theorem dX7_luck_28 : decode cX7_luck 28 = .ok (.iload 4, 2) := by decide +kernel
theorem dX7_luck_30 : decode cX7_luck 30 = .ok (.i2l, 1) := by decide +kernel
theorem dX7_luck_31 : decode cX7_luck 31 = .ok (.lconst 0, 1) := by decide +kernel
theorem dX7_luck_32 : decode cX7_luck 32 = .ok (.lconst 1, 1) := by decide +kernel
theorem dX7_luck_33 : decode cX7_luck 33 = .ok (.invokestatic 49, 3) := by decide +kernel
theorem dX7_luck_36 : decode cX7_luck 36 = .ok (.ifCond .eq 15, 3) := by decide +kernel
theorem dX7_luck_39 : decode cX7_luck 39 = .ok (.aload_n 0, 1) := by decide +kernel
theorem dX7_luck_40 : decode cX7_luck 40 = .ok (.iload_n 1, 1) := by decide +kernel
theorem dX7_luck_41 : decode cX7_luck 41 = .ok (.iload_n 2, 1) := by decide +kernel
theorem dX7_luck_42 : decode cX7_luck 42 = .ok (.iload_n 3, 1) := by decide +kernel
theorem dX7_luck_43 : decode cX7_luck 43 = .ok (.iload 4, 2) := by decide +kernel
theorem dX7_luck_45 : decode cX7_luck 45 = .ok (.invokevirtual 222, 3) := by decide +kernel
theorem dX7_luck_48 : decode cX7_luck 48 = .ok (.goto 6, 3) := by decide +kernel
theorem dX7_luck_51 : decode cX7_luck 51 = .ok (.ldc2_w 226, 3) := by decide +kernel
theorem dX7_luck_54 : decode cX7_luck 54 = .ok (.lreturn, 1) := by decide +kernel
theorem dX7_mean_0 : decode cX7_mean 0 = .ok (.iload_n 1, 1) := by decide +kernel
theorem dX7_mean_1 : decode cX7_mean 1 = .ok (.i2l, 1) := by decide +kernel
theorem dX7_mean_2 : decode cX7_mean 2 = .ok (.lconst 0, 1) := by decide +kernel
theorem dX7_mean_3 : decode cX7_mean 3 = .ok (.ldc2_w 216, 3) := by decide +kernel
theorem dX7_mean_6 : decode cX7_mean 6 = .ok (.invokestatic 49, 3) := by decide +kernel
theorem dX7_mean_9 : decode cX7_mean 9 = .ok (.ifCond .eq 25, 3) := by decide +kernel
theorem dX7_mean_12 : decode cX7_mean 12 = .ok (.iload_n 2, 1) := by decide +kernel
theorem dX7_mean_13 : decode cX7_mean 13 = .ok (.i2l, 1) := by decide +kernel
theorem dX7_mean_14 : decode cX7_mean 14 = .ok (.lconst 0, 1) := by decide +kernel
theorem dX7_mean_15 : decode cX7_mean 15 = .ok (.lconst 1, 1) := by decide +kernel
theorem dX7_mean_16 : decode cX7_mean 16 = .ok (.invokestatic 49, 3) := by decide +kernel
theorem dX7_mean_19 : decode cX7_mean 19 = .ok (.ifCond .eq 15, 3) := by decide +kernel
theorem dX7_mean_22 : decode cX7_mean 22 = .ok (.aload_n 0, 1) := by decide +kernel
theorem dX7_mean_23 : decode cX7_mean 23 = .ok (.iload_n 1, 1) := by decide +kernel
theorem dX7_mean_24 : decode cX7_mean 24 = .ok (.bipush (-4), 2) := by decide +kernel
theorem dX7_mean_26 : decode cX7_mean 26 = .ok (.iconst 0, 1) := by decide +kernel
theorem dX7_mean_27 : decode cX7_mean 27 = .ok (.iload_n 2, 1) := by decide +kernel
theorem dX7_mean_28 : decode cX7_mean 28 = .ok (.invokevirtual 222, 3) := by decide +kernel
theorem dX7_mean_31 : decode cX7_mean 31 = .ok (.goto 6, 3) := by decide +kernel
theorem dX7_mean_34 : decode cX7_mean 34 = .ok (.ldc2_w 226, 3) := by decide +kernel
theorem dX7_mean_37 : decode cX7_mean 37 = .ok (.lreturn, 1) := by decide +kernel
theorem dX7_see_0 : decode cX7_see 0 = .ok (.aload_n 0, 1) := by decide +kernel
theorem dX7_see_1 : decode cX7_see 1 = .ok (.iload_n 1, 1) := by decide +kernel
theorem dX7_see_2 : decode cX7_see 2 = .ok (.invokevirtual 168, 3) := by decide +kernel
theorem dX7_see_5 : decode cX7_see 5 = .ok (.ifCond .eq 10, 3) := by decide +kernel
theorem dX7_see_8 : decode cX7_see 8 = .ok (.iload_n 2, 1) := by decide +kernel
theorem dX7_see_9 : decode cX7_see 9 = .ok (.invokestatic 189, 3) := by decide +kernel
theorem dX7_see_12 : decode cX7_see 12 = .ok (.ifCond .ne 5, 3) := by decide +kernel
theorem dX7_see_15 : decode cX7_see 15 = .ok (.iconst (-1), 1) := by decide +kernel
theorem dX7_see_16 : decode cX7_see 16 = .ok (.ireturn, 1) := by decide +kernel
theorem dX7_see_17 : decode cX7_see 17 = .ok (.aload_n 0, 1) := by decide +kernel
theorem dX7_see_18 : decode cX7_see 18 = .ok (.getfield 116, 3) := by decide +kernel
theorem dX7_see_21 : decode cX7_see 21 = .ok (.bipush 6, 2) := by decide +kernel
theorem dX7_see_23 : decode cX7_see 23 = .ok (.if_icmp .ne 6, 3) := by decide +kernel
theorem dX7_see_26 : decode cX7_see 26 = .ok (.bipush (-3), 2) := by decide +kernel
theorem dX7_see_28 : decode cX7_see 28 = .ok (.ireturn, 1) := by decide +kernel
theorem dX7_see_29 : decode cX7_see 29 = .ok (.aload_n 0, 1) := by decide +kernel
theorem dX7_see_30 : decode cX7_see 30 = .ok (.getfield 28, 3) := by decide +kernel
theorem dX7_see_33 : decode cX7_see 33 = .ok (.iconst 2, 1) := by decide +kernel
theorem dX7_see_34 : decode cX7_see 34 = .ok (.aload_n 0, 1) := by decide +kernel
theorem dX7_see_35 : decode cX7_see 35 = .ok (.getfield 116, 3) := by decide +kernel
theorem dX7_see_38 : decode cX7_see 38 = .ok (.imul, 1) := by decide +kernel
theorem dX7_see_39 : decode cX7_see 39 = .ok (.iload_n 1, 1) := by decide +kernel
theorem dX7_see_40 : decode cX7_see 40 = .ok (.iastore, 1) := by decide +kernel
theorem dX7_see_41 : decode cX7_see 41 = .ok (.aload_n 0, 1) := by decide +kernel
theorem dX7_see_42 : decode cX7_see 42 = .ok (.getfield 28, 3) := by decide +kernel
theorem dX7_see_45 : decode cX7_see 45 = .ok (.iconst 2, 1) := by decide +kernel
theorem dX7_see_46 : decode cX7_see 46 = .ok (.aload_n 0, 1) := by decide +kernel
theorem dX7_see_47 : decode cX7_see 47 = .ok (.getfield 116, 3) := by decide +kernel
theorem dX7_see_50 : decode cX7_see 50 = .ok (.imul, 1) := by decide +kernel
theorem dX7_see_51 : decode cX7_see 51 = .ok (.iconst 1, 1) := by decide +kernel
theorem dX7_see_52 : decode cX7_see 52 = .ok (.iadd, 1) := by decide +kernel
theorem dX7_see_53 : decode cX7_see 53 = .ok (.iload_n 2, 1) := by decide +kernel
theorem dX7_see_54 : decode cX7_see 54 = .ok (.iastore, 1) := by decide +kernel
theorem dX7_see_55 : decode cX7_see 55 = .ok (.aload_n 0, 1) := by decide +kernel
theorem dX7_see_56 : decode cX7_see 56 = .ok (.dup, 1) := by decide +kernel
theorem dX7_see_57 : decode cX7_see 57 = .ok (.getfield 116, 3) := by decide +kernel
theorem dX7_see_60 : decode cX7_see 60 = .ok (.iconst 1, 1) := by decide +kernel
theorem dX7_see_61 : decode cX7_see 61 = .ok (.iadd, 1) := by decide +kernel
theorem dX7_see_62 : decode cX7_see 62 = .ok (.putfield 116, 3) := by decide +kernel
theorem dX7_see_65 : decode cX7_see 65 = .ok (.aload_n 0, 1) := by decide +kernel
theorem dX7_see_66 : decode cX7_see 66 = .ok (.getfield 116, 3) := by decide +kernel
theorem dX7_see_69 : decode cX7_see 69 = .ok (.ireturn, 1) := by decide +kernel
theorem dX7_forget_0 : decode cX7_forget 0 = .ok (.iload_n 1, 1) := by decide +kernel
theorem dX7_forget_1 : decode cX7_forget 1 = .ok (.i2l, 1) := by decide +kernel
theorem dX7_forget_2 : decode cX7_forget 2 = .ok (.lconst 0, 1) := by decide +kernel
theorem dX7_forget_3 : decode cX7_forget 3 = .ok (.aload_n 0, 1) := by decide +kernel
theorem dX7_forget_4 : decode cX7_forget 4 = .ok (.getfield 116, 3) := by decide +kernel
theorem dX7_forget_7 : decode cX7_forget 7 = .ok (.i2l, 1) := by decide +kernel
theorem dX7_forget_8 : decode cX7_forget 8 = .ok (.invokestatic 49, 3) := by decide +kernel
theorem dX7_forget_11 : decode cX7_forget 11 = .ok (.ifCond .ne 5, 3) := by decide +kernel
theorem dX7_forget_14 : decode cX7_forget 14 = .ok (.iconst (-1), 1) := by decide +kernel
theorem dX7_forget_15 : decode cX7_forget 15 = .ok (.ireturn, 1) := by decide +kernel
theorem dX7_forget_16 : decode cX7_forget 16 = .ok (.aload_n 0, 1) := by decide +kernel
theorem dX7_forget_17 : decode cX7_forget 17 = .ok (.getfield 116, 3) := by decide +kernel
theorem dX7_forget_20 : decode cX7_forget 20 = .ok (.istore_n 2, 1) := by decide +kernel
theorem dX7_forget_21 : decode cX7_forget 21 = .ok (.aload_n 0, 1) := by decide +kernel
theorem dX7_forget_22 : decode cX7_forget 22 = .ok (.iload_n 1, 1) := by decide +kernel
theorem dX7_forget_23 : decode cX7_forget 23 = .ok (.putfield 116, 3) := by decide +kernel
theorem dX7_forget_26 : decode cX7_forget 26 = .ok (.iload_n 2, 1) := by decide +kernel
theorem dX7_forget_27 : decode cX7_forget 27 = .ok (.ireturn, 1) := by decide +kernel
theorem dX7_isAsSeen_0 : decode cX7_isAsSeen 0 = .ok (.iconst 1, 1) := by decide +kernel
theorem dX7_isAsSeen_1 : decode cX7_isAsSeen 1 = .ok (.istore_n 2, 1) := by decide +kernel
theorem dX7_isAsSeen_2 : decode cX7_isAsSeen 2 = .ok (.iconst 0, 1) := by decide +kernel
theorem dX7_isAsSeen_3 : decode cX7_isAsSeen 3 = .ok (.istore_n 3, 1) := by decide +kernel
theorem dX7_isAsSeen_4 : decode cX7_isAsSeen 4 = .ok (.iload_n 3, 1) := by decide +kernel
theorem dX7_isAsSeen_5 : decode cX7_isAsSeen 5 = .ok (.aload_n 0, 1) := by decide +kernel
theorem dX7_isAsSeen_6 : decode cX7_isAsSeen 6 = .ok (.getfield 116, 3) := by decide +kernel
theorem dX7_isAsSeen_9 : decode cX7_isAsSeen 9 = .ok (.if_icmp .ge 60, 3) := by decide +kernel
theorem dX7_isAsSeen_12 : decode cX7_isAsSeen 12 = .ok (.iload_n 2, 1) := by decide +kernel
theorem dX7_isAsSeen_13 : decode cX7_isAsSeen 13 = .ok (.ifCond .eq 48, 3) := by decide +kernel
theorem dX7_isAsSeen_16 : decode cX7_isAsSeen 16 = .ok (.aload_n 0, 1) := by decide +kernel
theorem dX7_isAsSeen_17 : decode cX7_isAsSeen 17 = .ok (.aload_n 0, 1) := by decide +kernel
theorem dX7_isAsSeen_18 : decode cX7_isAsSeen 18 = .ok (.getfield 28, 3) := by decide +kernel
theorem dX7_isAsSeen_21 : decode cX7_isAsSeen 21 = .ok (.iconst 2, 1) := by decide +kernel
theorem dX7_isAsSeen_22 : decode cX7_isAsSeen 22 = .ok (.iload_n 3, 1) := by decide +kernel
theorem dX7_isAsSeen_23 : decode cX7_isAsSeen 23 = .ok (.imul, 1) := by decide +kernel
theorem dX7_isAsSeen_24 : decode cX7_isAsSeen 24 = .ok (.iaload, 1) := by decide +kernel
theorem dX7_isAsSeen_25 : decode cX7_isAsSeen 25 = .ok (.invokevirtual 168, 3) := by decide +kernel
theorem dX7_isAsSeen_28 : decode cX7_isAsSeen 28 = .ok (.ifCond .eq 33, 3) := by decide +kernel
theorem dX7_isAsSeen_31 : decode cX7_isAsSeen 31 = .ok (.aload_n 0, 1) := by decide +kernel
theorem dX7_isAsSeen_32 : decode cX7_isAsSeen 32 = .ok (.iload_n 1, 1) := by decide +kernel
theorem dX7_isAsSeen_33 : decode cX7_isAsSeen 33 = .ok (.aload_n 0, 1) := by decide +kernel
theorem dX7_isAsSeen_34 : decode cX7_isAsSeen 34 = .ok (.getfield 28, 3) := by decide +kernel
theorem dX7_isAsSeen_37 : decode cX7_isAsSeen 37 = .ok (.iconst 2, 1) := by decide +kernel
theorem dX7_isAsSeen_38 : decode cX7_isAsSeen 38 = .ok (.iload_n 3, 1) := by decide +kernel
theorem dX7_isAsSeen_39 : decode cX7_isAsSeen 39 = .ok (.imul, 1) := by decide +kernel
theorem dX7_isAsSeen_40 : decode cX7_isAsSeen 40 = .ok (.iaload, 1) := by decide +kernel
theorem dX7_isAsSeen_41 : decode cX7_isAsSeen 41 = .ok (.invokevirtual 172, 3) := by decide +kernel
theorem dX7_isAsSeen_44 : decode cX7_isAsSeen 44 = .ok (.aload_n 0, 1) := by decide +kernel
theorem dX7_isAsSeen_45 : decode cX7_isAsSeen 45 = .ok (.getfield 28, 3) := by decide +kernel
theorem dX7_isAsSeen_48 : decode cX7_isAsSeen 48 = .ok (.iconst 2, 1) := by decide +kernel
theorem dX7_isAsSeen_49 : decode cX7_isAsSeen 49 = .ok (.iload_n 3, 1) := by decide +kernel
theorem dX7_isAsSeen_50 : decode cX7_isAsSeen 50 = .ok (.imul, 1) := by decide +kernel
theorem dX7_isAsSeen_51 : decode cX7_isAsSeen 51 = .ok (.iconst 1, 1) := by decide +kernel
theorem dX7_isAsSeen_52 : decode cX7_isAsSeen 52 = .ok (.iadd, 1) := by decide +kernel
theorem dX7_isAsSeen_53 : decode cX7_isAsSeen 53 = .ok (.iaload, 1) := by decide +kernel
theorem dX7_isAsSeen_54 : decode cX7_isAsSeen 54 = .ok (.if_icmp .ne 7, 3) := by decide +kernel
theorem dX7_isAsSeen_57 : decode cX7_isAsSeen 57 = .ok (.iconst 1, 1) := by decide +kernel
theorem dX7_isAsSeen_58 : decode cX7_isAsSeen 58 = .ok (.goto 4, 3) := by decide +kernel
theorem dX7_isAsSeen_61 : decode cX7_isAsSeen 61 = .ok (.iconst 0, 1) := by decide +kernel
theorem dX7_isAsSeen_62 : decode cX7_isAsSeen 62 = .ok (.istore_n 2, 1) := by decide +kernel
theorem dX7_isAsSeen_63 : decode cX7_isAsSeen 63 = .ok (.iinc 3 1, 3) := by decide +kernel
theorem dX7_isAsSeen_66 : decode cX7_isAsSeen 66 = .ok (.goto (-62), 3) := by decide +kernel
theorem dX7_isAsSeen_69 : decode cX7_isAsSeen 69 = .ok (.iload_n 2, 1) := by decide +kernel
theorem dX7_isAsSeen_70 : decode cX7_isAsSeen 70 = .ok (.ireturn, 1) := by decide +kernel
theorem dX7_windsNow_0 : decode cX7_windsNow 0 = .ok (.iconst 0, 1) := by decide +kernel
theorem dX7_windsNow_1 : decode cX7_windsNow 1 = .ok (.istore_n 1, 1) := by decide +kernel
theorem dX7_windsNow_2 : decode cX7_windsNow 2 = .ok (.aload_n 0, 1) := by decide +kernel
theorem dX7_windsNow_3 : decode cX7_windsNow 3 = .ok (.iconst 0, 1) := by decide +kernel
theorem dX7_windsNow_4 : decode cX7_windsNow 4 = .ok (.sipush 144, 3) := by decide +kernel
theorem dX7_windsNow_7 : decode cX7_windsNow 7 = .ok (.invokevirtual 209, 3) := by decide +kernel
theorem dX7_windsNow_10 : decode cX7_windsNow 10 = .ok (.iconst 0, 1) := by decide +kernel
theorem dX7_windsNow_11 : decode cX7_windsNow 11 = .ok (.istore_n 2, 1) := by decide +kernel
theorem dX7_windsNow_12 : decode cX7_windsNow 12 = .ok (.iload_n 2, 1) := by decide +kernel
theorem dX7_windsNow_13 : decode cX7_windsNow 13 = .ok (.bipush 8, 2) := by decide +kernel
theorem dX7_windsNow_15 : decode cX7_windsNow 15 = .ok (.if_icmp .gt 78, 3) := by decide +kernel
theorem dX7_windsNow_18 : decode cX7_windsNow 18 = .ok (.aload_n 0, 1) := by decide +kernel
theorem dX7_windsNow_19 : decode cX7_windsNow 19 = .ok (.getfield 7, 3) := by decide +kernel
theorem dX7_windsNow_22 : decode cX7_windsNow 22 = .ok (.sipush 178, 3) := by decide +kernel
theorem dX7_windsNow_25 : decode cX7_windsNow 25 = .ok (.iload_n 2, 1) := by decide +kernel
theorem dX7_windsNow_26 : decode cX7_windsNow 26 = .ok (.iconst 4, 1) := by decide +kernel
theorem dX7_windsNow_27 : decode cX7_windsNow 27 = .ok (.isub, 1) := by decide +kernel
theorem dX7_windsNow_28 : decode cX7_windsNow 28 = .ok (.iastore, 1) := by decide +kernel
theorem dX7_windsNow_29 : decode cX7_windsNow 29 = .ok (.iload_n 1, 1) := by decide +kernel
theorem dX7_windsNow_30 : decode cX7_windsNow 30 = .ok (.aload_n 0, 1) := by decide +kernel
theorem dX7_windsNow_31 : decode cX7_windsNow 31 = .ok (.sipush 144, 3) := by decide +kernel
theorem dX7_windsNow_34 : decode cX7_windsNow 34 = .ok (.invokevirtual 228, 3) := by decide +kernel
theorem dX7_windsNow_37 : decode cX7_windsNow 37 = .ok (.ifCond .eq 9, 3) := by decide +kernel
theorem dX7_windsNow_40 : decode cX7_windsNow 40 = .ok (.iconst 1, 1) := by decide +kernel
theorem dX7_windsNow_41 : decode cX7_windsNow 41 = .ok (.iload_n 2, 1) := by decide +kernel
theorem dX7_windsNow_42 : decode cX7_windsNow 42 = .ok (.ishl, 1) := by decide +kernel
theorem dX7_windsNow_43 : decode cX7_windsNow 43 = .ok (.goto 4, 3) := by decide +kernel
theorem dX7_windsNow_46 : decode cX7_windsNow 46 = .ok (.iconst 0, 1) := by decide +kernel
theorem dX7_windsNow_47 : decode cX7_windsNow 47 = .ok (.ior, 1) := by decide +kernel
theorem dX7_windsNow_48 : decode cX7_windsNow 48 = .ok (.istore_n 1, 1) := by decide +kernel
theorem dX7_windsNow_49 : decode cX7_windsNow 49 = .ok (.iconst 0, 1) := by decide +kernel
theorem dX7_windsNow_50 : decode cX7_windsNow 50 = .ok (.istore_n 3, 1) := by decide +kernel
theorem dX7_windsNow_51 : decode cX7_windsNow 51 = .ok (.iload_n 3, 1) := by decide +kernel
theorem dX7_windsNow_52 : decode cX7_windsNow 52 = .ok (.aload_n 0, 1) := by decide +kernel
theorem dX7_windsNow_53 : decode cX7_windsNow 53 = .ok (.getfield 7, 3) := by decide +kernel
theorem dX7_windsNow_56 : decode cX7_windsNow 56 = .ok (.bipush 24, 2) := by decide +kernel
theorem dX7_windsNow_58 : decode cX7_windsNow 58 = .ok (.iaload, 1) := by decide +kernel
theorem dX7_windsNow_59 : decode cX7_windsNow 59 = .ok (.if_icmp .ge 28, 3) := by decide +kernel
theorem dX7_windsNow_62 : decode cX7_windsNow 62 = .ok (.aload_n 0, 1) := by decide +kernel
theorem dX7_windsNow_63 : decode cX7_windsNow 63 = .ok (.getfield 31, 3) := by decide +kernel
theorem dX7_windsNow_66 : decode cX7_windsNow 66 = .ok (.bipush 6, 2) := by decide +kernel
theorem dX7_windsNow_68 : decode cX7_windsNow 68 = .ok (.iload_n 2, 1) := by decide +kernel
theorem dX7_windsNow_69 : decode cX7_windsNow 69 = .ok (.imul, 1) := by decide +kernel
theorem dX7_windsNow_70 : decode cX7_windsNow 70 = .ok (.iload_n 3, 1) := by decide +kernel
theorem dX7_windsNow_71 : decode cX7_windsNow 71 = .ok (.iadd, 1) := by decide +kernel
theorem dX7_windsNow_72 : decode cX7_windsNow 72 = .ok (.aload_n 0, 1) := by decide +kernel
theorem dX7_windsNow_73 : decode cX7_windsNow 73 = .ok (.sipush 144, 3) := by decide +kernel
theorem dX7_windsNow_76 : decode cX7_windsNow 76 = .ok (.iload_n 3, 1) := by decide +kernel
theorem dX7_windsNow_77 : decode cX7_windsNow 77 = .ok (.invokevirtual 172, 3) := by decide +kernel
theorem dX7_windsNow_80 : decode cX7_windsNow 80 = .ok (.iastore, 1) := by decide +kernel
theorem dX7_windsNow_81 : decode cX7_windsNow 81 = .ok (.iinc 3 1, 3) := by decide +kernel
theorem dX7_windsNow_84 : decode cX7_windsNow 84 = .ok (.goto (-33), 3) := by decide +kernel
theorem dX7_windsNow_87 : decode cX7_windsNow 87 = .ok (.iinc 2 1, 3) := by decide +kernel
theorem dX7_windsNow_90 : decode cX7_windsNow 90 = .ok (.goto (-78), 3) := by decide +kernel
theorem dX7_windsNow_93 : decode cX7_windsNow 93 = .ok (.iload_n 1, 1) := by decide +kernel
theorem dX7_windsNow_94 : decode cX7_windsNow 94 = .ok (.ireturn, 1) := by decide +kernel
theorem dX7_winds_0 : decode cX7_winds 0 = .ok (.aload_n 0, 1) := by decide +kernel
theorem dX7_winds_1 : decode cX7_winds 1 = .ok (.invokevirtual 231, 3) := by decide +kernel
theorem dX7_winds_4 : decode cX7_winds 4 = .ok (.ireturn, 1) := by decide +kernel
theorem dX7_froms_0 : decode cX7_froms 0 = .ok (.aload_n 0, 1) := by decide +kernel
theorem dX7_froms_1 : decode cX7_froms 1 = .ok (.iload_n 1, 1) := by decide +kernel
theorem dX7_froms_2 : decode cX7_froms 2 = .ok (.invokevirtual 168, 3) := by decide +kernel
theorem dX7_froms_5 : decode cX7_froms 5 = .ok (.ifCond .ne 5, 3) := by decide +kernel
theorem dX7_froms_8 : decode cX7_froms 8 = .ok (.iconst (-1), 1) := by decide +kernel
theorem dX7_froms_9 : decode cX7_froms 9 = .ok (.ireturn, 1) := by decide +kernel
theorem dX7_froms_10 : decode cX7_froms 10 = .ok (.iconst 0, 1) := by decide +kernel
theorem dX7_froms_11 : decode cX7_froms 11 = .ok (.istore_n 2, 1) := by decide +kernel
theorem dX7_froms_12 : decode cX7_froms 12 = .ok (.aload_n 0, 1) := by decide +kernel
theorem dX7_froms_13 : decode cX7_froms 13 = .ok (.iconst 0, 1) := by decide +kernel
theorem dX7_froms_14 : decode cX7_froms 14 = .ok (.sipush 144, 3) := by decide +kernel
theorem dX7_froms_17 : decode cX7_froms 17 = .ok (.invokevirtual 209, 3) := by decide +kernel
theorem dX7_froms_20 : decode cX7_froms 20 = .ok (.iconst 0, 1) := by decide +kernel
theorem dX7_froms_21 : decode cX7_froms 21 = .ok (.istore_n 3, 1) := by decide +kernel
theorem dX7_froms_22 : decode cX7_froms 22 = .ok (.iload_n 3, 1) := by decide +kernel
theorem dX7_froms_23 : decode cX7_froms 23 = .ok (.bipush 12, 2) := by decide +kernel
theorem dX7_froms_25 : decode cX7_froms 25 = .ok (.if_icmp .ge 40, 3) := by decide +kernel
theorem dX7_froms_28 : decode cX7_froms 28 = .ok (.aload_n 0, 1) := by decide +kernel
theorem dX7_froms_29 : decode cX7_froms 29 = .ok (.getfield 7, 3) := by decide +kernel
theorem dX7_froms_32 : decode cX7_froms 32 = .ok (.sipush 150, 3) := by decide +kernel
theorem dX7_froms_35 : decode cX7_froms 35 = .ok (.iload_n 1, 1) := by decide +kernel
theorem dX7_froms_36 : decode cX7_froms 36 = .ok (.iadd, 1) := by decide +kernel
theorem dX7_froms_37 : decode cX7_froms 37 = .ok (.iload_n 3, 1) := by decide +kernel
theorem dX7_froms_38 : decode cX7_froms 38 = .ok (.iastore, 1) := by decide +kernel
theorem dX7_froms_39 : decode cX7_froms 39 = .ok (.iload_n 2, 1) := by decide +kernel
theorem dX7_froms_40 : decode cX7_froms 40 = .ok (.aload_n 0, 1) := by decide +kernel
theorem dX7_froms_41 : decode cX7_froms 41 = .ok (.sipush 144, 3) := by decide +kernel
theorem dX7_froms_44 : decode cX7_froms 44 = .ok (.invokevirtual 228, 3) := by decide +kernel
theorem dX7_froms_47 : decode cX7_froms 47 = .ok (.ifCond .eq 9, 3) := by decide +kernel
theorem dX7_froms_50 : decode cX7_froms 50 = .ok (.iconst 1, 1) := by decide +kernel
theorem dX7_froms_51 : decode cX7_froms 51 = .ok (.iload_n 3, 1) := by decide +kernel
theorem dX7_froms_52 : decode cX7_froms 52 = .ok (.ishl, 1) := by decide +kernel
theorem dX7_froms_53 : decode cX7_froms 53 = .ok (.goto 4, 3) := by decide +kernel
theorem dX7_froms_56 : decode cX7_froms 56 = .ok (.iconst 0, 1) := by decide +kernel
theorem dX7_froms_57 : decode cX7_froms 57 = .ok (.ior, 1) := by decide +kernel
theorem dX7_froms_58 : decode cX7_froms 58 = .ok (.istore_n 2, 1) := by decide +kernel
theorem dX7_froms_59 : decode cX7_froms 59 = .ok (.iinc 3 1, 3) := by decide +kernel
theorem dX7_froms_62 : decode cX7_froms 62 = .ok (.goto (-40), 3) := by decide +kernel
theorem dX7_froms_65 : decode cX7_froms 65 = .ok (.iload_n 2, 1) := by decide +kernel
theorem dX7_froms_66 : decode cX7_froms 66 = .ok (.ireturn, 1) := by decide +kernel
theorem dX7_kinds_0 : decode cX7_kinds 0 = .ok (.aload_n 0, 1) := by decide +kernel
theorem dX7_kinds_1 : decode cX7_kinds 1 = .ok (.iload_n 1, 1) := by decide +kernel
theorem dX7_kinds_2 : decode cX7_kinds 2 = .ok (.invokevirtual 168, 3) := by decide +kernel
theorem dX7_kinds_5 : decode cX7_kinds 5 = .ok (.ifCond .ne 5, 3) := by decide +kernel
theorem dX7_kinds_8 : decode cX7_kinds 8 = .ok (.iconst (-1), 1) := by decide +kernel
theorem dX7_kinds_9 : decode cX7_kinds 9 = .ok (.ireturn, 1) := by decide +kernel
theorem dX7_kinds_10 : decode cX7_kinds 10 = .ok (.iconst 0, 1) := by decide +kernel
theorem dX7_kinds_11 : decode cX7_kinds 11 = .ok (.istore_n 2, 1) := by decide +kernel
theorem dX7_kinds_12 : decode cX7_kinds 12 = .ok (.aload_n 0, 1) := by decide +kernel
theorem dX7_kinds_13 : decode cX7_kinds 13 = .ok (.iconst 0, 1) := by decide +kernel
theorem dX7_kinds_14 : decode cX7_kinds 14 = .ok (.sipush 144, 3) := by decide +kernel
theorem dX7_kinds_17 : decode cX7_kinds 17 = .ok (.invokevirtual 209, 3) := by decide +kernel
theorem dX7_kinds_20 : decode cX7_kinds 20 = .ok (.iconst 0, 1) := by decide +kernel
theorem dX7_kinds_21 : decode cX7_kinds 21 = .ok (.istore_n 3, 1) := by decide +kernel
theorem dX7_kinds_22 : decode cX7_kinds 22 = .ok (.iload_n 3, 1) := by decide +kernel
theorem dX7_kinds_23 : decode cX7_kinds 23 = .ok (.iconst 4, 1) := by decide +kernel
theorem dX7_kinds_24 : decode cX7_kinds 24 = .ok (.if_icmp .ge 40, 3) := by decide +kernel
theorem dX7_kinds_27 : decode cX7_kinds 27 = .ok (.aload_n 0, 1) := by decide +kernel
theorem dX7_kinds_28 : decode cX7_kinds 28 = .ok (.getfield 7, 3) := by decide +kernel
theorem dX7_kinds_31 : decode cX7_kinds 31 = .ok (.sipush 144, 3) := by decide +kernel
theorem dX7_kinds_34 : decode cX7_kinds 34 = .ok (.iload_n 1, 1) := by decide +kernel
theorem dX7_kinds_35 : decode cX7_kinds 35 = .ok (.iadd, 1) := by decide +kernel
theorem dX7_kinds_36 : decode cX7_kinds 36 = .ok (.iload_n 3, 1) := by decide +kernel
theorem dX7_kinds_37 : decode cX7_kinds 37 = .ok (.iastore, 1) := by decide +kernel
theorem dX7_kinds_38 : decode cX7_kinds 38 = .ok (.iload_n 2, 1) := by decide +kernel
theorem dX7_kinds_39 : decode cX7_kinds 39 = .ok (.aload_n 0, 1) := by decide +kernel
theorem dX7_kinds_40 : decode cX7_kinds 40 = .ok (.sipush 144, 3) := by decide +kernel
theorem dX7_kinds_43 : decode cX7_kinds 43 = .ok (.invokevirtual 228, 3) := by decide +kernel
theorem dX7_kinds_46 : decode cX7_kinds 46 = .ok (.ifCond .eq 9, 3) := by decide +kernel
theorem dX7_kinds_49 : decode cX7_kinds 49 = .ok (.iconst 1, 1) := by decide +kernel
theorem dX7_kinds_50 : decode cX7_kinds 50 = .ok (.iload_n 3, 1) := by decide +kernel
theorem dX7_kinds_51 : decode cX7_kinds 51 = .ok (.ishl, 1) := by decide +kernel
theorem dX7_kinds_52 : decode cX7_kinds 52 = .ok (.goto 4, 3) := by decide +kernel
theorem dX7_kinds_55 : decode cX7_kinds 55 = .ok (.iconst 0, 1) := by decide +kernel
theorem dX7_kinds_56 : decode cX7_kinds 56 = .ok (.ior, 1) := by decide +kernel
theorem dX7_kinds_57 : decode cX7_kinds 57 = .ok (.istore_n 2, 1) := by decide +kernel
theorem dX7_kinds_58 : decode cX7_kinds 58 = .ok (.iinc 3 1, 3) := by decide +kernel
theorem dX7_kinds_61 : decode cX7_kinds 61 = .ok (.goto (-39), 3) := by decide +kernel
theorem dX7_kinds_64 : decode cX7_kinds 64 = .ok (.iload_n 2, 1) := by decide +kernel
theorem dX7_kinds_65 : decode cX7_kinds 65 = .ok (.ireturn, 1) := by decide +kernel
theorem dX7_ask_0 : decode cX7_ask 0 = .ok (.iload_n 1, 1) := by decide +kernel
theorem dX7_ask_1 : decode cX7_ask 1 = .ok (.i2l, 1) := by decide +kernel
theorem dX7_ask_2 : decode cX7_ask 2 = .ok (.lconst 0, 1) := by decide +kernel
theorem dX7_ask_3 : decode cX7_ask 3 = .ok (.lconst 1, 1) := by decide +kernel
theorem dX7_ask_4 : decode cX7_ask 4 = .ok (.invokestatic 49, 3) := by decide +kernel
theorem dX7_ask_7 : decode cX7_ask 7 = .ok (.ifCond .ne 5, 3) := by decide +kernel
theorem dX7_ask_10 : decode cX7_ask 10 = .ok (.iconst (-1), 1) := by decide +kernel
theorem dX7_ask_11 : decode cX7_ask 11 = .ok (.ireturn, 1) := by decide +kernel
theorem dX7_ask_12 : decode cX7_ask 12 = .ok (.aload_n 0, 1) := by decide +kernel
theorem dX7_ask_13 : decode cX7_ask 13 = .ok (.invokevirtual 231, 3) := by decide +kernel
theorem dX7_ask_16 : decode cX7_ask 16 = .ok (.istore_n 2, 1) := by decide +kernel
theorem dX7_ask_17 : decode cX7_ask 17 = .ok (.iload_n 2, 1) := by decide +kernel
theorem dX7_ask_18 : decode cX7_ask 18 = .ok (.invokestatic 213, 3) := by decide +kernel
theorem dX7_ask_21 : decode cX7_ask 21 = .ok (.istore_n 3, 1) := by decide +kernel
theorem dX7_ask_22 : decode cX7_ask 22 = .ok (.bipush (-4), 2) := by decide +kernel
theorem dX7_ask_24 : decode cX7_ask 24 = .ok (.istore 4, 2) := by decide +kernel
theorem dX7_ask_26 : decode cX7_ask 26 = .ok (.iconst 0, 1) := by decide +kernel
theorem dX7_ask_27 : decode cX7_ask 27 = .ok (.istore 5, 2) := by decide +kernel
theorem dX7_ask_29 : decode cX7_ask 29 = .ok (.iload 5, 2) := by decide +kernel
theorem dX7_ask_31 : decode cX7_ask 31 = .ok (.aload_n 0, 1) := by decide +kernel
theorem dX7_ask_32 : decode cX7_ask 32 = .ok (.getfield 7, 3) := by decide +kernel
theorem dX7_ask_35 : decode cX7_ask 35 = .ok (.bipush 24, 2) := by decide +kernel
theorem dX7_ask_37 : decode cX7_ask 37 = .ok (.iaload, 1) := by decide +kernel
theorem dX7_ask_38 : decode cX7_ask 38 = .ok (.if_icmp .ge 150, 3) := by decide +kernel
theorem dX7_ask_41 : decode cX7_ask 41 = .ok (.iconst 0, 1) := by decide +kernel
theorem dX7_ask_42 : decode cX7_ask 42 = .ok (.istore 6, 2) := by decide +kernel
theorem dX7_ask_44 : decode cX7_ask 44 = .ok (.iconst 0, 1) := by decide +kernel
theorem dX7_ask_45 : decode cX7_ask 45 = .ok (.istore 7, 2) := by decide +kernel
theorem dX7_ask_47 : decode cX7_ask 47 = .ok (.iload 7, 2) := by decide +kernel
theorem dX7_ask_49 : decode cX7_ask 49 = .ok (.bipush 8, 2) := by decide +kernel
theorem dX7_ask_51 : decode cX7_ask 51 = .ok (.if_icmp .gt 103, 3) := by decide +kernel
theorem dX7_ask_54 : decode cX7_ask 54 = .ok (.iconst 0, 1) := by decide +kernel
theorem dX7_ask_55 : decode cX7_ask 55 = .ok (.istore 8, 2) := by decide +kernel
theorem dX7_ask_57 : decode cX7_ask 57 = .ok (.iconst 0, 1) := by decide +kernel
theorem dX7_ask_58 : decode cX7_ask 58 = .ok (.istore 9, 2) := by decide +kernel
theorem dX7_ask_60 : decode cX7_ask 60 = .ok (.iload 9, 2) := by decide +kernel
theorem dX7_ask_62 : decode cX7_ask 62 = .ok (.bipush 8, 2) := by decide +kernel
theorem dX7_ask_64 : decode cX7_ask 64 = .ok (.if_icmp .gt 68, 3) := by decide +kernel
theorem dX7_ask_67 : decode cX7_ask 67 = .ok (.iload_n 2, 1) := by decide +kernel
theorem dX7_ask_68 : decode cX7_ask 68 = .ok (.iload 7, 2) := by decide +kernel
theorem dX7_ask_70 : decode cX7_ask 70 = .ok (.ishr, 1) := by decide +kernel
theorem dX7_ask_71 : decode cX7_ask 71 = .ok (.iconst 1, 1) := by decide +kernel
theorem dX7_ask_72 : decode cX7_ask 72 = .ok (.iand, 1) := by decide +kernel
theorem dX7_ask_73 : decode cX7_ask 73 = .ok (.iconst 1, 1) := by decide +kernel
theorem dX7_ask_74 : decode cX7_ask 74 = .ok (.if_icmp .ne 58, 3) := by decide +kernel
theorem dX7_ask_77 : decode cX7_ask 77 = .ok (.iload 8, 2) := by decide +kernel
theorem dX7_ask_79 : decode cX7_ask 79 = .ok (.iload_n 2, 1) := by decide +kernel
theorem dX7_ask_80 : decode cX7_ask 80 = .ok (.iload 9, 2) := by decide +kernel
theorem dX7_ask_82 : decode cX7_ask 82 = .ok (.ishr, 1) := by decide +kernel
theorem dX7_ask_83 : decode cX7_ask 83 = .ok (.iconst 1, 1) := by decide +kernel
theorem dX7_ask_84 : decode cX7_ask 84 = .ok (.iand, 1) := by decide +kernel
theorem dX7_ask_85 : decode cX7_ask 85 = .ok (.iconst 1, 1) := by decide +kernel
theorem dX7_ask_86 : decode cX7_ask 86 = .ok (.if_icmp .ne 36, 3) := by decide +kernel
theorem dX7_ask_89 : decode cX7_ask 89 = .ok (.aload_n 0, 1) := by decide +kernel
theorem dX7_ask_90 : decode cX7_ask 90 = .ok (.getfield 31, 3) := by decide +kernel
theorem dX7_ask_93 : decode cX7_ask 93 = .ok (.bipush 6, 2) := by decide +kernel
theorem dX7_ask_95 : decode cX7_ask 95 = .ok (.iload 7, 2) := by decide +kernel
theorem dX7_ask_97 : decode cX7_ask 97 = .ok (.imul, 1) := by decide +kernel
theorem dX7_ask_98 : decode cX7_ask 98 = .ok (.iload 5, 2) := by decide +kernel
theorem dX7_ask_100 : decode cX7_ask 100 = .ok (.iadd, 1) := by decide +kernel
theorem dX7_ask_101 : decode cX7_ask 101 = .ok (.iaload, 1) := by decide +kernel
theorem dX7_ask_102 : decode cX7_ask 102 = .ok (.aload_n 0, 1) := by decide +kernel
theorem dX7_ask_103 : decode cX7_ask 103 = .ok (.getfield 31, 3) := by decide +kernel
theorem dX7_ask_106 : decode cX7_ask 106 = .ok (.bipush 6, 2) := by decide +kernel
theorem dX7_ask_108 : decode cX7_ask 108 = .ok (.iload 9, 2) := by decide +kernel
theorem dX7_ask_110 : decode cX7_ask 110 = .ok (.imul, 1) := by decide +kernel
theorem dX7_ask_111 : decode cX7_ask 111 = .ok (.iload 5, 2) := by decide +kernel
theorem dX7_ask_113 : decode cX7_ask 113 = .ok (.iadd, 1) := by decide +kernel
theorem dX7_ask_114 : decode cX7_ask 114 = .ok (.iaload, 1) := by decide +kernel
theorem dX7_ask_115 : decode cX7_ask 115 = .ok (.if_icmp .ne 7, 3) := by decide +kernel
theorem dX7_ask_118 : decode cX7_ask 118 = .ok (.iconst 1, 1) := by decide +kernel
theorem dX7_ask_119 : decode cX7_ask 119 = .ok (.goto 4, 3) := by decide +kernel
theorem dX7_ask_122 : decode cX7_ask 122 = .ok (.iconst 0, 1) := by decide +kernel
theorem dX7_ask_123 : decode cX7_ask 123 = .ok (.iadd, 1) := by decide +kernel
theorem dX7_ask_124 : decode cX7_ask 124 = .ok (.istore 8, 2) := by decide +kernel
theorem dX7_ask_126 : decode cX7_ask 126 = .ok (.iinc 9 1, 3) := by decide +kernel
theorem dX7_ask_129 : decode cX7_ask 129 = .ok (.goto (-69), 3) := by decide +kernel
theorem dX7_ask_132 : decode cX7_ask 132 = .ok (.iload 8, 2) := by decide +kernel
theorem dX7_ask_134 : decode cX7_ask 134 = .ok (.iload 6, 2) := by decide +kernel
theorem dX7_ask_136 : decode cX7_ask 136 = .ok (.if_icmp .le 8, 3) := by decide +kernel
theorem dX7_ask_139 : decode cX7_ask 139 = .ok (.iload 8, 2) := by decide +kernel
theorem dX7_ask_141 : decode cX7_ask 141 = .ok (.goto 5, 3) := by decide +kernel
theorem dX7_ask_144 : decode cX7_ask 144 = .ok (.iload 6, 2) := by decide +kernel
theorem dX7_ask_146 : decode cX7_ask 146 = .ok (.istore 6, 2) := by decide +kernel
theorem dX7_ask_148 : decode cX7_ask 148 = .ok (.iinc 7 1, 3) := by decide +kernel
theorem dX7_ask_151 : decode cX7_ask 151 = .ok (.goto (-104), 3) := by decide +kernel
theorem dX7_ask_154 : decode cX7_ask 154 = .ok (.iload 6, 2) := by decide +kernel
theorem dX7_ask_156 : decode cX7_ask 156 = .ok (.iload_n 3, 1) := by decide +kernel
theorem dX7_ask_157 : decode cX7_ask 157 = .ok (.if_icmp .ge 8, 3) := by decide +kernel
theorem dX7_ask_160 : decode cX7_ask 160 = .ok (.iload 5, 2) := by decide +kernel
theorem dX7_ask_162 : decode cX7_ask 162 = .ok (.goto 5, 3) := by decide +kernel
theorem dX7_ask_165 : decode cX7_ask 165 = .ok (.iload 4, 2) := by decide +kernel
theorem dX7_ask_167 : decode cX7_ask 167 = .ok (.istore 4, 2) := by decide +kernel
theorem dX7_ask_169 : decode cX7_ask 169 = .ok (.iload 6, 2) := by decide +kernel
theorem dX7_ask_171 : decode cX7_ask 171 = .ok (.iload_n 3, 1) := by decide +kernel
theorem dX7_ask_172 : decode cX7_ask 172 = .ok (.if_icmp .ge 8, 3) := by decide +kernel
theorem dX7_ask_175 : decode cX7_ask 175 = .ok (.iload 6, 2) := by decide +kernel
theorem dX7_ask_177 : decode cX7_ask 177 = .ok (.goto 4, 3) := by decide +kernel
theorem dX7_ask_180 : decode cX7_ask 180 = .ok (.iload_n 3, 1) := by decide +kernel
theorem dX7_ask_181 : decode cX7_ask 181 = .ok (.istore_n 3, 1) := by decide +kernel
theorem dX7_ask_182 : decode cX7_ask 182 = .ok (.iinc 5 1, 3) := by decide +kernel
theorem dX7_ask_185 : decode cX7_ask 185 = .ok (.goto (-156), 3) := by decide +kernel
theorem dX7_ask_188 : decode cX7_ask 188 = .ok (.iload 4, 2) := by decide +kernel
theorem dX7_ask_190 : decode cX7_ask 190 = .ok (.bipush (-4), 2) := by decide +kernel
theorem dX7_ask_192 : decode cX7_ask 192 = .ok (.if_icmp .eq 7, 3) := by decide +kernel
theorem dX7_ask_195 : decode cX7_ask 195 = .ok (.iload_n 1, 1) := by decide +kernel
theorem dX7_ask_196 : decode cX7_ask 196 = .ok (.ifCond .ne 8, 3) := by decide +kernel
theorem dX7_ask_199 : decode cX7_ask 199 = .ok (.iload 4, 2) := by decide +kernel
theorem dX7_ask_201 : decode cX7_ask 201 = .ok (.goto 4, 3) := by decide +kernel
theorem dX7_ask_204 : decode cX7_ask 204 = .ok (.iload_n 3, 1) := by decide +kernel
theorem dX7_ask_205 : decode cX7_ask 205 = .ok (.ireturn, 1) := by decide +kernel
theorem dX7_drift_0 : decode cX7_drift 0 = .ok (.iload_n 2, 1) := by decide +kernel
theorem dX7_drift_1 : decode cX7_drift 1 = .ok (.i2l, 1) := by decide +kernel
theorem dX7_drift_2 : decode cX7_drift 2 = .ok (.lconst 1, 1) := by decide +kernel
theorem dX7_drift_3 : decode cX7_drift 3 = .ok (.ldc2_w 234, 3) := by decide +kernel
theorem dX7_drift_6 : decode cX7_drift 6 = .ok (.invokestatic 49, 3) := by decide +kernel
theorem dX7_drift_9 : decode cX7_drift 9 = .ok (.ifCond .eq 13, 3) := by decide +kernel
theorem dX7_drift_12 : decode cX7_drift 12 = .ok (.iload_n 3, 1) := by decide +kernel
theorem dX7_drift_13 : decode cX7_drift 13 = .ok (.i2l, 1) := by decide +kernel
theorem dX7_drift_14 : decode cX7_drift 14 = .ok (.lconst 0, 1) := by decide +kernel
theorem dX7_drift_15 : decode cX7_drift 15 = .ok (.lconst 1, 1) := by decide +kernel
theorem dX7_drift_16 : decode cX7_drift 16 = .ok (.invokestatic 49, 3) := by decide +kernel
theorem dX7_drift_19 : decode cX7_drift 19 = .ok (.ifCond .ne 5, 3) := by decide +kernel
theorem dX7_drift_22 : decode cX7_drift 22 = .ok (.iconst (-1), 1) := by decide +kernel
theorem dX7_drift_23 : decode cX7_drift 23 = .ok (.ireturn, 1) := by decide +kernel
theorem dX7_drift_24 : decode cX7_drift 24 = .ok (.aload_n 0, 1) := by decide +kernel
theorem dX7_drift_25 : decode cX7_drift 25 = .ok (.iconst 0, 1) := by decide +kernel
theorem dX7_drift_26 : decode cX7_drift 26 = .ok (.sipush 144, 3) := by decide +kernel
theorem dX7_drift_29 : decode cX7_drift 29 = .ok (.invokevirtual 209, 3) := by decide +kernel
theorem dX7_drift_32 : decode cX7_drift 32 = .ok (.iload_n 1, 1) := by decide +kernel
theorem dX7_drift_33 : decode cX7_drift 33 = .ok (.istore 4, 2) := by decide +kernel
theorem dX7_drift_35 : decode cX7_drift 35 = .ok (.iconst 0, 1) := by decide +kernel
theorem dX7_drift_36 : decode cX7_drift 36 = .ok (.istore 5, 2) := by decide +kernel
theorem dX7_drift_38 : decode cX7_drift 38 = .ok (.iconst 0, 1) := by decide +kernel
theorem dX7_drift_39 : decode cX7_drift 39 = .ok (.istore 6, 2) := by decide +kernel
theorem dX7_drift_41 : decode cX7_drift 41 = .ok (.iconst 0, 1) := by decide +kernel
theorem dX7_drift_42 : decode cX7_drift 42 = .ok (.istore 7, 2) := by decide +kernel
theorem dX7_drift_44 : decode cX7_drift 44 = .ok (.iload 7, 2) := by decide +kernel
theorem dX7_drift_46 : decode cX7_drift 46 = .ok (.iload_n 2, 1) := by decide +kernel
theorem dX7_drift_47 : decode cX7_drift 47 = .ok (.if_icmp .ge 87, 3) := by decide +kernel
theorem dX7_drift_50 : decode cX7_drift 50 = .ok (.iload 4, 2) := by decide +kernel
theorem dX7_drift_52 : decode cX7_drift 52 = .ok (.ldc 236, 2) := by decide +kernel
theorem dX7_drift_54 : decode cX7_drift 54 = .ok (.imul, 1) := by decide +kernel
theorem dX7_drift_55 : decode cX7_drift 55 = .ok (.sipush 12345, 3) := by decide +kernel
theorem dX7_drift_58 : decode cX7_drift 58 = .ok (.iadd, 1) := by decide +kernel
theorem dX7_drift_59 : decode cX7_drift 59 = .ok (.istore 4, 2) := by decide +kernel
theorem dX7_drift_61 : decode cX7_drift 61 = .ok (.iload 4, 2) := by decide +kernel
theorem dX7_drift_63 : decode cX7_drift 63 = .ok (.bipush 16, 2) := by decide +kernel
theorem dX7_drift_65 : decode cX7_drift 65 = .ok (.ishr, 1) := by decide +kernel
theorem dX7_drift_66 : decode cX7_drift 66 = .ok (.sipush 32767, 3) := by decide +kernel
theorem dX7_drift_69 : decode cX7_drift 69 = .ok (.iand, 1) := by decide +kernel
theorem dX7_drift_70 : decode cX7_drift 70 = .ok (.istore 8, 2) := by decide +kernel
theorem dX7_drift_72 : decode cX7_drift 72 = .ok (.aload_n 0, 1) := by decide +kernel
theorem dX7_drift_73 : decode cX7_drift 73 = .ok (.getfield 7, 3) := by decide +kernel
theorem dX7_drift_76 : decode cX7_drift 76 = .ok (.sipush 178, 3) := by decide +kernel
theorem dX7_drift_79 : decode cX7_drift 79 = .ok (.iload 8, 2) := by decide +kernel
theorem dX7_drift_81 : decode cX7_drift 81 = .ok (.bipush 9, 2) := by decide +kernel
theorem dX7_drift_83 : decode cX7_drift 83 = .ok (.irem, 1) := by decide +kernel
theorem dX7_drift_84 : decode cX7_drift 84 = .ok (.iconst 4, 1) := by decide +kernel
theorem dX7_drift_85 : decode cX7_drift 85 = .ok (.isub, 1) := by decide +kernel
theorem dX7_drift_86 : decode cX7_drift 86 = .ok (.iastore, 1) := by decide +kernel
theorem dX7_drift_87 : decode cX7_drift 87 = .ok (.aload_n 0, 1) := by decide +kernel
theorem dX7_drift_88 : decode cX7_drift 88 = .ok (.getfield 7, 3) := by decide +kernel
theorem dX7_drift_91 : decode cX7_drift 91 = .ok (.sipush 179, 3) := by decide +kernel
theorem dX7_drift_94 : decode cX7_drift 94 = .ok (.iload 8, 2) := by decide +kernel
theorem dX7_drift_96 : decode cX7_drift 96 = .ok (.bipush 16, 2) := by decide +kernel
theorem dX7_drift_98 : decode cX7_drift 98 = .ok (.idiv, 1) := by decide +kernel
theorem dX7_drift_99 : decode cX7_drift 99 = .ok (.bipush 10, 2) := by decide +kernel
theorem dX7_drift_101 : decode cX7_drift 101 = .ok (.irem, 1) := by decide +kernel
theorem dX7_drift_102 : decode cX7_drift 102 = .ok (.iastore, 1) := by decide +kernel
theorem dX7_drift_103 : decode cX7_drift 103 = .ok (.aload_n 0, 1) := by decide +kernel
theorem dX7_drift_104 : decode cX7_drift 104 = .ok (.sipush 144, 3) := by decide +kernel
theorem dX7_drift_107 : decode cX7_drift 107 = .ok (.invokevirtual 165, 3) := by decide +kernel
theorem dX7_drift_110 : decode cX7_drift 110 = .ok (.iload 5, 2) := by decide +kernel
theorem dX7_drift_112 : decode cX7_drift 112 = .ok (.aload_n 0, 1) := by decide +kernel
theorem dX7_drift_113 : decode cX7_drift 113 = .ok (.getfield 155, 3) := by decide +kernel
theorem dX7_drift_116 : decode cX7_drift 116 = .ok (.iadd, 1) := by decide +kernel
theorem dX7_drift_117 : decode cX7_drift 117 = .ok (.istore 5, 2) := by decide +kernel
theorem dX7_drift_119 : decode cX7_drift 119 = .ok (.iload 6, 2) := by decide +kernel
theorem dX7_drift_121 : decode cX7_drift 121 = .ok (.aload_n 0, 1) := by decide +kernel
theorem dX7_drift_122 : decode cX7_drift 122 = .ok (.getfield 149, 3) := by decide +kernel
theorem dX7_drift_125 : decode cX7_drift 125 = .ok (.iadd, 1) := by decide +kernel
theorem dX7_drift_126 : decode cX7_drift 126 = .ok (.istore 6, 2) := by decide +kernel
theorem dX7_drift_128 : decode cX7_drift 128 = .ok (.iinc 7 1, 3) := by decide +kernel
theorem dX7_drift_131 : decode cX7_drift 131 = .ok (.goto (-87), 3) := by decide +kernel
theorem dX7_drift_134 : decode cX7_drift 134 = .ok (.iload_n 3, 1) := by decide +kernel
theorem dX7_drift_135 : decode cX7_drift 135 = .ok (.ifCond .ne 8, 3) := by decide +kernel
theorem dX7_drift_138 : decode cX7_drift 138 = .ok (.iload 5, 2) := by decide +kernel
theorem dX7_drift_140 : decode cX7_drift 140 = .ok (.goto 5, 3) := by decide +kernel
theorem dX7_drift_143 : decode cX7_drift 143 = .ok (.iload 6, 2) := by decide +kernel
theorem dX7_drift_145 : decode cX7_drift 145 = .ok (.ireturn, 1) := by decide +kernel
theorem dX7_keep_0 : decode cX7_keep 0 = .ok (.iload_n 1, 1) := by decide +kernel
theorem dX7_keep_1 : decode cX7_keep 1 = .ok (.i2l, 1) := by decide +kernel
theorem dX7_keep_2 : decode cX7_keep 2 = .ok (.lconst 0, 1) := by decide +kernel
theorem dX7_keep_3 : decode cX7_keep 3 = .ok (.lconst 1, 1) := by decide +kernel
theorem dX7_keep_4 : decode cX7_keep 4 = .ok (.invokestatic 49, 3) := by decide +kernel
theorem dX7_keep_7 : decode cX7_keep 7 = .ok (.ifCond .ne 5, 3) := by decide +kernel
theorem dX7_keep_10 : decode cX7_keep 10 = .ok (.iconst (-1), 1) := by decide +kernel
theorem dX7_keep_11 : decode cX7_keep 11 = .ok (.ireturn, 1) := by decide +kernel
theorem dX7_keep_12 : decode cX7_keep 12 = .ok (.aload_n 0, 1) := by decide +kernel
theorem dX7_keep_13 : decode cX7_keep 13 = .ok (.iconst 0, 1) := by decide +kernel
theorem dX7_keep_14 : decode cX7_keep 14 = .ok (.bipush 36, 2) := by decide +kernel
theorem dX7_keep_16 : decode cX7_keep 16 = .ok (.iload_n 1, 1) := by decide +kernel
theorem dX7_keep_17 : decode cX7_keep 17 = .ok (.iconst 1, 1) := by decide +kernel
theorem dX7_keep_18 : decode cX7_keep 18 = .ok (.iadd, 1) := by decide +kernel
theorem dX7_keep_19 : decode cX7_keep 19 = .ok (.imul, 1) := by decide +kernel
theorem dX7_keep_20 : decode cX7_keep 20 = .ok (.invokevirtual 209, 3) := by decide +kernel
theorem dX7_keep_23 : decode cX7_keep 23 = .ok (.aload_n 0, 1) := by decide +kernel
theorem dX7_keep_24 : decode cX7_keep 24 = .ok (.getfield 34, 3) := by decide +kernel
theorem dX7_keep_27 : decode cX7_keep 27 = .ok (.iload_n 1, 1) := by decide +kernel
theorem dX7_keep_28 : decode cX7_keep 28 = .ok (.baload, 1) := by decide +kernel
theorem dX7_keep_29 : decode cX7_keep 29 = .ok (.ifCond .eq 7, 3) := by decide +kernel
theorem dX7_keep_32 : decode cX7_keep 32 = .ok (.iconst 1, 1) := by decide +kernel
theorem dX7_keep_33 : decode cX7_keep 33 = .ok (.goto 4, 3) := by decide +kernel
theorem dX7_keep_36 : decode cX7_keep 36 = .ok (.iconst 0, 1) := by decide +kernel
theorem dX7_keep_37 : decode cX7_keep 37 = .ok (.istore_n 2, 1) := by decide +kernel
theorem dX7_keep_38 : decode cX7_keep 38 = .ok (.aload_n 0, 1) := by decide +kernel
theorem dX7_keep_39 : decode cX7_keep 39 = .ok (.getfield 34, 3) := by decide +kernel
theorem dX7_keep_42 : decode cX7_keep 42 = .ok (.iload_n 1, 1) := by decide +kernel
theorem dX7_keep_43 : decode cX7_keep 43 = .ok (.iconst 1, 1) := by decide +kernel
theorem dX7_keep_44 : decode cX7_keep 44 = .ok (.bastore, 1) := by decide +kernel
theorem dX7_keep_45 : decode cX7_keep 45 = .ok (.iload_n 2, 1) := by decide +kernel
theorem dX7_keep_46 : decode cX7_keep 46 = .ok (.ireturn, 1) := by decide +kernel
theorem dX7_back_0 : decode cX7_back 0 = .ok (.iload_n 1, 1) := by decide +kernel
theorem dX7_back_1 : decode cX7_back 1 = .ok (.i2l, 1) := by decide +kernel
theorem dX7_back_2 : decode cX7_back 2 = .ok (.lconst 0, 1) := by decide +kernel
theorem dX7_back_3 : decode cX7_back 3 = .ok (.lconst 1, 1) := by decide +kernel
theorem dX7_back_4 : decode cX7_back 4 = .ok (.invokestatic 49, 3) := by decide +kernel
theorem dX7_back_7 : decode cX7_back 7 = .ok (.ifCond .ne 5, 3) := by decide +kernel
theorem dX7_back_10 : decode cX7_back 10 = .ok (.iconst (-1), 1) := by decide +kernel
theorem dX7_back_11 : decode cX7_back 11 = .ok (.ireturn, 1) := by decide +kernel
theorem dX7_back_12 : decode cX7_back 12 = .ok (.aload_n 0, 1) := by decide +kernel
theorem dX7_back_13 : decode cX7_back 13 = .ok (.getfield 34, 3) := by decide +kernel
theorem dX7_back_16 : decode cX7_back 16 = .ok (.iload_n 1, 1) := by decide +kernel
theorem dX7_back_17 : decode cX7_back 17 = .ok (.baload, 1) := by decide +kernel
theorem dX7_back_18 : decode cX7_back 18 = .ok (.ifCond .ne 6, 3) := by decide +kernel
theorem dX7_back_21 : decode cX7_back 21 = .ok (.bipush (-2), 2) := by decide +kernel
theorem dX7_back_23 : decode cX7_back 23 = .ok (.ireturn, 1) := by decide +kernel
theorem dX7_back_24 : decode cX7_back 24 = .ok (.aload_n 0, 1) := by decide +kernel
theorem dX7_back_25 : decode cX7_back 25 = .ok (.bipush 36, 2) := by decide +kernel
theorem dX7_back_27 : decode cX7_back 27 = .ok (.iload_n 1, 1) := by decide +kernel
theorem dX7_back_28 : decode cX7_back 28 = .ok (.iconst 1, 1) := by decide +kernel
theorem dX7_back_29 : decode cX7_back 29 = .ok (.iadd, 1) := by decide +kernel
theorem dX7_back_30 : decode cX7_back 30 = .ok (.imul, 1) := by decide +kernel
theorem dX7_back_31 : decode cX7_back 31 = .ok (.iconst 0, 1) := by decide +kernel
theorem dX7_back_32 : decode cX7_back 32 = .ok (.invokevirtual 209, 3) := by decide +kernel
theorem dX7_back_35 : decode cX7_back 35 = .ok (.aload_n 0, 1) := by decide +kernel
theorem dX7_back_36 : decode cX7_back 36 = .ok (.getfield 7, 3) := by decide +kernel
theorem dX7_back_39 : decode cX7_back 39 = .ok (.bipush 24, 2) := by decide +kernel
theorem dX7_back_41 : decode cX7_back 41 = .ok (.iaload, 1) := by decide +kernel
theorem dX7_back_42 : decode cX7_back 42 = .ok (.ireturn, 1) := by decide +kernel
theorem dX7_sheet_0 : decode cX7_sheet 0 = .ok (.iload_n 1, 1) := by decide +kernel
theorem dX7_sheet_1 : decode cX7_sheet 1 = .ok (.i2l, 1) := by decide +kernel
theorem dX7_sheet_2 : decode cX7_sheet 2 = .ok (.lconst 0, 1) := by decide +kernel
theorem dX7_sheet_3 : decode cX7_sheet 3 = .ok (.ldc2_w 181, 3) := by decide +kernel
theorem dX7_sheet_6 : decode cX7_sheet 6 = .ok (.invokestatic 49, 3) := by decide +kernel
theorem dX7_sheet_9 : decode cX7_sheet 9 = .ok (.ifCond .eq 21, 3) := by decide +kernel
theorem dX7_sheet_12 : decode cX7_sheet 12 = .ok (.iload_n 2, 1) := by decide +kernel
theorem dX7_sheet_13 : decode cX7_sheet 13 = .ok (.i2l, 1) := by decide +kernel
theorem dX7_sheet_14 : decode cX7_sheet 14 = .ok (.lconst 0, 1) := by decide +kernel
theorem dX7_sheet_15 : decode cX7_sheet 15 = .ok (.ldc2_w 237, 3) := by decide +kernel
theorem dX7_sheet_18 : decode cX7_sheet 18 = .ok (.invokestatic 49, 3) := by decide +kernel
theorem dX7_sheet_21 : decode cX7_sheet 21 = .ok (.ifCond .eq 9, 3) := by decide +kernel
theorem dX7_sheet_24 : decode cX7_sheet 24 = .ok (.iload_n 3, 1) := by decide +kernel
theorem dX7_sheet_25 : decode cX7_sheet 25 = .ok (.bipush 40, 2) := by decide +kernel
theorem dX7_sheet_27 : decode cX7_sheet 27 = .ok (.if_icmp .le 5, 3) := by decide +kernel
theorem dX7_sheet_30 : decode cX7_sheet 30 = .ok (.iconst (-1), 1) := by decide +kernel
theorem dX7_sheet_31 : decode cX7_sheet 31 = .ok (.ireturn, 1) := by decide +kernel
theorem dX7_sheet_32 : decode cX7_sheet 32 = .ok (.iload_n 3, 1) := by decide +kernel
theorem dX7_sheet_33 : decode cX7_sheet 33 = .ok (.ifCond .ge 6, 3) := by decide +kernel
theorem dX7_sheet_36 : decode cX7_sheet 36 = .ok (.bipush (-14), 2) := by decide +kernel
theorem dX7_sheet_38 : decode cX7_sheet 38 = .ok (.ireturn, 1) := by decide +kernel
theorem dX7_sheet_39 : decode cX7_sheet 39 = .ok (.aload_n 0, 1) := by decide +kernel
theorem dX7_sheet_40 : decode cX7_sheet 40 = .ok (.getfield 38, 3) := by decide +kernel
theorem dX7_sheet_43 : decode cX7_sheet 43 = .ok (.iload_n 1, 1) := by decide +kernel
theorem dX7_sheet_44 : decode cX7_sheet 44 = .ok (.iload_n 2, 1) := by decide +kernel
theorem dX7_sheet_45 : decode cX7_sheet 45 = .ok (.iastore, 1) := by decide +kernel
theorem dX7_sheet_46 : decode cX7_sheet 46 = .ok (.aload_n 0, 1) := by decide +kernel
theorem dX7_sheet_47 : decode cX7_sheet 47 = .ok (.getfield 41, 3) := by decide +kernel
theorem dX7_sheet_50 : decode cX7_sheet 50 = .ok (.iload_n 1, 1) := by decide +kernel
theorem dX7_sheet_51 : decode cX7_sheet 51 = .ok (.iload_n 3, 1) := by decide +kernel
theorem dX7_sheet_52 : decode cX7_sheet 52 = .ok (.iastore, 1) := by decide +kernel
theorem dX7_sheet_53 : decode cX7_sheet 53 = .ok (.iconst 0, 1) := by decide +kernel
theorem dX7_sheet_54 : decode cX7_sheet 54 = .ok (.istore 4, 2) := by decide +kernel
theorem dX7_sheet_56 : decode cX7_sheet 56 = .ok (.iload 4, 2) := by decide +kernel
theorem dX7_sheet_58 : decode cX7_sheet 58 = .ok (.bipush 40, 2) := by decide +kernel
theorem dX7_sheet_60 : decode cX7_sheet 60 = .ok (.if_icmp .ge 22, 3) := by decide +kernel
theorem dX7_sheet_63 : decode cX7_sheet 63 = .ok (.aload_n 0, 1) := by decide +kernel
theorem dX7_sheet_64 : decode cX7_sheet 64 = .ok (.getfield 44, 3) := by decide +kernel
theorem dX7_sheet_67 : decode cX7_sheet 67 = .ok (.bipush 40, 2) := by decide +kernel
theorem dX7_sheet_69 : decode cX7_sheet 69 = .ok (.iload_n 1, 1) := by decide +kernel
theorem dX7_sheet_70 : decode cX7_sheet 70 = .ok (.imul, 1) := by decide +kernel
theorem dX7_sheet_71 : decode cX7_sheet 71 = .ok (.iload 4, 2) := by decide +kernel
theorem dX7_sheet_73 : decode cX7_sheet 73 = .ok (.iadd, 1) := by decide +kernel
theorem dX7_sheet_74 : decode cX7_sheet 74 = .ok (.iconst 0, 1) := by decide +kernel
theorem dX7_sheet_75 : decode cX7_sheet 75 = .ok (.iastore, 1) := by decide +kernel
theorem dX7_sheet_76 : decode cX7_sheet 76 = .ok (.iinc 4 1, 3) := by decide +kernel
theorem dX7_sheet_79 : decode cX7_sheet 79 = .ok (.goto (-23), 3) := by decide +kernel
theorem dX7_sheet_82 : decode cX7_sheet 82 = .ok (.iconst 1, 1) := by decide +kernel
theorem dX7_sheet_83 : decode cX7_sheet 83 = .ok (.ireturn, 1) := by decide +kernel
theorem dX7_lay_0 : decode cX7_lay 0 = .ok (.iload_n 1, 1) := by decide +kernel
theorem dX7_lay_1 : decode cX7_lay 1 = .ok (.i2l, 1) := by decide +kernel
theorem dX7_lay_2 : decode cX7_lay 2 = .ok (.lconst 0, 1) := by decide +kernel
theorem dX7_lay_3 : decode cX7_lay 3 = .ok (.ldc2_w 181, 3) := by decide +kernel
theorem dX7_lay_6 : decode cX7_lay 6 = .ok (.invokestatic 49, 3) := by decide +kernel
theorem dX7_lay_9 : decode cX7_lay 9 = .ok (.ifCond .ne 5, 3) := by decide +kernel
theorem dX7_lay_12 : decode cX7_lay 12 = .ok (.iconst (-1), 1) := by decide +kernel
theorem dX7_lay_13 : decode cX7_lay 13 = .ok (.ireturn, 1) := by decide +kernel
theorem dX7_lay_14 : decode cX7_lay 14 = .ok (.aload_n 0, 1) := by decide +kernel
theorem dX7_lay_15 : decode cX7_lay 15 = .ok (.getfield 38, 3) := by decide +kernel
theorem dX7_lay_18 : decode cX7_lay 18 = .ok (.iload_n 1, 1) := by decide +kernel
theorem dX7_lay_19 : decode cX7_lay 19 = .ok (.iaload, 1) := by decide +kernel
theorem dX7_lay_20 : decode cX7_lay 20 = .ok (.bipush (-4), 2) := by decide +kernel
theorem dX7_lay_22 : decode cX7_lay 22 = .ok (.if_icmp .ne 6, 3) := by decide +kernel
theorem dX7_lay_25 : decode cX7_lay 25 = .ok (.bipush (-11), 2) := by decide +kernel
theorem dX7_lay_27 : decode cX7_lay 27 = .ok (.ireturn, 1) := by decide +kernel
theorem dX7_lay_28 : decode cX7_lay 28 = .ok (.iload_n 2, 1) := by decide +kernel
theorem dX7_lay_29 : decode cX7_lay 29 = .ok (.i2l, 1) := by decide +kernel
theorem dX7_lay_30 : decode cX7_lay 30 = .ok (.lconst 0, 1) := by decide +kernel
theorem dX7_lay_31 : decode cX7_lay 31 = .ok (.aload_n 0, 1) := by decide +kernel
theorem dX7_lay_32 : decode cX7_lay 32 = .ok (.getfield 41, 3) := by decide +kernel
theorem dX7_lay_35 : decode cX7_lay 35 = .ok (.iload_n 1, 1) := by decide +kernel
theorem dX7_lay_36 : decode cX7_lay 36 = .ok (.iaload, 1) := by decide +kernel
theorem dX7_lay_37 : decode cX7_lay 37 = .ok (.iconst 1, 1) := by decide +kernel
theorem dX7_lay_38 : decode cX7_lay 38 = .ok (.isub, 1) := by decide +kernel
theorem dX7_lay_39 : decode cX7_lay 39 = .ok (.i2l, 1) := by decide +kernel
theorem dX7_lay_40 : decode cX7_lay 40 = .ok (.invokestatic 49, 3) := by decide +kernel
theorem dX7_lay_43 : decode cX7_lay 43 = .ok (.ifCond .ne 6, 3) := by decide +kernel
theorem dX7_lay_46 : decode cX7_lay 46 = .ok (.bipush (-12), 2) := by decide +kernel
theorem dX7_lay_48 : decode cX7_lay 48 = .ok (.ireturn, 1) := by decide +kernel
theorem dX7_lay_49 : decode cX7_lay 49 = .ok (.aload_n 0, 1) := by decide +kernel
theorem dX7_lay_50 : decode cX7_lay 50 = .ok (.getfield 44, 3) := by decide +kernel
theorem dX7_lay_53 : decode cX7_lay 53 = .ok (.bipush 40, 2) := by decide +kernel
theorem dX7_lay_55 : decode cX7_lay 55 = .ok (.iload_n 1, 1) := by decide +kernel
theorem dX7_lay_56 : decode cX7_lay 56 = .ok (.imul, 1) := by decide +kernel
theorem dX7_lay_57 : decode cX7_lay 57 = .ok (.iload_n 2, 1) := by decide +kernel
theorem dX7_lay_58 : decode cX7_lay 58 = .ok (.iadd, 1) := by decide +kernel
theorem dX7_lay_59 : decode cX7_lay 59 = .ok (.aload_n 0, 1) := by decide +kernel
theorem dX7_lay_60 : decode cX7_lay 60 = .ok (.getfield 38, 3) := by decide +kernel
theorem dX7_lay_63 : decode cX7_lay 63 = .ok (.iload_n 1, 1) := by decide +kernel
theorem dX7_lay_64 : decode cX7_lay 64 = .ok (.iaload, 1) := by decide +kernel
theorem dX7_lay_65 : decode cX7_lay 65 = .ok (.ifCond .ne 13, 3) := by decide +kernel
theorem dX7_lay_68 : decode cX7_lay 68 = .ok (.iload_n 3, 1) := by decide +kernel
theorem dX7_lay_69 : decode cX7_lay 69 = .ok (.bipush 24, 2) := by decide +kernel
theorem dX7_lay_71 : decode cX7_lay 71 = .ok (.ishl, 1) := by decide +kernel
theorem dX7_lay_72 : decode cX7_lay 72 = .ok (.bipush 24, 2) := by decide +kernel
theorem dX7_lay_74 : decode cX7_lay 74 = .ok (.ishr, 1) := by decide +kernel
theorem dX7_lay_75 : decode cX7_lay 75 = .ok (.goto 24, 3) := by decide +kernel
theorem dX7_lay_78 : decode cX7_lay 78 = .ok (.aload_n 0, 1) := by decide +kernel
theorem dX7_lay_79 : decode cX7_lay 79 = .ok (.getfield 38, 3) := by decide +kernel
theorem dX7_lay_82 : decode cX7_lay 82 = .ok (.iload_n 1, 1) := by decide +kernel
theorem dX7_lay_83 : decode cX7_lay 83 = .ok (.iaload, 1) := by decide +kernel
theorem dX7_lay_84 : decode cX7_lay 84 = .ok (.iconst 1, 1) := by decide +kernel
theorem dX7_lay_85 : decode cX7_lay 85 = .ok (.if_icmp .ne 13, 3) := by decide +kernel
theorem dX7_lay_88 : decode cX7_lay 88 = .ok (.iload_n 3, 1) := by decide +kernel
theorem dX7_lay_89 : decode cX7_lay 89 = .ok (.bipush 16, 2) := by decide +kernel
theorem dX7_lay_91 : decode cX7_lay 91 = .ok (.ishl, 1) := by decide +kernel
theorem dX7_lay_92 : decode cX7_lay 92 = .ok (.bipush 16, 2) := by decide +kernel
theorem dX7_lay_94 : decode cX7_lay 94 = .ok (.ishr, 1) := by decide +kernel
theorem dX7_lay_95 : decode cX7_lay 95 = .ok (.goto 4, 3) := by decide +kernel
theorem dX7_lay_98 : decode cX7_lay 98 = .ok (.iload_n 3, 1) := by decide +kernel
theorem dX7_lay_99 : decode cX7_lay 99 = .ok (.iastore, 1) := by decide +kernel
theorem dX7_lay_100 : decode cX7_lay 100 = .ok (.iconst 1, 1) := by decide +kernel
theorem dX7_lay_101 : decode cX7_lay 101 = .ok (.ireturn, 1) := by decide +kernel
theorem dX7_read_0 : decode cX7_read 0 = .ok (.iload_n 1, 1) := by decide +kernel
theorem dX7_read_1 : decode cX7_read 1 = .ok (.i2l, 1) := by decide +kernel
theorem dX7_read_2 : decode cX7_read 2 = .ok (.lconst 0, 1) := by decide +kernel
theorem dX7_read_3 : decode cX7_read 3 = .ok (.ldc2_w 181, 3) := by decide +kernel
theorem dX7_read_6 : decode cX7_read 6 = .ok (.invokestatic 49, 3) := by decide +kernel
theorem dX7_read_9 : decode cX7_read 9 = .ok (.ifCond .eq 28, 3) := by decide +kernel
theorem dX7_read_12 : decode cX7_read 12 = .ok (.iload_n 2, 1) := by decide +kernel
theorem dX7_read_13 : decode cX7_read 13 = .ok (.i2l, 1) := by decide +kernel
theorem dX7_read_14 : decode cX7_read 14 = .ok (.lconst 0, 1) := by decide +kernel
theorem dX7_read_15 : decode cX7_read 15 = .ok (.ldc2_w 237, 3) := by decide +kernel
theorem dX7_read_18 : decode cX7_read 18 = .ok (.invokestatic 49, 3) := by decide +kernel
theorem dX7_read_21 : decode cX7_read 21 = .ok (.ifCond .eq 16, 3) := by decide +kernel
theorem dX7_read_24 : decode cX7_read 24 = .ok (.iload 4, 2) := by decide +kernel
theorem dX7_read_26 : decode cX7_read 26 = .ok (.i2l, 1) := by decide +kernel
theorem dX7_read_27 : decode cX7_read 27 = .ok (.lconst 0, 1) := by decide +kernel
theorem dX7_read_28 : decode cX7_read 28 = .ok (.ldc2_w 216, 3) := by decide +kernel
theorem dX7_read_31 : decode cX7_read 31 = .ok (.invokestatic 49, 3) := by decide +kernel
theorem dX7_read_34 : decode cX7_read 34 = .ok (.ifCond .ne 5, 3) := by decide +kernel
theorem dX7_read_37 : decode cX7_read 37 = .ok (.iconst (-1), 1) := by decide +kernel
theorem dX7_read_38 : decode cX7_read 38 = .ok (.ireturn, 1) := by decide +kernel
theorem dX7_read_39 : decode cX7_read 39 = .ok (.aload_n 0, 1) := by decide +kernel
theorem dX7_read_40 : decode cX7_read 40 = .ok (.iconst 0, 1) := by decide +kernel
theorem dX7_read_41 : decode cX7_read 41 = .ok (.bipush 108, 2) := by decide +kernel
theorem dX7_read_43 : decode cX7_read 43 = .ok (.invokevirtual 209, 3) := by decide +kernel
theorem dX7_read_46 : decode cX7_read 46 = .ok (.iconst 0, 1) := by decide +kernel
theorem dX7_read_47 : decode cX7_read 47 = .ok (.istore 5, 2) := by decide +kernel
theorem dX7_read_49 : decode cX7_read 49 = .ok (.iconst 0, 1) := by decide +kernel
theorem dX7_read_50 : decode cX7_read 50 = .ok (.istore 6, 2) := by decide +kernel
theorem dX7_read_52 : decode cX7_read 52 = .ok (.iconst 0, 1) := by decide +kernel
theorem dX7_read_53 : decode cX7_read 53 = .ok (.istore 7, 2) := by decide +kernel
theorem dX7_read_55 : decode cX7_read 55 = .ok (.iload 7, 2) := by decide +kernel
theorem dX7_read_57 : decode cX7_read 57 = .ok (.iconst 4, 1) := by decide +kernel
theorem dX7_read_58 : decode cX7_read 58 = .ok (.iload 4, 2) := by decide +kernel
theorem dX7_read_60 : decode cX7_read 60 = .ok (.imul, 1) := by decide +kernel
theorem dX7_read_61 : decode cX7_read 61 = .ok (.if_icmp .ge 153, 3) := by decide +kernel
theorem dX7_read_64 : decode cX7_read 64 = .ok (.iload 5, 2) := by decide +kernel
theorem dX7_read_66 : decode cX7_read 66 = .ok (.ifCond .ne 148, 3) := by decide +kernel
theorem dX7_read_69 : decode cX7_read 69 = .ok (.aload_n 0, 1) := by decide +kernel
theorem dX7_read_70 : decode cX7_read 70 = .ok (.getfield 38, 3) := by decide +kernel
theorem dX7_read_73 : decode cX7_read 73 = .ok (.iload_n 1, 1) := by decide +kernel
theorem dX7_read_74 : decode cX7_read 74 = .ok (.iaload, 1) := by decide +kernel
theorem dX7_read_75 : decode cX7_read 75 = .ok (.bipush (-4), 2) := by decide +kernel
theorem dX7_read_77 : decode cX7_read 77 = .ok (.if_icmp .ne 7, 3) := by decide +kernel
theorem dX7_read_80 : decode cX7_read 80 = .ok (.iconst 1, 1) := by decide +kernel
theorem dX7_read_81 : decode cX7_read 81 = .ok (.goto 44, 3) := by decide +kernel
theorem dX7_read_84 : decode cX7_read 84 = .ok (.aload_n 0, 1) := by decide +kernel
theorem dX7_read_85 : decode cX7_read 85 = .ok (.getfield 38, 3) := by decide +kernel
theorem dX7_read_88 : decode cX7_read 88 = .ok (.iload_n 1, 1) := by decide +kernel
theorem dX7_read_89 : decode cX7_read 89 = .ok (.iaload, 1) := by decide +kernel
theorem dX7_read_90 : decode cX7_read 90 = .ok (.iload_n 2, 1) := by decide +kernel
theorem dX7_read_91 : decode cX7_read 91 = .ok (.if_icmp .eq 7, 3) := by decide +kernel
theorem dX7_read_94 : decode cX7_read 94 = .ok (.iconst 3, 1) := by decide +kernel
theorem dX7_read_95 : decode cX7_read 95 = .ok (.goto 30, 3) := by decide +kernel
theorem dX7_read_98 : decode cX7_read 98 = .ok (.iload_n 3, 1) := by decide +kernel
theorem dX7_read_99 : decode cX7_read 99 = .ok (.i2l, 1) := by decide +kernel
theorem dX7_read_100 : decode cX7_read 100 = .ok (.iload 7, 2) := by decide +kernel
theorem dX7_read_102 : decode cX7_read 102 = .ok (.i2l, 1) := by decide +kernel
theorem dX7_read_103 : decode cX7_read 103 = .ok (.ladd, 1) := by decide +kernel
theorem dX7_read_104 : decode cX7_read 104 = .ok (.lconst 0, 1) := by decide +kernel
theorem dX7_read_105 : decode cX7_read 105 = .ok (.aload_n 0, 1) := by decide +kernel
theorem dX7_read_106 : decode cX7_read 106 = .ok (.getfield 41, 3) := by decide +kernel
theorem dX7_read_109 : decode cX7_read 109 = .ok (.iload_n 1, 1) := by decide +kernel
theorem dX7_read_110 : decode cX7_read 110 = .ok (.iaload, 1) := by decide +kernel
theorem dX7_read_111 : decode cX7_read 111 = .ok (.iconst 1, 1) := by decide +kernel
theorem dX7_read_112 : decode cX7_read 112 = .ok (.isub, 1) := by decide +kernel
theorem dX7_read_113 : decode cX7_read 113 = .ok (.i2l, 1) := by decide +kernel
theorem dX7_read_114 : decode cX7_read 114 = .ok (.invokestatic 49, 3) := by decide +kernel
theorem dX7_read_117 : decode cX7_read 117 = .ok (.ifCond .ne 7, 3) := by decide +kernel
theorem dX7_read_120 : decode cX7_read 120 = .ok (.iconst 2, 1) := by decide +kernel
theorem dX7_read_121 : decode cX7_read 121 = .ok (.goto 4, 3) := by decide +kernel
theorem dX7_read_124 : decode cX7_read 124 = .ok (.iconst 0, 1) := by decide +kernel
theorem dX7_read_125 : decode cX7_read 125 = .ok (.istore 5, 2) := by decide +kernel
theorem dX7_read_127 : decode cX7_read 127 = .ok (.iload 5, 2) := by decide +kernel
theorem dX7_read_129 : decode cX7_read 129 = .ok (.ifCond .ne 79, 3) := by decide +kernel
theorem dX7_read_132 : decode cX7_read 132 = .ok (.iload 7, 2) := by decide +kernel
theorem dX7_read_134 : decode cX7_read 134 = .ok (.iconst 4, 1) := by decide +kernel
theorem dX7_read_135 : decode cX7_read 135 = .ok (.irem, 1) := by decide +kernel
theorem dX7_read_136 : decode cX7_read 136 = .ok (.iconst 3, 1) := by decide +kernel
theorem dX7_read_137 : decode cX7_read 137 = .ok (.if_icmp .ne 71, 3) := by decide +kernel
theorem dX7_read_140 : decode cX7_read 140 = .ok (.bipush 40, 2) := by decide +kernel
theorem dX7_read_142 : decode cX7_read 142 = .ok (.iload_n 1, 1) := by decide +kernel
theorem dX7_read_143 : decode cX7_read 143 = .ok (.imul, 1) := by decide +kernel
theorem dX7_read_144 : decode cX7_read 144 = .ok (.iload_n 3, 1) := by decide +kernel
theorem dX7_read_145 : decode cX7_read 145 = .ok (.iadd, 1) := by decide +kernel
theorem dX7_read_146 : decode cX7_read 146 = .ok (.iload 7, 2) := by decide +kernel
theorem dX7_read_148 : decode cX7_read 148 = .ok (.iadd, 1) := by decide +kernel
theorem dX7_read_149 : decode cX7_read 149 = .ok (.istore 8, 2) := by decide +kernel
theorem dX7_read_151 : decode cX7_read 151 = .ok (.aload_n 0, 1) := by decide +kernel
theorem dX7_read_152 : decode cX7_read 152 = .ok (.aload_n 0, 1) := by decide +kernel
theorem dX7_read_153 : decode cX7_read 153 = .ok (.getfield 44, 3) := by decide +kernel
theorem dX7_read_156 : decode cX7_read 156 = .ok (.iload 8, 2) := by decide +kernel
theorem dX7_read_158 : decode cX7_read 158 = .ok (.iconst 3, 1) := by decide +kernel
theorem dX7_read_159 : decode cX7_read 159 = .ok (.isub, 1) := by decide +kernel
theorem dX7_read_160 : decode cX7_read 160 = .ok (.iaload, 1) := by decide +kernel
theorem dX7_read_161 : decode cX7_read 161 = .ok (.aload_n 0, 1) := by decide +kernel
theorem dX7_read_162 : decode cX7_read 162 = .ok (.getfield 44, 3) := by decide +kernel
theorem dX7_read_165 : decode cX7_read 165 = .ok (.iload 8, 2) := by decide +kernel
theorem dX7_read_167 : decode cX7_read 167 = .ok (.iconst 2, 1) := by decide +kernel
theorem dX7_read_168 : decode cX7_read 168 = .ok (.isub, 1) := by decide +kernel
theorem dX7_read_169 : decode cX7_read 169 = .ok (.iaload, 1) := by decide +kernel
theorem dX7_read_170 : decode cX7_read 170 = .ok (.aload_n 0, 1) := by decide +kernel
theorem dX7_read_171 : decode cX7_read 171 = .ok (.getfield 44, 3) := by decide +kernel
theorem dX7_read_174 : decode cX7_read 174 = .ok (.iload 8, 2) := by decide +kernel
theorem dX7_read_176 : decode cX7_read 176 = .ok (.iconst 1, 1) := by decide +kernel
theorem dX7_read_177 : decode cX7_read 177 = .ok (.isub, 1) := by decide +kernel
theorem dX7_read_178 : decode cX7_read 178 = .ok (.iaload, 1) := by decide +kernel
theorem dX7_read_179 : decode cX7_read 179 = .ok (.aload_n 0, 1) := by decide +kernel
theorem dX7_read_180 : decode cX7_read 180 = .ok (.getfield 44, 3) := by decide +kernel
theorem dX7_read_183 : decode cX7_read 183 = .ok (.iload 8, 2) := by decide +kernel
theorem dX7_read_185 : decode cX7_read 185 = .ok (.iaload, 1) := by decide +kernel
theorem dX7_read_186 : decode cX7_read 186 = .ok (.invokevirtual 205, 3) := by decide +kernel
theorem dX7_read_189 : decode cX7_read 189 = .ok (.ifCond .ge 16, 3) := by decide +kernel
theorem dX7_read_192 : decode cX7_read 192 = .ok (.aload_n 0, 1) := by decide +kernel
theorem dX7_read_193 : decode cX7_read 193 = .ok (.bipush 108, 2) := by decide +kernel
theorem dX7_read_195 : decode cX7_read 195 = .ok (.iconst 0, 1) := by decide +kernel
theorem dX7_read_196 : decode cX7_read 196 = .ok (.invokevirtual 209, 3) := by decide +kernel
theorem dX7_read_199 : decode cX7_read 199 = .ok (.bipush (-20), 2) := by decide +kernel
theorem dX7_read_201 : decode cX7_read 201 = .ok (.iload 6, 2) := by decide +kernel
theorem dX7_read_203 : decode cX7_read 203 = .ok (.isub, 1) := by decide +kernel
theorem dX7_read_204 : decode cX7_read 204 = .ok (.ireturn, 1) := by decide +kernel
theorem dX7_read_205 : decode cX7_read 205 = .ok (.iinc 6 1, 3) := by decide +kernel
theorem dX7_read_208 : decode cX7_read 208 = .ok (.iinc 7 1, 3) := by decide +kernel
theorem dX7_read_211 : decode cX7_read 211 = .ok (.goto (-156), 3) := by decide +kernel
theorem dX7_read_214 : decode cX7_read 214 = .ok (.aload_n 0, 1) := by decide +kernel
theorem dX7_read_215 : decode cX7_read 215 = .ok (.iload 5, 2) := by decide +kernel
theorem dX7_read_217 : decode cX7_read 217 = .ok (.putfield 239, 3) := by decide +kernel
theorem dX7_read_220 : decode cX7_read 220 = .ok (.iload 6, 2) := by decide +kernel
theorem dX7_read_222 : decode cX7_read 222 = .ok (.ireturn, 1) := by decide +kernel
end
section
theorem dX7_torn_0 : decode cX7_torn 0 = .ok (.aload_n 0, 1) := by decide +kernel
theorem dX7_torn_1 : decode cX7_torn 1 = .ok (.getfield 239, 3) := by decide +kernel
theorem dX7_torn_4 : decode cX7_torn 4 = .ok (.ireturn, 1) := by decide +kernel
theorem dX7_count_0 : decode cX7_count 0 = .ok (.iconst 0, 1) := by decide +kernel
theorem dX7_count_1 : decode cX7_count 1 = .ok (.istore_n 2, 1) := by decide +kernel
theorem dX7_count_2 : decode cX7_count 2 = .ok (.iconst 0, 1) := by decide +kernel
theorem dX7_count_3 : decode cX7_count 3 = .ok (.istore_n 3, 1) := by decide +kernel
theorem dX7_count_4 : decode cX7_count 4 = .ok (.iconst 0, 1) := by decide +kernel
theorem dX7_count_5 : decode cX7_count 5 = .ok (.istore 4, 2) := by decide +kernel
theorem dX7_count_7 : decode cX7_count 7 = .ok (.iload 4, 2) := by decide +kernel
theorem dX7_count_9 : decode cX7_count 9 = .ok (.aload_n 0, 1) := by decide +kernel
theorem dX7_count_10 : decode cX7_count 10 = .ok (.getfield 7, 3) := by decide +kernel
theorem dX7_count_13 : decode cX7_count 13 = .ok (.bipush 24, 2) := by decide +kernel
theorem dX7_count_15 : decode cX7_count 15 = .ok (.iaload, 1) := by decide +kernel
theorem dX7_count_16 : decode cX7_count 16 = .ok (.if_icmp .ge 22, 3) := by decide +kernel
theorem dX7_count_19 : decode cX7_count 19 = .ok (.iload_n 2, 1) := by decide +kernel
theorem dX7_count_20 : decode cX7_count 20 = .ok (.aload_n 0, 1) := by decide +kernel
theorem dX7_count_21 : decode cX7_count 21 = .ok (.getfield 7, 3) := by decide +kernel
theorem dX7_count_24 : decode cX7_count 24 = .ok (.bipush 18, 2) := by decide +kernel
theorem dX7_count_26 : decode cX7_count 26 = .ok (.iload 4, 2) := by decide +kernel
theorem dX7_count_28 : decode cX7_count 28 = .ok (.iadd, 1) := by decide +kernel
theorem dX7_count_29 : decode cX7_count 29 = .ok (.iaload, 1) := by decide +kernel
theorem dX7_count_30 : decode cX7_count 30 = .ok (.iadd, 1) := by decide +kernel
theorem dX7_count_31 : decode cX7_count 31 = .ok (.istore_n 2, 1) := by decide +kernel
theorem dX7_count_32 : decode cX7_count 32 = .ok (.iinc 4 1, 3) := by decide +kernel
theorem dX7_count_35 : decode cX7_count 35 = .ok (.goto (-28), 3) := by decide +kernel
theorem dX7_count_38 : decode cX7_count 38 = .ok (.iconst 0, 1) := by decide +kernel
theorem dX7_count_39 : decode cX7_count 39 = .ok (.istore 4, 2) := by decide +kernel
theorem dX7_count_41 : decode cX7_count 41 = .ok (.iload 4, 2) := by decide +kernel
theorem dX7_count_43 : decode cX7_count 43 = .ok (.aload_n 0, 1) := by decide +kernel
theorem dX7_count_44 : decode cX7_count 44 = .ok (.getfield 7, 3) := by decide +kernel
theorem dX7_count_47 : decode cX7_count 47 = .ok (.bipush 33, 2) := by decide +kernel
theorem dX7_count_49 : decode cX7_count 49 = .ok (.iaload, 1) := by decide +kernel
theorem dX7_count_50 : decode cX7_count 50 = .ok (.if_icmp .ge 22, 3) := by decide +kernel
theorem dX7_count_53 : decode cX7_count 53 = .ok (.iload_n 3, 1) := by decide +kernel
theorem dX7_count_54 : decode cX7_count 54 = .ok (.aload_n 0, 1) := by decide +kernel
theorem dX7_count_55 : decode cX7_count 55 = .ok (.getfield 7, 3) := by decide +kernel
theorem dX7_count_58 : decode cX7_count 58 = .ok (.bipush 29, 2) := by decide +kernel
theorem dX7_count_60 : decode cX7_count 60 = .ok (.iload 4, 2) := by decide +kernel
theorem dX7_count_62 : decode cX7_count 62 = .ok (.iadd, 1) := by decide +kernel
theorem dX7_count_63 : decode cX7_count 63 = .ok (.iaload, 1) := by decide +kernel
theorem dX7_count_64 : decode cX7_count 64 = .ok (.iadd, 1) := by decide +kernel
theorem dX7_count_65 : decode cX7_count 65 = .ok (.istore_n 3, 1) := by decide +kernel
theorem dX7_count_66 : decode cX7_count 66 = .ok (.iinc 4 1, 3) := by decide +kernel
theorem dX7_count_69 : decode cX7_count 69 = .ok (.goto (-28), 3) := by decide +kernel
theorem dX7_count_72 : decode cX7_count 72 = .ok (.iload_n 1, 1) := by decide +kernel
theorem dX7_count_73 : decode cX7_count 73 = .ok (.tableswitch 106 0 5 #[39, 44, 74, 79, 102, 104], 39) := by decide +kernel
theorem dX7_count_112 : decode cX7_count 112 = .ok (.aload_n 0, 1) := by decide +kernel
theorem dX7_count_113 : decode cX7_count 113 = .ok (.getfield 116, 3) := by decide +kernel
theorem dX7_count_116 : decode cX7_count 116 = .ok (.ireturn, 1) := by decide +kernel
theorem dX7_count_117 : decode cX7_count 117 = .ok (.aload_n 0, 1) := by decide +kernel
theorem dX7_count_118 : decode cX7_count 118 = .ok (.getfield 34, 3) := by decide +kernel
theorem dX7_count_121 : decode cX7_count 121 = .ok (.iconst 0, 1) := by decide +kernel
theorem dX7_count_122 : decode cX7_count 122 = .ok (.baload, 1) := by decide +kernel
theorem dX7_count_123 : decode cX7_count 123 = .ok (.ifCond .eq 7, 3) := by decide +kernel
theorem dX7_count_126 : decode cX7_count 126 = .ok (.iconst 1, 1) := by decide +kernel
theorem dX7_count_127 : decode cX7_count 127 = .ok (.goto 4, 3) := by decide +kernel
theorem dX7_count_130 : decode cX7_count 130 = .ok (.iconst 0, 1) := by decide +kernel
theorem dX7_count_131 : decode cX7_count 131 = .ok (.aload_n 0, 1) := by decide +kernel
theorem dX7_count_132 : decode cX7_count 132 = .ok (.getfield 34, 3) := by decide +kernel
theorem dX7_count_135 : decode cX7_count 135 = .ok (.iconst 1, 1) := by decide +kernel
theorem dX7_count_136 : decode cX7_count 136 = .ok (.baload, 1) := by decide +kernel
theorem dX7_count_137 : decode cX7_count 137 = .ok (.ifCond .eq 7, 3) := by decide +kernel
theorem dX7_count_140 : decode cX7_count 140 = .ok (.iconst 1, 1) := by decide +kernel
theorem dX7_count_141 : decode cX7_count 141 = .ok (.goto 4, 3) := by decide +kernel
theorem dX7_count_144 : decode cX7_count 144 = .ok (.iconst 0, 1) := by decide +kernel
theorem dX7_count_145 : decode cX7_count 145 = .ok (.iadd, 1) := by decide +kernel
theorem dX7_count_146 : decode cX7_count 146 = .ok (.ireturn, 1) := by decide +kernel
theorem dX7_count_147 : decode cX7_count 147 = .ok (.aload_n 0, 1) := by decide +kernel
theorem dX7_count_148 : decode cX7_count 148 = .ok (.getfield 53, 3) := by decide +kernel
theorem dX7_count_151 : decode cX7_count 151 = .ok (.ireturn, 1) := by decide +kernel
theorem dX7_count_152 : decode cX7_count 152 = .ok (.aload_n 0, 1) := by decide +kernel
theorem dX7_count_153 : decode cX7_count 153 = .ok (.getfield 38, 3) := by decide +kernel
theorem dX7_count_156 : decode cX7_count 156 = .ok (.iconst 0, 1) := by decide +kernel
theorem dX7_count_157 : decode cX7_count 157 = .ok (.iaload, 1) := by decide +kernel
theorem dX7_count_158 : decode cX7_count 158 = .ok (.bipush (-4), 2) := by decide +kernel
theorem dX7_count_160 : decode cX7_count 160 = .ok (.if_icmp .ne 8, 3) := by decide +kernel
theorem dX7_count_163 : decode cX7_count 163 = .ok (.bipush (-4), 2) := by decide +kernel
theorem dX7_count_165 : decode cX7_count 165 = .ok (.goto 9, 3) := by decide +kernel
theorem dX7_count_168 : decode cX7_count 168 = .ok (.aload_n 0, 1) := by decide +kernel
theorem dX7_count_169 : decode cX7_count 169 = .ok (.getfield 41, 3) := by decide +kernel
theorem dX7_count_172 : decode cX7_count 172 = .ok (.iconst 0, 1) := by decide +kernel
theorem dX7_count_173 : decode cX7_count 173 = .ok (.iaload, 1) := by decide +kernel
theorem dX7_count_174 : decode cX7_count 174 = .ok (.ireturn, 1) := by decide +kernel
theorem dX7_count_175 : decode cX7_count 175 = .ok (.iload_n 2, 1) := by decide +kernel
theorem dX7_count_176 : decode cX7_count 176 = .ok (.ireturn, 1) := by decide +kernel
theorem dX7_count_177 : decode cX7_count 177 = .ok (.iload_n 3, 1) := by decide +kernel
theorem dX7_count_178 : decode cX7_count 178 = .ok (.ireturn, 1) := by decide +kernel
theorem dX7_count_179 : decode cX7_count 179 = .ok (.iconst (-1), 1) := by decide +kernel
theorem dX7_count_180 : decode cX7_count 180 = .ok (.ireturn, 1) := by decide +kernel
theorem dJ6_bitCount_0f7a4_0 : decode cJ6_bitCount_0f7a4 0 = .ok (.iload_n 0, 1) := by decide +kernel
theorem dJ6_bitCount_0f7a4_1 : decode cJ6_bitCount_0f7a4 1 = .ok (.iload_n 0, 1) := by decide +kernel
theorem dJ6_bitCount_0f7a4_2 : decode cJ6_bitCount_0f7a4 2 = .ok (.iconst 1, 1) := by decide +kernel
theorem dJ6_bitCount_0f7a4_3 : decode cJ6_bitCount_0f7a4 3 = .ok (.iushr, 1) := by decide +kernel
theorem dJ6_bitCount_0f7a4_4 : decode cJ6_bitCount_0f7a4 4 = .ok (.ldc_w 265, 3) := by decide +kernel
theorem dJ6_bitCount_0f7a4_7 : decode cJ6_bitCount_0f7a4 7 = .ok (.iand, 1) := by decide +kernel
theorem dJ6_bitCount_0f7a4_8 : decode cJ6_bitCount_0f7a4 8 = .ok (.isub, 1) := by decide +kernel
theorem dJ6_bitCount_0f7a4_9 : decode cJ6_bitCount_0f7a4 9 = .ok (.istore_n 0, 1) := by decide +kernel
theorem dJ6_bitCount_0f7a4_10 : decode cJ6_bitCount_0f7a4 10 = .ok (.iload_n 0, 1) := by decide +kernel
theorem dJ6_bitCount_0f7a4_11 : decode cJ6_bitCount_0f7a4 11 = .ok (.ldc_w 266, 3) := by decide +kernel
theorem dJ6_bitCount_0f7a4_14 : decode cJ6_bitCount_0f7a4 14 = .ok (.iand, 1) := by decide +kernel
theorem dJ6_bitCount_0f7a4_15 : decode cJ6_bitCount_0f7a4 15 = .ok (.iload_n 0, 1) := by decide +kernel
theorem dJ6_bitCount_0f7a4_16 : decode cJ6_bitCount_0f7a4 16 = .ok (.iconst 2, 1) := by decide +kernel
theorem dJ6_bitCount_0f7a4_17 : decode cJ6_bitCount_0f7a4 17 = .ok (.iushr, 1) := by decide +kernel
theorem dJ6_bitCount_0f7a4_18 : decode cJ6_bitCount_0f7a4 18 = .ok (.ldc_w 266, 3) := by decide +kernel
theorem dJ6_bitCount_0f7a4_21 : decode cJ6_bitCount_0f7a4 21 = .ok (.iand, 1) := by decide +kernel
theorem dJ6_bitCount_0f7a4_22 : decode cJ6_bitCount_0f7a4 22 = .ok (.iadd, 1) := by decide +kernel
theorem dJ6_bitCount_0f7a4_23 : decode cJ6_bitCount_0f7a4 23 = .ok (.istore_n 0, 1) := by decide +kernel
theorem dJ6_bitCount_0f7a4_24 : decode cJ6_bitCount_0f7a4 24 = .ok (.iload_n 0, 1) := by decide +kernel
theorem dJ6_bitCount_0f7a4_25 : decode cJ6_bitCount_0f7a4 25 = .ok (.iload_n 0, 1) := by decide +kernel
theorem dJ6_bitCount_0f7a4_26 : decode cJ6_bitCount_0f7a4 26 = .ok (.iconst 4, 1) := by decide +kernel
theorem dJ6_bitCount_0f7a4_27 : decode cJ6_bitCount_0f7a4 27 = .ok (.iushr, 1) := by decide +kernel
theorem dJ6_bitCount_0f7a4_28 : decode cJ6_bitCount_0f7a4 28 = .ok (.iadd, 1) := by decide +kernel
theorem dJ6_bitCount_0f7a4_29 : decode cJ6_bitCount_0f7a4 29 = .ok (.ldc_w 267, 3) := by decide +kernel
theorem dJ6_bitCount_0f7a4_32 : decode cJ6_bitCount_0f7a4 32 = .ok (.iand, 1) := by decide +kernel
theorem dJ6_bitCount_0f7a4_33 : decode cJ6_bitCount_0f7a4 33 = .ok (.istore_n 0, 1) := by decide +kernel
theorem dJ6_bitCount_0f7a4_34 : decode cJ6_bitCount_0f7a4 34 = .ok (.iload_n 0, 1) := by decide +kernel
theorem dJ6_bitCount_0f7a4_35 : decode cJ6_bitCount_0f7a4 35 = .ok (.iload_n 0, 1) := by decide +kernel
theorem dJ6_bitCount_0f7a4_36 : decode cJ6_bitCount_0f7a4 36 = .ok (.bipush 8, 2) := by decide +kernel
theorem dJ6_bitCount_0f7a4_38 : decode cJ6_bitCount_0f7a4 38 = .ok (.iushr, 1) := by decide +kernel
theorem dJ6_bitCount_0f7a4_39 : decode cJ6_bitCount_0f7a4 39 = .ok (.iadd, 1) := by decide +kernel
theorem dJ6_bitCount_0f7a4_40 : decode cJ6_bitCount_0f7a4 40 = .ok (.istore_n 0, 1) := by decide +kernel
theorem dJ6_bitCount_0f7a4_41 : decode cJ6_bitCount_0f7a4 41 = .ok (.iload_n 0, 1) := by decide +kernel
theorem dJ6_bitCount_0f7a4_42 : decode cJ6_bitCount_0f7a4 42 = .ok (.iload_n 0, 1) := by decide +kernel
theorem dJ6_bitCount_0f7a4_43 : decode cJ6_bitCount_0f7a4 43 = .ok (.bipush 16, 2) := by decide +kernel
theorem dJ6_bitCount_0f7a4_45 : decode cJ6_bitCount_0f7a4 45 = .ok (.iushr, 1) := by decide +kernel
theorem dJ6_bitCount_0f7a4_46 : decode cJ6_bitCount_0f7a4 46 = .ok (.iadd, 1) := by decide +kernel
theorem dJ6_bitCount_0f7a4_47 : decode cJ6_bitCount_0f7a4 47 = .ok (.istore_n 0, 1) := by decide +kernel
theorem dJ6_bitCount_0f7a4_48 : decode cJ6_bitCount_0f7a4 48 = .ok (.iload_n 0, 1) := by decide +kernel
theorem dJ6_bitCount_0f7a4_49 : decode cJ6_bitCount_0f7a4 49 = .ok (.bipush 63, 2) := by decide +kernel
theorem dJ6_bitCount_0f7a4_51 : decode cJ6_bitCount_0f7a4 51 = .ok (.iand, 1) := by decide +kernel
theorem dJ6_bitCount_0f7a4_52 : decode cJ6_bitCount_0f7a4 52 = .ok (.ireturn, 1) := by decide +kernel
theorem dJ9_abs_0f7a4_0 : decode cJ9_abs_0f7a4 0 = .ok (.iload_n 0, 1) := by decide +kernel
theorem dJ9_abs_0f7a4_1 : decode cJ9_abs_0f7a4 1 = .ok (.ifCond .ge 8, 3) := by decide +kernel
theorem dJ9_abs_0f7a4_4 : decode cJ9_abs_0f7a4 4 = .ok (.iload_n 0, 1) := by decide +kernel
theorem dJ9_abs_0f7a4_5 : decode cJ9_abs_0f7a4 5 = .ok (.ineg, 1) := by decide +kernel
theorem dJ9_abs_0f7a4_6 : decode cJ9_abs_0f7a4 6 = .ok (.goto 4, 3) := by decide +kernel
theorem dJ9_abs_0f7a4_9 : decode cJ9_abs_0f7a4 9 = .ok (.iload_n 0, 1) := by decide +kernel
theorem dJ9_abs_0f7a4_10 : decode cJ9_abs_0f7a4 10 = .ok (.ireturn, 1) := by decide +kernel
theorem dJ9_max_7cf53_0 : decode cJ9_max_7cf53 0 = .ok (.iload_n 0, 1) := by decide +kernel
theorem dJ9_max_7cf53_1 : decode cJ9_max_7cf53 1 = .ok (.iload_n 1, 1) := by decide +kernel
theorem dJ9_max_7cf53_2 : decode cJ9_max_7cf53 2 = .ok (.if_icmp .lt 7, 3) := by decide +kernel
theorem dJ9_max_7cf53_5 : decode cJ9_max_7cf53 5 = .ok (.iload_n 0, 1) := by decide +kernel
theorem dJ9_max_7cf53_6 : decode cJ9_max_7cf53 6 = .ok (.goto 4, 3) := by decide +kernel
theorem dJ9_max_7cf53_9 : decode cJ9_max_7cf53 9 = .ok (.iload_n 1, 1) := by decide +kernel
theorem dJ9_max_7cf53_10 : decode cJ9_max_7cf53 10 = .ok (.ireturn, 1) := by decide +kernel
theorem dJ9_min_7cf53_0 : decode cJ9_min_7cf53 0 = .ok (.iload_n 0, 1) := by decide +kernel
theorem dJ9_min_7cf53_1 : decode cJ9_min_7cf53 1 = .ok (.iload_n 1, 1) := by decide +kernel
theorem dJ9_min_7cf53_2 : decode cJ9_min_7cf53 2 = .ok (.if_icmp .gt 7, 3) := by decide +kernel
theorem dJ9_min_7cf53_5 : decode cJ9_min_7cf53 5 = .ok (.iload_n 0, 1) := by decide +kernel
theorem dJ9_min_7cf53_6 : decode cJ9_min_7cf53 6 = .ok (.goto 4, 3) := by decide +kernel
theorem dJ9_min_7cf53_9 : decode cJ9_min_7cf53 9 = .ok (.iload_n 1, 1) := by decide +kernel
theorem dJ9_min_7cf53_10 : decode cJ9_min_7cf53 10 = .ok (.ireturn, 1) := by decide +kernel
theorem dJ0_length_8abf5_0 : decode cJ0_length_8abf5 0 = .ok (.aload_n 0, 1) := by decide +kernel
theorem dJ0_length_8abf5_1 : decode cJ0_length_8abf5 1 = .ok (.getfield 9, 3) := by decide +kernel
theorem dJ0_length_8abf5_4 : decode cJ0_length_8abf5 4 = .ok (.arraylength, 1) := by decide +kernel
theorem dJ0_length_8abf5_5 : decode cJ0_length_8abf5 5 = .ok (.aload_n 0, 1) := by decide +kernel
theorem dJ0_length_8abf5_6 : decode cJ0_length_8abf5 6 = .ok (.invokevirtual 335, 3) := by decide +kernel
theorem dJ0_length_8abf5_9 : decode cJ0_length_8abf5 9 = .ok (.ishr, 1) := by decide +kernel
theorem dJ0_length_8abf5_10 : decode cJ0_length_8abf5 10 = .ok (.ireturn, 1) := by decide +kernel
theorem dJ0_charAt_5068e_0 : decode cJ0_charAt_5068e 0 = .ok (.aload_n 0, 1) := by decide +kernel
theorem dJ0_charAt_5068e_1 : decode cJ0_charAt_5068e 1 = .ok (.invokevirtual 492, 3) := by decide +kernel
theorem dJ0_charAt_5068e_4 : decode cJ0_charAt_5068e 4 = .ok (.ifCond .eq 12, 3) := by decide +kernel
theorem dJ0_charAt_5068e_7 : decode cJ0_charAt_5068e 7 = .ok (.aload_n 0, 1) := by decide +kernel
theorem dJ0_charAt_5068e_8 : decode cJ0_charAt_5068e 8 = .ok (.getfield 9, 3) := by decide +kernel
theorem dJ0_charAt_5068e_11 : decode cJ0_charAt_5068e 11 = .ok (.iload_n 1, 1) := by decide +kernel
theorem dJ0_charAt_5068e_12 : decode cJ0_charAt_5068e 12 = .ok (.invokestatic 495, 3) := by decide +kernel
theorem dJ0_charAt_5068e_15 : decode cJ0_charAt_5068e 15 = .ok (.ireturn, 1) := by decide +kernel
theorem dJ0_charAt_5068e_16 : decode cJ0_charAt_5068e 16 = .ok (.aload_n 0, 1) := by decide +kernel
theorem dJ0_charAt_5068e_17 : decode cJ0_charAt_5068e 17 = .ok (.getfield 9, 3) := by decide +kernel
theorem dJ0_charAt_5068e_20 : decode cJ0_charAt_5068e 20 = .ok (.iload_n 1, 1) := by decide +kernel
theorem dJ0_charAt_5068e_21 : decode cJ0_charAt_5068e 21 = .ok (.invokestatic 498, 3) := by decide +kernel
theorem dJ0_charAt_5068e_24 : decode cJ0_charAt_5068e 24 = .ok (.ireturn, 1) := by decide +kernel
theorem dJ0_coder_7d493_0 : decode cJ0_coder_7d493 0 = .ok (.getstatic 38, 3) := by decide +kernel
theorem dJ0_coder_7d493_3 : decode cJ0_coder_7d493 3 = .ok (.ifCond .eq 10, 3) := by decide +kernel
theorem dJ0_coder_7d493_6 : decode cJ0_coder_7d493 6 = .ok (.aload_n 0, 1) := by decide +kernel
theorem dJ0_coder_7d493_7 : decode cJ0_coder_7d493 7 = .ok (.getfield 15, 3) := by decide +kernel
theorem dJ0_coder_7d493_10 : decode cJ0_coder_7d493 10 = .ok (.goto 4, 3) := by decide +kernel
theorem dJ0_coder_7d493_13 : decode cJ0_coder_7d493 13 = .ok (.iconst 1, 1) := by decide +kernel
theorem dJ0_coder_7d493_14 : decode cJ0_coder_7d493 14 = .ok (.ireturn, 1) := by decide +kernel
theorem dJ0_isLatin1_aae02_0 : decode cJ0_isLatin1_aae02 0 = .ok (.getstatic 38, 3) := by decide +kernel
theorem dJ0_isLatin1_aae02_3 : decode cJ0_isLatin1_aae02 3 = .ok (.ifCond .eq 14, 3) := by decide +kernel
theorem dJ0_isLatin1_aae02_6 : decode cJ0_isLatin1_aae02 6 = .ok (.aload_n 0, 1) := by decide +kernel
theorem dJ0_isLatin1_aae02_7 : decode cJ0_isLatin1_aae02 7 = .ok (.getfield 15, 3) := by decide +kernel
theorem dJ0_isLatin1_aae02_10 : decode cJ0_isLatin1_aae02 10 = .ok (.ifCond .ne 7, 3) := by decide +kernel
theorem dJ0_isLatin1_aae02_13 : decode cJ0_isLatin1_aae02 13 = .ok (.iconst 1, 1) := by decide +kernel
theorem dJ0_isLatin1_aae02_14 : decode cJ0_isLatin1_aae02 14 = .ok (.goto 4, 3) := by decide +kernel
theorem dJ0_isLatin1_aae02_17 : decode cJ0_isLatin1_aae02 17 = .ok (.iconst 0, 1) := by decide +kernel
theorem dJ0_isLatin1_aae02_18 : decode cJ0_isLatin1_aae02 18 = .ok (.ireturn, 1) := by decide +kernel
theorem dJ0_checkIndex_df160_0 : decode cJ0_checkIndex_df160 0 = .ok (.iload_n 0, 1) := by decide +kernel
theorem dJ0_checkIndex_df160_1 : decode cJ0_checkIndex_df160 1 = .ok (.iload_n 1, 1) := by decide +kernel
theorem dJ0_checkIndex_df160_2 : decode cJ0_checkIndex_df160 2 = .ok (.getstatic 1053, 3) := by decide +kernel
theorem dJ0_checkIndex_df160_5 : decode cJ0_checkIndex_df160 5 = .ok (.invokestatic 1059, 3) := by decide +kernel
theorem dJ0_checkIndex_df160_8 : decode cJ0_checkIndex_df160 8 = .ok (.pop, 1) := by decide +kernel
theorem dJ0_checkIndex_df160_9 : decode cJ0_checkIndex_df160 9 = .ok (.return_, 1) := by decide +kernel
theorem dJ1_charAt_3b067_0 : decode cJ1_charAt_3b067 0 = .ok (.iload_n 1, 1) := by decide +kernel
theorem dJ1_charAt_3b067_1 : decode cJ1_charAt_3b067 1 = .ok (.aload_n 0, 1) := by decide +kernel
theorem dJ1_charAt_3b067_2 : decode cJ1_charAt_3b067 2 = .ok (.arraylength, 1) := by decide +kernel
theorem dJ1_charAt_3b067_3 : decode cJ1_charAt_3b067 3 = .ok (.invokestatic 9, 3) := by decide +kernel
theorem dJ1_charAt_3b067_6 : decode cJ1_charAt_3b067 6 = .ok (.aload_n 0, 1) := by decide +kernel
theorem dJ1_charAt_3b067_7 : decode cJ1_charAt_3b067 7 = .ok (.iload_n 1, 1) := by decide +kernel
theorem dJ1_charAt_3b067_8 : decode cJ1_charAt_3b067 8 = .ok (.baload, 1) := by decide +kernel
theorem dJ1_charAt_3b067_9 : decode cJ1_charAt_3b067 9 = .ok (.sipush 255, 3) := by decide +kernel
theorem dJ1_charAt_3b067_12 : decode cJ1_charAt_3b067 12 = .ok (.iand, 1) := by decide +kernel
theorem dJ1_charAt_3b067_13 : decode cJ1_charAt_3b067 13 = .ok (.i2c, 1) := by decide +kernel
theorem dJ1_charAt_3b067_14 : decode cJ1_charAt_3b067 14 = .ok (.ireturn, 1) := by decide +kernel
theorem dJ2_getChar_3b067_0 : decode cJ2_getChar_3b067 0 = .ok (.getstatic 44, 3) := by decide +kernel
theorem dJ2_getChar_3b067_3 : decode cJ2_getChar_3b067 3 = .ok (.ifCond .ne 25, 3) := by decide +kernel
theorem dJ2_getChar_3b067_6 : decode cJ2_getChar_3b067 6 = .ok (.iload_n 1, 1) := by decide +kernel
theorem dJ2_getChar_3b067_7 : decode cJ2_getChar_3b067 7 = .ok (.ifCond .lt 11, 3) := by decide +kernel
theorem dJ2_getChar_3b067_10 : decode cJ2_getChar_3b067 10 = .ok (.iload_n 1, 1) := by decide +kernel
theorem dJ2_getChar_3b067_11 : decode cJ2_getChar_3b067 11 = .ok (.aload_n 0, 1) := by decide +kernel
theorem dJ2_getChar_3b067_12 : decode cJ2_getChar_3b067 12 = .ok (.invokestatic 48, 3) := by decide +kernel
theorem dJ2_getChar_3b067_15 : decode cJ2_getChar_3b067 15 = .ok (.if_icmp .lt 13, 3) := by decide +kernel
theorem dJ2_getChar_3b067_18 : decode cJ2_getChar_3b067 18 = .ok (.new 52, 3) := by decide +kernel
theorem dJ2_getChar_3b067_21 : decode cJ2_getChar_3b067 21 = .ok (.dup, 1) := by decide +kernel
theorem dJ2_getChar_3b067_22 : decode cJ2_getChar_3b067 22 = .ok (.ldc 54, 2) := by decide +kernel
theorem dJ2_getChar_3b067_24 : decode cJ2_getChar_3b067 24 = .ok (.invokespecial 56, 3) := by decide +kernel
theorem dJ2_getChar_3b067_27 : decode cJ2_getChar_3b067 27 = .ok (.athrow, 1) := by decide +kernel
theorem dJ2_getChar_3b067_28 : decode cJ2_getChar_3b067 28 = .ok (.iload_n 1, 1) := by decide +kernel
theorem dJ2_getChar_3b067_29 : decode cJ2_getChar_3b067 29 = .ok (.iconst 1, 1) := by decide +kernel
theorem dJ2_getChar_3b067_30 : decode cJ2_getChar_3b067 30 = .ok (.ishl, 1) := by decide +kernel
theorem dJ2_getChar_3b067_31 : decode cJ2_getChar_3b067 31 = .ok (.istore_n 1, 1) := by decide +kernel
theorem dJ2_getChar_3b067_32 : decode cJ2_getChar_3b067 32 = .ok (.aload_n 0, 1) := by decide +kernel
theorem dJ2_getChar_3b067_33 : decode cJ2_getChar_3b067 33 = .ok (.iload_n 1, 1) := by decide +kernel
theorem dJ2_getChar_3b067_34 : decode cJ2_getChar_3b067 34 = .ok (.iinc 1 1, 3) := by decide +kernel
theorem dJ2_getChar_3b067_37 : decode cJ2_getChar_3b067 37 = .ok (.baload, 1) := by decide +kernel
theorem dJ2_getChar_3b067_38 : decode cJ2_getChar_3b067 38 = .ok (.sipush 255, 3) := by decide +kernel
theorem dJ2_getChar_3b067_41 : decode cJ2_getChar_3b067 41 = .ok (.iand, 1) := by decide +kernel
theorem dJ2_getChar_3b067_42 : decode cJ2_getChar_3b067 42 = .ok (.getstatic 59, 3) := by decide +kernel
theorem dJ2_getChar_3b067_45 : decode cJ2_getChar_3b067 45 = .ok (.ishl, 1) := by decide +kernel
theorem dJ2_getChar_3b067_46 : decode cJ2_getChar_3b067 46 = .ok (.aload_n 0, 1) := by decide +kernel
theorem dJ2_getChar_3b067_47 : decode cJ2_getChar_3b067 47 = .ok (.iload_n 1, 1) := by decide +kernel
theorem dJ2_getChar_3b067_48 : decode cJ2_getChar_3b067 48 = .ok (.baload, 1) := by decide +kernel
theorem dJ2_getChar_3b067_49 : decode cJ2_getChar_3b067 49 = .ok (.sipush 255, 3) := by decide +kernel
theorem dJ2_getChar_3b067_52 : decode cJ2_getChar_3b067 52 = .ok (.iand, 1) := by decide +kernel
theorem dJ2_getChar_3b067_53 : decode cJ2_getChar_3b067 53 = .ok (.getstatic 63, 3) := by decide +kernel
theorem dJ2_getChar_3b067_56 : decode cJ2_getChar_3b067 56 = .ok (.ishl, 1) := by decide +kernel
theorem dJ2_getChar_3b067_57 : decode cJ2_getChar_3b067 57 = .ok (.ior, 1) := by decide +kernel
theorem dJ2_getChar_3b067_58 : decode cJ2_getChar_3b067 58 = .ok (.i2c, 1) := by decide +kernel
theorem dJ2_getChar_3b067_59 : decode cJ2_getChar_3b067 59 = .ok (.ireturn, 1) := by decide +kernel
theorem dJ2_length_9d52b_0 : decode cJ2_length_9d52b 0 = .ok (.aload_n 0, 1) := by decide +kernel
theorem dJ2_length_9d52b_1 : decode cJ2_length_9d52b 1 = .ok (.arraylength, 1) := by decide +kernel
theorem dJ2_length_9d52b_2 : decode cJ2_length_9d52b 2 = .ok (.iconst 1, 1) := by decide +kernel
theorem dJ2_length_9d52b_3 : decode cJ2_length_9d52b 3 = .ok (.ishr, 1) := by decide +kernel
theorem dJ2_length_9d52b_4 : decode cJ2_length_9d52b 4 = .ok (.ireturn, 1) := by decide +kernel
theorem dJ2_charAt_3b067_0 : decode cJ2_charAt_3b067 0 = .ok (.iload_n 1, 1) := by decide +kernel
theorem dJ2_charAt_3b067_1 : decode cJ2_charAt_3b067 1 = .ok (.aload_n 0, 1) := by decide +kernel
theorem dJ2_charAt_3b067_2 : decode cJ2_charAt_3b067 2 = .ok (.invokestatic 67, 3) := by decide +kernel
theorem dJ2_charAt_3b067_5 : decode cJ2_charAt_3b067 5 = .ok (.aload_n 0, 1) := by decide +kernel
theorem dJ2_charAt_3b067_6 : decode cJ2_charAt_3b067 6 = .ok (.iload_n 1, 1) := by decide +kernel
theorem dJ2_charAt_3b067_7 : decode cJ2_charAt_3b067 7 = .ok (.invokestatic 71, 3) := by decide +kernel
theorem dJ2_charAt_3b067_10 : decode cJ2_charAt_3b067 10 = .ok (.ireturn, 1) := by decide +kernel
theorem dJ2_checkIndex_2214a_0 : decode cJ2_checkIndex_2214a 0 = .ok (.iload_n 0, 1) := by decide +kernel
theorem dJ2_checkIndex_2214a_1 : decode cJ2_checkIndex_2214a 1 = .ok (.aload_n 1, 1) := by decide +kernel
theorem dJ2_checkIndex_2214a_2 : decode cJ2_checkIndex_2214a 2 = .ok (.invokestatic 48, 3) := by decide +kernel
theorem dJ2_checkIndex_2214a_5 : decode cJ2_checkIndex_2214a 5 = .ok (.invokestatic 414, 3) := by decide +kernel
theorem dJ2_checkIndex_2214a_8 : decode cJ2_checkIndex_2214a 8 = .ok (.return_, 1) := by decide +kernel
theorem dJ3_checkIndex_8e157_0 : decode cJ3_checkIndex_8e157 0 = .ok (.iload_n 0, 1) := by decide +kernel
theorem dJ3_checkIndex_8e157_1 : decode cJ3_checkIndex_8e157 1 = .ok (.ifCond .lt 8, 3) := by decide +kernel
theorem dJ3_checkIndex_8e157_4 : decode cJ3_checkIndex_8e157 4 = .ok (.iload_n 0, 1) := by decide +kernel
theorem dJ3_checkIndex_8e157_5 : decode cJ3_checkIndex_8e157 5 = .ok (.iload_n 1, 1) := by decide +kernel
theorem dJ3_checkIndex_8e157_6 : decode cJ3_checkIndex_8e157 6 = .ok (.if_icmp .lt 10, 3) := by decide +kernel
theorem dJ3_checkIndex_8e157_9 : decode cJ3_checkIndex_8e157 9 = .ok (.aload_n 2, 1) := by decide +kernel
theorem dJ3_checkIndex_8e157_10 : decode cJ3_checkIndex_8e157 10 = .ok (.iload_n 0, 1) := by decide +kernel
theorem dJ3_checkIndex_8e157_11 : decode cJ3_checkIndex_8e157 11 = .ok (.iload_n 1, 1) := by decide +kernel
theorem dJ3_checkIndex_8e157_12 : decode cJ3_checkIndex_8e157 12 = .ok (.invokestatic 95, 3) := by decide +kernel
theorem dJ3_checkIndex_8e157_15 : decode cJ3_checkIndex_8e157 15 = .ok (.athrow, 1) := by decide +kernel
theorem dJ3_checkIndex_8e157_16 : decode cJ3_checkIndex_8e157 16 = .ok (.iload_n 0, 1) := by decide +kernel
theorem dJ3_checkIndex_8e157_17 : decode cJ3_checkIndex_8e157 17 = .ok (.ireturn, 1) := by decide +kernel
theorem dL_law_0 : decode cL_law 0 = .ok (.new 7, 3) := by decide +kernel
theorem dL_law_3 : decode cL_law 3 = .ok (.dup, 1) := by decide +kernel
theorem dL_law_4 : decode cL_law 4 = .ok (.invokespecial 9, 3) := by decide +kernel
theorem dL_law_7 : decode cL_law 7 = .ok (.astore_n 1, 1) := by decide +kernel
theorem dL_law_8 : decode cL_law 8 = .ok (.new 10, 3) := by decide +kernel
theorem dL_law_11 : decode cL_law 11 = .ok (.dup, 1) := by decide +kernel
theorem dL_law_12 : decode cL_law 12 = .ok (.invokespecial 12, 3) := by decide +kernel
theorem dL_law_15 : decode cL_law 15 = .ok (.astore_n 2, 1) := by decide +kernel
theorem dL_law_16 : decode cL_law 16 = .ok (.iconst 0, 1) := by decide +kernel
theorem dL_law_17 : decode cL_law 17 = .ok (.istore_n 3, 1) := by decide +kernel
theorem dL_law_18 : decode cL_law 18 = .ok (.iload_n 3, 1) := by decide +kernel
theorem dL_law_19 : decode cL_law 19 = .ok (.aload_n 0, 1) := by decide +kernel
theorem dL_law_20 : decode cL_law 20 = .ok (.arraylength, 1) := by decide +kernel
theorem dL_law_21 : decode cL_law 21 = .ok (.iconst 5, 1) := by decide +kernel
theorem dL_law_22 : decode cL_law 22 = .ok (.isub, 1) := by decide +kernel
theorem dL_law_23 : decode cL_law 23 = .ok (.if_icmp .gt 1481, 3) := by decide +kernel
theorem dL_law_26 : decode cL_law 26 = .ok (.aload_n 0, 1) := by decide +kernel
theorem dL_law_27 : decode cL_law 27 = .ok (.iload_n 3, 1) := by decide +kernel
theorem dL_law_28 : decode cL_law 28 = .ok (.iaload, 1) := by decide +kernel
theorem dL_law_29 : decode cL_law 29 = .ok (.bipush 63, 2) := by decide +kernel
theorem dL_law_31 : decode cL_law 31 = .ok (.iand, 1) := by decide +kernel
theorem dL_law_32 : decode cL_law 32 = .ok (.tableswitch 1466 0 43 #[192, 215, 238, 251, 264, 287, 320, 353, 386, 419, 442, 485, 528, 551, 574, 627, 660, 683, 706, 729, 742, 775, 808, 841, 864, 887, 920, 943, 976, 1030, 1064, 1097, 1120, 1133, 1156, 1179, 1202, 1245, 1268, 1291, 1334, 1377, 1430, 1443], 192) := by decide +kernel
theorem dL_law_224 : decode cL_law 224 = .ok (.aload_n 1, 1) := by decide +kernel
theorem dL_law_225 : decode cL_law 225 = .ok (.aload_n 0, 1) := by decide +kernel
theorem dL_law_226 : decode cL_law 226 = .ok (.iload_n 3, 1) := by decide +kernel
theorem dL_law_227 : decode cL_law 227 = .ok (.iconst 1, 1) := by decide +kernel
theorem dL_law_228 : decode cL_law 228 = .ok (.iadd, 1) := by decide +kernel
theorem dL_law_229 : decode cL_law 229 = .ok (.iaload, 1) := by decide +kernel
theorem dL_law_230 : decode cL_law 230 = .ok (.invokevirtual 13, 3) := by decide +kernel
theorem dL_law_233 : decode cL_law 233 = .ok (.aload_n 2, 1) := by decide +kernel
theorem dL_law_234 : decode cL_law 234 = .ok (.aload_n 0, 1) := by decide +kernel
theorem dL_law_235 : decode cL_law 235 = .ok (.iload_n 3, 1) := by decide +kernel
theorem dL_law_236 : decode cL_law 236 = .ok (.iconst 1, 1) := by decide +kernel
theorem dL_law_237 : decode cL_law 237 = .ok (.iadd, 1) := by decide +kernel
theorem dL_law_238 : decode cL_law 238 = .ok (.iaload, 1) := by decide +kernel
theorem dL_law_239 : decode cL_law 239 = .ok (.invokevirtual 17, 3) := by decide +kernel
theorem dL_law_242 : decode cL_law 242 = .ok (.if_icmp .eq 1256, 3) := by decide +kernel
theorem dL_law_245 : decode cL_law 245 = .ok (.iconst 0, 1) := by decide +kernel
theorem dL_law_246 : decode cL_law 246 = .ok (.ireturn, 1) := by decide +kernel
theorem dL_law_247 : decode cL_law 247 = .ok (.aload_n 1, 1) := by decide +kernel
theorem dL_law_248 : decode cL_law 248 = .ok (.aload_n 0, 1) := by decide +kernel
theorem dL_law_249 : decode cL_law 249 = .ok (.iload_n 3, 1) := by decide +kernel
theorem dL_law_250 : decode cL_law 250 = .ok (.iconst 1, 1) := by decide +kernel
theorem dL_law_251 : decode cL_law 251 = .ok (.iadd, 1) := by decide +kernel
theorem dL_law_252 : decode cL_law 252 = .ok (.iaload, 1) := by decide +kernel
theorem dL_law_253 : decode cL_law 253 = .ok (.invokevirtual 18, 3) := by decide +kernel
theorem dL_law_256 : decode cL_law 256 = .ok (.aload_n 2, 1) := by decide +kernel
theorem dL_law_257 : decode cL_law 257 = .ok (.aload_n 0, 1) := by decide +kernel
theorem dL_law_258 : decode cL_law 258 = .ok (.iload_n 3, 1) := by decide +kernel
theorem dL_law_259 : decode cL_law 259 = .ok (.iconst 1, 1) := by decide +kernel
theorem dL_law_260 : decode cL_law 260 = .ok (.iadd, 1) := by decide +kernel
theorem dL_law_261 : decode cL_law 261 = .ok (.iaload, 1) := by decide +kernel
theorem dL_law_262 : decode cL_law 262 = .ok (.invokevirtual 21, 3) := by decide +kernel
theorem dL_law_265 : decode cL_law 265 = .ok (.if_icmp .eq 1233, 3) := by decide +kernel
theorem dL_law_268 : decode cL_law 268 = .ok (.iconst 0, 1) := by decide +kernel
theorem dL_law_269 : decode cL_law 269 = .ok (.ireturn, 1) := by decide +kernel
theorem dL_law_270 : decode cL_law 270 = .ok (.aload_n 1, 1) := by decide +kernel
theorem dL_law_271 : decode cL_law 271 = .ok (.invokevirtual 22, 3) := by decide +kernel
theorem dL_law_274 : decode cL_law 274 = .ok (.aload_n 2, 1) := by decide +kernel
theorem dL_law_275 : decode cL_law 275 = .ok (.invokevirtual 26, 3) := by decide +kernel
theorem dL_law_278 : decode cL_law 278 = .ok (.if_icmp .eq 1220, 3) := by decide +kernel
theorem dL_law_281 : decode cL_law 281 = .ok (.iconst 0, 1) := by decide +kernel
theorem dL_law_282 : decode cL_law 282 = .ok (.ireturn, 1) := by decide +kernel
theorem dL_law_283 : decode cL_law 283 = .ok (.aload_n 1, 1) := by decide +kernel
theorem dL_law_284 : decode cL_law 284 = .ok (.invokevirtual 27, 3) := by decide +kernel
theorem dL_law_287 : decode cL_law 287 = .ok (.aload_n 2, 1) := by decide +kernel
theorem dL_law_288 : decode cL_law 288 = .ok (.invokevirtual 30, 3) := by decide +kernel
theorem dL_law_291 : decode cL_law 291 = .ok (.if_icmp .eq 1207, 3) := by decide +kernel
theorem dL_law_294 : decode cL_law 294 = .ok (.iconst 0, 1) := by decide +kernel
theorem dL_law_295 : decode cL_law 295 = .ok (.ireturn, 1) := by decide +kernel
theorem dL_law_296 : decode cL_law 296 = .ok (.aload_n 1, 1) := by decide +kernel
theorem dL_law_297 : decode cL_law 297 = .ok (.aload_n 0, 1) := by decide +kernel
theorem dL_law_298 : decode cL_law 298 = .ok (.iload_n 3, 1) := by decide +kernel
theorem dL_law_299 : decode cL_law 299 = .ok (.iconst 1, 1) := by decide +kernel
theorem dL_law_300 : decode cL_law 300 = .ok (.iadd, 1) := by decide +kernel
theorem dL_law_301 : decode cL_law 301 = .ok (.iaload, 1) := by decide +kernel
theorem dL_law_302 : decode cL_law 302 = .ok (.invokevirtual 31, 3) := by decide +kernel
theorem dL_law_305 : decode cL_law 305 = .ok (.aload_n 2, 1) := by decide +kernel
theorem dL_law_306 : decode cL_law 306 = .ok (.aload_n 0, 1) := by decide +kernel
theorem dL_law_307 : decode cL_law 307 = .ok (.iload_n 3, 1) := by decide +kernel
theorem dL_law_308 : decode cL_law 308 = .ok (.iconst 1, 1) := by decide +kernel
theorem dL_law_309 : decode cL_law 309 = .ok (.iadd, 1) := by decide +kernel
theorem dL_law_310 : decode cL_law 310 = .ok (.iaload, 1) := by decide +kernel
theorem dL_law_311 : decode cL_law 311 = .ok (.invokevirtual 34, 3) := by decide +kernel
theorem dL_law_314 : decode cL_law 314 = .ok (.if_icmp .eq 1184, 3) := by decide +kernel
theorem dL_law_317 : decode cL_law 317 = .ok (.iconst 0, 1) := by decide +kernel
theorem dL_law_318 : decode cL_law 318 = .ok (.ireturn, 1) := by decide +kernel
theorem dL_law_319 : decode cL_law 319 = .ok (.aload_n 1, 1) := by decide +kernel
theorem dL_law_320 : decode cL_law 320 = .ok (.aload_n 0, 1) := by decide +kernel
theorem dL_law_321 : decode cL_law 321 = .ok (.iload_n 3, 1) := by decide +kernel
theorem dL_law_322 : decode cL_law 322 = .ok (.iconst 1, 1) := by decide +kernel
theorem dL_law_323 : decode cL_law 323 = .ok (.iadd, 1) := by decide +kernel
theorem dL_law_324 : decode cL_law 324 = .ok (.iaload, 1) := by decide +kernel
theorem dL_law_325 : decode cL_law 325 = .ok (.aload_n 0, 1) := by decide +kernel
theorem dL_law_326 : decode cL_law 326 = .ok (.iload_n 3, 1) := by decide +kernel
theorem dL_law_327 : decode cL_law 327 = .ok (.iconst 2, 1) := by decide +kernel
theorem dL_law_328 : decode cL_law 328 = .ok (.iadd, 1) := by decide +kernel
theorem dL_law_329 : decode cL_law 329 = .ok (.iaload, 1) := by decide +kernel
theorem dL_law_330 : decode cL_law 330 = .ok (.invokevirtual 35, 3) := by decide +kernel
theorem dL_law_333 : decode cL_law 333 = .ok (.aload_n 2, 1) := by decide +kernel
theorem dL_law_334 : decode cL_law 334 = .ok (.aload_n 0, 1) := by decide +kernel
theorem dL_law_335 : decode cL_law 335 = .ok (.iload_n 3, 1) := by decide +kernel
theorem dL_law_336 : decode cL_law 336 = .ok (.iconst 1, 1) := by decide +kernel
theorem dL_law_337 : decode cL_law 337 = .ok (.iadd, 1) := by decide +kernel
theorem dL_law_338 : decode cL_law 338 = .ok (.iaload, 1) := by decide +kernel
theorem dL_law_339 : decode cL_law 339 = .ok (.aload_n 0, 1) := by decide +kernel
theorem dL_law_340 : decode cL_law 340 = .ok (.iload_n 3, 1) := by decide +kernel
theorem dL_law_341 : decode cL_law 341 = .ok (.iconst 2, 1) := by decide +kernel
theorem dL_law_342 : decode cL_law 342 = .ok (.iadd, 1) := by decide +kernel
theorem dL_law_343 : decode cL_law 343 = .ok (.iaload, 1) := by decide +kernel
theorem dL_law_344 : decode cL_law 344 = .ok (.invokevirtual 39, 3) := by decide +kernel
theorem dL_law_347 : decode cL_law 347 = .ok (.if_icmp .eq 1151, 3) := by decide +kernel
theorem dL_law_350 : decode cL_law 350 = .ok (.iconst 0, 1) := by decide +kernel
theorem dL_law_351 : decode cL_law 351 = .ok (.ireturn, 1) := by decide +kernel
theorem dL_law_352 : decode cL_law 352 = .ok (.aload_n 1, 1) := by decide +kernel
theorem dL_law_353 : decode cL_law 353 = .ok (.aload_n 0, 1) := by decide +kernel
theorem dL_law_354 : decode cL_law 354 = .ok (.iload_n 3, 1) := by decide +kernel
theorem dL_law_355 : decode cL_law 355 = .ok (.iconst 1, 1) := by decide +kernel
theorem dL_law_356 : decode cL_law 356 = .ok (.iadd, 1) := by decide +kernel
theorem dL_law_357 : decode cL_law 357 = .ok (.iaload, 1) := by decide +kernel
theorem dL_law_358 : decode cL_law 358 = .ok (.aload_n 0, 1) := by decide +kernel
theorem dL_law_359 : decode cL_law 359 = .ok (.iload_n 3, 1) := by decide +kernel
theorem dL_law_360 : decode cL_law 360 = .ok (.iconst 2, 1) := by decide +kernel
theorem dL_law_361 : decode cL_law 361 = .ok (.iadd, 1) := by decide +kernel
theorem dL_law_362 : decode cL_law 362 = .ok (.iaload, 1) := by decide +kernel
theorem dL_law_363 : decode cL_law 363 = .ok (.invokevirtual 40, 3) := by decide +kernel
theorem dL_law_366 : decode cL_law 366 = .ok (.aload_n 2, 1) := by decide +kernel
theorem dL_law_367 : decode cL_law 367 = .ok (.aload_n 0, 1) := by decide +kernel
theorem dL_law_368 : decode cL_law 368 = .ok (.iload_n 3, 1) := by decide +kernel
theorem dL_law_369 : decode cL_law 369 = .ok (.iconst 1, 1) := by decide +kernel
theorem dL_law_370 : decode cL_law 370 = .ok (.iadd, 1) := by decide +kernel
theorem dL_law_371 : decode cL_law 371 = .ok (.iaload, 1) := by decide +kernel
theorem dL_law_372 : decode cL_law 372 = .ok (.aload_n 0, 1) := by decide +kernel
theorem dL_law_373 : decode cL_law 373 = .ok (.iload_n 3, 1) := by decide +kernel
theorem dL_law_374 : decode cL_law 374 = .ok (.iconst 2, 1) := by decide +kernel
theorem dL_law_375 : decode cL_law 375 = .ok (.iadd, 1) := by decide +kernel
theorem dL_law_376 : decode cL_law 376 = .ok (.iaload, 1) := by decide +kernel
theorem dL_law_377 : decode cL_law 377 = .ok (.invokevirtual 43, 3) := by decide +kernel
theorem dL_law_380 : decode cL_law 380 = .ok (.if_icmp .eq 1118, 3) := by decide +kernel
theorem dL_law_383 : decode cL_law 383 = .ok (.iconst 0, 1) := by decide +kernel
theorem dL_law_384 : decode cL_law 384 = .ok (.ireturn, 1) := by decide +kernel
theorem dL_law_385 : decode cL_law 385 = .ok (.aload_n 1, 1) := by decide +kernel
theorem dL_law_386 : decode cL_law 386 = .ok (.aload_n 0, 1) := by decide +kernel
theorem dL_law_387 : decode cL_law 387 = .ok (.iload_n 3, 1) := by decide +kernel
theorem dL_law_388 : decode cL_law 388 = .ok (.iconst 1, 1) := by decide +kernel
theorem dL_law_389 : decode cL_law 389 = .ok (.iadd, 1) := by decide +kernel
theorem dL_law_390 : decode cL_law 390 = .ok (.iaload, 1) := by decide +kernel
theorem dL_law_391 : decode cL_law 391 = .ok (.aload_n 0, 1) := by decide +kernel
theorem dL_law_392 : decode cL_law 392 = .ok (.iload_n 3, 1) := by decide +kernel
theorem dL_law_393 : decode cL_law 393 = .ok (.iconst 2, 1) := by decide +kernel
theorem dL_law_394 : decode cL_law 394 = .ok (.iadd, 1) := by decide +kernel
theorem dL_law_395 : decode cL_law 395 = .ok (.iaload, 1) := by decide +kernel
theorem dL_law_396 : decode cL_law 396 = .ok (.invokevirtual 44, 3) := by decide +kernel
theorem dL_law_399 : decode cL_law 399 = .ok (.aload_n 2, 1) := by decide +kernel
theorem dL_law_400 : decode cL_law 400 = .ok (.aload_n 0, 1) := by decide +kernel
theorem dL_law_401 : decode cL_law 401 = .ok (.iload_n 3, 1) := by decide +kernel
theorem dL_law_402 : decode cL_law 402 = .ok (.iconst 1, 1) := by decide +kernel
theorem dL_law_403 : decode cL_law 403 = .ok (.iadd, 1) := by decide +kernel
theorem dL_law_404 : decode cL_law 404 = .ok (.iaload, 1) := by decide +kernel
theorem dL_law_405 : decode cL_law 405 = .ok (.aload_n 0, 1) := by decide +kernel
theorem dL_law_406 : decode cL_law 406 = .ok (.iload_n 3, 1) := by decide +kernel
theorem dL_law_407 : decode cL_law 407 = .ok (.iconst 2, 1) := by decide +kernel
theorem dL_law_408 : decode cL_law 408 = .ok (.iadd, 1) := by decide +kernel
theorem dL_law_409 : decode cL_law 409 = .ok (.iaload, 1) := by decide +kernel
theorem dL_law_410 : decode cL_law 410 = .ok (.invokevirtual 47, 3) := by decide +kernel
theorem dL_law_413 : decode cL_law 413 = .ok (.if_icmp .eq 1085, 3) := by decide +kernel
theorem dL_law_416 : decode cL_law 416 = .ok (.iconst 0, 1) := by decide +kernel
theorem dL_law_417 : decode cL_law 417 = .ok (.ireturn, 1) := by decide +kernel
theorem dL_law_418 : decode cL_law 418 = .ok (.aload_n 1, 1) := by decide +kernel
theorem dL_law_419 : decode cL_law 419 = .ok (.aload_n 0, 1) := by decide +kernel
theorem dL_law_420 : decode cL_law 420 = .ok (.iload_n 3, 1) := by decide +kernel
theorem dL_law_421 : decode cL_law 421 = .ok (.iconst 1, 1) := by decide +kernel
theorem dL_law_422 : decode cL_law 422 = .ok (.iadd, 1) := by decide +kernel
theorem dL_law_423 : decode cL_law 423 = .ok (.iaload, 1) := by decide +kernel
theorem dL_law_424 : decode cL_law 424 = .ok (.aload_n 0, 1) := by decide +kernel
theorem dL_law_425 : decode cL_law 425 = .ok (.iload_n 3, 1) := by decide +kernel
theorem dL_law_426 : decode cL_law 426 = .ok (.iconst 2, 1) := by decide +kernel
theorem dL_law_427 : decode cL_law 427 = .ok (.iadd, 1) := by decide +kernel
theorem dL_law_428 : decode cL_law 428 = .ok (.iaload, 1) := by decide +kernel
theorem dL_law_429 : decode cL_law 429 = .ok (.invokevirtual 48, 3) := by decide +kernel
theorem dL_law_432 : decode cL_law 432 = .ok (.aload_n 2, 1) := by decide +kernel
theorem dL_law_433 : decode cL_law 433 = .ok (.aload_n 0, 1) := by decide +kernel
theorem dL_law_434 : decode cL_law 434 = .ok (.iload_n 3, 1) := by decide +kernel
theorem dL_law_435 : decode cL_law 435 = .ok (.iconst 1, 1) := by decide +kernel
theorem dL_law_436 : decode cL_law 436 = .ok (.iadd, 1) := by decide +kernel
theorem dL_law_437 : decode cL_law 437 = .ok (.iaload, 1) := by decide +kernel
theorem dL_law_438 : decode cL_law 438 = .ok (.aload_n 0, 1) := by decide +kernel
theorem dL_law_439 : decode cL_law 439 = .ok (.iload_n 3, 1) := by decide +kernel
theorem dL_law_440 : decode cL_law 440 = .ok (.iconst 2, 1) := by decide +kernel
theorem dL_law_441 : decode cL_law 441 = .ok (.iadd, 1) := by decide +kernel
theorem dL_law_442 : decode cL_law 442 = .ok (.iaload, 1) := by decide +kernel
theorem dL_law_443 : decode cL_law 443 = .ok (.invokevirtual 51, 3) := by decide +kernel
theorem dL_law_446 : decode cL_law 446 = .ok (.if_icmp .eq 1052, 3) := by decide +kernel
theorem dL_law_449 : decode cL_law 449 = .ok (.iconst 0, 1) := by decide +kernel
theorem dL_law_450 : decode cL_law 450 = .ok (.ireturn, 1) := by decide +kernel
theorem dL_law_451 : decode cL_law 451 = .ok (.aload_n 1, 1) := by decide +kernel
theorem dL_law_452 : decode cL_law 452 = .ok (.aload_n 0, 1) := by decide +kernel
theorem dL_law_453 : decode cL_law 453 = .ok (.iload_n 3, 1) := by decide +kernel
theorem dL_law_454 : decode cL_law 454 = .ok (.iconst 1, 1) := by decide +kernel
theorem dL_law_455 : decode cL_law 455 = .ok (.iadd, 1) := by decide +kernel
theorem dL_law_456 : decode cL_law 456 = .ok (.iaload, 1) := by decide +kernel
theorem dL_law_457 : decode cL_law 457 = .ok (.invokevirtual 52, 3) := by decide +kernel
theorem dL_law_460 : decode cL_law 460 = .ok (.aload_n 2, 1) := by decide +kernel
theorem dL_law_461 : decode cL_law 461 = .ok (.aload_n 0, 1) := by decide +kernel
theorem dL_law_462 : decode cL_law 462 = .ok (.iload_n 3, 1) := by decide +kernel
theorem dL_law_463 : decode cL_law 463 = .ok (.iconst 1, 1) := by decide +kernel
theorem dL_law_464 : decode cL_law 464 = .ok (.iadd, 1) := by decide +kernel
theorem dL_law_465 : decode cL_law 465 = .ok (.iaload, 1) := by decide +kernel
theorem dL_law_466 : decode cL_law 466 = .ok (.invokevirtual 55, 3) := by decide +kernel
theorem dL_law_469 : decode cL_law 469 = .ok (.if_icmp .eq 1029, 3) := by decide +kernel
theorem dL_law_472 : decode cL_law 472 = .ok (.iconst 0, 1) := by decide +kernel
theorem dL_law_473 : decode cL_law 473 = .ok (.ireturn, 1) := by decide +kernel
theorem dL_law_474 : decode cL_law 474 = .ok (.aload_n 1, 1) := by decide +kernel
theorem dL_law_475 : decode cL_law 475 = .ok (.aload_n 0, 1) := by decide +kernel
theorem dL_law_476 : decode cL_law 476 = .ok (.iload_n 3, 1) := by decide +kernel
theorem dL_law_477 : decode cL_law 477 = .ok (.iconst 1, 1) := by decide +kernel
theorem dL_law_478 : decode cL_law 478 = .ok (.iadd, 1) := by decide +kernel
theorem dL_law_479 : decode cL_law 479 = .ok (.iaload, 1) := by decide +kernel
theorem dL_law_480 : decode cL_law 480 = .ok (.aload_n 0, 1) := by decide +kernel
theorem dL_law_481 : decode cL_law 481 = .ok (.iload_n 3, 1) := by decide +kernel
theorem dL_law_482 : decode cL_law 482 = .ok (.iconst 2, 1) := by decide +kernel
theorem dL_law_483 : decode cL_law 483 = .ok (.iadd, 1) := by decide +kernel
theorem dL_law_484 : decode cL_law 484 = .ok (.iaload, 1) := by decide +kernel
theorem dL_law_485 : decode cL_law 485 = .ok (.aload_n 0, 1) := by decide +kernel
theorem dL_law_486 : decode cL_law 486 = .ok (.iload_n 3, 1) := by decide +kernel
theorem dL_law_487 : decode cL_law 487 = .ok (.iconst 3, 1) := by decide +kernel
theorem dL_law_488 : decode cL_law 488 = .ok (.iadd, 1) := by decide +kernel
theorem dL_law_489 : decode cL_law 489 = .ok (.iaload, 1) := by decide +kernel
theorem dL_law_490 : decode cL_law 490 = .ok (.invokevirtual 56, 3) := by decide +kernel
theorem dL_law_493 : decode cL_law 493 = .ok (.aload_n 2, 1) := by decide +kernel
theorem dL_law_494 : decode cL_law 494 = .ok (.aload_n 0, 1) := by decide +kernel
theorem dL_law_495 : decode cL_law 495 = .ok (.iload_n 3, 1) := by decide +kernel
theorem dL_law_496 : decode cL_law 496 = .ok (.iconst 1, 1) := by decide +kernel
theorem dL_law_497 : decode cL_law 497 = .ok (.iadd, 1) := by decide +kernel
theorem dL_law_498 : decode cL_law 498 = .ok (.iaload, 1) := by decide +kernel
theorem dL_law_499 : decode cL_law 499 = .ok (.aload_n 0, 1) := by decide +kernel
theorem dL_law_500 : decode cL_law 500 = .ok (.iload_n 3, 1) := by decide +kernel
theorem dL_law_501 : decode cL_law 501 = .ok (.iconst 2, 1) := by decide +kernel
theorem dL_law_502 : decode cL_law 502 = .ok (.iadd, 1) := by decide +kernel
theorem dL_law_503 : decode cL_law 503 = .ok (.iaload, 1) := by decide +kernel
theorem dL_law_504 : decode cL_law 504 = .ok (.aload_n 0, 1) := by decide +kernel
theorem dL_law_505 : decode cL_law 505 = .ok (.iload_n 3, 1) := by decide +kernel
theorem dL_law_506 : decode cL_law 506 = .ok (.iconst 3, 1) := by decide +kernel
theorem dL_law_507 : decode cL_law 507 = .ok (.iadd, 1) := by decide +kernel
theorem dL_law_508 : decode cL_law 508 = .ok (.iaload, 1) := by decide +kernel
theorem dL_law_509 : decode cL_law 509 = .ok (.invokevirtual 60, 3) := by decide +kernel
theorem dL_law_512 : decode cL_law 512 = .ok (.if_icmp .eq 986, 3) := by decide +kernel
theorem dL_law_515 : decode cL_law 515 = .ok (.iconst 0, 1) := by decide +kernel
theorem dL_law_516 : decode cL_law 516 = .ok (.ireturn, 1) := by decide +kernel
theorem dL_law_517 : decode cL_law 517 = .ok (.aload_n 1, 1) := by decide +kernel
theorem dL_law_518 : decode cL_law 518 = .ok (.aload_n 0, 1) := by decide +kernel
theorem dL_law_519 : decode cL_law 519 = .ok (.iload_n 3, 1) := by decide +kernel
theorem dL_law_520 : decode cL_law 520 = .ok (.iconst 1, 1) := by decide +kernel
theorem dL_law_521 : decode cL_law 521 = .ok (.iadd, 1) := by decide +kernel
theorem dL_law_522 : decode cL_law 522 = .ok (.iaload, 1) := by decide +kernel
theorem dL_law_523 : decode cL_law 523 = .ok (.aload_n 0, 1) := by decide +kernel
theorem dL_law_524 : decode cL_law 524 = .ok (.iload_n 3, 1) := by decide +kernel
theorem dL_law_525 : decode cL_law 525 = .ok (.iconst 2, 1) := by decide +kernel
theorem dL_law_526 : decode cL_law 526 = .ok (.iadd, 1) := by decide +kernel
theorem dL_law_527 : decode cL_law 527 = .ok (.iaload, 1) := by decide +kernel
theorem dL_law_528 : decode cL_law 528 = .ok (.aload_n 0, 1) := by decide +kernel
theorem dL_law_529 : decode cL_law 529 = .ok (.iload_n 3, 1) := by decide +kernel
theorem dL_law_530 : decode cL_law 530 = .ok (.iconst 3, 1) := by decide +kernel
theorem dL_law_531 : decode cL_law 531 = .ok (.iadd, 1) := by decide +kernel
theorem dL_law_532 : decode cL_law 532 = .ok (.iaload, 1) := by decide +kernel
theorem dL_law_533 : decode cL_law 533 = .ok (.invokevirtual 61, 3) := by decide +kernel
theorem dL_law_536 : decode cL_law 536 = .ok (.aload_n 2, 1) := by decide +kernel
theorem dL_law_537 : decode cL_law 537 = .ok (.aload_n 0, 1) := by decide +kernel
theorem dL_law_538 : decode cL_law 538 = .ok (.iload_n 3, 1) := by decide +kernel
theorem dL_law_539 : decode cL_law 539 = .ok (.iconst 1, 1) := by decide +kernel
theorem dL_law_540 : decode cL_law 540 = .ok (.iadd, 1) := by decide +kernel
theorem dL_law_541 : decode cL_law 541 = .ok (.iaload, 1) := by decide +kernel
theorem dL_law_542 : decode cL_law 542 = .ok (.aload_n 0, 1) := by decide +kernel
theorem dL_law_543 : decode cL_law 543 = .ok (.iload_n 3, 1) := by decide +kernel
theorem dL_law_544 : decode cL_law 544 = .ok (.iconst 2, 1) := by decide +kernel
theorem dL_law_545 : decode cL_law 545 = .ok (.iadd, 1) := by decide +kernel
theorem dL_law_546 : decode cL_law 546 = .ok (.iaload, 1) := by decide +kernel
theorem dL_law_547 : decode cL_law 547 = .ok (.aload_n 0, 1) := by decide +kernel
theorem dL_law_548 : decode cL_law 548 = .ok (.iload_n 3, 1) := by decide +kernel
theorem dL_law_549 : decode cL_law 549 = .ok (.iconst 3, 1) := by decide +kernel
theorem dL_law_550 : decode cL_law 550 = .ok (.iadd, 1) := by decide +kernel
theorem dL_law_551 : decode cL_law 551 = .ok (.iaload, 1) := by decide +kernel
theorem dL_law_552 : decode cL_law 552 = .ok (.invokevirtual 64, 3) := by decide +kernel
theorem dL_law_555 : decode cL_law 555 = .ok (.if_icmp .eq 943, 3) := by decide +kernel
theorem dL_law_558 : decode cL_law 558 = .ok (.iconst 0, 1) := by decide +kernel
theorem dL_law_559 : decode cL_law 559 = .ok (.ireturn, 1) := by decide +kernel
theorem dL_law_560 : decode cL_law 560 = .ok (.aload_n 1, 1) := by decide +kernel
theorem dL_law_561 : decode cL_law 561 = .ok (.aload_n 0, 1) := by decide +kernel
theorem dL_law_562 : decode cL_law 562 = .ok (.iload_n 3, 1) := by decide +kernel
theorem dL_law_563 : decode cL_law 563 = .ok (.iconst 1, 1) := by decide +kernel
theorem dL_law_564 : decode cL_law 564 = .ok (.iadd, 1) := by decide +kernel
theorem dL_law_565 : decode cL_law 565 = .ok (.iaload, 1) := by decide +kernel
theorem dL_law_566 : decode cL_law 566 = .ok (.invokevirtual 65, 3) := by decide +kernel
theorem dL_law_569 : decode cL_law 569 = .ok (.aload_n 2, 1) := by decide +kernel
theorem dL_law_570 : decode cL_law 570 = .ok (.aload_n 0, 1) := by decide +kernel
theorem dL_law_571 : decode cL_law 571 = .ok (.iload_n 3, 1) := by decide +kernel
theorem dL_law_572 : decode cL_law 572 = .ok (.iconst 1, 1) := by decide +kernel
theorem dL_law_573 : decode cL_law 573 = .ok (.iadd, 1) := by decide +kernel
theorem dL_law_574 : decode cL_law 574 = .ok (.iaload, 1) := by decide +kernel
theorem dL_law_575 : decode cL_law 575 = .ok (.invokevirtual 68, 3) := by decide +kernel
theorem dL_law_578 : decode cL_law 578 = .ok (.if_icmp .eq 920, 3) := by decide +kernel
theorem dL_law_581 : decode cL_law 581 = .ok (.iconst 0, 1) := by decide +kernel
theorem dL_law_582 : decode cL_law 582 = .ok (.ireturn, 1) := by decide +kernel
theorem dL_law_583 : decode cL_law 583 = .ok (.aload_n 1, 1) := by decide +kernel
theorem dL_law_584 : decode cL_law 584 = .ok (.aload_n 0, 1) := by decide +kernel
theorem dL_law_585 : decode cL_law 585 = .ok (.iload_n 3, 1) := by decide +kernel
theorem dL_law_586 : decode cL_law 586 = .ok (.iconst 1, 1) := by decide +kernel
theorem dL_law_587 : decode cL_law 587 = .ok (.iadd, 1) := by decide +kernel
theorem dL_law_588 : decode cL_law 588 = .ok (.iaload, 1) := by decide +kernel
theorem dL_law_589 : decode cL_law 589 = .ok (.invokevirtual 69, 3) := by decide +kernel
theorem dL_law_592 : decode cL_law 592 = .ok (.aload_n 2, 1) := by decide +kernel
theorem dL_law_593 : decode cL_law 593 = .ok (.aload_n 0, 1) := by decide +kernel
theorem dL_law_594 : decode cL_law 594 = .ok (.iload_n 3, 1) := by decide +kernel
theorem dL_law_595 : decode cL_law 595 = .ok (.iconst 1, 1) := by decide +kernel
theorem dL_law_596 : decode cL_law 596 = .ok (.iadd, 1) := by decide +kernel
theorem dL_law_597 : decode cL_law 597 = .ok (.iaload, 1) := by decide +kernel
theorem dL_law_598 : decode cL_law 598 = .ok (.invokevirtual 72, 3) := by decide +kernel
theorem dL_law_601 : decode cL_law 601 = .ok (.if_icmp .eq 897, 3) := by decide +kernel
theorem dL_law_604 : decode cL_law 604 = .ok (.iconst 0, 1) := by decide +kernel
theorem dL_law_605 : decode cL_law 605 = .ok (.ireturn, 1) := by decide +kernel
theorem dL_law_606 : decode cL_law 606 = .ok (.aload_n 1, 1) := by decide +kernel
theorem dL_law_607 : decode cL_law 607 = .ok (.aload_n 0, 1) := by decide +kernel
theorem dL_law_608 : decode cL_law 608 = .ok (.iload_n 3, 1) := by decide +kernel
theorem dL_law_609 : decode cL_law 609 = .ok (.iconst 1, 1) := by decide +kernel
theorem dL_law_610 : decode cL_law 610 = .ok (.iadd, 1) := by decide +kernel
theorem dL_law_611 : decode cL_law 611 = .ok (.iaload, 1) := by decide +kernel
theorem dL_law_612 : decode cL_law 612 = .ok (.aload_n 0, 1) := by decide +kernel
theorem dL_law_613 : decode cL_law 613 = .ok (.iload_n 3, 1) := by decide +kernel
theorem dL_law_614 : decode cL_law 614 = .ok (.iconst 2, 1) := by decide +kernel
theorem dL_law_615 : decode cL_law 615 = .ok (.iadd, 1) := by decide +kernel
theorem dL_law_616 : decode cL_law 616 = .ok (.iaload, 1) := by decide +kernel
theorem dL_law_617 : decode cL_law 617 = .ok (.aload_n 0, 1) := by decide +kernel
theorem dL_law_618 : decode cL_law 618 = .ok (.iload_n 3, 1) := by decide +kernel
theorem dL_law_619 : decode cL_law 619 = .ok (.iconst 3, 1) := by decide +kernel
theorem dL_law_620 : decode cL_law 620 = .ok (.iadd, 1) := by decide +kernel
theorem dL_law_621 : decode cL_law 621 = .ok (.iaload, 1) := by decide +kernel
theorem dL_law_622 : decode cL_law 622 = .ok (.aload_n 0, 1) := by decide +kernel
theorem dL_law_623 : decode cL_law 623 = .ok (.iload_n 3, 1) := by decide +kernel
theorem dL_law_624 : decode cL_law 624 = .ok (.iconst 4, 1) := by decide +kernel
theorem dL_law_625 : decode cL_law 625 = .ok (.iadd, 1) := by decide +kernel
theorem dL_law_626 : decode cL_law 626 = .ok (.iaload, 1) := by decide +kernel
theorem dL_law_627 : decode cL_law 627 = .ok (.invokevirtual 73, 3) := by decide +kernel
theorem dL_law_630 : decode cL_law 630 = .ok (.aload_n 2, 1) := by decide +kernel
theorem dL_law_631 : decode cL_law 631 = .ok (.aload_n 0, 1) := by decide +kernel
theorem dL_law_632 : decode cL_law 632 = .ok (.iload_n 3, 1) := by decide +kernel
theorem dL_law_633 : decode cL_law 633 = .ok (.iconst 1, 1) := by decide +kernel
theorem dL_law_634 : decode cL_law 634 = .ok (.iadd, 1) := by decide +kernel
theorem dL_law_635 : decode cL_law 635 = .ok (.iaload, 1) := by decide +kernel
theorem dL_law_636 : decode cL_law 636 = .ok (.aload_n 0, 1) := by decide +kernel
theorem dL_law_637 : decode cL_law 637 = .ok (.iload_n 3, 1) := by decide +kernel
theorem dL_law_638 : decode cL_law 638 = .ok (.iconst 2, 1) := by decide +kernel
theorem dL_law_639 : decode cL_law 639 = .ok (.iadd, 1) := by decide +kernel
theorem dL_law_640 : decode cL_law 640 = .ok (.iaload, 1) := by decide +kernel
theorem dL_law_641 : decode cL_law 641 = .ok (.aload_n 0, 1) := by decide +kernel
theorem dL_law_642 : decode cL_law 642 = .ok (.iload_n 3, 1) := by decide +kernel
theorem dL_law_643 : decode cL_law 643 = .ok (.iconst 3, 1) := by decide +kernel
theorem dL_law_644 : decode cL_law 644 = .ok (.iadd, 1) := by decide +kernel
theorem dL_law_645 : decode cL_law 645 = .ok (.iaload, 1) := by decide +kernel
theorem dL_law_646 : decode cL_law 646 = .ok (.aload_n 0, 1) := by decide +kernel
theorem dL_law_647 : decode cL_law 647 = .ok (.iload_n 3, 1) := by decide +kernel
theorem dL_law_648 : decode cL_law 648 = .ok (.iconst 4, 1) := by decide +kernel
theorem dL_law_649 : decode cL_law 649 = .ok (.iadd, 1) := by decide +kernel
theorem dL_law_650 : decode cL_law 650 = .ok (.iaload, 1) := by decide +kernel
theorem dL_law_651 : decode cL_law 651 = .ok (.invokevirtual 77, 3) := by decide +kernel
theorem dL_law_654 : decode cL_law 654 = .ok (.if_icmp .eq 844, 3) := by decide +kernel
theorem dL_law_657 : decode cL_law 657 = .ok (.iconst 0, 1) := by decide +kernel
theorem dL_law_658 : decode cL_law 658 = .ok (.ireturn, 1) := by decide +kernel
theorem dL_law_659 : decode cL_law 659 = .ok (.aload_n 1, 1) := by decide +kernel
theorem dL_law_660 : decode cL_law 660 = .ok (.aload_n 0, 1) := by decide +kernel
theorem dL_law_661 : decode cL_law 661 = .ok (.iload_n 3, 1) := by decide +kernel
theorem dL_law_662 : decode cL_law 662 = .ok (.iconst 1, 1) := by decide +kernel
theorem dL_law_663 : decode cL_law 663 = .ok (.iadd, 1) := by decide +kernel
theorem dL_law_664 : decode cL_law 664 = .ok (.iaload, 1) := by decide +kernel
theorem dL_law_665 : decode cL_law 665 = .ok (.aload_n 0, 1) := by decide +kernel
theorem dL_law_666 : decode cL_law 666 = .ok (.iload_n 3, 1) := by decide +kernel
theorem dL_law_667 : decode cL_law 667 = .ok (.iconst 2, 1) := by decide +kernel
theorem dL_law_668 : decode cL_law 668 = .ok (.iadd, 1) := by decide +kernel
theorem dL_law_669 : decode cL_law 669 = .ok (.iaload, 1) := by decide +kernel
theorem dL_law_670 : decode cL_law 670 = .ok (.invokevirtual 78, 3) := by decide +kernel
theorem dL_law_673 : decode cL_law 673 = .ok (.aload_n 2, 1) := by decide +kernel
theorem dL_law_674 : decode cL_law 674 = .ok (.aload_n 0, 1) := by decide +kernel
theorem dL_law_675 : decode cL_law 675 = .ok (.iload_n 3, 1) := by decide +kernel
theorem dL_law_676 : decode cL_law 676 = .ok (.iconst 1, 1) := by decide +kernel
theorem dL_law_677 : decode cL_law 677 = .ok (.iadd, 1) := by decide +kernel
theorem dL_law_678 : decode cL_law 678 = .ok (.iaload, 1) := by decide +kernel
theorem dL_law_679 : decode cL_law 679 = .ok (.aload_n 0, 1) := by decide +kernel
theorem dL_law_680 : decode cL_law 680 = .ok (.iload_n 3, 1) := by decide +kernel
theorem dL_law_681 : decode cL_law 681 = .ok (.iconst 2, 1) := by decide +kernel
theorem dL_law_682 : decode cL_law 682 = .ok (.iadd, 1) := by decide +kernel
theorem dL_law_683 : decode cL_law 683 = .ok (.iaload, 1) := by decide +kernel
theorem dL_law_684 : decode cL_law 684 = .ok (.invokevirtual 81, 3) := by decide +kernel
theorem dL_law_687 : decode cL_law 687 = .ok (.if_icmp .eq 811, 3) := by decide +kernel
theorem dL_law_690 : decode cL_law 690 = .ok (.iconst 0, 1) := by decide +kernel
theorem dL_law_691 : decode cL_law 691 = .ok (.ireturn, 1) := by decide +kernel
theorem dL_law_692 : decode cL_law 692 = .ok (.aload_n 1, 1) := by decide +kernel
theorem dL_law_693 : decode cL_law 693 = .ok (.aload_n 0, 1) := by decide +kernel
theorem dL_law_694 : decode cL_law 694 = .ok (.iload_n 3, 1) := by decide +kernel
theorem dL_law_695 : decode cL_law 695 = .ok (.iconst 1, 1) := by decide +kernel
theorem dL_law_696 : decode cL_law 696 = .ok (.iadd, 1) := by decide +kernel
theorem dL_law_697 : decode cL_law 697 = .ok (.iaload, 1) := by decide +kernel
theorem dL_law_698 : decode cL_law 698 = .ok (.invokevirtual 82, 3) := by decide +kernel
theorem dL_law_701 : decode cL_law 701 = .ok (.aload_n 2, 1) := by decide +kernel
theorem dL_law_702 : decode cL_law 702 = .ok (.aload_n 0, 1) := by decide +kernel
theorem dL_law_703 : decode cL_law 703 = .ok (.iload_n 3, 1) := by decide +kernel
theorem dL_law_704 : decode cL_law 704 = .ok (.iconst 1, 1) := by decide +kernel
theorem dL_law_705 : decode cL_law 705 = .ok (.iadd, 1) := by decide +kernel
theorem dL_law_706 : decode cL_law 706 = .ok (.iaload, 1) := by decide +kernel
theorem dL_law_707 : decode cL_law 707 = .ok (.invokevirtual 85, 3) := by decide +kernel
theorem dL_law_710 : decode cL_law 710 = .ok (.if_icmp .eq 788, 3) := by decide +kernel
theorem dL_law_713 : decode cL_law 713 = .ok (.iconst 0, 1) := by decide +kernel
theorem dL_law_714 : decode cL_law 714 = .ok (.ireturn, 1) := by decide +kernel
theorem dL_law_715 : decode cL_law 715 = .ok (.aload_n 1, 1) := by decide +kernel
theorem dL_law_716 : decode cL_law 716 = .ok (.aload_n 0, 1) := by decide +kernel
theorem dL_law_717 : decode cL_law 717 = .ok (.iload_n 3, 1) := by decide +kernel
theorem dL_law_718 : decode cL_law 718 = .ok (.iconst 1, 1) := by decide +kernel
theorem dL_law_719 : decode cL_law 719 = .ok (.iadd, 1) := by decide +kernel
theorem dL_law_720 : decode cL_law 720 = .ok (.iaload, 1) := by decide +kernel
theorem dL_law_721 : decode cL_law 721 = .ok (.invokevirtual 86, 3) := by decide +kernel
theorem dL_law_724 : decode cL_law 724 = .ok (.aload_n 2, 1) := by decide +kernel
theorem dL_law_725 : decode cL_law 725 = .ok (.aload_n 0, 1) := by decide +kernel
theorem dL_law_726 : decode cL_law 726 = .ok (.iload_n 3, 1) := by decide +kernel
theorem dL_law_727 : decode cL_law 727 = .ok (.iconst 1, 1) := by decide +kernel
theorem dL_law_728 : decode cL_law 728 = .ok (.iadd, 1) := by decide +kernel
theorem dL_law_729 : decode cL_law 729 = .ok (.iaload, 1) := by decide +kernel
theorem dL_law_730 : decode cL_law 730 = .ok (.invokevirtual 89, 3) := by decide +kernel
theorem dL_law_733 : decode cL_law 733 = .ok (.if_icmp .eq 765, 3) := by decide +kernel
theorem dL_law_736 : decode cL_law 736 = .ok (.iconst 0, 1) := by decide +kernel
theorem dL_law_737 : decode cL_law 737 = .ok (.ireturn, 1) := by decide +kernel
theorem dL_law_738 : decode cL_law 738 = .ok (.aload_n 1, 1) := by decide +kernel
theorem dL_law_739 : decode cL_law 739 = .ok (.aload_n 0, 1) := by decide +kernel
theorem dL_law_740 : decode cL_law 740 = .ok (.iload_n 3, 1) := by decide +kernel
theorem dL_law_741 : decode cL_law 741 = .ok (.iconst 1, 1) := by decide +kernel
theorem dL_law_742 : decode cL_law 742 = .ok (.iadd, 1) := by decide +kernel
theorem dL_law_743 : decode cL_law 743 = .ok (.iaload, 1) := by decide +kernel
theorem dL_law_744 : decode cL_law 744 = .ok (.invokevirtual 90, 3) := by decide +kernel
theorem dL_law_747 : decode cL_law 747 = .ok (.aload_n 2, 1) := by decide +kernel
theorem dL_law_748 : decode cL_law 748 = .ok (.aload_n 0, 1) := by decide +kernel
theorem dL_law_749 : decode cL_law 749 = .ok (.iload_n 3, 1) := by decide +kernel
theorem dL_law_750 : decode cL_law 750 = .ok (.iconst 1, 1) := by decide +kernel
theorem dL_law_751 : decode cL_law 751 = .ok (.iadd, 1) := by decide +kernel
theorem dL_law_752 : decode cL_law 752 = .ok (.iaload, 1) := by decide +kernel
theorem dL_law_753 : decode cL_law 753 = .ok (.invokevirtual 93, 3) := by decide +kernel
theorem dL_law_756 : decode cL_law 756 = .ok (.if_icmp .eq 742, 3) := by decide +kernel
theorem dL_law_759 : decode cL_law 759 = .ok (.iconst 0, 1) := by decide +kernel
theorem dL_law_760 : decode cL_law 760 = .ok (.ireturn, 1) := by decide +kernel
theorem dL_law_761 : decode cL_law 761 = .ok (.aload_n 1, 1) := by decide +kernel
theorem dL_law_762 : decode cL_law 762 = .ok (.invokevirtual 94, 3) := by decide +kernel
theorem dL_law_765 : decode cL_law 765 = .ok (.aload_n 2, 1) := by decide +kernel
theorem dL_law_766 : decode cL_law 766 = .ok (.invokevirtual 97, 3) := by decide +kernel
theorem dL_law_769 : decode cL_law 769 = .ok (.if_icmp .eq 729, 3) := by decide +kernel
theorem dL_law_772 : decode cL_law 772 = .ok (.iconst 0, 1) := by decide +kernel
theorem dL_law_773 : decode cL_law 773 = .ok (.ireturn, 1) := by decide +kernel
theorem dL_law_774 : decode cL_law 774 = .ok (.aload_n 1, 1) := by decide +kernel
theorem dL_law_775 : decode cL_law 775 = .ok (.aload_n 0, 1) := by decide +kernel
theorem dL_law_776 : decode cL_law 776 = .ok (.iload_n 3, 1) := by decide +kernel
theorem dL_law_777 : decode cL_law 777 = .ok (.iconst 1, 1) := by decide +kernel
theorem dL_law_778 : decode cL_law 778 = .ok (.iadd, 1) := by decide +kernel
theorem dL_law_779 : decode cL_law 779 = .ok (.iaload, 1) := by decide +kernel
theorem dL_law_780 : decode cL_law 780 = .ok (.aload_n 0, 1) := by decide +kernel
theorem dL_law_781 : decode cL_law 781 = .ok (.iload_n 3, 1) := by decide +kernel
theorem dL_law_782 : decode cL_law 782 = .ok (.iconst 2, 1) := by decide +kernel
theorem dL_law_783 : decode cL_law 783 = .ok (.iadd, 1) := by decide +kernel
theorem dL_law_784 : decode cL_law 784 = .ok (.iaload, 1) := by decide +kernel
theorem dL_law_785 : decode cL_law 785 = .ok (.invokevirtual 98, 3) := by decide +kernel
theorem dL_law_788 : decode cL_law 788 = .ok (.aload_n 2, 1) := by decide +kernel
theorem dL_law_789 : decode cL_law 789 = .ok (.aload_n 0, 1) := by decide +kernel
theorem dL_law_790 : decode cL_law 790 = .ok (.iload_n 3, 1) := by decide +kernel
theorem dL_law_791 : decode cL_law 791 = .ok (.iconst 1, 1) := by decide +kernel
theorem dL_law_792 : decode cL_law 792 = .ok (.iadd, 1) := by decide +kernel
theorem dL_law_793 : decode cL_law 793 = .ok (.iaload, 1) := by decide +kernel
theorem dL_law_794 : decode cL_law 794 = .ok (.aload_n 0, 1) := by decide +kernel
theorem dL_law_795 : decode cL_law 795 = .ok (.iload_n 3, 1) := by decide +kernel
theorem dL_law_796 : decode cL_law 796 = .ok (.iconst 2, 1) := by decide +kernel
theorem dL_law_797 : decode cL_law 797 = .ok (.iadd, 1) := by decide +kernel
theorem dL_law_798 : decode cL_law 798 = .ok (.iaload, 1) := by decide +kernel
theorem dL_law_799 : decode cL_law 799 = .ok (.invokevirtual 101, 3) := by decide +kernel
theorem dL_law_802 : decode cL_law 802 = .ok (.if_icmp .eq 696, 3) := by decide +kernel
theorem dL_law_805 : decode cL_law 805 = .ok (.iconst 0, 1) := by decide +kernel
theorem dL_law_806 : decode cL_law 806 = .ok (.ireturn, 1) := by decide +kernel
theorem dL_law_807 : decode cL_law 807 = .ok (.aload_n 1, 1) := by decide +kernel
theorem dL_law_808 : decode cL_law 808 = .ok (.aload_n 0, 1) := by decide +kernel
theorem dL_law_809 : decode cL_law 809 = .ok (.iload_n 3, 1) := by decide +kernel
theorem dL_law_810 : decode cL_law 810 = .ok (.iconst 1, 1) := by decide +kernel
theorem dL_law_811 : decode cL_law 811 = .ok (.iadd, 1) := by decide +kernel
theorem dL_law_812 : decode cL_law 812 = .ok (.iaload, 1) := by decide +kernel
theorem dL_law_813 : decode cL_law 813 = .ok (.aload_n 0, 1) := by decide +kernel
theorem dL_law_814 : decode cL_law 814 = .ok (.iload_n 3, 1) := by decide +kernel
theorem dL_law_815 : decode cL_law 815 = .ok (.iconst 2, 1) := by decide +kernel
theorem dL_law_816 : decode cL_law 816 = .ok (.iadd, 1) := by decide +kernel
theorem dL_law_817 : decode cL_law 817 = .ok (.iaload, 1) := by decide +kernel
theorem dL_law_818 : decode cL_law 818 = .ok (.invokevirtual 102, 3) := by decide +kernel
theorem dL_law_821 : decode cL_law 821 = .ok (.aload_n 2, 1) := by decide +kernel
theorem dL_law_822 : decode cL_law 822 = .ok (.aload_n 0, 1) := by decide +kernel
theorem dL_law_823 : decode cL_law 823 = .ok (.iload_n 3, 1) := by decide +kernel
theorem dL_law_824 : decode cL_law 824 = .ok (.iconst 1, 1) := by decide +kernel
theorem dL_law_825 : decode cL_law 825 = .ok (.iadd, 1) := by decide +kernel
theorem dL_law_826 : decode cL_law 826 = .ok (.iaload, 1) := by decide +kernel
theorem dL_law_827 : decode cL_law 827 = .ok (.aload_n 0, 1) := by decide +kernel
theorem dL_law_828 : decode cL_law 828 = .ok (.iload_n 3, 1) := by decide +kernel
theorem dL_law_829 : decode cL_law 829 = .ok (.iconst 2, 1) := by decide +kernel
theorem dL_law_830 : decode cL_law 830 = .ok (.iadd, 1) := by decide +kernel
theorem dL_law_831 : decode cL_law 831 = .ok (.iaload, 1) := by decide +kernel
theorem dL_law_832 : decode cL_law 832 = .ok (.invokevirtual 105, 3) := by decide +kernel
theorem dL_law_835 : decode cL_law 835 = .ok (.if_icmp .eq 663, 3) := by decide +kernel
theorem dL_law_838 : decode cL_law 838 = .ok (.iconst 0, 1) := by decide +kernel
theorem dL_law_839 : decode cL_law 839 = .ok (.ireturn, 1) := by decide +kernel
theorem dL_law_840 : decode cL_law 840 = .ok (.aload_n 1, 1) := by decide +kernel
theorem dL_law_841 : decode cL_law 841 = .ok (.aload_n 0, 1) := by decide +kernel
theorem dL_law_842 : decode cL_law 842 = .ok (.iload_n 3, 1) := by decide +kernel
theorem dL_law_843 : decode cL_law 843 = .ok (.iconst 1, 1) := by decide +kernel
theorem dL_law_844 : decode cL_law 844 = .ok (.iadd, 1) := by decide +kernel
theorem dL_law_845 : decode cL_law 845 = .ok (.iaload, 1) := by decide +kernel
theorem dL_law_846 : decode cL_law 846 = .ok (.aload_n 0, 1) := by decide +kernel
theorem dL_law_847 : decode cL_law 847 = .ok (.iload_n 3, 1) := by decide +kernel
theorem dL_law_848 : decode cL_law 848 = .ok (.iconst 2, 1) := by decide +kernel
theorem dL_law_849 : decode cL_law 849 = .ok (.iadd, 1) := by decide +kernel
theorem dL_law_850 : decode cL_law 850 = .ok (.iaload, 1) := by decide +kernel
theorem dL_law_851 : decode cL_law 851 = .ok (.invokevirtual 106, 3) := by decide +kernel
theorem dL_law_854 : decode cL_law 854 = .ok (.aload_n 2, 1) := by decide +kernel
theorem dL_law_855 : decode cL_law 855 = .ok (.aload_n 0, 1) := by decide +kernel
theorem dL_law_856 : decode cL_law 856 = .ok (.iload_n 3, 1) := by decide +kernel
theorem dL_law_857 : decode cL_law 857 = .ok (.iconst 1, 1) := by decide +kernel
theorem dL_law_858 : decode cL_law 858 = .ok (.iadd, 1) := by decide +kernel
theorem dL_law_859 : decode cL_law 859 = .ok (.iaload, 1) := by decide +kernel
theorem dL_law_860 : decode cL_law 860 = .ok (.aload_n 0, 1) := by decide +kernel
theorem dL_law_861 : decode cL_law 861 = .ok (.iload_n 3, 1) := by decide +kernel
theorem dL_law_862 : decode cL_law 862 = .ok (.iconst 2, 1) := by decide +kernel
theorem dL_law_863 : decode cL_law 863 = .ok (.iadd, 1) := by decide +kernel
theorem dL_law_864 : decode cL_law 864 = .ok (.iaload, 1) := by decide +kernel
theorem dL_law_865 : decode cL_law 865 = .ok (.invokevirtual 109, 3) := by decide +kernel
theorem dL_law_868 : decode cL_law 868 = .ok (.if_icmp .eq 630, 3) := by decide +kernel
theorem dL_law_871 : decode cL_law 871 = .ok (.iconst 0, 1) := by decide +kernel
theorem dL_law_872 : decode cL_law 872 = .ok (.ireturn, 1) := by decide +kernel
theorem dL_law_873 : decode cL_law 873 = .ok (.aload_n 1, 1) := by decide +kernel
theorem dL_law_874 : decode cL_law 874 = .ok (.aload_n 0, 1) := by decide +kernel
theorem dL_law_875 : decode cL_law 875 = .ok (.iload_n 3, 1) := by decide +kernel
theorem dL_law_876 : decode cL_law 876 = .ok (.iconst 1, 1) := by decide +kernel
theorem dL_law_877 : decode cL_law 877 = .ok (.iadd, 1) := by decide +kernel
theorem dL_law_878 : decode cL_law 878 = .ok (.iaload, 1) := by decide +kernel
theorem dL_law_879 : decode cL_law 879 = .ok (.invokevirtual 110, 3) := by decide +kernel
theorem dL_law_882 : decode cL_law 882 = .ok (.aload_n 2, 1) := by decide +kernel
theorem dL_law_883 : decode cL_law 883 = .ok (.aload_n 0, 1) := by decide +kernel
theorem dL_law_884 : decode cL_law 884 = .ok (.iload_n 3, 1) := by decide +kernel
theorem dL_law_885 : decode cL_law 885 = .ok (.iconst 1, 1) := by decide +kernel
theorem dL_law_886 : decode cL_law 886 = .ok (.iadd, 1) := by decide +kernel
theorem dL_law_887 : decode cL_law 887 = .ok (.iaload, 1) := by decide +kernel
theorem dL_law_888 : decode cL_law 888 = .ok (.invokevirtual 113, 3) := by decide +kernel
theorem dL_law_891 : decode cL_law 891 = .ok (.if_icmp .eq 607, 3) := by decide +kernel
theorem dL_law_894 : decode cL_law 894 = .ok (.iconst 0, 1) := by decide +kernel
theorem dL_law_895 : decode cL_law 895 = .ok (.ireturn, 1) := by decide +kernel
theorem dL_law_896 : decode cL_law 896 = .ok (.aload_n 1, 1) := by decide +kernel
theorem dL_law_897 : decode cL_law 897 = .ok (.aload_n 0, 1) := by decide +kernel
theorem dL_law_898 : decode cL_law 898 = .ok (.iload_n 3, 1) := by decide +kernel
theorem dL_law_899 : decode cL_law 899 = .ok (.iconst 1, 1) := by decide +kernel
theorem dL_law_900 : decode cL_law 900 = .ok (.iadd, 1) := by decide +kernel
theorem dL_law_901 : decode cL_law 901 = .ok (.iaload, 1) := by decide +kernel
theorem dL_law_902 : decode cL_law 902 = .ok (.invokevirtual 114, 3) := by decide +kernel
theorem dL_law_905 : decode cL_law 905 = .ok (.aload_n 2, 1) := by decide +kernel
theorem dL_law_906 : decode cL_law 906 = .ok (.aload_n 0, 1) := by decide +kernel
theorem dL_law_907 : decode cL_law 907 = .ok (.iload_n 3, 1) := by decide +kernel
theorem dL_law_908 : decode cL_law 908 = .ok (.iconst 1, 1) := by decide +kernel
theorem dL_law_909 : decode cL_law 909 = .ok (.iadd, 1) := by decide +kernel
theorem dL_law_910 : decode cL_law 910 = .ok (.iaload, 1) := by decide +kernel
theorem dL_law_911 : decode cL_law 911 = .ok (.invokevirtual 117, 3) := by decide +kernel
theorem dL_law_914 : decode cL_law 914 = .ok (.if_icmp .eq 584, 3) := by decide +kernel
theorem dL_law_917 : decode cL_law 917 = .ok (.iconst 0, 1) := by decide +kernel
theorem dL_law_918 : decode cL_law 918 = .ok (.ireturn, 1) := by decide +kernel
theorem dL_law_919 : decode cL_law 919 = .ok (.aload_n 1, 1) := by decide +kernel
theorem dL_law_920 : decode cL_law 920 = .ok (.aload_n 0, 1) := by decide +kernel
theorem dL_law_921 : decode cL_law 921 = .ok (.iload_n 3, 1) := by decide +kernel
theorem dL_law_922 : decode cL_law 922 = .ok (.iconst 1, 1) := by decide +kernel
theorem dL_law_923 : decode cL_law 923 = .ok (.iadd, 1) := by decide +kernel
theorem dL_law_924 : decode cL_law 924 = .ok (.iaload, 1) := by decide +kernel
theorem dL_law_925 : decode cL_law 925 = .ok (.aload_n 0, 1) := by decide +kernel
theorem dL_law_926 : decode cL_law 926 = .ok (.iload_n 3, 1) := by decide +kernel
theorem dL_law_927 : decode cL_law 927 = .ok (.iconst 2, 1) := by decide +kernel
theorem dL_law_928 : decode cL_law 928 = .ok (.iadd, 1) := by decide +kernel
theorem dL_law_929 : decode cL_law 929 = .ok (.iaload, 1) := by decide +kernel
theorem dL_law_930 : decode cL_law 930 = .ok (.invokevirtual 118, 3) := by decide +kernel
theorem dL_law_933 : decode cL_law 933 = .ok (.aload_n 2, 1) := by decide +kernel
theorem dL_law_934 : decode cL_law 934 = .ok (.aload_n 0, 1) := by decide +kernel
theorem dL_law_935 : decode cL_law 935 = .ok (.iload_n 3, 1) := by decide +kernel
theorem dL_law_936 : decode cL_law 936 = .ok (.iconst 1, 1) := by decide +kernel
theorem dL_law_937 : decode cL_law 937 = .ok (.iadd, 1) := by decide +kernel
theorem dL_law_938 : decode cL_law 938 = .ok (.iaload, 1) := by decide +kernel
theorem dL_law_939 : decode cL_law 939 = .ok (.aload_n 0, 1) := by decide +kernel
theorem dL_law_940 : decode cL_law 940 = .ok (.iload_n 3, 1) := by decide +kernel
theorem dL_law_941 : decode cL_law 941 = .ok (.iconst 2, 1) := by decide +kernel
theorem dL_law_942 : decode cL_law 942 = .ok (.iadd, 1) := by decide +kernel
theorem dL_law_943 : decode cL_law 943 = .ok (.iaload, 1) := by decide +kernel
theorem dL_law_944 : decode cL_law 944 = .ok (.invokevirtual 121, 3) := by decide +kernel
theorem dL_law_947 : decode cL_law 947 = .ok (.if_icmp .eq 551, 3) := by decide +kernel
theorem dL_law_950 : decode cL_law 950 = .ok (.iconst 0, 1) := by decide +kernel
theorem dL_law_951 : decode cL_law 951 = .ok (.ireturn, 1) := by decide +kernel
theorem dL_law_952 : decode cL_law 952 = .ok (.aload_n 1, 1) := by decide +kernel
theorem dL_law_953 : decode cL_law 953 = .ok (.aload_n 0, 1) := by decide +kernel
theorem dL_law_954 : decode cL_law 954 = .ok (.iload_n 3, 1) := by decide +kernel
theorem dL_law_955 : decode cL_law 955 = .ok (.iconst 1, 1) := by decide +kernel
theorem dL_law_956 : decode cL_law 956 = .ok (.iadd, 1) := by decide +kernel
theorem dL_law_957 : decode cL_law 957 = .ok (.iaload, 1) := by decide +kernel
theorem dL_law_958 : decode cL_law 958 = .ok (.invokevirtual 122, 3) := by decide +kernel
theorem dL_law_961 : decode cL_law 961 = .ok (.aload_n 2, 1) := by decide +kernel
theorem dL_law_962 : decode cL_law 962 = .ok (.aload_n 0, 1) := by decide +kernel
theorem dL_law_963 : decode cL_law 963 = .ok (.iload_n 3, 1) := by decide +kernel
theorem dL_law_964 : decode cL_law 964 = .ok (.iconst 1, 1) := by decide +kernel
theorem dL_law_965 : decode cL_law 965 = .ok (.iadd, 1) := by decide +kernel
theorem dL_law_966 : decode cL_law 966 = .ok (.iaload, 1) := by decide +kernel
theorem dL_law_967 : decode cL_law 967 = .ok (.invokevirtual 125, 3) := by decide +kernel
theorem dL_law_970 : decode cL_law 970 = .ok (.if_icmp .eq 528, 3) := by decide +kernel
theorem dL_law_973 : decode cL_law 973 = .ok (.iconst 0, 1) := by decide +kernel
theorem dL_law_974 : decode cL_law 974 = .ok (.ireturn, 1) := by decide +kernel
theorem dL_law_975 : decode cL_law 975 = .ok (.aload_n 1, 1) := by decide +kernel
theorem dL_law_976 : decode cL_law 976 = .ok (.aload_n 0, 1) := by decide +kernel
theorem dL_law_977 : decode cL_law 977 = .ok (.iload_n 3, 1) := by decide +kernel
theorem dL_law_978 : decode cL_law 978 = .ok (.iconst 1, 1) := by decide +kernel
theorem dL_law_979 : decode cL_law 979 = .ok (.iadd, 1) := by decide +kernel
theorem dL_law_980 : decode cL_law 980 = .ok (.iaload, 1) := by decide +kernel
theorem dL_law_981 : decode cL_law 981 = .ok (.aload_n 0, 1) := by decide +kernel
theorem dL_law_982 : decode cL_law 982 = .ok (.iload_n 3, 1) := by decide +kernel
theorem dL_law_983 : decode cL_law 983 = .ok (.iconst 2, 1) := by decide +kernel
theorem dL_law_984 : decode cL_law 984 = .ok (.iadd, 1) := by decide +kernel
theorem dL_law_985 : decode cL_law 985 = .ok (.iaload, 1) := by decide +kernel
theorem dL_law_986 : decode cL_law 986 = .ok (.invokevirtual 126, 3) := by decide +kernel
theorem dL_law_989 : decode cL_law 989 = .ok (.aload_n 2, 1) := by decide +kernel
theorem dL_law_990 : decode cL_law 990 = .ok (.aload_n 0, 1) := by decide +kernel
theorem dL_law_991 : decode cL_law 991 = .ok (.iload_n 3, 1) := by decide +kernel
theorem dL_law_992 : decode cL_law 992 = .ok (.iconst 1, 1) := by decide +kernel
theorem dL_law_993 : decode cL_law 993 = .ok (.iadd, 1) := by decide +kernel
theorem dL_law_994 : decode cL_law 994 = .ok (.iaload, 1) := by decide +kernel
theorem dL_law_995 : decode cL_law 995 = .ok (.aload_n 0, 1) := by decide +kernel
theorem dL_law_996 : decode cL_law 996 = .ok (.iload_n 3, 1) := by decide +kernel
theorem dL_law_997 : decode cL_law 997 = .ok (.iconst 2, 1) := by decide +kernel
theorem dL_law_998 : decode cL_law 998 = .ok (.iadd, 1) := by decide +kernel
theorem dL_law_999 : decode cL_law 999 = .ok (.iaload, 1) := by decide +kernel
theorem dL_law_1000 : decode cL_law 1000 = .ok (.invokevirtual 129, 3) := by decide +kernel
theorem dL_law_1003 : decode cL_law 1003 = .ok (.if_icmp .eq 495, 3) := by decide +kernel
theorem dL_law_1006 : decode cL_law 1006 = .ok (.iconst 0, 1) := by decide +kernel
theorem dL_law_1007 : decode cL_law 1007 = .ok (.ireturn, 1) := by decide +kernel
theorem dL_law_1008 : decode cL_law 1008 = .ok (.aload_n 1, 1) := by decide +kernel
theorem dL_law_1009 : decode cL_law 1009 = .ok (.aload_n 0, 1) := by decide +kernel
theorem dL_law_1010 : decode cL_law 1010 = .ok (.iload_n 3, 1) := by decide +kernel
theorem dL_law_1011 : decode cL_law 1011 = .ok (.iconst 1, 1) := by decide +kernel
theorem dL_law_1012 : decode cL_law 1012 = .ok (.iadd, 1) := by decide +kernel
theorem dL_law_1013 : decode cL_law 1013 = .ok (.iaload, 1) := by decide +kernel
theorem dL_law_1014 : decode cL_law 1014 = .ok (.aload_n 0, 1) := by decide +kernel
theorem dL_law_1015 : decode cL_law 1015 = .ok (.iload_n 3, 1) := by decide +kernel
theorem dL_law_1016 : decode cL_law 1016 = .ok (.iconst 2, 1) := by decide +kernel
theorem dL_law_1017 : decode cL_law 1017 = .ok (.iadd, 1) := by decide +kernel
theorem dL_law_1018 : decode cL_law 1018 = .ok (.iaload, 1) := by decide +kernel
theorem dL_law_1019 : decode cL_law 1019 = .ok (.aload_n 0, 1) := by decide +kernel
theorem dL_law_1020 : decode cL_law 1020 = .ok (.iload_n 3, 1) := by decide +kernel
theorem dL_law_1021 : decode cL_law 1021 = .ok (.iconst 3, 1) := by decide +kernel
theorem dL_law_1022 : decode cL_law 1022 = .ok (.iadd, 1) := by decide +kernel
theorem dL_law_1023 : decode cL_law 1023 = .ok (.iaload, 1) := by decide +kernel
theorem dL_law_1024 : decode cL_law 1024 = .ok (.aload_n 0, 1) := by decide +kernel
theorem dL_law_1025 : decode cL_law 1025 = .ok (.iload_n 3, 1) := by decide +kernel
theorem dL_law_1026 : decode cL_law 1026 = .ok (.iconst 4, 1) := by decide +kernel
theorem dL_law_1027 : decode cL_law 1027 = .ok (.iadd, 1) := by decide +kernel
theorem dL_law_1028 : decode cL_law 1028 = .ok (.iaload, 1) := by decide +kernel
theorem dL_law_1029 : decode cL_law 1029 = .ok (.invokevirtual 130, 3) := by decide +kernel
theorem dL_law_1032 : decode cL_law 1032 = .ok (.aload_n 2, 1) := by decide +kernel
theorem dL_law_1033 : decode cL_law 1033 = .ok (.aload_n 0, 1) := by decide +kernel
theorem dL_law_1034 : decode cL_law 1034 = .ok (.iload_n 3, 1) := by decide +kernel
theorem dL_law_1035 : decode cL_law 1035 = .ok (.iconst 1, 1) := by decide +kernel
theorem dL_law_1036 : decode cL_law 1036 = .ok (.iadd, 1) := by decide +kernel
theorem dL_law_1037 : decode cL_law 1037 = .ok (.iaload, 1) := by decide +kernel
theorem dL_law_1038 : decode cL_law 1038 = .ok (.aload_n 0, 1) := by decide +kernel
theorem dL_law_1039 : decode cL_law 1039 = .ok (.iload_n 3, 1) := by decide +kernel
theorem dL_law_1040 : decode cL_law 1040 = .ok (.iconst 2, 1) := by decide +kernel
theorem dL_law_1041 : decode cL_law 1041 = .ok (.iadd, 1) := by decide +kernel
theorem dL_law_1042 : decode cL_law 1042 = .ok (.iaload, 1) := by decide +kernel
theorem dL_law_1043 : decode cL_law 1043 = .ok (.aload_n 0, 1) := by decide +kernel
theorem dL_law_1044 : decode cL_law 1044 = .ok (.iload_n 3, 1) := by decide +kernel
theorem dL_law_1045 : decode cL_law 1045 = .ok (.iconst 3, 1) := by decide +kernel
theorem dL_law_1046 : decode cL_law 1046 = .ok (.iadd, 1) := by decide +kernel
theorem dL_law_1047 : decode cL_law 1047 = .ok (.iaload, 1) := by decide +kernel
theorem dL_law_1048 : decode cL_law 1048 = .ok (.aload_n 0, 1) := by decide +kernel
theorem dL_law_1049 : decode cL_law 1049 = .ok (.iload_n 3, 1) := by decide +kernel
theorem dL_law_1050 : decode cL_law 1050 = .ok (.iconst 4, 1) := by decide +kernel
theorem dL_law_1051 : decode cL_law 1051 = .ok (.iadd, 1) := by decide +kernel
theorem dL_law_1052 : decode cL_law 1052 = .ok (.iaload, 1) := by decide +kernel
theorem dL_law_1053 : decode cL_law 1053 = .ok (.invokevirtual 134, 3) := by decide +kernel
theorem dL_law_1056 : decode cL_law 1056 = .ok (.lcmp, 1) := by decide +kernel
theorem dL_law_1057 : decode cL_law 1057 = .ok (.ifCond .eq 441, 3) := by decide +kernel
theorem dL_law_1060 : decode cL_law 1060 = .ok (.iconst 0, 1) := by decide +kernel
theorem dL_law_1061 : decode cL_law 1061 = .ok (.ireturn, 1) := by decide +kernel
theorem dL_law_1062 : decode cL_law 1062 = .ok (.aload_n 1, 1) := by decide +kernel
theorem dL_law_1063 : decode cL_law 1063 = .ok (.aload_n 0, 1) := by decide +kernel
theorem dL_law_1064 : decode cL_law 1064 = .ok (.iload_n 3, 1) := by decide +kernel
theorem dL_law_1065 : decode cL_law 1065 = .ok (.iconst 1, 1) := by decide +kernel
theorem dL_law_1066 : decode cL_law 1066 = .ok (.iadd, 1) := by decide +kernel
theorem dL_law_1067 : decode cL_law 1067 = .ok (.iaload, 1) := by decide +kernel
theorem dL_law_1068 : decode cL_law 1068 = .ok (.aload_n 0, 1) := by decide +kernel
theorem dL_law_1069 : decode cL_law 1069 = .ok (.iload_n 3, 1) := by decide +kernel
theorem dL_law_1070 : decode cL_law 1070 = .ok (.iconst 2, 1) := by decide +kernel
theorem dL_law_1071 : decode cL_law 1071 = .ok (.iadd, 1) := by decide +kernel
theorem dL_law_1072 : decode cL_law 1072 = .ok (.iaload, 1) := by decide +kernel
theorem dL_law_1073 : decode cL_law 1073 = .ok (.invokevirtual 135, 3) := by decide +kernel
theorem dL_law_1076 : decode cL_law 1076 = .ok (.aload_n 2, 1) := by decide +kernel
theorem dL_law_1077 : decode cL_law 1077 = .ok (.aload_n 0, 1) := by decide +kernel
theorem dL_law_1078 : decode cL_law 1078 = .ok (.iload_n 3, 1) := by decide +kernel
theorem dL_law_1079 : decode cL_law 1079 = .ok (.iconst 1, 1) := by decide +kernel
theorem dL_law_1080 : decode cL_law 1080 = .ok (.iadd, 1) := by decide +kernel
theorem dL_law_1081 : decode cL_law 1081 = .ok (.iaload, 1) := by decide +kernel
theorem dL_law_1082 : decode cL_law 1082 = .ok (.aload_n 0, 1) := by decide +kernel
theorem dL_law_1083 : decode cL_law 1083 = .ok (.iload_n 3, 1) := by decide +kernel
theorem dL_law_1084 : decode cL_law 1084 = .ok (.iconst 2, 1) := by decide +kernel
theorem dL_law_1085 : decode cL_law 1085 = .ok (.iadd, 1) := by decide +kernel
theorem dL_law_1086 : decode cL_law 1086 = .ok (.iaload, 1) := by decide +kernel
theorem dL_law_1087 : decode cL_law 1087 = .ok (.invokevirtual 139, 3) := by decide +kernel
theorem dL_law_1090 : decode cL_law 1090 = .ok (.lcmp, 1) := by decide +kernel
theorem dL_law_1091 : decode cL_law 1091 = .ok (.ifCond .eq 407, 3) := by decide +kernel
theorem dL_law_1094 : decode cL_law 1094 = .ok (.iconst 0, 1) := by decide +kernel
theorem dL_law_1095 : decode cL_law 1095 = .ok (.ireturn, 1) := by decide +kernel
theorem dL_law_1096 : decode cL_law 1096 = .ok (.aload_n 1, 1) := by decide +kernel
theorem dL_law_1097 : decode cL_law 1097 = .ok (.aload_n 0, 1) := by decide +kernel
theorem dL_law_1098 : decode cL_law 1098 = .ok (.iload_n 3, 1) := by decide +kernel
theorem dL_law_1099 : decode cL_law 1099 = .ok (.iconst 1, 1) := by decide +kernel
theorem dL_law_1100 : decode cL_law 1100 = .ok (.iadd, 1) := by decide +kernel
theorem dL_law_1101 : decode cL_law 1101 = .ok (.iaload, 1) := by decide +kernel
theorem dL_law_1102 : decode cL_law 1102 = .ok (.aload_n 0, 1) := by decide +kernel
theorem dL_law_1103 : decode cL_law 1103 = .ok (.iload_n 3, 1) := by decide +kernel
theorem dL_law_1104 : decode cL_law 1104 = .ok (.iconst 2, 1) := by decide +kernel
theorem dL_law_1105 : decode cL_law 1105 = .ok (.iadd, 1) := by decide +kernel
theorem dL_law_1106 : decode cL_law 1106 = .ok (.iaload, 1) := by decide +kernel
theorem dL_law_1107 : decode cL_law 1107 = .ok (.invokevirtual 140, 3) := by decide +kernel
theorem dL_law_1110 : decode cL_law 1110 = .ok (.aload_n 2, 1) := by decide +kernel
theorem dL_law_1111 : decode cL_law 1111 = .ok (.aload_n 0, 1) := by decide +kernel
theorem dL_law_1112 : decode cL_law 1112 = .ok (.iload_n 3, 1) := by decide +kernel
theorem dL_law_1113 : decode cL_law 1113 = .ok (.iconst 1, 1) := by decide +kernel
theorem dL_law_1114 : decode cL_law 1114 = .ok (.iadd, 1) := by decide +kernel
theorem dL_law_1115 : decode cL_law 1115 = .ok (.iaload, 1) := by decide +kernel
theorem dL_law_1116 : decode cL_law 1116 = .ok (.aload_n 0, 1) := by decide +kernel
theorem dL_law_1117 : decode cL_law 1117 = .ok (.iload_n 3, 1) := by decide +kernel
theorem dL_law_1118 : decode cL_law 1118 = .ok (.iconst 2, 1) := by decide +kernel
theorem dL_law_1119 : decode cL_law 1119 = .ok (.iadd, 1) := by decide +kernel
theorem dL_law_1120 : decode cL_law 1120 = .ok (.iaload, 1) := by decide +kernel
theorem dL_law_1121 : decode cL_law 1121 = .ok (.invokevirtual 143, 3) := by decide +kernel
theorem dL_law_1124 : decode cL_law 1124 = .ok (.if_icmp .eq 374, 3) := by decide +kernel
theorem dL_law_1127 : decode cL_law 1127 = .ok (.iconst 0, 1) := by decide +kernel
theorem dL_law_1128 : decode cL_law 1128 = .ok (.ireturn, 1) := by decide +kernel
theorem dL_law_1129 : decode cL_law 1129 = .ok (.aload_n 1, 1) := by decide +kernel
theorem dL_law_1130 : decode cL_law 1130 = .ok (.aload_n 0, 1) := by decide +kernel
theorem dL_law_1131 : decode cL_law 1131 = .ok (.iload_n 3, 1) := by decide +kernel
theorem dL_law_1132 : decode cL_law 1132 = .ok (.iconst 1, 1) := by decide +kernel
theorem dL_law_1133 : decode cL_law 1133 = .ok (.iadd, 1) := by decide +kernel
theorem dL_law_1134 : decode cL_law 1134 = .ok (.iaload, 1) := by decide +kernel
theorem dL_law_1135 : decode cL_law 1135 = .ok (.invokevirtual 144, 3) := by decide +kernel
theorem dL_law_1138 : decode cL_law 1138 = .ok (.aload_n 2, 1) := by decide +kernel
theorem dL_law_1139 : decode cL_law 1139 = .ok (.aload_n 0, 1) := by decide +kernel
theorem dL_law_1140 : decode cL_law 1140 = .ok (.iload_n 3, 1) := by decide +kernel
theorem dL_law_1141 : decode cL_law 1141 = .ok (.iconst 1, 1) := by decide +kernel
theorem dL_law_1142 : decode cL_law 1142 = .ok (.iadd, 1) := by decide +kernel
theorem dL_law_1143 : decode cL_law 1143 = .ok (.iaload, 1) := by decide +kernel
theorem dL_law_1144 : decode cL_law 1144 = .ok (.invokevirtual 147, 3) := by decide +kernel
theorem dL_law_1147 : decode cL_law 1147 = .ok (.if_icmp .eq 351, 3) := by decide +kernel
theorem dL_law_1150 : decode cL_law 1150 = .ok (.iconst 0, 1) := by decide +kernel
theorem dL_law_1151 : decode cL_law 1151 = .ok (.ireturn, 1) := by decide +kernel
theorem dL_law_1152 : decode cL_law 1152 = .ok (.aload_n 1, 1) := by decide +kernel
theorem dL_law_1153 : decode cL_law 1153 = .ok (.invokevirtual 148, 3) := by decide +kernel
theorem dL_law_1156 : decode cL_law 1156 = .ok (.aload_n 2, 1) := by decide +kernel
theorem dL_law_1157 : decode cL_law 1157 = .ok (.invokevirtual 151, 3) := by decide +kernel
theorem dL_law_1160 : decode cL_law 1160 = .ok (.if_icmp .eq 338, 3) := by decide +kernel
theorem dL_law_1163 : decode cL_law 1163 = .ok (.iconst 0, 1) := by decide +kernel
theorem dL_law_1164 : decode cL_law 1164 = .ok (.ireturn, 1) := by decide +kernel
theorem dL_law_1165 : decode cL_law 1165 = .ok (.aload_n 1, 1) := by decide +kernel
theorem dL_law_1166 : decode cL_law 1166 = .ok (.aload_n 0, 1) := by decide +kernel
theorem dL_law_1167 : decode cL_law 1167 = .ok (.iload_n 3, 1) := by decide +kernel
theorem dL_law_1168 : decode cL_law 1168 = .ok (.iconst 1, 1) := by decide +kernel
theorem dL_law_1169 : decode cL_law 1169 = .ok (.iadd, 1) := by decide +kernel
theorem dL_law_1170 : decode cL_law 1170 = .ok (.iaload, 1) := by decide +kernel
theorem dL_law_1171 : decode cL_law 1171 = .ok (.invokevirtual 152, 3) := by decide +kernel
theorem dL_law_1174 : decode cL_law 1174 = .ok (.aload_n 2, 1) := by decide +kernel
theorem dL_law_1175 : decode cL_law 1175 = .ok (.aload_n 0, 1) := by decide +kernel
theorem dL_law_1176 : decode cL_law 1176 = .ok (.iload_n 3, 1) := by decide +kernel
theorem dL_law_1177 : decode cL_law 1177 = .ok (.iconst 1, 1) := by decide +kernel
theorem dL_law_1178 : decode cL_law 1178 = .ok (.iadd, 1) := by decide +kernel
theorem dL_law_1179 : decode cL_law 1179 = .ok (.iaload, 1) := by decide +kernel
theorem dL_law_1180 : decode cL_law 1180 = .ok (.invokevirtual 155, 3) := by decide +kernel
theorem dL_law_1183 : decode cL_law 1183 = .ok (.if_icmp .eq 315, 3) := by decide +kernel
theorem dL_law_1186 : decode cL_law 1186 = .ok (.iconst 0, 1) := by decide +kernel
theorem dL_law_1187 : decode cL_law 1187 = .ok (.ireturn, 1) := by decide +kernel
theorem dL_law_1188 : decode cL_law 1188 = .ok (.aload_n 1, 1) := by decide +kernel
theorem dL_law_1189 : decode cL_law 1189 = .ok (.aload_n 0, 1) := by decide +kernel
theorem dL_law_1190 : decode cL_law 1190 = .ok (.iload_n 3, 1) := by decide +kernel
theorem dL_law_1191 : decode cL_law 1191 = .ok (.iconst 1, 1) := by decide +kernel
theorem dL_law_1192 : decode cL_law 1192 = .ok (.iadd, 1) := by decide +kernel
theorem dL_law_1193 : decode cL_law 1193 = .ok (.iaload, 1) := by decide +kernel
theorem dL_law_1194 : decode cL_law 1194 = .ok (.invokevirtual 156, 3) := by decide +kernel
theorem dL_law_1197 : decode cL_law 1197 = .ok (.aload_n 2, 1) := by decide +kernel
theorem dL_law_1198 : decode cL_law 1198 = .ok (.aload_n 0, 1) := by decide +kernel
theorem dL_law_1199 : decode cL_law 1199 = .ok (.iload_n 3, 1) := by decide +kernel
theorem dL_law_1200 : decode cL_law 1200 = .ok (.iconst 1, 1) := by decide +kernel
theorem dL_law_1201 : decode cL_law 1201 = .ok (.iadd, 1) := by decide +kernel
theorem dL_law_1202 : decode cL_law 1202 = .ok (.iaload, 1) := by decide +kernel
theorem dL_law_1203 : decode cL_law 1203 = .ok (.invokevirtual 159, 3) := by decide +kernel
theorem dL_law_1206 : decode cL_law 1206 = .ok (.if_icmp .eq 292, 3) := by decide +kernel
theorem dL_law_1209 : decode cL_law 1209 = .ok (.iconst 0, 1) := by decide +kernel
theorem dL_law_1210 : decode cL_law 1210 = .ok (.ireturn, 1) := by decide +kernel
theorem dL_law_1211 : decode cL_law 1211 = .ok (.aload_n 1, 1) := by decide +kernel
theorem dL_law_1212 : decode cL_law 1212 = .ok (.aload_n 0, 1) := by decide +kernel
theorem dL_law_1213 : decode cL_law 1213 = .ok (.iload_n 3, 1) := by decide +kernel
theorem dL_law_1214 : decode cL_law 1214 = .ok (.iconst 1, 1) := by decide +kernel
theorem dL_law_1215 : decode cL_law 1215 = .ok (.iadd, 1) := by decide +kernel
theorem dL_law_1216 : decode cL_law 1216 = .ok (.iaload, 1) := by decide +kernel
theorem dL_law_1217 : decode cL_law 1217 = .ok (.invokevirtual 160, 3) := by decide +kernel
theorem dL_law_1220 : decode cL_law 1220 = .ok (.aload_n 2, 1) := by decide +kernel
theorem dL_law_1221 : decode cL_law 1221 = .ok (.aload_n 0, 1) := by decide +kernel
theorem dL_law_1222 : decode cL_law 1222 = .ok (.iload_n 3, 1) := by decide +kernel
theorem dL_law_1223 : decode cL_law 1223 = .ok (.iconst 1, 1) := by decide +kernel
theorem dL_law_1224 : decode cL_law 1224 = .ok (.iadd, 1) := by decide +kernel
theorem dL_law_1225 : decode cL_law 1225 = .ok (.iaload, 1) := by decide +kernel
theorem dL_law_1226 : decode cL_law 1226 = .ok (.invokevirtual 163, 3) := by decide +kernel
theorem dL_law_1229 : decode cL_law 1229 = .ok (.if_icmp .eq 269, 3) := by decide +kernel
theorem dL_law_1232 : decode cL_law 1232 = .ok (.iconst 0, 1) := by decide +kernel
theorem dL_law_1233 : decode cL_law 1233 = .ok (.ireturn, 1) := by decide +kernel
theorem dL_law_1234 : decode cL_law 1234 = .ok (.aload_n 1, 1) := by decide +kernel
theorem dL_law_1235 : decode cL_law 1235 = .ok (.aload_n 0, 1) := by decide +kernel
theorem dL_law_1236 : decode cL_law 1236 = .ok (.iload_n 3, 1) := by decide +kernel
theorem dL_law_1237 : decode cL_law 1237 = .ok (.iconst 1, 1) := by decide +kernel
theorem dL_law_1238 : decode cL_law 1238 = .ok (.iadd, 1) := by decide +kernel
theorem dL_law_1239 : decode cL_law 1239 = .ok (.iaload, 1) := by decide +kernel
theorem dL_law_1240 : decode cL_law 1240 = .ok (.aload_n 0, 1) := by decide +kernel
theorem dL_law_1241 : decode cL_law 1241 = .ok (.iload_n 3, 1) := by decide +kernel
theorem dL_law_1242 : decode cL_law 1242 = .ok (.iconst 2, 1) := by decide +kernel
theorem dL_law_1243 : decode cL_law 1243 = .ok (.iadd, 1) := by decide +kernel
theorem dL_law_1244 : decode cL_law 1244 = .ok (.iaload, 1) := by decide +kernel
theorem dL_law_1245 : decode cL_law 1245 = .ok (.aload_n 0, 1) := by decide +kernel
theorem dL_law_1246 : decode cL_law 1246 = .ok (.iload_n 3, 1) := by decide +kernel
theorem dL_law_1247 : decode cL_law 1247 = .ok (.iconst 3, 1) := by decide +kernel
theorem dL_law_1248 : decode cL_law 1248 = .ok (.iadd, 1) := by decide +kernel
theorem dL_law_1249 : decode cL_law 1249 = .ok (.iaload, 1) := by decide +kernel
theorem dL_law_1250 : decode cL_law 1250 = .ok (.invokevirtual 164, 3) := by decide +kernel
theorem dL_law_1253 : decode cL_law 1253 = .ok (.aload_n 2, 1) := by decide +kernel
theorem dL_law_1254 : decode cL_law 1254 = .ok (.aload_n 0, 1) := by decide +kernel
theorem dL_law_1255 : decode cL_law 1255 = .ok (.iload_n 3, 1) := by decide +kernel
theorem dL_law_1256 : decode cL_law 1256 = .ok (.iconst 1, 1) := by decide +kernel
theorem dL_law_1257 : decode cL_law 1257 = .ok (.iadd, 1) := by decide +kernel
theorem dL_law_1258 : decode cL_law 1258 = .ok (.iaload, 1) := by decide +kernel
theorem dL_law_1259 : decode cL_law 1259 = .ok (.aload_n 0, 1) := by decide +kernel
theorem dL_law_1260 : decode cL_law 1260 = .ok (.iload_n 3, 1) := by decide +kernel
theorem dL_law_1261 : decode cL_law 1261 = .ok (.iconst 2, 1) := by decide +kernel
theorem dL_law_1262 : decode cL_law 1262 = .ok (.iadd, 1) := by decide +kernel
theorem dL_law_1263 : decode cL_law 1263 = .ok (.iaload, 1) := by decide +kernel
theorem dL_law_1264 : decode cL_law 1264 = .ok (.aload_n 0, 1) := by decide +kernel
theorem dL_law_1265 : decode cL_law 1265 = .ok (.iload_n 3, 1) := by decide +kernel
theorem dL_law_1266 : decode cL_law 1266 = .ok (.iconst 3, 1) := by decide +kernel
theorem dL_law_1267 : decode cL_law 1267 = .ok (.iadd, 1) := by decide +kernel
theorem dL_law_1268 : decode cL_law 1268 = .ok (.iaload, 1) := by decide +kernel
theorem dL_law_1269 : decode cL_law 1269 = .ok (.invokevirtual 167, 3) := by decide +kernel
theorem dL_law_1272 : decode cL_law 1272 = .ok (.if_icmp .eq 226, 3) := by decide +kernel
theorem dL_law_1275 : decode cL_law 1275 = .ok (.iconst 0, 1) := by decide +kernel
theorem dL_law_1276 : decode cL_law 1276 = .ok (.ireturn, 1) := by decide +kernel
theorem dL_law_1277 : decode cL_law 1277 = .ok (.aload_n 1, 1) := by decide +kernel
theorem dL_law_1278 : decode cL_law 1278 = .ok (.aload_n 0, 1) := by decide +kernel
theorem dL_law_1279 : decode cL_law 1279 = .ok (.iload_n 3, 1) := by decide +kernel
theorem dL_law_1280 : decode cL_law 1280 = .ok (.iconst 1, 1) := by decide +kernel
theorem dL_law_1281 : decode cL_law 1281 = .ok (.iadd, 1) := by decide +kernel
theorem dL_law_1282 : decode cL_law 1282 = .ok (.iaload, 1) := by decide +kernel
theorem dL_law_1283 : decode cL_law 1283 = .ok (.invokevirtual 168, 3) := by decide +kernel
theorem dL_law_1286 : decode cL_law 1286 = .ok (.aload_n 2, 1) := by decide +kernel
theorem dL_law_1287 : decode cL_law 1287 = .ok (.aload_n 0, 1) := by decide +kernel
theorem dL_law_1288 : decode cL_law 1288 = .ok (.iload_n 3, 1) := by decide +kernel
theorem dL_law_1289 : decode cL_law 1289 = .ok (.iconst 1, 1) := by decide +kernel
theorem dL_law_1290 : decode cL_law 1290 = .ok (.iadd, 1) := by decide +kernel
theorem dL_law_1291 : decode cL_law 1291 = .ok (.iaload, 1) := by decide +kernel
theorem dL_law_1292 : decode cL_law 1292 = .ok (.invokevirtual 171, 3) := by decide +kernel
theorem dL_law_1295 : decode cL_law 1295 = .ok (.if_icmp .eq 203, 3) := by decide +kernel
theorem dL_law_1298 : decode cL_law 1298 = .ok (.iconst 0, 1) := by decide +kernel
theorem dL_law_1299 : decode cL_law 1299 = .ok (.ireturn, 1) := by decide +kernel
theorem dL_law_1300 : decode cL_law 1300 = .ok (.aload_n 1, 1) := by decide +kernel
theorem dL_law_1301 : decode cL_law 1301 = .ok (.aload_n 0, 1) := by decide +kernel
theorem dL_law_1302 : decode cL_law 1302 = .ok (.iload_n 3, 1) := by decide +kernel
theorem dL_law_1303 : decode cL_law 1303 = .ok (.iconst 1, 1) := by decide +kernel
theorem dL_law_1304 : decode cL_law 1304 = .ok (.iadd, 1) := by decide +kernel
theorem dL_law_1305 : decode cL_law 1305 = .ok (.iaload, 1) := by decide +kernel
theorem dL_law_1306 : decode cL_law 1306 = .ok (.invokevirtual 172, 3) := by decide +kernel
theorem dL_law_1309 : decode cL_law 1309 = .ok (.aload_n 2, 1) := by decide +kernel
theorem dL_law_1310 : decode cL_law 1310 = .ok (.aload_n 0, 1) := by decide +kernel
theorem dL_law_1311 : decode cL_law 1311 = .ok (.iload_n 3, 1) := by decide +kernel
theorem dL_law_1312 : decode cL_law 1312 = .ok (.iconst 1, 1) := by decide +kernel
theorem dL_law_1313 : decode cL_law 1313 = .ok (.iadd, 1) := by decide +kernel
theorem dL_law_1314 : decode cL_law 1314 = .ok (.iaload, 1) := by decide +kernel
theorem dL_law_1315 : decode cL_law 1315 = .ok (.invokevirtual 175, 3) := by decide +kernel
theorem dL_law_1318 : decode cL_law 1318 = .ok (.if_icmp .eq 180, 3) := by decide +kernel
theorem dL_law_1321 : decode cL_law 1321 = .ok (.iconst 0, 1) := by decide +kernel
theorem dL_law_1322 : decode cL_law 1322 = .ok (.ireturn, 1) := by decide +kernel
theorem dL_law_1323 : decode cL_law 1323 = .ok (.aload_n 1, 1) := by decide +kernel
theorem dL_law_1324 : decode cL_law 1324 = .ok (.aload_n 0, 1) := by decide +kernel
theorem dL_law_1325 : decode cL_law 1325 = .ok (.iload_n 3, 1) := by decide +kernel
theorem dL_law_1326 : decode cL_law 1326 = .ok (.iconst 1, 1) := by decide +kernel
theorem dL_law_1327 : decode cL_law 1327 = .ok (.iadd, 1) := by decide +kernel
theorem dL_law_1328 : decode cL_law 1328 = .ok (.iaload, 1) := by decide +kernel
theorem dL_law_1329 : decode cL_law 1329 = .ok (.aload_n 0, 1) := by decide +kernel
theorem dL_law_1330 : decode cL_law 1330 = .ok (.iload_n 3, 1) := by decide +kernel
theorem dL_law_1331 : decode cL_law 1331 = .ok (.iconst 2, 1) := by decide +kernel
theorem dL_law_1332 : decode cL_law 1332 = .ok (.iadd, 1) := by decide +kernel
theorem dL_law_1333 : decode cL_law 1333 = .ok (.iaload, 1) := by decide +kernel
theorem dL_law_1334 : decode cL_law 1334 = .ok (.aload_n 0, 1) := by decide +kernel
theorem dL_law_1335 : decode cL_law 1335 = .ok (.iload_n 3, 1) := by decide +kernel
theorem dL_law_1336 : decode cL_law 1336 = .ok (.iconst 3, 1) := by decide +kernel
theorem dL_law_1337 : decode cL_law 1337 = .ok (.iadd, 1) := by decide +kernel
theorem dL_law_1338 : decode cL_law 1338 = .ok (.iaload, 1) := by decide +kernel
theorem dL_law_1339 : decode cL_law 1339 = .ok (.invokevirtual 176, 3) := by decide +kernel
theorem dL_law_1342 : decode cL_law 1342 = .ok (.aload_n 2, 1) := by decide +kernel
theorem dL_law_1343 : decode cL_law 1343 = .ok (.aload_n 0, 1) := by decide +kernel
theorem dL_law_1344 : decode cL_law 1344 = .ok (.iload_n 3, 1) := by decide +kernel
theorem dL_law_1345 : decode cL_law 1345 = .ok (.iconst 1, 1) := by decide +kernel
theorem dL_law_1346 : decode cL_law 1346 = .ok (.iadd, 1) := by decide +kernel
theorem dL_law_1347 : decode cL_law 1347 = .ok (.iaload, 1) := by decide +kernel
theorem dL_law_1348 : decode cL_law 1348 = .ok (.aload_n 0, 1) := by decide +kernel
theorem dL_law_1349 : decode cL_law 1349 = .ok (.iload_n 3, 1) := by decide +kernel
theorem dL_law_1350 : decode cL_law 1350 = .ok (.iconst 2, 1) := by decide +kernel
theorem dL_law_1351 : decode cL_law 1351 = .ok (.iadd, 1) := by decide +kernel
theorem dL_law_1352 : decode cL_law 1352 = .ok (.iaload, 1) := by decide +kernel
theorem dL_law_1353 : decode cL_law 1353 = .ok (.aload_n 0, 1) := by decide +kernel
theorem dL_law_1354 : decode cL_law 1354 = .ok (.iload_n 3, 1) := by decide +kernel
theorem dL_law_1355 : decode cL_law 1355 = .ok (.iconst 3, 1) := by decide +kernel
theorem dL_law_1356 : decode cL_law 1356 = .ok (.iadd, 1) := by decide +kernel
theorem dL_law_1357 : decode cL_law 1357 = .ok (.iaload, 1) := by decide +kernel
theorem dL_law_1358 : decode cL_law 1358 = .ok (.invokevirtual 179, 3) := by decide +kernel
theorem dL_law_1361 : decode cL_law 1361 = .ok (.if_icmp .eq 137, 3) := by decide +kernel
theorem dL_law_1364 : decode cL_law 1364 = .ok (.iconst 0, 1) := by decide +kernel
theorem dL_law_1365 : decode cL_law 1365 = .ok (.ireturn, 1) := by decide +kernel
theorem dL_law_1366 : decode cL_law 1366 = .ok (.aload_n 1, 1) := by decide +kernel
theorem dL_law_1367 : decode cL_law 1367 = .ok (.aload_n 0, 1) := by decide +kernel
theorem dL_law_1368 : decode cL_law 1368 = .ok (.iload_n 3, 1) := by decide +kernel
theorem dL_law_1369 : decode cL_law 1369 = .ok (.iconst 1, 1) := by decide +kernel
theorem dL_law_1370 : decode cL_law 1370 = .ok (.iadd, 1) := by decide +kernel
theorem dL_law_1371 : decode cL_law 1371 = .ok (.iaload, 1) := by decide +kernel
theorem dL_law_1372 : decode cL_law 1372 = .ok (.aload_n 0, 1) := by decide +kernel
theorem dL_law_1373 : decode cL_law 1373 = .ok (.iload_n 3, 1) := by decide +kernel
theorem dL_law_1374 : decode cL_law 1374 = .ok (.iconst 2, 1) := by decide +kernel
theorem dL_law_1375 : decode cL_law 1375 = .ok (.iadd, 1) := by decide +kernel
theorem dL_law_1376 : decode cL_law 1376 = .ok (.iaload, 1) := by decide +kernel
theorem dL_law_1377 : decode cL_law 1377 = .ok (.aload_n 0, 1) := by decide +kernel
theorem dL_law_1378 : decode cL_law 1378 = .ok (.iload_n 3, 1) := by decide +kernel
theorem dL_law_1379 : decode cL_law 1379 = .ok (.iconst 3, 1) := by decide +kernel
theorem dL_law_1380 : decode cL_law 1380 = .ok (.iadd, 1) := by decide +kernel
theorem dL_law_1381 : decode cL_law 1381 = .ok (.iaload, 1) := by decide +kernel
theorem dL_law_1382 : decode cL_law 1382 = .ok (.invokevirtual 180, 3) := by decide +kernel
theorem dL_law_1385 : decode cL_law 1385 = .ok (.aload_n 2, 1) := by decide +kernel
theorem dL_law_1386 : decode cL_law 1386 = .ok (.aload_n 0, 1) := by decide +kernel
theorem dL_law_1387 : decode cL_law 1387 = .ok (.iload_n 3, 1) := by decide +kernel
theorem dL_law_1388 : decode cL_law 1388 = .ok (.iconst 1, 1) := by decide +kernel
theorem dL_law_1389 : decode cL_law 1389 = .ok (.iadd, 1) := by decide +kernel
theorem dL_law_1390 : decode cL_law 1390 = .ok (.iaload, 1) := by decide +kernel
theorem dL_law_1391 : decode cL_law 1391 = .ok (.aload_n 0, 1) := by decide +kernel
theorem dL_law_1392 : decode cL_law 1392 = .ok (.iload_n 3, 1) := by decide +kernel
theorem dL_law_1393 : decode cL_law 1393 = .ok (.iconst 2, 1) := by decide +kernel
theorem dL_law_1394 : decode cL_law 1394 = .ok (.iadd, 1) := by decide +kernel
theorem dL_law_1395 : decode cL_law 1395 = .ok (.iaload, 1) := by decide +kernel
theorem dL_law_1396 : decode cL_law 1396 = .ok (.aload_n 0, 1) := by decide +kernel
theorem dL_law_1397 : decode cL_law 1397 = .ok (.iload_n 3, 1) := by decide +kernel
theorem dL_law_1398 : decode cL_law 1398 = .ok (.iconst 3, 1) := by decide +kernel
theorem dL_law_1399 : decode cL_law 1399 = .ok (.iadd, 1) := by decide +kernel
theorem dL_law_1400 : decode cL_law 1400 = .ok (.iaload, 1) := by decide +kernel
theorem dL_law_1401 : decode cL_law 1401 = .ok (.invokevirtual 183, 3) := by decide +kernel
theorem dL_law_1404 : decode cL_law 1404 = .ok (.if_icmp .eq 94, 3) := by decide +kernel
theorem dL_law_1407 : decode cL_law 1407 = .ok (.iconst 0, 1) := by decide +kernel
theorem dL_law_1408 : decode cL_law 1408 = .ok (.ireturn, 1) := by decide +kernel
theorem dL_law_1409 : decode cL_law 1409 = .ok (.aload_n 1, 1) := by decide +kernel
theorem dL_law_1410 : decode cL_law 1410 = .ok (.aload_n 0, 1) := by decide +kernel
theorem dL_law_1411 : decode cL_law 1411 = .ok (.iload_n 3, 1) := by decide +kernel
theorem dL_law_1412 : decode cL_law 1412 = .ok (.iconst 1, 1) := by decide +kernel
theorem dL_law_1413 : decode cL_law 1413 = .ok (.iadd, 1) := by decide +kernel
theorem dL_law_1414 : decode cL_law 1414 = .ok (.iaload, 1) := by decide +kernel
theorem dL_law_1415 : decode cL_law 1415 = .ok (.aload_n 0, 1) := by decide +kernel
theorem dL_law_1416 : decode cL_law 1416 = .ok (.iload_n 3, 1) := by decide +kernel
theorem dL_law_1417 : decode cL_law 1417 = .ok (.iconst 2, 1) := by decide +kernel
theorem dL_law_1418 : decode cL_law 1418 = .ok (.iadd, 1) := by decide +kernel
theorem dL_law_1419 : decode cL_law 1419 = .ok (.iaload, 1) := by decide +kernel
theorem dL_law_1420 : decode cL_law 1420 = .ok (.aload_n 0, 1) := by decide +kernel
theorem dL_law_1421 : decode cL_law 1421 = .ok (.iload_n 3, 1) := by decide +kernel
theorem dL_law_1422 : decode cL_law 1422 = .ok (.iconst 3, 1) := by decide +kernel
theorem dL_law_1423 : decode cL_law 1423 = .ok (.iadd, 1) := by decide +kernel
theorem dL_law_1424 : decode cL_law 1424 = .ok (.iaload, 1) := by decide +kernel
theorem dL_law_1425 : decode cL_law 1425 = .ok (.aload_n 0, 1) := by decide +kernel
theorem dL_law_1426 : decode cL_law 1426 = .ok (.iload_n 3, 1) := by decide +kernel
theorem dL_law_1427 : decode cL_law 1427 = .ok (.iconst 4, 1) := by decide +kernel
theorem dL_law_1428 : decode cL_law 1428 = .ok (.iadd, 1) := by decide +kernel
theorem dL_law_1429 : decode cL_law 1429 = .ok (.iaload, 1) := by decide +kernel
theorem dL_law_1430 : decode cL_law 1430 = .ok (.invokevirtual 184, 3) := by decide +kernel
theorem dL_law_1433 : decode cL_law 1433 = .ok (.aload_n 2, 1) := by decide +kernel
theorem dL_law_1434 : decode cL_law 1434 = .ok (.aload_n 0, 1) := by decide +kernel
theorem dL_law_1435 : decode cL_law 1435 = .ok (.iload_n 3, 1) := by decide +kernel
theorem dL_law_1436 : decode cL_law 1436 = .ok (.iconst 1, 1) := by decide +kernel
theorem dL_law_1437 : decode cL_law 1437 = .ok (.iadd, 1) := by decide +kernel
theorem dL_law_1438 : decode cL_law 1438 = .ok (.iaload, 1) := by decide +kernel
theorem dL_law_1439 : decode cL_law 1439 = .ok (.aload_n 0, 1) := by decide +kernel
theorem dL_law_1440 : decode cL_law 1440 = .ok (.iload_n 3, 1) := by decide +kernel
theorem dL_law_1441 : decode cL_law 1441 = .ok (.iconst 2, 1) := by decide +kernel
theorem dL_law_1442 : decode cL_law 1442 = .ok (.iadd, 1) := by decide +kernel
theorem dL_law_1443 : decode cL_law 1443 = .ok (.iaload, 1) := by decide +kernel
theorem dL_law_1444 : decode cL_law 1444 = .ok (.aload_n 0, 1) := by decide +kernel
theorem dL_law_1445 : decode cL_law 1445 = .ok (.iload_n 3, 1) := by decide +kernel
theorem dL_law_1446 : decode cL_law 1446 = .ok (.iconst 3, 1) := by decide +kernel
theorem dL_law_1447 : decode cL_law 1447 = .ok (.iadd, 1) := by decide +kernel
theorem dL_law_1448 : decode cL_law 1448 = .ok (.iaload, 1) := by decide +kernel
theorem dL_law_1449 : decode cL_law 1449 = .ok (.aload_n 0, 1) := by decide +kernel
theorem dL_law_1450 : decode cL_law 1450 = .ok (.iload_n 3, 1) := by decide +kernel
theorem dL_law_1451 : decode cL_law 1451 = .ok (.iconst 4, 1) := by decide +kernel
theorem dL_law_1452 : decode cL_law 1452 = .ok (.iadd, 1) := by decide +kernel
theorem dL_law_1453 : decode cL_law 1453 = .ok (.iaload, 1) := by decide +kernel
theorem dL_law_1454 : decode cL_law 1454 = .ok (.invokevirtual 187, 3) := by decide +kernel
theorem dL_law_1457 : decode cL_law 1457 = .ok (.if_icmp .eq 41, 3) := by decide +kernel
theorem dL_law_1460 : decode cL_law 1460 = .ok (.iconst 0, 1) := by decide +kernel
theorem dL_law_1461 : decode cL_law 1461 = .ok (.ireturn, 1) := by decide +kernel
theorem dL_law_1462 : decode cL_law 1462 = .ok (.aload_n 1, 1) := by decide +kernel
theorem dL_law_1463 : decode cL_law 1463 = .ok (.invokevirtual 188, 3) := by decide +kernel
theorem dL_law_1466 : decode cL_law 1466 = .ok (.aload_n 2, 1) := by decide +kernel
theorem dL_law_1467 : decode cL_law 1467 = .ok (.invokevirtual 191, 3) := by decide +kernel
theorem dL_law_1470 : decode cL_law 1470 = .ok (.if_icmp .eq 28, 3) := by decide +kernel
theorem dL_law_1473 : decode cL_law 1473 = .ok (.iconst 0, 1) := by decide +kernel
theorem dL_law_1474 : decode cL_law 1474 = .ok (.ireturn, 1) := by decide +kernel
theorem dL_law_1475 : decode cL_law 1475 = .ok (.aload_n 1, 1) := by decide +kernel
theorem dL_law_1476 : decode cL_law 1476 = .ok (.aload_n 0, 1) := by decide +kernel
theorem dL_law_1477 : decode cL_law 1477 = .ok (.iload_n 3, 1) := by decide +kernel
theorem dL_law_1478 : decode cL_law 1478 = .ok (.iconst 1, 1) := by decide +kernel
theorem dL_law_1479 : decode cL_law 1479 = .ok (.iadd, 1) := by decide +kernel
theorem dL_law_1480 : decode cL_law 1480 = .ok (.iaload, 1) := by decide +kernel
theorem dL_law_1481 : decode cL_law 1481 = .ok (.invokevirtual 192, 3) := by decide +kernel
theorem dL_law_1484 : decode cL_law 1484 = .ok (.aload_n 2, 1) := by decide +kernel
theorem dL_law_1485 : decode cL_law 1485 = .ok (.aload_n 0, 1) := by decide +kernel
theorem dL_law_1486 : decode cL_law 1486 = .ok (.iload_n 3, 1) := by decide +kernel
theorem dL_law_1487 : decode cL_law 1487 = .ok (.iconst 1, 1) := by decide +kernel
theorem dL_law_1488 : decode cL_law 1488 = .ok (.iadd, 1) := by decide +kernel
theorem dL_law_1489 : decode cL_law 1489 = .ok (.iaload, 1) := by decide +kernel
theorem dL_law_1490 : decode cL_law 1490 = .ok (.invokevirtual 195, 3) := by decide +kernel
theorem dL_law_1493 : decode cL_law 1493 = .ok (.if_icmp .eq 5, 3) := by decide +kernel
theorem dL_law_1496 : decode cL_law 1496 = .ok (.iconst 0, 1) := by decide +kernel
theorem dL_law_1497 : decode cL_law 1497 = .ok (.ireturn, 1) := by decide +kernel
theorem dL_law_1498 : decode cL_law 1498 = .ok (.iinc 3 5, 3) := by decide +kernel
theorem dL_law_1501 : decode cL_law 1501 = .ok (.goto (-1483), 3) := by decide +kernel
theorem dL_law_1504 : decode cL_law 1504 = .ok (.iconst 1, 1) := by decide +kernel
theorem dL_law_1505 : decode cL_law 1505 = .ok (.ireturn, 1) := by decide +kernel
end
section
abbrev rp_C : Type := (Nat × List (Option Nat)) ⊕ (Nat × Nat)
/-- the cells: class and fields (a cell, or a number), or an array: its kind, its length -/
def rp_sh : List rp_C := [
  .inl (6, [some 1, some 4, some 12, some 13, some 15, some 18, some 22, some 25, none, none]),
  .inl (1, [some 2, some 3, none, none, none, none]),
  .inr (0, 24),
  .inr (0, 8),
  .inl (3, [some 5, some 8, some 9, some 10, some 11]),
  .inl (1, [some 6, some 7, none, none, none, none]),
  .inr (0, 24),
  .inr (0, 8),
  .inr (0, 6),
  .inr (0, 6),
  .inr (0, 6),
  .inr (0, 6),
  .inl (0, [none, none]),
  .inl (5, [some 14, none, none, none, none, none, none, none, none]),
  .inr (1, 160),
  .inl (4, [some 16, some 17, none]),
  .inr (0, 6),
  .inr (0, 6),
  .inl (2, [some 19, some 20, some 21, none]),
  .inr (0, 160),
  .inr (0, 4),
  .inr (0, 4),
  .inl (1, [some 23, some 24, none, none, none, none]),
  .inr (0, 24),
  .inr (0, 8),
  .inl (1, [some 26, some 27, none, none, none, none]),
  .inr (0, 24),
  .inr (0, 8),
  .inl (7, [some 29, some 30, none, some 31, none, none, none, none, none, none, none, none, some 32, some 33, none, some 34, none, none, none, some 35, none, some 36, some 37, some 38, some 39, some 40, none]),
  .inr (0, 180),
  .inr (0, 36),
  .inr (0, 160),
  .inr (0, 8),
  .inr (0, 36),
  .inr (0, 24),
  .inr (0, 12),
  .inr (0, 54),
  .inr (2, 2),
  .inr (0, 4),
  .inr (0, 4),
  .inr (0, 160)]
/-- the class's own tables, and its texts -/
def rp_tn : Nat → String
  | 0 => "WORK_LEAST"
  | 1 => "WORK_MOST"
  | _ => "READER_MOST"
def rp_tab : Nat → List Int32
  | 0 => [0, 0, 0, 1]
  | 1 => [3, 11, 59, 9]
  | _ => [11, 9]
def rp_sl : List Nat := [4, 5, 8, 5, 6, 4, 4]
def rp_sb : List (List Int32) := [[115, 116, 97, 114], [119, 104, 101, 101, 108], [102, 111, 117, 110, 116, 97, 105, 110], [115, 113, 117, 105, 98], [114, 101, 97, 100, 101, 114], [119, 105, 110, 100], [100, 97, 109, 112]]
def rp_si : Nat → Nat
  | 0 => 121
  | 1 => 127
  | 2 => 129
  | 3 => 131
  | 4 => 133
  | 5 => 135
  | _ => 136
def rp_sx : Nat → String
  | 0 => "star"
  | 1 => "wheel"
  | 2 => "fountain"
  | 3 => "squib"
  | 4 => "reader"
  | 5 => "wind"
  | _ => "damp"
end
section
/-! THE FRAME: one world for every method; a method's walk against a pure function of its cells -/
abbrev rp_S : Type := Nat → Nat → Int32
/-- launch, class places, what may change, addresses, array classes (0 int, 1 byte, 2 boolean), addresses outside, the formatter -/
abbrev rp_E : Type := Launch × va_G × (Nat → Prop) × (Nat → Nat) × (Nat → ClassId) × (Nat → Nat) × Value
/-- a method: its name, code, locals, answer -/
abbrev rp_MI : Type := MethodName × ByteArray × Nat × Option FieldType
/-- room, cells, slots, the end, what else is known -/
abbrev rp_K : Type := Room × Nat × Nat × (Option Value → rp_S → State → Array Value → List Frame → State → Prop) × (State → Array Value → Prop)
def rp_fv (ad : Nat → Nat) (f : Nat → Int32) : Nat → List (Option Nat) → List Value
  | _, [] => []
  | k, none :: r => .int (f k) :: rp_fv ad f (k + 1) r
  | k, some b :: r => .ref (ad b) :: rp_fv ad f (k + 1) r
def rp_en1 (E : rp_E) (f : Nat → Int32) (c : rp_C) : va_E := match c with
  | .inl (ci, fds) => .inr (ci, rp_fv E.2.2.2.1 f 0 fds)
  | .inr (t, n) => .inl (E.2.2.2.2.1 t, n, .inl f)
def rp_en (E : rp_E) (a : Nat) (f : Nat → Int32) : va_E := rp_en1 E f (rp_sh.getD a (.inr (0, 0)))
def rp_wd (E : rp_E) (σ : rp_S) : va_W := (List.range rp_sh.length).map (fun a => (E.2.2.2.1 a, rp_en E a (σ a)))
def rp_ty (E : rp_E) : List (ClassId × FieldType) := [(E.2.2.2.2.1 0, .int), (E.2.2.2.2.1 1, .byte), (E.2.2.2.2.1 2, .boolean)]
def rp_up (σ : rp_S) (a k : Nat) (v : Int32) : rp_S := fun b => if b = a then (fun j => if j = k then v else σ a j) else σ b
def rp_cp (σ : rp_S) (a b n : Nat) : rp_S := fun c => if c = b then (fun j => if j < n then σ a j else σ b j) else σ c
theorem rp_fv_at (ad : Nat → Nat) (f : Nat → Int32) : ∀ (fds : List (Option Nat)) (k0 k : Nat), (rp_fv ad f k0 fds)[k]? = fds[k]?.map (fun o => match o with | none => .int (f (k0 + k)) | some b => .ref (ad b)) := by
  intro fds
  induction fds with
  | nil => intro k0 k; simp [rp_fv]
  | cons o r ih =>
    intro k0 k
    cases k with
    | zero => cases o <;> simp [rp_fv]
    | succ k =>
      have e : k0 + 1 + k = k0 + (k + 1) := by omega
      cases o <;> simp [rp_fv, ih, e]
theorem rp_fv_len (ad : Nat → Nat) (f : Nat → Int32) : ∀ (fds : List (Option Nat)) (k0 : Nat), (rp_fv ad f k0 fds).length = fds.length := by
  intro fds
  induction fds with
  | nil => intro k0; rfl
  | cons o r ih => intro k0; cases o <;> simp [rp_fv, ih]
theorem rp_fv_set (ad : Nat → Nat) (f : Nat → Int32) (fds : List (Option Nat)) (k : Nat) (v : Int32) (h : fds[k]? = some none) : (rp_fv ad f 0 fds).set k (.int v) = rp_fv ad (fun j => if j = k then v else f j) 0 fds := by
  apply List.ext_getElem?
  intro j
  rw [List.getElem?_set, rp_fv_at, rp_fv_at, rp_fv_len]
  by_cases hj : k = j
  · subst hj
    obtain ⟨hl, hg⟩ := List.getElem?_eq_some_iff.mp h
    simp [hl, hg]
  · rw [if_neg hj]
    cases hq : fds[j]? with
    | none => rfl
    | some o =>
      cases o with
      | none =>
        have : ¬ j = k := fun q => hj q.symm
        simp [this]
      | some b => rfl
theorem rp_at {E : rp_E} {σ : rp_S} {a : Nat} {c : rp_C} (h : rp_sh[a]? = some c) : (rp_wd E σ)[a]? = some (E.2.2.2.1 a, rp_en1 E (σ a) c) := by
  obtain ⟨hl, hg⟩ := List.getElem?_eq_some_iff.mp h
  have hd : rp_sh.getD a (.inr (0, 0)) = c := by rw [List.getD_eq_getElem?_getD, h]; rfl
  simp [rp_wd, rp_en, hl, hg]
theorem rp_set {E : rp_E} {σ : rp_S} {a : Nat} {c : rp_C} {g : Nat → Int32} (h : rp_sh[a]? = some c) {e : va_E} (he : e = rp_en1 E g c) : (rp_wd E σ).set a (E.2.2.2.1 a, e) = rp_wd E (fun b => if b = a then g else σ b) := by
  obtain ⟨hl, hg⟩ := List.getElem?_eq_some_iff.mp h
  apply List.ext_getElem?
  intro j
  rw [List.getElem?_set]
  by_cases hj : a = j
  · subst hj
    simp [rp_wd, rp_en, hl, hg, he]
  · have hj' : ¬ j = a := fun q => hj q.symm
    rw [if_neg hj]
    by_cases hjl : j < rp_sh.length
    · simp [rp_wd, hjl, hj']
    · simp [rp_wd, hjl]
def rp_Xt (E : rp_E) (U : State) (H : Heap) : Prop :=
  (∀ i : Nat, i < 3 → va_Z "RocketPrint" (rp_tn i) "[I" (.ref (E.2.2.2.2.2.1 i)) E.2.2.1 U H ∧ va_T .int (E.2.2.2.2.2.1 i) (rp_tab i).length (fun j => .int ((rp_tab i).getD j 0)) E.2.2.1 U H) ∧
  vk_S 7 rp_sl rp_sb (fun i => E.2.2.2.2.2.1 (10 + i)) (fun i => E.2.2.2.2.2.1 (20 + i)) E.2.2.1 U H ∧
  (∀ i : Nat, i < 7 → vk_R "RocketPrint$Tape" (rp_si i) (rp_sx i) (E.2.2.2.2.2.1 (10 + i)) U) ∧
  va_Z "java/lang/String" "COMPACT_STRINGS" "Z" (.int 1) E.2.2.1 U H ∧ va_Z "jdk/internal/util/Preconditions" "SIOOBE_FORMATTER" "Ljava/util/function/BiFunction;" E.2.2.2.2.2.2 E.2.2.1 U H
theorem rp_Xt.warm {E : rp_E} {s U : State} {H : Heap} (hW : s.WarmedH U.vm) (h : rp_Xt E s H) : rp_Xt E U H :=
  ⟨fun i hi => ⟨(h.1 i hi).1.moved hW.alike, (h.1 i hi).2.moved hW.alike⟩, h.2.1.moved hW.alike, fun i hi => (h.2.2.1 i hi).warm hW, h.2.2.2.1.moved hW.alike, h.2.2.2.2.moved hW.alike⟩
theorem rp_Xt.same {E : rp_E} {s U : State} {H : Heap} (hv : U.vm = s.vm) (h : rp_Xt E s H) : rp_Xt E U H := by
  have ha : s.vm.Alike U.vm := by rw [hv]; exact Vm.Alike.refl _
  exact ⟨fun i hi => ⟨(h.1 i hi).1.moved ha, (h.1 i hi).2.moved ha⟩, h.2.1.moved ha, fun i hi => (h.2.2.1 i hi).same hv, h.2.2.2.1.moved ha, h.2.2.2.2.moved ha⟩
theorem rp_Xt.kept {E : rp_E} {U : State} {H H1 : Heap} (h : rp_Xt E U H) (hq : ∀ a : Nat, a < H.size → ¬ E.2.2.1 a → H1[a]? = H[a]?) : rp_Xt E U H1 :=
  ⟨fun i hi => ⟨(h.1 i hi).1.kept hq, (h.1 i hi).2.kept hq⟩, h.2.1.kept hq, h.2.2.1, h.2.2.2.1.kept hq, h.2.2.2.2.kept hq⟩
def rp_Wd (E : rp_E) (σ : rp_S) (s : State) (H : Heap) (locs : List Loc) : Prop := va_P E.2.1 vwCl (rp_wd E σ) H ∧ va_D E.2.2.1 (rp_wd E σ) ∧ va_K E.2.1 vwCl (rp_ty E) s ∧ va_S E.2.2.1 s.heap H locs ∧ rp_Xt E s s.heap
/-- the good words, and the words on nest mates -/
def rp_TG : List Cond := lw_tbl.filter goodWord
def rp_isN : Cond → Bool
  | .fieldLinkNest .. => true
  | .methodLinkNest .. => true
  | _ => false
def rp_NW : List Cond := tables_1.filter rp_isN
def rp_Gd (mi : rp_MI) (p : Program) (s : State) (m : MethodId) (args : Array Value) (meth : Method) (c : Code) : Prop :=
  p.tables.exec = Jvm.exec ∧ c.code = mi.2.1 ∧ meth.sig.returnType = mi.2.2.2 ∧ c.maxLocals = mi.2.2.1 ∧ s.vm.findClass mi.1.cls = some m.cls ∧ (∀ w ∈ rp_TG, w.before args s = true) ∧ (∀ w ∈ rp_NW, va_Nw w s) ∧ meth.locks = false
/-- the locals, by places -/
def rp_L (arr : Array Slot) (n : Nat) (vs : List (Option Value)) : Prop := arr.size = n ∧ lv_wf arr ∧ vs.length = n ∧ ∀ (i : Nat) (v : Value), vs[i]? = some (some v) → arr[i]? = some (.val v)
def rp_R {α : Type} (E : rp_E) (K : rp_K) (mi : rp_MI) (pc : Nat) (vs : List (Option Value)) (st : List Value) (σ : rp_S) (h : α → Option Value × rp_S) (o : Option α) : Prop :=
  ∀ a : α, o = some a → ∀ (p : Program) (e : Env) (s : State) (m : MethodId) (args : Array Value) (below : List Frame) (meth : Method) (c : Code) (H : Heap) (locs : List Loc) (arr : Array Slot), rp_Gd mi p s m args meth c → K.2.2.2.2 s args → rp_Wd E σ s H locs → rp_L arr mi.2.2.1 vs →
    W p E.1 e K.1 s m args below meth c H locs K.2.1 K.2.2.1 (K.2.2.2.1 (h a).1 (h a).2 s args below) (F0 m pc arr st)
theorem rp_none {α : Type} {E : rp_E} {K : rp_K} {mi : rp_MI} {pc : Nat} {vs : List (Option Value)} {st : List Value} {σ : rp_S} {h : α → Option Value × rp_S} : rp_R E K mi pc vs st σ h none := fun _ ho => by cases ho
def rp_c1 (vs : List (Option Value)) (i : Nat) : Bool := match i with
  | 0 => true
  | j + 1 => match vs[j]? with
    | some (some (.long _)) => false
    | some (some (.double _)) => false
    | _ => true
/-- fewer locals -/
def rp_le : List (Option Value) → List (Option Value) → Prop
  | [], [] => True
  | none :: r, _ :: t => rp_le r t
  | some v :: r, some w :: t => v = w ∧ rp_le r t
  | _, _ => False
theorem rp_le_at : ∀ (xs ys : List (Option Value)), rp_le xs ys → xs.length = ys.length ∧ ∀ (i : Nat) (v : Value), xs[i]? = some (some v) → ys[i]? = some (some v) := by
  intro xs
  induction xs with
  | nil => intro ys h; cases ys with | nil => exact ⟨rfl, fun i v q => by simp at q⟩ | cons b t => exact absurd h (by simp [rp_le])
  | cons a r ih =>
    intro ys h
    cases ys with
    | nil => cases a <;> exact absurd h (by simp [rp_le])
    | cons b t =>
      cases a with
      | none =>
        obtain ⟨e1, e2⟩ := ih t (by simpa [rp_le] using h)
        refine ⟨by simp [e1], fun i v q => ?_⟩
        cases i with
        | zero => simp at q
        | succ i => simpa using e2 i v (by simpa using q)
      | some v0 =>
        cases b with
        | none => exact absurd h (by simp [rp_le])
        | some w0 =>
          obtain ⟨h1, h2⟩ : v0 = w0 ∧ rp_le r t := by simpa [rp_le] using h
          obtain ⟨e1, e2⟩ := ih t h2
          refine ⟨by simp [e1], fun i v q => ?_⟩
          cases i with
          | zero => simpa [h1] using q
          | succ i => simpa using e2 i v (by simpa using q)
def rp_ls : Nat → List (Option Value) → List (Nat × Value)
  | _, [] => []
  | i, none :: r => rp_ls (i + 1) r
  | i, some v :: r => (i, v) :: rp_ls (i + 1) r
theorem rp_ls_mem : ∀ (vs : List (Option Value)) (k i : Nat) (v : Value), (i, v) ∈ rp_ls k vs ↔ ∃ j, i = k + j ∧ vs[j]? = some (some v) := by
  intro vs
  induction vs with
  | nil => intro k i v; simp [rp_ls]
  | cons a r ih =>
    intro k i v
    cases a with
    | none =>
      rw [rp_ls, ih]
      constructor
      · rintro ⟨j, h1, h2⟩; exact ⟨j + 1, by omega, by simpa using h2⟩
      · rintro ⟨j, h1, h2⟩
        cases j with
        | zero => simp at h2
        | succ j => exact ⟨j, by omega, by simpa using h2⟩
    | some w =>
      rw [rp_ls, List.mem_cons, ih]
      constructor
      · rintro (h | ⟨j, h1, h2⟩)
        · cases h; exact ⟨0, by omega, by simp⟩
        · exact ⟨j + 1, by omega, by simpa using h2⟩
      · rintro ⟨j, h1, h2⟩
        cases j with
        | zero => left; simp at h2; rw [h2, h1]; rfl
        | succ j => right; exact ⟨j, by omega, by simpa using h2⟩
theorem rp_L.has {arr : Array Slot} {n : Nat} {vs : List (Option Value)} (h : rp_L arr n vs) : lv_has arr n (rp_ls 0 vs) := by
  refine ⟨h.1, h.2.1, fun q hq => ?_⟩
  obtain ⟨j, h1, h2⟩ := (rp_ls_mem vs 0 q.1 q.2).mp hq
  have : q.1 = j := by omega
  rw [this]
  exact h.2.2.2 j q.2 h2
theorem rp_c1_ok {vs : List (Option Value)} {i j : Nat} {w : Value} (h : rp_c1 vs i = true) (hj : j + 1 = i) (hw : vs[j]? = some (some w)) : ¬ w.category = 2 := by
  subst hj
  simp only [rp_c1, hw] at h
  cases w <;> simp_all [Value.category]
theorem rp_L.st1 {arr : Array Slot} {n i : Nat} {vs : List (Option Value)} {v : Value} (hv : vs.length = n) (hc : rp_c1 vs i = true) (hi : i < n) (h : lv_has arr n ((i, v) :: (rp_ls 0 vs).filter (fun q => !(q.1 == i) && !(q.1 + 1 == i && q.2.category == 2)))) : rp_L arr n (vs.set i (some v)) := by
  refine ⟨h.1, h.2.1, by simp [hv], fun j w hw => ?_⟩
  rw [List.getElem?_set] at hw
  by_cases hj : i = j
  · subst hj
    rw [if_pos rfl, if_pos (by omega)] at hw
    cases hw
    exact h.2.2 _ List.mem_cons_self
  · rw [if_neg hj] at hw
    refine h.2.2 (j, w) (List.mem_cons_of_mem _ (List.mem_filter.mpr ⟨(rp_ls_mem vs 0 j w).mpr ⟨j, by omega, hw⟩, ?_⟩))
    have hj' : ¬ j = i := fun q => hj q.symm
    by_cases h1 : j + 1 = i
    · have := rp_c1_ok hc h1 hw
      simp [hj', this]
    · simp [hj', h1]
theorem rp_L.st2 {arr : Array Slot} {n i : Nat} {vs : List (Option Value)} {v : Value} (hv : vs.length = n) (hc : rp_c1 vs i = true) (hi : i + 1 < n) (h : lv_has arr n ((i, v) :: (rp_ls 0 vs).filter (fun q => !(q.1 == i) && (!(q.1 == i + 1) && !(q.1 + 1 == i && q.2.category == 2))))) : rp_L arr n ((vs.set i (some v)).set (i + 1) none) := by
  refine ⟨h.1, h.2.1, by simp [hv], fun j w hw => ?_⟩
  rw [List.getElem?_set, List.getElem?_set] at hw
  by_cases hj1 : i + 1 = j
  · rw [if_pos hj1, if_pos (by simp; omega)] at hw
    cases hw
  · rw [if_neg hj1] at hw
    by_cases hj : i = j
    · subst hj
      rw [if_pos rfl, if_pos (by omega)] at hw
      cases hw
      exact h.2.2 _ List.mem_cons_self
    · rw [if_neg hj] at hw
      refine h.2.2 (j, w) (List.mem_cons_of_mem _ (List.mem_filter.mpr ⟨(rp_ls_mem vs 0 j w).mpr ⟨j, by omega, hw⟩, ?_⟩))
      have hj' : ¬ j = i := fun q => hj q.symm
      have hj1' : ¬ j = i + 1 := fun q => hj1 q.symm
      by_cases h1 : j + 1 = i
      · have := rp_c1_ok hc h1 hw
        simp [hj', hj1', this]
      · simp [hj', hj1', h1]
end
section
section RPR
variable {α : Type} {E : rp_E} {K : rp_K} {mi : rp_MI} {pc : Nat} {vs : List (Option Value)} {st : List Value} {σ : rp_S} {h : α → Option Value × rp_S} {o : Option α}

theorem rp_iconst {n : Int} (hd : decode mi.2.1 pc = .ok (.iconst n, 1)) (k : rp_R E K mi (pc + 1) vs (.int (Int32.ofInt n) :: st) σ h o) : rp_R E K mi pc vs (st) σ h o := fun a ho p e s m args below meth c H locs arr G X D hl => lv_iconst G.1 G.2.1 hd rfl (k a ho p e s m args below meth c H locs arr G X D hl)
theorem rp_bipush {n : Int} (hd : decode mi.2.1 pc = .ok (.bipush n, 2)) (hv : (Int8.ofInt n).toInt32 = Int32.ofInt n) (k : rp_R E K mi (pc + 2) vs (.int (Int32.ofInt n) :: st) σ h o) : rp_R E K mi pc vs st σ h o := fun a ho p e s m args below meth c H locs arr G X D hl => lv_bipush G.1 G.2.1 hd hv (k a ho p e s m args below meth c H locs arr G X D hl)
theorem rp_sipush {n : Int} (hd : decode mi.2.1 pc = .ok (.sipush n, 3)) (hv : (Int16.ofInt n).toInt32 = Int32.ofInt n) (k : rp_R E K mi (pc + 3) vs (.int (Int32.ofInt n) :: st) σ h o) : rp_R E K mi pc vs st σ h o := fun a ho p e s m args below meth c H locs arr G X D hl => lv_sipush G.1 G.2.1 hd hv (k a ho p e s m args below meth c H locs arr G X D hl)
theorem rp_lconst {n : Fin 2} (hd : decode mi.2.1 pc = .ok (.lconst n, 1)) (z : Int) (hz : Int64.ofNat (n : Nat) = Int64.ofInt z) (k : rp_R E K mi (pc + 1) vs (.long (Int64.ofInt z) :: st) σ h o) : rp_R E K mi pc vs st σ h o := fun a ho p e s m args below meth c H locs arr G X D hl => lv_lconst G.1 G.2.1 hd hz (k a ho p e s m args below meth c H locs arr G X D hl)
theorem rp_iload_n {k0 : Fin 4} {x : Int32} (hd : decode mi.2.1 pc = .ok (.iload_n k0, 1)) (hx : vs[(k0 : Nat)]? = some (some (.int x))) (k : rp_R E K mi (pc + 1) vs (.int x :: st) σ h o) : rp_R E K mi pc vs st σ h o := fun a ho p e s m args below meth c H locs arr G X D hl => lv_iload_n G.1 G.2.1 hd rfl (hl.2.2.2 _ _ hx) (k a ho p e s m args below meth c H locs arr G X D hl)
theorem rp_iload {i : Nat} {x : Int32} (hd : decode mi.2.1 pc = .ok (.iload i, 2)) (hx : vs[i]? = some (some (.int x))) (k : rp_R E K mi (pc + 2) vs (.int x :: st) σ h o) : rp_R E K mi pc vs st σ h o := fun a ho p e s m args below meth c H locs arr G X D hl => lv_iload G.1 G.2.1 hd (hl.2.2.2 _ _ hx) (k a ho p e s m args below meth c H locs arr G X D hl)
theorem rp_lload_n {k0 : Fin 4} {x : Int64} (hd : decode mi.2.1 pc = .ok (.lload_n k0, 1)) (hx : vs[(k0 : Nat)]? = some (some (.long x))) (k : rp_R E K mi (pc + 1) vs (.long x :: st) σ h o) : rp_R E K mi pc vs st σ h o := fun a ho p e s m args below meth c H locs arr G X D hl => lv_lload_n G.1 G.2.1 hd rfl (hl.2.2.2 _ _ hx) (k a ho p e s m args below meth c H locs arr G X D hl)
theorem rp_lload {i : Nat} {x : Int64} (hd : decode mi.2.1 pc = .ok (.lload i, 2)) (hx : vs[i]? = some (some (.long x))) (k : rp_R E K mi (pc + 2) vs (.long x :: st) σ h o) : rp_R E K mi pc vs st σ h o := fun a ho p e s m args below meth c H locs arr G X D hl => lv_lload G.1 G.2.1 hd (hl.2.2.2 _ _ hx) (k a ho p e s m args below meth c H locs arr G X D hl)
theorem rp_aload_n {k0 : Fin 4} {x : Nat} (hd : decode mi.2.1 pc = .ok (.aload_n k0, 1)) (hx : vs[(k0 : Nat)]? = some (some (.ref x))) (k : rp_R E K mi (pc + 1) vs (.ref x :: st) σ h o) : rp_R E K mi pc vs st σ h o := fun a ho p e s m args below meth c H locs arr G X D hl => lv_aload_n G.1 G.2.1 hd rfl (hl.2.2.2 _ _ hx) (k a ho p e s m args below meth c H locs arr G X D hl)
theorem rp_istore_n {k0 : Fin 4} {x : Int32} (hd : decode mi.2.1 pc = .ok (.istore_n k0, 1)) (hi : (k0 : Nat) < mi.2.2.1) (hc : rp_c1 vs (k0 : Nat) = true) (k : rp_R E K mi (pc + 1) (vs.set (k0 : Nat) (some (.int x))) st σ h o) : rp_R E K mi pc vs (.int x :: st) σ h o := fun a ho p e s m args below meth c H locs arr G X D hl => lv_istore_n G.1 G.2.1 hd rfl hl.has hi rfl (fun ls2 hl2 => k a ho p e s m args below meth c H locs ls2 G X D (rp_L.st1 hl.2.2.1 hc hi hl2))
theorem rp_istore {i : Nat} {x : Int32} (hd : decode mi.2.1 pc = .ok (.istore i, 2)) (hi : i < mi.2.2.1) (hc : rp_c1 vs i = true) (k : rp_R E K mi (pc + 2) (vs.set i (some (.int x))) st σ h o) : rp_R E K mi pc vs (.int x :: st) σ h o := fun a ho p e s m args below meth c H locs arr G X D hl => lv_istore G.1 G.2.1 hd hl.has hi rfl (fun ls2 hl2 => k a ho p e s m args below meth c H locs ls2 G X D (rp_L.st1 hl.2.2.1 hc hi hl2))
theorem rp_astore_n {k0 : Fin 4} {x : Nat} (hd : decode mi.2.1 pc = .ok (.astore_n k0, 1)) (hi : (k0 : Nat) < mi.2.2.1) (hc : rp_c1 vs (k0 : Nat) = true) (k : rp_R E K mi (pc + 1) (vs.set (k0 : Nat) (some (.ref x))) st σ h o) : rp_R E K mi pc vs (.ref x :: st) σ h o := fun a ho p e s m args below meth c H locs arr G X D hl => lv_astore_n G.1 G.2.1 hd rfl hl.has hi rfl (fun ls2 hl2 => k a ho p e s m args below meth c H locs ls2 G X D (rp_L.st1 hl.2.2.1 hc hi hl2))
theorem rp_lstore_n {k0 : Fin 4} {x : Int64} (hd : decode mi.2.1 pc = .ok (.lstore_n k0, 1)) (hi : (k0 : Nat) + 1 < mi.2.2.1) (hc : rp_c1 vs (k0 : Nat) = true) (k : rp_R E K mi (pc + 1) ((vs.set (k0 : Nat) (some (.long x))).set ((k0 : Nat) + 1) none) st σ h o) : rp_R E K mi pc vs (.long x :: st) σ h o := fun a ho p e s m args below meth c H locs arr G X D hl => lv_lstore_n G.1 G.2.1 hd rfl hl.has hi rfl (fun ls2 hl2 => k a ho p e s m args below meth c H locs ls2 G X D (rp_L.st2 hl.2.2.1 hc hi hl2))
theorem rp_lstore {i : Nat} {x : Int64} (hd : decode mi.2.1 pc = .ok (.lstore i, 2)) (hi : i + 1 < mi.2.2.1) (hc : rp_c1 vs i = true) (k : rp_R E K mi (pc + 2) ((vs.set i (some (.long x))).set (i + 1) none) st σ h o) : rp_R E K mi pc vs (.long x :: st) σ h o := fun a ho p e s m args below meth c H locs arr G X D hl => lv_lstore G.1 G.2.1 hd hl.has hi rfl (fun ls2 hl2 => k a ho p e s m args below meth c H locs ls2 G X D (rp_L.st2 hl.2.2.1 hc hi hl2))
theorem rp_iinc {i : Nat} {n : Int} {x : Int32} (hd : decode mi.2.1 pc = .ok (.iinc i n, 3)) (hx : vs[i]? = some (some (.int x))) (hi : i < mi.2.2.1) (hc : rp_c1 vs i = true) (k : rp_R E K mi (pc + 3) (vs.set i (some (.int (x + Int32.ofInt n)))) st σ h o) : rp_R E K mi pc vs st σ h o := fun a ho p e s m args below meth c H locs arr G X D hl => by
  obtain ⟨q, hq, hq2⟩ := List.mem_iff_getElem?.mp ((rp_ls_mem vs 0 i (.int x)).mpr ⟨i, by omega, hx⟩) |> fun ⟨q, hq⟩ => (⟨q, hq, trivial⟩ : ∃ q, (rp_ls 0 vs)[q]? = some (i, Value.int x) ∧ True)
  exact lv_iinc G.1 G.2.1 hd hl.has hq rfl hi rfl (fun ls2 hl2 => k a ho p e s m args below meth c H locs ls2 G X D (rp_L.st1 hl.2.2.1 hc hi hl2))
theorem rp_iadd {x y : Int32} (hd : decode mi.2.1 pc = .ok (.iadd, 1)) (k : rp_R E K mi (pc + 1) vs (.int (x + y) :: st) σ h o) : rp_R E K mi pc vs (.int y :: .int x :: st) σ h o := fun a ho p e s m args below meth c H locs arr G X D hl => lv_iadd G.1 G.2.1 hd (k a ho p e s m args below meth c H locs arr G X D hl)
theorem rp_isub {x y : Int32} (hd : decode mi.2.1 pc = .ok (.isub, 1)) (k : rp_R E K mi (pc + 1) vs (.int (x - y) :: st) σ h o) : rp_R E K mi pc vs (.int y :: .int x :: st) σ h o := fun a ho p e s m args below meth c H locs arr G X D hl => lv_isub G.1 G.2.1 hd (k a ho p e s m args below meth c H locs arr G X D hl)
theorem rp_imul {x y : Int32} (hd : decode mi.2.1 pc = .ok (.imul, 1)) (k : rp_R E K mi (pc + 1) vs (.int (x * y) :: st) σ h o) : rp_R E K mi pc vs (.int y :: .int x :: st) σ h o := fun a ho p e s m args below meth c H locs arr G X D hl => lv_imul G.1 G.2.1 hd (k a ho p e s m args below meth c H locs arr G X D hl)
theorem rp_iand {x y : Int32} (hd : decode mi.2.1 pc = .ok (.iand, 1)) (k : rp_R E K mi (pc + 1) vs (.int (x &&& y) :: st) σ h o) : rp_R E K mi pc vs (.int y :: .int x :: st) σ h o := fun a ho p e s m args below meth c H locs arr G X D hl => lv_iand G.1 G.2.1 hd (k a ho p e s m args below meth c H locs arr G X D hl)
theorem rp_ior {x y : Int32} (hd : decode mi.2.1 pc = .ok (.ior, 1)) (k : rp_R E K mi (pc + 1) vs (.int (x ||| y) :: st) σ h o) : rp_R E K mi pc vs (.int y :: .int x :: st) σ h o := fun a ho p e s m args below meth c H locs arr G X D hl => lv_ior G.1 G.2.1 hd (k a ho p e s m args below meth c H locs arr G X D hl)
theorem rp_ishl {x y : Int32} (hd : decode mi.2.1 pc = .ok (.ishl, 1)) (k : rp_R E K mi (pc + 1) vs (.int (x <<< (y &&& 31)) :: st) σ h o) : rp_R E K mi pc vs (.int y :: .int x :: st) σ h o := fun a ho p e s m args below meth c H locs arr G X D hl => lv_ishl G.1 G.2.1 hd (k a ho p e s m args below meth c H locs arr G X D hl)
theorem rp_ishr {x y : Int32} (hd : decode mi.2.1 pc = .ok (.ishr, 1)) (k : rp_R E K mi (pc + 1) vs (.int (x >>> (y &&& 31)) :: st) σ h o) : rp_R E K mi pc vs (.int y :: .int x :: st) σ h o := fun a ho p e s m args below meth c H locs arr G X D hl => lv_ishr G.1 G.2.1 hd (k a ho p e s m args below meth c H locs arr G X D hl)
theorem rp_ladd {x y : Int64} (hd : decode mi.2.1 pc = .ok (.ladd, 1)) (k : rp_R E K mi (pc + 1) vs (.long (x + y) :: st) σ h o) : rp_R E K mi pc vs (.long y :: .long x :: st) σ h o := fun a ho p e s m args below meth c H locs arr G X D hl => lv_ladd G.1 G.2.1 hd (k a ho p e s m args below meth c H locs arr G X D hl)
theorem rp_lsub {x y : Int64} (hd : decode mi.2.1 pc = .ok (.lsub, 1)) (k : rp_R E K mi (pc + 1) vs (.long (x - y) :: st) σ h o) : rp_R E K mi pc vs (.long y :: .long x :: st) σ h o := fun a ho p e s m args below meth c H locs arr G X D hl => lv_lsub G.1 G.2.1 hd (k a ho p e s m args below meth c H locs arr G X D hl)
theorem rp_lmul {x y : Int64} (hd : decode mi.2.1 pc = .ok (.lmul, 1)) (k : rp_R E K mi (pc + 1) vs (.long (x * y) :: st) σ h o) : rp_R E K mi pc vs (.long y :: .long x :: st) σ h o := fun a ho p e s m args below meth c H locs arr G X D hl => lv_lmul G.1 G.2.1 hd (k a ho p e s m args below meth c H locs arr G X D hl)
theorem rp_iushr {x y : Int32} (hd : decode mi.2.1 pc = .ok (.iushr, 1)) (k : rp_R E K mi (pc + 1) vs (.int ((x.toUInt32 >>> (y.toUInt32 &&& Int32.toUInt32 31)).toInt32) :: st) σ h o) : rp_R E K mi pc vs (.int y :: .int x :: st) σ h o := fun a ho p e s m args below meth c H locs arr G X D hl => lv_iushr G.1 G.2.1 hd rfl (k a ho p e s m args below meth c H locs arr G X D hl)
theorem rp_idiv0 {x y : Int32} (hd : decode mi.2.1 pc = .ok (.idiv, 1)) (hy : ¬ y = 0) (k : rp_R E K mi (pc + 1) vs (.int (x / y) :: st) σ h o) : rp_R E K mi pc vs (.int y :: .int x :: st) σ h o := fun a ho p e s m args below meth c H locs arr G X D hl => lv_idiv G.1 G.2.1 hd hy (k a ho p e s m args below meth c H locs arr G X D hl)
def rq_idiv (x y : Int32) : Option Int32 := if y = 0 then none else some (x / y)
theorem rp_idiv {x y : Int32} {F : Int32 → Option α} (hd : decode mi.2.1 pc = .ok (.idiv, 1)) (k : ∀ z, rp_R E K mi (pc + 1) vs (.int z :: st) σ h (F z)) : rp_R E K mi pc vs (.int y :: .int x :: st) σ h ((rq_idiv x y).bind F) := by
  unfold rq_idiv
  by_cases hy : y = 0
  · rw [if_pos hy]; exact rp_none
  · rw [if_neg hy]; exact rp_idiv0 hd hy (k _)
theorem rp_irem0 {x y : Int32} (hd : decode mi.2.1 pc = .ok (.irem, 1)) (hy : ¬ y = 0) (k : rp_R E K mi (pc + 1) vs (.int (x - x / y * y) :: st) σ h o) : rp_R E K mi pc vs (.int y :: .int x :: st) σ h o := fun a ho p e s m args below meth c H locs arr G X D hl => lv_irem G.1 G.2.1 hd hy (k a ho p e s m args below meth c H locs arr G X D hl)
def rq_irem (x y : Int32) : Option Int32 := if y = 0 then none else some (x - x / y * y)
theorem rp_irem {x y : Int32} {F : Int32 → Option α} (hd : decode mi.2.1 pc = .ok (.irem, 1)) (k : ∀ z, rp_R E K mi (pc + 1) vs (.int z :: st) σ h (F z)) : rp_R E K mi pc vs (.int y :: .int x :: st) σ h ((rq_irem x y).bind F) := by
  unfold rq_irem
  by_cases hy : y = 0
  · rw [if_pos hy]; exact rp_none
  · rw [if_neg hy]; exact rp_irem0 hd hy (k _)
theorem rp_ldiv0 {x y : Int64} (hd : decode mi.2.1 pc = .ok (.ldiv, 1)) (hy : ¬ y = 0) (k : rp_R E K mi (pc + 1) vs (.long (x / y) :: st) σ h o) : rp_R E K mi pc vs (.long y :: .long x :: st) σ h o := fun a ho p e s m args below meth c H locs arr G X D hl => lv_ldiv G.1 G.2.1 hd hy (k a ho p e s m args below meth c H locs arr G X D hl)
def rq_ldiv (x y : Int64) : Option Int64 := if y = 0 then none else some (x / y)
theorem rp_ldiv {x y : Int64} {F : Int64 → Option α} (hd : decode mi.2.1 pc = .ok (.ldiv, 1)) (k : ∀ z, rp_R E K mi (pc + 1) vs (.long z :: st) σ h (F z)) : rp_R E K mi pc vs (.long y :: .long x :: st) σ h ((rq_ldiv x y).bind F) := by
  unfold rq_ldiv
  by_cases hy : y = 0
  · rw [if_pos hy]; exact rp_none
  · rw [if_neg hy]; exact rp_ldiv0 hd hy (k _)
theorem rp_lrem0 {x y : Int64} (hd : decode mi.2.1 pc = .ok (.lrem, 1)) (hy : ¬ y = 0) (k : rp_R E K mi (pc + 1) vs (.long (x - x / y * y) :: st) σ h o) : rp_R E K mi pc vs (.long y :: .long x :: st) σ h o := fun a ho p e s m args below meth c H locs arr G X D hl => lv_lrem G.1 G.2.1 hd hy (k a ho p e s m args below meth c H locs arr G X D hl)
def rq_lrem (x y : Int64) : Option Int64 := if y = 0 then none else some (x - x / y * y)
theorem rp_lrem {x y : Int64} {F : Int64 → Option α} (hd : decode mi.2.1 pc = .ok (.lrem, 1)) (k : ∀ z, rp_R E K mi (pc + 1) vs (.long z :: st) σ h (F z)) : rp_R E K mi pc vs (.long y :: .long x :: st) σ h ((rq_lrem x y).bind F) := by
  unfold rq_lrem
  by_cases hy : y = 0
  · rw [if_pos hy]; exact rp_none
  · rw [if_neg hy]; exact rp_lrem0 hd hy (k _)
theorem rp_ineg {x : Int32} (hd : decode mi.2.1 pc = .ok (.ineg, 1)) (k : rp_R E K mi (pc + 1) vs (.int (-x) :: st) σ h o) : rp_R E K mi pc vs (.int x :: st) σ h o := fun a ho p e s m args below meth c H locs arr G X D hl => lv_ineg G.1 G.2.1 hd (k a ho p e s m args below meth c H locs arr G X D hl)
theorem rp_i2l {x : Int32} (hd : decode mi.2.1 pc = .ok (.i2l, 1)) (k : rp_R E K mi (pc + 1) vs (.long (x.toInt64) :: st) σ h o) : rp_R E K mi pc vs (.int x :: st) σ h o := fun a ho p e s m args below meth c H locs arr G X D hl => lv_i2l G.1 G.2.1 hd rfl (k a ho p e s m args below meth c H locs arr G X D hl)
theorem rp_i2b {x : Int32} (hd : decode mi.2.1 pc = .ok (.i2b, 1)) (k : rp_R E K mi (pc + 1) vs (.int (x.toInt8.toInt32) :: st) σ h o) : rp_R E K mi pc vs (.int x :: st) σ h o := fun a ho p e s m args below meth c H locs arr G X D hl => lv_i2b G.1 G.2.1 hd rfl (k a ho p e s m args below meth c H locs arr G X D hl)
theorem rp_i2s {x : Int32} (hd : decode mi.2.1 pc = .ok (.i2s, 1)) (k : rp_R E K mi (pc + 1) vs (.int (x.toInt16.toInt32) :: st) σ h o) : rp_R E K mi pc vs (.int x :: st) σ h o := fun a ho p e s m args below meth c H locs arr G X D hl => lv_i2s G.1 G.2.1 hd rfl (k a ho p e s m args below meth c H locs arr G X D hl)
theorem rp_i2c {x : Int32} (hd : decode mi.2.1 pc = .ok (.i2c, 1)) (k : rp_R E K mi (pc + 1) vs (.int ((x.toUInt32 % 65536).toInt32) :: st) σ h o) : rp_R E K mi pc vs (.int x :: st) σ h o := fun a ho p e s m args below meth c H locs arr G X D hl => lv_i2c G.1 G.2.1 hd rfl (k a ho p e s m args below meth c H locs arr G X D hl)
theorem rp_dup {va : Value} (hd : decode mi.2.1 pc = .ok (.dup, 1)) (hv : va.category = 1) (k : rp_R E K mi (pc + 1) vs (va :: va :: st) σ h o) : rp_R E K mi pc vs (va :: st) σ h o := fun a ho p e s m args below meth c H locs arr G X D hl => lv_dup G.1 G.2.1 hd hv (k a ho p e s m args below meth c H locs arr G X D hl)
theorem rp_pop {va : Value} (hd : decode mi.2.1 pc = .ok (.pop, 1)) (hv : va.category = 1) (k : rp_R E K mi (pc + 1) vs st σ h o) : rp_R E K mi pc vs (va :: st) σ h o := fun a ho p e s m args below meth c H locs arr G X D hl => lv_pop G.1 G.2.1 hd hv (k a ho p e s m args below meth c H locs arr G X D hl)
theorem rp_dup2 {va vb : Value} (hd : decode mi.2.1 pc = .ok (.dup2, 1)) (hv : va.category = 1) (hw : vb.category = 1) (k : rp_R E K mi (pc + 1) vs (va :: vb :: va :: vb :: st) σ h o) : rp_R E K mi pc vs (va :: vb :: st) σ h o := fun a ho p e s m args below meth c H locs arr G X D hl => lv_dup2_11 G.1 G.2.1 hd hv hw (k a ho p e s m args below meth c H locs arr G X D hl)
theorem rp_goto {off : Int} {tgt : Nat} (hd : decode mi.2.1 pc = .ok (.goto off, 3)) (ht : (pc : Int) + off = (tgt : Int)) (k : rp_R E K mi tgt vs st σ h o) : rp_R E K mi pc vs st σ h o := fun a ho p e s m args below meth c H locs arr G X D hl => lv_goto G.1 G.2.1 hd ht (k a ho p e s m args below meth c H locs arr G X D hl)
theorem rp_icmp_eq {x y : Int32} {off : Int} {tgt : Nat} {o1 o2 : Option α} (hd : decode mi.2.1 pc = .ok (.if_icmp .eq off, 3)) (ht : (pc : Int) + off = (tgt : Int)) (k1 : rp_R E K mi tgt vs st σ h o1) (k2 : rp_R E K mi (pc + 3) vs st σ h o2) : rp_R E K mi pc vs (.int y :: .int x :: st) σ h (if x = y then o1 else o2) := fun a ho p e s m args below meth c H locs arr G X D hl => lv_icmp_eq G.1 G.2.1 hd ht (fun q => k1 a (by rw [if_pos q] at ho; exact ho) p e s m args below meth c H locs arr G X D hl) (fun q => k2 a (by rw [if_neg q] at ho; exact ho) p e s m args below meth c H locs arr G X D hl)
theorem rp_icmp_ne {x y : Int32} {off : Int} {tgt : Nat} {o1 o2 : Option α} (hd : decode mi.2.1 pc = .ok (.if_icmp .ne off, 3)) (ht : (pc : Int) + off = (tgt : Int)) (k1 : rp_R E K mi tgt vs st σ h o1) (k2 : rp_R E K mi (pc + 3) vs st σ h o2) : rp_R E K mi pc vs (.int y :: .int x :: st) σ h (if x = y then o2 else o1) := fun a ho p e s m args below meth c H locs arr G X D hl => lv_icmp_ne G.1 G.2.1 hd ht (fun q => k1 a (by rw [if_neg q] at ho; exact ho) p e s m args below meth c H locs arr G X D hl) (fun q => k2 a (by first | (rw [if_pos q] at ho; exact ho) | (rw [if_pos (Decidable.not_not.mp q)] at ho; exact ho)) p e s m args below meth c H locs arr G X D hl)
theorem rp_icmp_lt {x y : Int32} {off : Int} {tgt : Nat} {o1 o2 : Option α} (hd : decode mi.2.1 pc = .ok (.if_icmp .lt off, 3)) (ht : (pc : Int) + off = (tgt : Int)) (k1 : rp_R E K mi tgt vs st σ h o1) (k2 : rp_R E K mi (pc + 3) vs st σ h o2) : rp_R E K mi pc vs (.int y :: .int x :: st) σ h (if x < y then o1 else o2) := fun a ho p e s m args below meth c H locs arr G X D hl => lv_icmp_lt G.1 G.2.1 hd ht (fun q => k1 a (by rw [if_pos q] at ho; exact ho) p e s m args below meth c H locs arr G X D hl) (fun q => k2 a (by rw [if_neg q] at ho; exact ho) p e s m args below meth c H locs arr G X D hl)
theorem rp_icmp_ge {x y : Int32} {off : Int} {tgt : Nat} {o1 o2 : Option α} (hd : decode mi.2.1 pc = .ok (.if_icmp .ge off, 3)) (ht : (pc : Int) + off = (tgt : Int)) (k1 : rp_R E K mi tgt vs st σ h o1) (k2 : rp_R E K mi (pc + 3) vs st σ h o2) : rp_R E K mi pc vs (.int y :: .int x :: st) σ h (if y ≤ x then o1 else o2) := fun a ho p e s m args below meth c H locs arr G X D hl => lv_icmp_ge G.1 G.2.1 hd ht (fun q => k1 a (by rw [if_pos q] at ho; exact ho) p e s m args below meth c H locs arr G X D hl) (fun q => k2 a (by rw [if_neg q] at ho; exact ho) p e s m args below meth c H locs arr G X D hl)
theorem rp_icmp_gt {x y : Int32} {off : Int} {tgt : Nat} {o1 o2 : Option α} (hd : decode mi.2.1 pc = .ok (.if_icmp .gt off, 3)) (ht : (pc : Int) + off = (tgt : Int)) (k1 : rp_R E K mi tgt vs st σ h o1) (k2 : rp_R E K mi (pc + 3) vs st σ h o2) : rp_R E K mi pc vs (.int y :: .int x :: st) σ h (if y < x then o1 else o2) := fun a ho p e s m args below meth c H locs arr G X D hl => lv_icmp_gt G.1 G.2.1 hd ht (fun q => k1 a (by rw [if_pos q] at ho; exact ho) p e s m args below meth c H locs arr G X D hl) (fun q => k2 a (by rw [if_neg q] at ho; exact ho) p e s m args below meth c H locs arr G X D hl)
theorem rp_icmp_le {x y : Int32} {off : Int} {tgt : Nat} {o1 o2 : Option α} (hd : decode mi.2.1 pc = .ok (.if_icmp .le off, 3)) (ht : (pc : Int) + off = (tgt : Int)) (k1 : rp_R E K mi tgt vs st σ h o1) (k2 : rp_R E K mi (pc + 3) vs st σ h o2) : rp_R E K mi pc vs (.int y :: .int x :: st) σ h (if x ≤ y then o1 else o2) := fun a ho p e s m args below meth c H locs arr G X D hl => lv_icmp_le G.1 G.2.1 hd ht (fun q => k1 a (by rw [if_pos q] at ho; exact ho) p e s m args below meth c H locs arr G X D hl) (fun q => k2 a (by rw [if_neg q] at ho; exact ho) p e s m args below meth c H locs arr G X D hl)
theorem rp_if_eq {x : Int32} {off : Int} {tgt : Nat} {o1 o2 : Option α} (hd : decode mi.2.1 pc = .ok (.ifCond .eq off, 3)) (ht : (pc : Int) + off = (tgt : Int)) (k1 : rp_R E K mi tgt vs st σ h o1) (k2 : rp_R E K mi (pc + 3) vs st σ h o2) : rp_R E K mi pc vs (.int x :: st) σ h (if x = 0 then o1 else o2) := fun a ho p e s m args below meth c H locs arr G X D hl => lv_if_eq G.1 G.2.1 hd ht (fun q => k1 a (by rw [if_pos q] at ho; exact ho) p e s m args below meth c H locs arr G X D hl) (fun q => k2 a (by rw [if_neg q] at ho; exact ho) p e s m args below meth c H locs arr G X D hl)
theorem rp_if_ne {x : Int32} {off : Int} {tgt : Nat} {o1 o2 : Option α} (hd : decode mi.2.1 pc = .ok (.ifCond .ne off, 3)) (ht : (pc : Int) + off = (tgt : Int)) (k1 : rp_R E K mi tgt vs st σ h o1) (k2 : rp_R E K mi (pc + 3) vs st σ h o2) : rp_R E K mi pc vs (.int x :: st) σ h (if x = 0 then o2 else o1) := fun a ho p e s m args below meth c H locs arr G X D hl => lv_if_ne G.1 G.2.1 hd ht (fun q => k1 a (by rw [if_neg q] at ho; exact ho) p e s m args below meth c H locs arr G X D hl) (fun q => k2 a (by first | (rw [if_pos q] at ho; exact ho) | (rw [if_pos (Decidable.not_not.mp q)] at ho; exact ho)) p e s m args below meth c H locs arr G X D hl)
theorem rp_if_lt {x : Int32} {off : Int} {tgt : Nat} {o1 o2 : Option α} (hd : decode mi.2.1 pc = .ok (.ifCond .lt off, 3)) (ht : (pc : Int) + off = (tgt : Int)) (k1 : rp_R E K mi tgt vs st σ h o1) (k2 : rp_R E K mi (pc + 3) vs st σ h o2) : rp_R E K mi pc vs (.int x :: st) σ h (if x < 0 then o1 else o2) := fun a ho p e s m args below meth c H locs arr G X D hl => lv_if_lt G.1 G.2.1 hd ht (fun q => k1 a (by rw [if_pos q] at ho; exact ho) p e s m args below meth c H locs arr G X D hl) (fun q => k2 a (by rw [if_neg q] at ho; exact ho) p e s m args below meth c H locs arr G X D hl)
theorem rp_if_ge {x : Int32} {off : Int} {tgt : Nat} {o1 o2 : Option α} (hd : decode mi.2.1 pc = .ok (.ifCond .ge off, 3)) (ht : (pc : Int) + off = (tgt : Int)) (k1 : rp_R E K mi tgt vs st σ h o1) (k2 : rp_R E K mi (pc + 3) vs st σ h o2) : rp_R E K mi pc vs (.int x :: st) σ h (if 0 ≤ x then o1 else o2) := fun a ho p e s m args below meth c H locs arr G X D hl => lv_if_ge G.1 G.2.1 hd ht (fun q => k1 a (by rw [if_pos q] at ho; exact ho) p e s m args below meth c H locs arr G X D hl) (fun q => k2 a (by rw [if_neg q] at ho; exact ho) p e s m args below meth c H locs arr G X D hl)
theorem rp_if_gt {x : Int32} {off : Int} {tgt : Nat} {o1 o2 : Option α} (hd : decode mi.2.1 pc = .ok (.ifCond .gt off, 3)) (ht : (pc : Int) + off = (tgt : Int)) (k1 : rp_R E K mi tgt vs st σ h o1) (k2 : rp_R E K mi (pc + 3) vs st σ h o2) : rp_R E K mi pc vs (.int x :: st) σ h (if 0 < x then o1 else o2) := fun a ho p e s m args below meth c H locs arr G X D hl => lv_if_gt G.1 G.2.1 hd ht (fun q => k1 a (by rw [if_pos q] at ho; exact ho) p e s m args below meth c H locs arr G X D hl) (fun q => k2 a (by rw [if_neg q] at ho; exact ho) p e s m args below meth c H locs arr G X D hl)
theorem rp_if_le {x : Int32} {off : Int} {tgt : Nat} {o1 o2 : Option α} (hd : decode mi.2.1 pc = .ok (.ifCond .le off, 3)) (ht : (pc : Int) + off = (tgt : Int)) (k1 : rp_R E K mi tgt vs st σ h o1) (k2 : rp_R E K mi (pc + 3) vs st σ h o2) : rp_R E K mi pc vs (.int x :: st) σ h (if x ≤ 0 then o1 else o2) := fun a ho p e s m args below meth c H locs arr G X D hl => lv_if_le G.1 G.2.1 hd ht (fun q => k1 a (by rw [if_pos q] at ho; exact ho) p e s m args below meth c H locs arr G X D hl) (fun q => k2 a (by rw [if_neg q] at ho; exact ho) p e s m args below meth c H locs arr G X D hl)
theorem rp_lcmp {x y : Int64} (hd : decode mi.2.1 pc = .ok (.lcmp, 1)) (k : rp_R E K mi (pc + 1) vs (.int (lg_cmp x y) :: st) σ h o) : rp_R E K mi pc vs (.long y :: .long x :: st) σ h o := fun a ho p e s m args below meth c H locs arr G X D hl => W.lcmp G.1 G.2.1 hd (k a ho p e s m args below meth c H locs arr G X D hl)
theorem rp_weak {vs2 : List (Option Value)} (hle : rp_le vs2 vs) (k : rp_R E K mi pc vs2 st σ h o) : rp_R E K mi pc vs st σ h o := fun a ho p e s m args below meth c H locs arr G X D hl => k a ho p e s m args below meth c H locs arr G X D ⟨hl.1, hl.2.1, (rp_le_at _ _ hle).1.trans hl.2.2.1, fun i v q => hl.2.2.2 i v ((rp_le_at _ _ hle).2 i v q)⟩
theorem rp_if2 {c : Prop} [Decidable c] {o1 o2 : Option α} (k1 : c → rp_R E K mi pc vs st σ h o1) (k2 : ¬ c → rp_R E K mi pc vs st σ h o2) : rp_R E K mi pc vs st σ h (if c then o1 else o2) := by
  by_cases q : c
  · rw [if_pos q]; exact k1 q
  · rw [if_neg q]; exact k2 q
theorem rp_eq {o2 : Option α} (e : o = o2) (k : rp_R E K mi pc vs st σ h o2) : rp_R E K mi pc vs st σ h o := by rw [e]; exact k
theorem rp_tswOut {dflt lo hi : Int} {offs : Array Int} {len : Nat} {x : Int32} {tgt : Nat} (hd : decode mi.2.1 pc = .ok (.tableswitch dflt lo hi offs, len)) (hx : x.toInt < lo ∨ hi < x.toInt) (ht : (pc : Int) + dflt = (tgt : Int)) (k : rp_R E K mi tgt vs st σ h o) : rp_R E K mi pc vs (.int x :: st) σ h o := fun a ho p e s m args below meth c H locs arr G X D hl => lv_tableOut G.1 G.2.1 hd hx ht (k a ho p e s m args below meth c H locs arr G X D hl)
theorem rp_tswIn {dflt lo hi : Int} {offs : Array Int} {len : Nat} {x : Int32} {off : Int} {tgt : Nat} (n : Int) (hx : x.toInt = n) (hd : decode mi.2.1 pc = .ok (.tableswitch dflt lo hi offs, len)) (h1 : ¬ n < lo) (h2 : ¬ hi < n) (ho : offs[(n - lo).toNat]? = some off) (ht : (pc : Int) + off = (tgt : Int)) (k : rp_R E K mi tgt vs st σ h o) : rp_R E K mi pc vs (.int x :: st) σ h o := fun a ho2 p e s m args below meth c H locs arr G X D hl => lv_tableIn G.1 G.2.1 hd (by rw [hx]; exact h1) (by rw [hx]; exact h2) (by rw [hx]; exact ho) ht (k a ho2 p e s m args below meth c H locs arr G X D hl)
theorem rp_ldc {idx : Nat} {v : Int32} (hw : Cond.constant mi.1.cls idx v ∈ rp_TG) (hd : decode mi.2.1 pc = .ok (.ldc idx, 2)) (k : rp_R E K mi (pc + 2) vs (.int v :: st) σ h o) : rp_R E K mi pc vs st σ h o := fun a ho p e s m args below meth c H locs arr G X D hl => lv_ldc G.1 G.2.1 G.2.2.2.2.1 (G.2.2.2.2.2.1 _ hw) hd (k a ho p e s m args below meth c H locs arr G X D hl)
theorem rp_ldcw {idx : Nat} {v : Int32} (hw : Cond.constant mi.1.cls idx v ∈ rp_TG) (hd : decode mi.2.1 pc = .ok (.ldc_w idx, 3)) (k : rp_R E K mi (pc + 3) vs (.int v :: st) σ h o) : rp_R E K mi pc vs st σ h o := fun a ho p e s m args below meth c H locs arr G X D hl => lv_ldcw G.1 G.2.1 G.2.2.2.2.1 (G.2.2.2.2.2.1 _ hw) hd (k a ho p e s m args below meth c H locs arr G X D hl)
theorem rp_ldc2 {idx : Nat} {v : Int64} (hw : Cond.constantLong mi.1.cls idx v ∈ rp_TG) (hd : decode mi.2.1 pc = .ok (.ldc2_w idx, 3)) (k : rp_R E K mi (pc + 3) vs (.long v :: st) σ h o) : rp_R E K mi pc vs st σ h o := fun a ho p e s m args below meth c H locs arr G X D hl => lv_ldc2 G.1 G.2.1 G.2.2.2.2.1 (G.2.2.2.2.2.1 _ hw) hd (k a ho p e s m args below meth c H locs arr G X D hl)
end RPR
end
section
/-- a class of the world, by its number: its field words stand, its field types -/
def rp_Cf (q : vw_C) : Prop := (∀ w ∈ u_ws q.1 q.2.1 q.2.2, w ∈ rp_TG) ∧ (∃ ty0 : Nat → FieldType, ∀ k, k < q.2.2 → parseFieldDescriptor (q.2.1 k).2.2.1 = some (ty0 k)) ∧ ∀ a, a < q.2.2 → ∀ b, b < q.2.2 → a ≠ b → (q.2.1 a).2.1 ≠ (q.2.1 b).2.1
/-- a field's link -/
def rp_Fd (own : String) (idx ci k : Nat) : Prop := ∃ q : vw_C, vwCl[ci]? = some q ∧ rp_Cf q ∧ k < q.2.2 ∧ (Cond.fieldLink own idx (q.2.1 k).1 (q.2.1 k).2.1 (q.2.1 k).2.2.1 ∈ rp_TG ∨ ∃ host, Cond.fieldLinkNest own idx (q.2.1 k).1 (q.2.1 k).2.1 (q.2.1 k).2.2.1 host ∈ rp_NW)
def rp_Fp (own : String) (idx ci k : Nat) (ty : FieldType) : Prop := rp_Fd own idx ci k ∧ ∃ q : vw_C, vwCl[ci]? = some q ∧ (q.2.1 k).2.2.2 = false ∧ parseFieldDescriptor (q.2.1 k).2.2.1 = some ty
theorem rp_wd_D {E : rp_E} {A : Nat → Prop} {σ τ : rp_S} (h : va_D A (rp_wd E σ)) : va_D A (rp_wd E τ) := by
  have at1 : ∀ (σ : rp_S) (i : Nat) (p : Nat × va_E), (rp_wd E σ)[i]? = some p → i < rp_sh.length ∧ p.1 = E.2.2.2.1 i := by
    intro σ i p hp
    by_cases hi : i < rp_sh.length
    · refine ⟨hi, ?_⟩
      simp [rp_wd, hi] at hp
      rw [← hp]
    · simp [rp_wd, hi] at hp
  have at2 : ∀ (σ : rp_S) (i : Nat), i < rp_sh.length → ∃ p, (rp_wd E σ)[i]? = some p ∧ p.1 = E.2.2.2.1 i := by
    intro σ i hi
    exact ⟨(E.2.2.2.1 i, rp_en E i (σ i)), by simp [rp_wd, hi], rfl⟩
  refine ⟨fun i j p q hp hq e => ?_, fun k q hq => ?_⟩
  · obtain ⟨i1, i2⟩ := at1 τ i p hp
    obtain ⟨j1, j2⟩ := at1 τ j q hq
    obtain ⟨p', hp', ep⟩ := at2 σ i i1
    obtain ⟨q', hq', eq'⟩ := at2 σ j j1
    exact h.1 i j p' q' hp' hq' (by rw [ep, eq', ← i2, ← j2]; exact e)
  · obtain ⟨k1, k2⟩ := at1 τ k q hq
    obtain ⟨p', hp', ep⟩ := at2 σ k k1
    rw [k2, ← ep]
    exact h.2 k p' hp'
section RPW
variable {α : Type} {E : rp_E} {K : rp_K} {mi : rp_MI} {pc : Nat} {vs : List (Option Value)} {st : List Value} {σ : rp_S} {h : α → Option Value × rp_S} {o : Option α}
theorem rp_getV {a ci k idx : Nat} {fds : List (Option Nat)} {v : Value} (hsh : rp_sh[a]? = some (.inl (ci, fds))) (F : rp_Fd mi.1.cls idx ci k) (hv : (rp_fv E.2.2.2.1 (σ a) 0 fds)[k]? = some v) (hd : decode mi.2.1 pc = .ok (.getfield idx, 3)) (kk : rp_R E K mi (pc + 3) vs (v :: st) σ h o) : rp_R E K mi pc vs (.ref (E.2.2.2.1 a) :: st) σ h o := by
  intro x ho p e s m args below meth c H locs arr G X D hl
  obtain ⟨q, hq, ⟨c1, c2, c3⟩, hk, hlk⟩ := F
  have he : (rp_wd E σ)[a]? = some (E.2.2.2.1 a, .inr (ci, rp_fv E.2.2.2.1 (σ a) 0 fds)) := rp_at hsh
  rcases hlk with hlk | ⟨host, hlk⟩
  · exact va_get (D := E.2.1) (cl := vwCl) (C := q.1) (T := q.2.1) (N := q.2.2) G.1 G.2.1 G.2.2.2.2.2.1 c1 G.2.2.2.2.1 D.2.2.1 D.1 a he hq k hk (G.2.2.2.2.2.1 _ hlk) (fun _ z => z) hv hd (kk x ho p e s m args below meth c H locs arr G X D hl)
  · exact va_getN (D := E.2.1) (cl := vwCl) (C := q.1) (T := q.2.1) (N := q.2.2) G.1 G.2.1 G.2.2.2.2.2.1 c1 G.2.2.2.2.1 D.2.2.1 D.1 a he hq k hk (va_Nw.use rfl (G.2.2.2.2.2.2.1 _ hlk)) (fun _ z => z) hv hd (kk x ho p e s m args below meth c H locs arr G X D hl)
theorem rp_getI {a ci k idx : Nat} {fds : List (Option Nat)} (hsh : rp_sh[a]? = some (.inl (ci, fds))) (hk : fds[k]? = some none) (F : rp_Fd mi.1.cls idx ci k) (hd : decode mi.2.1 pc = .ok (.getfield idx, 3)) (kk : rp_R E K mi (pc + 3) vs (.int (σ a k) :: st) σ h o) : rp_R E K mi pc vs (.ref (E.2.2.2.1 a) :: st) σ h o :=
  rp_getV hsh F (by rw [rp_fv_at, hk, Nat.zero_add]; rfl) hd kk
theorem rp_getR {a ci k idx b : Nat} {fds : List (Option Nat)} (hsh : rp_sh[a]? = some (.inl (ci, fds))) (hk : fds[k]? = some (some b)) (F : rp_Fd mi.1.cls idx ci k) (hd : decode mi.2.1 pc = .ok (.getfield idx, 3)) (kk : rp_R E K mi (pc + 3) vs (.ref (E.2.2.2.1 b) :: st) σ h o) : rp_R E K mi pc vs (.ref (E.2.2.2.1 a) :: st) σ h o :=
  rp_getV hsh F (by rw [rp_fv_at, hk]; rfl) hd kk
theorem rp_putI {a ci k idx : Nat} {fds : List (Option Nat)} {x : Int32} {ty : FieldType} (hsh : rp_sh[a]? = some (.inl (ci, fds))) (hk : fds[k]? = some none) (F : rp_Fp mi.1.cls idx ci k ty) (hn : narrow ty (.int x) = .int x) (hf : fits ty (.int x) = true) (hd : decode mi.2.1 pc = .ok (.putfield idx, 3)) (kk : rp_R E K mi (pc + 3) vs st (rp_up σ a k x) h o) : rp_R E K mi pc vs (.int x :: .ref (E.2.2.2.1 a) :: st) σ h o := by
  intro z ho p e s m args below meth c H locs arr G X D hl
  obtain ⟨⟨q, hq, ⟨c1, ⟨ty0, c2⟩, c3⟩, hk2, hlk⟩, q2, hq2, hfin, hty⟩ := F
  cases hq.symm.trans hq2
  have he : (rp_wd E σ)[a]? = some (E.2.2.2.1 a, .inr (ci, rp_fv E.2.2.2.1 (σ a) 0 fds)) := rp_at hsh
  have hl2 : k < (rp_fv E.2.2.2.1 (σ a) 0 fds).length := by rw [rp_fv_len]; exact (List.getElem?_eq_some_iff.mp hk).1
  have hset : (rp_wd E σ).set a (E.2.2.2.1 a, .inr (ci, (rp_fv E.2.2.2.1 (σ a) 0 fds).set k (.int x))) = rp_wd E (rp_up σ a k x) := by
    rw [rp_fv_set _ _ _ _ _ hk]
    exact rp_set hsh rfl
  rcases hlk with hlk | ⟨host, hlk⟩
  · refine va_put (D := E.2.1) (cl := vwCl) (C := q.1) (T := q.2.1) (N := q.2.2) (ty := ty) G.1 G.2.1 G.2.2.2.2.2.1 c1 ty0 c2 c3 G.2.2.2.2.1 D.2.2.1 D.1 D.2.1 D.2.2.2.1 a he hq k hk2 (G.2.2.2.2.2.1 _ hlk) (fun _ z => z) hfin hty hn hf hl2 hd (fun H1 locs1 hP hD hS => ?_)
    rw [hset] at hP hD
    exact kk z ho p e s m args below meth c H1 locs1 arr G X ⟨hP, hD, D.2.2.1, hS, D.2.2.2.2⟩ hl
  · refine va_putN (D := E.2.1) (cl := vwCl) (C := q.1) (T := q.2.1) (N := q.2.2) (ty := ty) G.1 G.2.1 G.2.2.2.2.2.1 c1 ty0 c2 c3 G.2.2.2.2.1 D.2.2.1 D.1 D.2.1 D.2.2.2.1 a he hq k hk2 (va_Nw.use rfl (G.2.2.2.2.2.2.1 _ hlk)) (fun _ z => z) hfin hty hn hf hl2 hd (fun H1 locs1 hP hD hS => ?_)
    rw [hset] at hP hD
    exact kk z ho p e s m args below meth c H1 locs1 arr G X ⟨hP, hD, D.2.2.1, hS, D.2.2.2.2⟩ hl
/-! arrays -/
def rq_rd (σ : rp_S) (a n : Nat) (i : Int32) : Option Int32 := if 0 ≤ i.toInt ∧ i.toInt < n then some (σ a i.toInt.toNat) else none
def rq_wr (σ : rp_S) (a n : Nat) (i x : Int32) : Option rp_S := if 0 ≤ i.toInt ∧ i.toInt < n then some (rp_up σ a i.toInt.toNat x) else none
theorem rp_iaload {a n : Nat} {i : Int32} {F : Int32 → Option α} (hsh : rp_sh[a]? = some (.inr (0, n))) (hd : decode mi.2.1 pc = .ok (.iaload, 1)) (k : ∀ x, rp_R E K mi (pc + 1) vs (.int x :: st) σ h (F x)) : rp_R E K mi pc vs (.int i :: .ref (E.2.2.2.1 a) :: st) σ h ((rq_rd σ a n i).bind F) := by
  intro z ho p e s m args below meth c H locs arr G X D hl
  unfold rq_rd at ho
  by_cases hi : 0 ≤ i.toInt ∧ i.toInt < n
  · rw [if_pos hi] at ho
    have he : (rp_wd E σ)[a]? = some (E.2.2.2.1 a, .inl (E.2.2.2.2.1 0, n, .inl (σ a))) := rp_at hsh
    exact va_iald G.1 G.2.1 D.2.2.1 D.1 a 0 he rfl (vp_in_iff.mpr hi) hd (k _ z ho p e s m args below meth c H locs arr G X D hl)
  · rw [if_neg hi] at ho; cases ho
theorem rp_baloadB {a n : Nat} {i : Int32} {F : Int32 → Option α} (hsh : rp_sh[a]? = some (.inr (1, n))) (hd : decode mi.2.1 pc = .ok (.baload, 1)) (k : ∀ x, rp_R E K mi (pc + 1) vs (.int x :: st) σ h (F x)) : rp_R E K mi pc vs (.int i :: .ref (E.2.2.2.1 a) :: st) σ h ((rq_rd σ a n i).bind F) := by
  intro z ho p e s m args below meth c H locs arr G X D hl
  unfold rq_rd at ho
  by_cases hi : 0 ≤ i.toInt ∧ i.toInt < n
  · rw [if_pos hi] at ho
    have he : (rp_wd E σ)[a]? = some (E.2.2.2.1 a, .inl (E.2.2.2.2.1 1, n, .inl (σ a))) := rp_at hsh
    exact va_bald G.1 G.2.1 D.2.2.1 D.1 a 1 he rfl (vp_in_iff.mpr hi) hd (k _ z ho p e s m args below meth c H locs arr G X D hl)
  · rw [if_neg hi] at ho; cases ho
theorem rp_baloadZ {a n : Nat} {i : Int32} {F : Int32 → Option α} (hsh : rp_sh[a]? = some (.inr (2, n))) (hd : decode mi.2.1 pc = .ok (.baload, 1)) (k : ∀ x, rp_R E K mi (pc + 1) vs (.int x :: st) σ h (F x)) : rp_R E K mi pc vs (.int i :: .ref (E.2.2.2.1 a) :: st) σ h ((rq_rd σ a n i).bind F) := by
  intro z ho p e s m args below meth c H locs arr G X D hl
  unfold rq_rd at ho
  by_cases hi : 0 ≤ i.toInt ∧ i.toInt < n
  · rw [if_pos hi] at ho
    have he : (rp_wd E σ)[a]? = some (E.2.2.2.1 a, .inl (E.2.2.2.2.1 2, n, .inl (σ a))) := rp_at hsh
    exact va_zald G.1 G.2.1 D.2.2.1 D.1 a 2 he rfl (vp_in_iff.mpr hi) hd (k _ z ho p e s m args below meth c H locs arr G X D hl)
  · rw [if_neg hi] at ho; cases ho
theorem rp_iastore {a n : Nat} {i x : Int32} {F : rp_S → Option α} (hsh : rp_sh[a]? = some (.inr (0, n))) (hd : decode mi.2.1 pc = .ok (.iastore, 1)) (k : ∀ τ, rp_R E K mi (pc + 1) vs st τ h (F τ)) : rp_R E K mi pc vs (.int x :: .int i :: .ref (E.2.2.2.1 a) :: st) σ h ((rq_wr σ a n i x).bind F) := by
  intro z ho p e s m args below meth c H locs arr G X D hl
  unfold rq_wr at ho
  by_cases hi : 0 ≤ i.toInt ∧ i.toInt < n
  · rw [if_pos hi] at ho
    have he : (rp_wd E σ)[a]? = some (E.2.2.2.1 a, .inl (E.2.2.2.2.1 0, n, .inl (σ a))) := rp_at hsh
    refine va_iast G.1 G.2.1 D.2.2.1 D.1 D.2.1 D.2.2.2.1 a 0 he rfl (vp_in_iff.mpr hi) hd (fun H1 locs1 hP hD hS => ?_)
    have hset : (rp_wd E σ).set a (E.2.2.2.1 a, .inl (E.2.2.2.2.1 0, n, .inl (upd (σ a) i.toNatClampNeg x))) = rp_wd E (rp_up σ a i.toInt.toNat x) := rp_set hsh rfl
    rw [hset] at hP hD
    exact k _ z ho p e s m args below meth c H1 locs1 arr G X ⟨hP, hD, D.2.2.1, hS, D.2.2.2.2⟩ hl
  · rw [if_neg hi] at ho; cases ho
theorem rp_bastoreB {a n : Nat} {i x : Int32} {F : rp_S → Option α} (hsh : rp_sh[a]? = some (.inr (1, n))) (hd : decode mi.2.1 pc = .ok (.bastore, 1)) (k : ∀ τ, rp_R E K mi (pc + 1) vs st τ h (F τ)) : rp_R E K mi pc vs (.int x :: .int i :: .ref (E.2.2.2.1 a) :: st) σ h ((rq_wr σ a n i (vp_nar .byte x)).bind F) := by
  intro z ho p e s m args below meth c H locs arr G X D hl
  unfold rq_wr at ho
  by_cases hi : 0 ≤ i.toInt ∧ i.toInt < n
  · rw [if_pos hi] at ho
    have he : (rp_wd E σ)[a]? = some (E.2.2.2.1 a, .inl (E.2.2.2.2.1 1, n, .inl (σ a))) := rp_at hsh
    refine va_bast G.1 G.2.1 D.2.2.1 D.1 D.2.1 D.2.2.2.1 a 1 he rfl (vp_in_iff.mpr hi) hd (fun H1 locs1 hP hD hS => ?_)
    have hset : (rp_wd E σ).set a (E.2.2.2.1 a, .inl (E.2.2.2.2.1 1, n, .inl (upd (σ a) i.toNatClampNeg (vp_nar .byte x)))) = rp_wd E (rp_up σ a i.toInt.toNat (vp_nar .byte x)) := rp_set hsh rfl
    rw [hset] at hP hD
    exact k _ z ho p e s m args below meth c H1 locs1 arr G X ⟨hP, hD, D.2.2.1, hS, D.2.2.2.2⟩ hl
  · rw [if_neg hi] at ho; cases ho
theorem rp_bastoreZ {a n : Nat} {i x : Int32} {F : rp_S → Option α} (hsh : rp_sh[a]? = some (.inr (2, n))) (hd : decode mi.2.1 pc = .ok (.bastore, 1)) (k : ∀ τ, rp_R E K mi (pc + 1) vs st τ h (F τ)) : rp_R E K mi pc vs (.int x :: .int i :: .ref (E.2.2.2.1 a) :: st) σ h ((rq_wr σ a n i (vp_nar .boolean x)).bind F) := by
  intro z ho p e s m args below meth c H locs arr G X D hl
  unfold rq_wr at ho
  by_cases hi : 0 ≤ i.toInt ∧ i.toInt < n
  · rw [if_pos hi] at ho
    have he : (rp_wd E σ)[a]? = some (E.2.2.2.1 a, .inl (E.2.2.2.2.1 2, n, .inl (σ a))) := rp_at hsh
    refine va_zast G.1 G.2.1 D.2.2.1 D.1 D.2.1 D.2.2.2.1 a 2 he rfl (vp_in_iff.mpr hi) hd (fun H1 locs1 hP hD hS => ?_)
    have hset : (rp_wd E σ).set a (E.2.2.2.1 a, .inl (E.2.2.2.2.1 2, n, .inl (upd (σ a) i.toNatClampNeg (vp_nar .boolean x)))) = rp_wd E (rp_up σ a i.toInt.toNat (vp_nar .boolean x)) := rp_set hsh rfl
    rw [hset] at hP hD
    exact k _ z ho p e s m args below meth c H1 locs1 arr G X ⟨hP, hD, D.2.2.1, hS, D.2.2.2.2⟩ hl
  · rw [if_neg hi] at ho; cases ho
/-! the class's tables, its texts, the library's own -/
def rp_Sl (own : String) (idx i : Nat) : Prop := Cond.fieldLink own idx "RocketPrint" (rp_tn i) "[I" ∈ rp_TG ∨ ∃ host, Cond.fieldLinkNest own idx "RocketPrint" (rp_tn i) "[I" host ∈ rp_NW
def rq_td (i : Nat) (j : Int32) : Option Int32 := if 0 ≤ j.toInt ∧ j.toInt < (rp_tab i).length then some ((rp_tab i).getD j.toInt.toNat 0) else none
theorem rp_gets {i idx : Nat} (hi : i < 3) (hlk : rp_Sl mi.1.cls idx i) (hd : decode mi.2.1 pc = .ok (.getstatic idx, 3)) (k : rp_R E K mi (pc + 3) vs (.ref (E.2.2.2.2.2.1 i) :: st) σ h o) : rp_R E K mi pc vs st σ h o := by
  intro z ho p e s m args below meth c H locs arr G X D hl
  rcases hlk with hlk | ⟨host, hlk⟩
  · exact va_gets G.1 G.2.1 (D.2.2.2.2.1 i hi).1 D.2.2.2.1 G.2.2.2.2.1 (G.2.2.2.2.2.1 _ hlk) (fun _ z => z) hd (k z ho p e s m args below meth c H locs arr G X D hl)
  · exact va_getsN G.1 G.2.1 (D.2.2.2.2.1 i hi).1 D.2.2.2.1 G.2.2.2.2.1 (va_Nw.use rfl (G.2.2.2.2.2.2.1 _ hlk)) (fun _ z => z) hd (k z ho p e s m args below meth c H locs arr G X D hl)
theorem rp_tald {i : Nat} {j : Int32} {F : Int32 → Option α} (hi : i < 3) (hd : decode mi.2.1 pc = .ok (.iaload, 1)) (k : ∀ x, rp_R E K mi (pc + 1) vs (.int x :: st) σ h (F x)) : rp_R E K mi pc vs (.int j :: .ref (E.2.2.2.2.2.1 i) :: st) σ h ((rq_td i j).bind F) := by
  intro z ho p e s m args below meth c H locs arr G X D hl
  unfold rq_td at ho
  by_cases hj : 0 ≤ j.toInt ∧ j.toInt < (rp_tab i).length
  · rw [if_pos hj] at ho
    exact va_ti G.1 G.2.1 (D.2.2.2.2.1 i hi).2 D.2.2.2.1 (vp_in_iff.mpr hj) rfl hd (k _ z ho p e s m args below meth c H locs arr G X D hl)
  · rw [if_neg hj] at ho; cases ho
theorem rp_ldcS {i idx : Nat} (hi : i < 7) (hc : mi.1.cls = "RocketPrint$Tape") (hx : rp_si i = idx) (hd : decode mi.2.1 pc = .ok (.ldc idx, 2)) (k : rp_R E K mi (pc + 2) vs (.ref (E.2.2.2.2.2.1 (10 + i)) :: st) σ h o) : rp_R E K mi pc vs st σ h o := by
  intro z ho p e s m args below meth c H locs arr G X D hl
  subst hx
  have hR := D.2.2.2.2.2.2.1 i hi
  rw [← hc] at hR
  exact va_ldcS G.1 G.2.1 G.2.2.2.2.1 hR hd (k z ho p e s m args below meth c H locs arr G X D hl)
theorem rp_strV {i idx : Nat} (hi : i < 7) (hlk : Cond.fieldLink mi.1.cls idx "java/lang/String" "value" "[B" ∈ rp_TG) (hd : decode mi.2.1 pc = .ok (.getfield idx, 3)) (k : rp_R E K mi (pc + 3) vs (.ref (E.2.2.2.2.2.1 (20 + i)) :: st) σ h o) : rp_R E K mi pc vs (.ref (E.2.2.2.2.2.1 (10 + i)) :: st) σ h o := by
  intro z ho p e s m args below meth c H locs arr G X D hl
  exact vk_getf G.1 G.2.1 (D.2.2.2.2.2.1.1 i hi).2.2.1 D.2.2.2.1 G.2.2.2.2.1 (G.2.2.2.2.2.1 _ hlk) (fun _ z => z) hd (k z ho p e s m args below meth c H locs arr G X D hl)
theorem rp_strC {i idx : Nat} (hi : i < 7) (hlk : Cond.fieldLink mi.1.cls idx "java/lang/String" "coder" "B" ∈ rp_TG) (hd : decode mi.2.1 pc = .ok (.getfield idx, 3)) (k : rp_R E K mi (pc + 3) vs (.int 0 :: st) σ h o) : rp_R E K mi pc vs (.ref (E.2.2.2.2.2.1 (10 + i)) :: st) σ h o := by
  intro z ho p e s m args below meth c H locs arr G X D hl
  exact vk_getf G.1 G.2.1 (D.2.2.2.2.2.1.1 i hi).2.1 D.2.2.2.1 G.2.2.2.2.1 (G.2.2.2.2.2.1 _ hlk) (fun _ z => z) hd (k z ho p e s m args below meth c H locs arr G X D hl)
theorem rp_strL {i : Nat} (hi : i < 7) (hd : decode mi.2.1 pc = .ok (.arraylength, 1)) (k : rp_R E K mi (pc + 1) vs (.int (Int32.ofNat (rp_sl.getD i 0)) :: st) σ h o) : rp_R E K mi pc vs (.ref (E.2.2.2.2.2.1 (20 + i)) :: st) σ h o := by
  intro z ho p e s m args below meth c H locs arr G X D hl
  exact va_tlen G.1 G.2.1 (D.2.2.2.2.2.1.1 i hi).2.2.2 D.2.2.2.1 rfl hd (k z ho p e s m args below meth c H locs arr G X D hl)
def rq_sb (i : Nat) (j : Int32) : Option Int32 := if 0 ≤ j.toInt ∧ j.toInt < (rp_sl.getD i 0) then some ((rp_sb.getD i []).getD j.toInt.toNat 0) else none
theorem rp_strB {i : Nat} {j : Int32} {F : Int32 → Option α} (hi : i < 7) (hd : decode mi.2.1 pc = .ok (.baload, 1)) (k : ∀ x, rp_R E K mi (pc + 1) vs (.int x :: st) σ h (F x)) : rp_R E K mi pc vs (.int j :: .ref (E.2.2.2.2.2.1 (20 + i)) :: st) σ h ((rq_sb i j).bind F) := by
  intro z ho p e s m args below meth c H locs arr G X D hl
  unfold rq_sb at ho
  by_cases hj : 0 ≤ j.toInt ∧ j.toInt < (rp_sl.getD i 0)
  · rw [if_pos hj] at ho
    exact va_tb G.1 G.2.1 (D.2.2.2.2.2.1.1 i hi).2.2.2 D.2.2.2.1 (vp_in_iff.mpr hj) rfl hd (k _ z ho p e s m args below meth c H locs arr G X D hl)
  · rw [if_neg hj] at ho; cases ho
theorem rp_getsC {idx : Nat} (hlk : Cond.fieldLink mi.1.cls idx "java/lang/String" "COMPACT_STRINGS" "Z" ∈ rp_TG) (hd : decode mi.2.1 pc = .ok (.getstatic idx, 3)) (k : rp_R E K mi (pc + 3) vs (.int 1 :: st) σ h o) : rp_R E K mi pc vs st σ h o := by
  intro z ho p e s m args below meth c H locs arr G X D hl
  exact va_gets G.1 G.2.1 D.2.2.2.2.2.2.2.1 D.2.2.2.1 G.2.2.2.2.1 (G.2.2.2.2.2.1 _ hlk) (fun _ z => z) hd (k z ho p e s m args below meth c H locs arr G X D hl)
theorem rp_getsF {idx : Nat} (hlk : Cond.fieldLink mi.1.cls idx "jdk/internal/util/Preconditions" "SIOOBE_FORMATTER" "Ljava/util/function/BiFunction;" ∈ rp_TG) (hd : decode mi.2.1 pc = .ok (.getstatic idx, 3)) (k : rp_R E K mi (pc + 3) vs (E.2.2.2.2.2.2 :: st) σ h o) : rp_R E K mi pc vs st σ h o := by
  intro z ho p e s m args below meth c H locs arr G X D hl
  exact va_gets G.1 G.2.1 D.2.2.2.2.2.2.2.2 D.2.2.2.1 G.2.2.2.2.1 (G.2.2.2.2.2.1 _ hlk) (fun _ z => z) hd (k z ho p e s m args below meth c H locs arr G X D hl)
end RPW
end
section
/-! what a method gives back -/
def rp_Qc (E : rp_E) (v : Option Value) (τ : rp_S) : Array Value → State → Outcome → State → Prop := fun _ st oc t => oc = .returned v ∧ va_P E.2.1 vwCl (rp_wd E τ) t.heap ∧ va_F E.2.2.1 st t
def rp_mK (E : rp_E) (R : Room) : rp_K := (R, 0, 0, fun v τ s args below => MQ below (rp_Qc E v τ) args s 0 0 E.2.2.1, fun _ _ => True)
def rp_Pc (E : rp_E) (σ : rp_S) (av : List Value) : Array Value → State → Prop := va_Pc av (fun U => va_P E.2.1 vwCl (rp_wd E σ) U.heap ∧ va_K E.2.1 vwCl (rp_ty E) U ∧ va_D E.2.2.1 (rp_wd E σ) ∧ rp_Xt E U U.heap ∧ ∀ w ∈ rp_NW, va_Nw w U)
def rp_pos : List Value → List (Option Value)
  | [] => []
  | .long x :: r => some (.long x) :: none :: rp_pos r
  | .double x :: r => some (.double x) :: none :: rp_pos r
  | v :: r => some v :: rp_pos r
def rp_pad : Nat → List (Option Value) → List (Option Value)
  | 0, _ => []
  | n + 1, [] => none :: rp_pad n []
  | n + 1, a :: r => a :: rp_pad n r
theorem rp_pad_len : ∀ (n : Nat) (l : List (Option Value)), (rp_pad n l).length = n := by
  intro n
  induction n with
  | zero => intro l; rfl
  | succ n ih => intro l; cases l <;> simp [rp_pad, ih]
theorem rp_pad_at : ∀ (n : Nat) (l : List (Option Value)) (i : Nat) (v : Value), (rp_pad n l)[i]? = some (some v) → l[i]? = some (some v) := by
  intro n
  induction n with
  | zero => intro l i v h; simp [rp_pad] at h
  | succ n ih =>
    intro l i v h
    cases l with
    | nil =>
      cases i with
      | zero => simp [rp_pad] at h
      | succ i => exact absurd (ih [] i v (by simpa [rp_pad] using h)) (by simp)
    | cons a r =>
      cases i with
      | zero => simpa [rp_pad] using h
      | succ i => simpa using ih r i v (by simpa [rp_pad] using h)
theorem rp_pos_at : ∀ (l : List Value) (k i : Nat) (v : Value), (rp_pos l)[i]? = some (some v) → (k + i, v) ∈ lv_args k l := by
  intro l
  induction l with
  | nil => intro k i v h; simp [rp_pos] at h
  | cons a r ih =>
    intro k i v h
    have one : ∀ (a : Value), a.category = 1 → (some a :: rp_pos r)[i]? = some (some v) → (k + i, v) ∈ lv_args k (a :: r) := by
      intro a ha h
      rw [lv_args, if_neg (by omega)]
      cases i with
      | zero => simp at h; rw [h]; exact List.mem_cons_self
      | succ i =>
        refine List.mem_cons_of_mem _ ?_
        have := ih (k + 1) i v (by simpa using h)
        rwa [show k + 1 + i = k + (i + 1) by omega] at this
    have two : ∀ (a : Value), a.category = 2 → (some a :: none :: rp_pos r)[i]? = some (some v) → (k + i, v) ∈ lv_args k (a :: r) := by
      intro a ha h
      rw [lv_args, if_pos ha]
      cases i with
      | zero => simp at h; rw [h]; exact List.mem_cons_self
      | succ i =>
        cases i with
        | zero => simp at h
        | succ i =>
          refine List.mem_cons_of_mem _ ?_
          have := ih (k + 2) i v (by simpa using h)
          rwa [show k + 2 + i = k + (i + 1 + 1) by omega] at this
    cases a with
    | long x => exact two _ rfl (by simpa [rp_pos] using h)
    | double x => exact two _ rfl (by simpa [rp_pos] using h)
    | int x => exact one _ rfl (by simpa [rp_pos] using h)
    | float x => exact one _ rfl (by simpa [rp_pos] using h)
    | ref x => exact one _ rfl (by simpa [rp_pos] using h)
    | null => exact one _ rfl (by simpa [rp_pos] using h)
    | retAddr x => exact one _ rfl (by simpa [rp_pos] using h)
theorem rp_nest {w : Cond} (h : w ∈ rp_NW) : w.onTables = true := by
  have h1 := (List.mem_filter.mp h).2
  cases w <;> first | (simp [rp_isN] at h1; done) | rfl
theorem rp_nest_warm {w : Cond} {s U : State} (h : w ∈ rp_NW) (hW : s.WarmedH U.vm) (hw : va_Nw w s) : va_Nw w U := by
  have h1 := (List.mem_filter.mp h).2
  cases w <;> first | (simp [rp_isN] at h1; done) | exact va_Nw.warmF hW hw | exact va_Nw.warmM hW hw
theorem rp_blind (E : rp_E) (σ : rp_S) (av : List Value) : FrameBlind (rp_Pc E σ av) := by
  intro a U g mk q
  obtain ⟨h0, h1, h2, h3, h4, h5⟩ := q
  exact ⟨h0, h1, va_K.moved (u := U) (U := U.calling g mk a) (Vm.Alike.refl U.vm) h2, h3, rp_Xt.same (s := U) (U := U.calling g mk a) rfl h4, fun w hw => va_Nw.same (rp_nest hw) (u := U) (U := U.calling g mk a) rfl (h5 w hw)⟩
/-- a method's words: its code, then all good words -/
def rp_ws (mi : rp_MI) : List Cond := Cond.code mi.1 mi.2.1 mi.2.2.1 mi.2.2.2 :: rp_TG
theorem rp_met {α : Type} {E : rp_E} {rm : Room} {mi : rp_MI} {vs : List (Option Value)} {σ : rp_S} {h : α → Option Value × rp_S} {o : Option α} {av : List Value} {a : α} (hpl : plainName mi.1.cls = true) (hr : rp_R E (rp_mK E rm) mi 0 vs [] σ h o) (hv : rp_pad mi.2.2.1 (rp_pos av) = vs) (hlen : (lg_sl av).length ≤ mi.2.2.1) (ho : o = some a) :
    Met E.1 mi.1 (rp_ws mi) rm (rp_Pc E σ av) (rp_Qc E (h a).1 (h a).2) 0 0 E.2.2.1 := by
  refine Met.ofW (cc := mi.2.1) (maxL := mi.2.2.1) (ret := mi.2.2.2) hpl rfl ?_
  intro p e s m args below meth c s₁ B hml hv0
  obtain ⟨rfl, hP, hK, hD, hX, hN⟩ := hv0
  have hts := atoms_spec (ws := rp_ws mi) B.pre
  rw [lg_entry_eq]
  have he := lv_entry av (n := mi.2.2.1) hlen
  refine hr a ho p e s m av.toArray below meth c s.heap [] _ ⟨B.exec, B.bytes, B.returns, hml, findClass_of_methodNamed B.named, fun w hw => hts w (List.mem_cons_of_mem _ hw), hN, B.notSynchronized⟩ trivial ⟨hP, hD, hK, va_S.rf, hX⟩ ?_
  refine ⟨he.1, he.2.1, ?_, fun i v q => ?_⟩
  · rw [← hv, rp_pad_len]
  · rw [← hv] at q
    have := rp_pos_at av 0 i v (rp_pad_at _ _ _ _ q)
    rw [Nat.zero_add] at this
    exact he.2.2 _ this
/-! a call's words -/
def rp_Cb (mi : rp_MI) (n : Nat) : Prop := Cond.initialized mi.1.cls ∈ rp_TG ∧ Cond.code mi.1 mi.2.1 mi.2.2.1 mi.2.2.2 ∈ rp_TG ∧ (mi.1.cls ≠ "java/lang/invoke/MethodHandle" ∧ mi.1.cls ≠ "java/lang/invoke/VarHandle" ∧ (parseMethodDescriptor mi.1.desc).map (fun d => d.parameters.length) = some n) ∧ plainName mi.1.cls = true
def rp_Lk (own : String) (idx : Nat) (mi : rp_MI) : Prop := Cond.methodLink own idx mi.1 ∈ rp_TG ∨ ∃ host, Cond.methodLinkNest own idx mi.1 host ∈ rp_NW
def rp_Vi (mi : rp_MI) : Prop := Cond.instanceMethod mi.1 ∈ rp_TG ∧ Cond.selects mi.1.cls mi.1 mi.1 ∈ rp_TG
def rp_St (mi : rp_MI) : Prop := Cond.static mi.1 ∈ rp_TG
def rp_rm (K : rp_K) (rm : Room) (mi : rp_MI) : Prop := rm.cells = 0 ∧ rm.slots = 0 ∧ (rm.frames + 1 ≤ K.1.frames ∧ 8 + (mi.2.2.1 + 11) + rm.locals ≤ K.1.locals) ∧ K.2.1 ≤ K.1.cells ∧ K.2.2.1 ≤ K.1.slots
theorem rp_TG_good : ∀ w ∈ rp_TG, (w.onTables && w.keeps) = true ∨ ∃ ty, w = .arrayClass ty := fun w hw => good_of_word (List.mem_filter.mp hw).2
theorem rp_goodIn {mi : rp_MI} {n : Nat} (h : rp_Cb mi n) : GoodIn rp_TG (rp_ws mi) := by
  intro w hw
  rcases List.mem_cons.mp hw with rfl | hw
  · exact ⟨h.2.1, rp_TG_good _ h.2.1⟩
  · exact ⟨hw, rp_TG_good _ hw⟩
/-- a receiver's class -/
def rp_Rc (E : rp_E) (b : Nat) (C : String) : Prop := ∀ (σ : rp_S) (s : State) (H : Heap) (locs : List Loc), rp_Wd E σ s H locs → ∃ cell : Cell, H[b]? = some cell ∧ cell.vm.isStatics = false ∧ s.vm.findClass C = some cell.cls
theorem rp_rcO {E : rp_E} {a ci : Nat} {fds : List (Option Nat)} {C : String} (hsh : rp_sh[a]? = some (.inl (ci, fds))) (hc : vwCl[ci]?.map (fun q => q.1) = some C) : rp_Rc E (E.2.2.2.1 a) C := by
  intro σ s H locs D
  obtain ⟨q, hq, rfl⟩ := Option.map_eq_some_iff.mp hc
  exact va_recv (D := E.2.1) (cl := vwCl) D.2.2.1 D.1 hq (rp_at hsh)
theorem rp_rcS {E : rp_E} {i : Nat} (hi : i < 7) : rp_Rc E (E.2.2.2.2.2.1 (10 + i)) "java/lang/String" := by
  intro σ s H locs D
  exact vk_recv (adK := fun j => E.2.2.2.2.2.1 (10 + j)) (i := i) D.2.2.2.2.2.1 hi D.2.2.2.1
section RPC
variable {α : Type} {E : rp_E} {K : rp_K} {mi : rp_MI} {pc : Nat} {vs : List (Option Value)} {st : List Value} {σ : rp_S} {h : α → Option Value × rp_S} {o : Option α}
theorem rp_pre {p : Program} {s : State} {m : MethodId} {args : Array Value} {meth : Method} {c : Code} {H : Heap} {locs : List Loc} (G : rp_Gd mi p s m args meth c) (D : rp_Wd E σ s H locs) (av : List Value) (U : State) (hU : U.heap = H) (hW : s.WarmedH U.vm) : rp_Pc E σ av av.toArray U :=
  ⟨rfl, by rw [hU]; exact D.1, va_K.moved hW.alike D.2.2.1, D.2.1, by rw [hU]; exact (D.2.2.2.2.kept D.2.2.2.1.2.1).warm hW, fun w hw => rp_nest_warm hw hW (G.2.2.2.2.2.2.1 w hw)⟩
theorem rp_after {v : Option Value} {τ : rp_S} {p : Program} {e : Env} {s : State} {m : MethodId} {args : Array Value} {below : List Frame} {meth : Method} {c : Code} {H : Heap} {locs : List Loc} {arr : Array Slot} {st0 rest : List Value} {av : Array Value} {Q : State → Prop} (D : rp_Wd E σ s H locs)
    (hr : va_Run p E.1 e K.1 s m args below meth c H locs K.2.1 K.2.2.1 0 0 (F0 m pc arr st0) rest (rp_Qc E v τ av) E.2.2.1)
    (kk : ∀ (H1 : Heap) (locs1 : List Loc), rp_Wd E τ s H1 locs1 → W p E.1 e K.1 s m args below meth c H1 locs1 K.2.1 K.2.2.1 Q (F0 m (pc + 3) arr (v.toList ++ rest))) : W p E.1 e K.1 s m args below meth c H locs K.2.1 K.2.2.1 Q (F0 m pc arr st0) := by
  intro T hT X
  obtain ⟨v', st₀, t, T', L, h0, X', hL, e1, e2, ⟨hv, hP, hz, hk⟩, stp⟩ := hr T hT X
  cases hv
  rw [h0] at hz hk
  obtain ⟨t2, a1, b1⟩ := kk T'.heap (locs ++ L) ⟨by rw [e1]; exact hP, rp_wd_D D.2.1, D.2.2.1, ⟨Nat.le_trans D.2.2.2.1.1 (by rw [e1]; exact hz), fun q h1 h2 => by rw [e1, hk q (Nat.lt_of_lt_of_le h1 D.2.2.2.1.1) h2]; exact D.2.2.2.1.2.1 q h1 h2, fun q hq => by
      rcases List.mem_append.mp hq with z | z
      · exact D.2.2.2.1.2.2 q z
      · exact hL q z⟩, D.2.2.2.2⟩ T' rfl X'
  exact ⟨t2, stp t2 a1, b1⟩
theorem rp_callV {β : Type} {h' : β → Option Value × rp_S} {g : Option β} {F : β → Option α} {rm : Room} {mi' : rp_MI} {As rest st0 : List Value} {b idx : Nat} {vs0 : List (Option Value)} (hr : rp_R E (rp_mK E rm) mi' 0 vs0 [] σ h' g) (hb : rp_Cb mi' As.length) (hk : rp_Lk mi.1.cls idx mi') (hv : rp_Vi mi') (hc : rp_Rc E b mi'.1.cls)
    (hvs : rp_pad mi'.2.2.1 (rp_pos (.ref b :: As)) = vs0) (hln : (lg_sl (.ref b :: As)).length ≤ mi'.2.2.1) (hm : rp_rm K rm mi') (hst : st0 = As.reverse ++ .ref b :: rest) (hcat : (rest.map fun v => v.category).sum ≤ 8) (hd : decode mi.2.1 pc = .ok (.invokevirtual idx, 3))
    (k : ∀ x, g = some x → rp_R E K mi (pc + 3) vs ((h' x).1.toList ++ rest) (h' x).2 h (F x)) : rp_R E K mi pc vs st0 σ h (g.bind F) := by
  intro z ho p e s m args below meth c H locs arr G X D hl
  cases hg : g with
  | none => rw [hg] at ho; cases ho
  | some x =>
    rw [hg] at ho
    have hM := rp_met (av := .ref b :: As) hb.2.2.2 hr hvs hln hg
    obtain ⟨hm1, hm2, hm3, hm4, hm5⟩ := hm
    have ht := G.2.2.2.2.2.1
    have hPV : PreV s H mi'.1.cls b (rp_Pc E σ (.ref b :: As)) As := ⟨rp_blind _ _ _, hc σ s H locs D, fun U hU hW => rp_pre G D _ U hU hW⟩
    subst hst
    have hrun : va_Run p E.1 e K.1 s m args below meth c H locs K.2.1 K.2.2.1 0 0 (F0 m pc arr (As.reverse ++ .ref b :: rest)) rest (rp_Qc E (h' x).1 (h' x).2 (Value.ref b :: As).toArray) E.2.2.1 := by
      rcases hk with hk | ⟨host, hk⟩
      · exact va_runV (C := mi'.1.cls) (index := idx) ⟨G.1, G.2.1, G.2.2.2.1, G.2.2.2.2.1, ht⟩ hM ⟨callB_of As.length ht (rp_goodIn hb) rfl hm1 hm2 (ht _ hb.1) (ht _ hk) hb.2.2.1 hm3, ht _ hv.1, ht _ hv.2⟩ hPV rfl rfl hl.1 rfl (lv_room hcat) hd ⟨by omega, by omega⟩
      · exact va_runVN (C := mi'.1.cls) (index := idx) (host := host) ⟨G.1, G.2.1, G.2.2.2.1, G.2.2.2.2.1, ht⟩ hM ⟨va_cnB As.length ht (rp_goodIn hb) rfl hm1 hm2 (G.2.2.2.2.2.2.1 _ hk) (ht _ hb.1) hb.2.2.1 hm3, ht _ hv.1, ht _ hv.2⟩ hPV rfl rfl hl.1 rfl (lv_room hcat) hd ⟨by omega, by omega⟩
    exact rp_after D hrun (fun H1 locs1 D1 => k x hg z ho p e s m args below meth c H1 locs1 arr G X D1 hl)
theorem rp_callS {β : Type} {h' : β → Option Value × rp_S} {g : Option β} {F : β → Option α} {rm : Room} {mi' : rp_MI} {As rest st0 : List Value} {idx : Nat} {vs0 : List (Option Value)} (hr : rp_R E (rp_mK E rm) mi' 0 vs0 [] σ h' g) (hb : rp_Cb mi' As.length) (hk : rp_Lk mi.1.cls idx mi') (hv : rp_St mi')
    (hvs : rp_pad mi'.2.2.1 (rp_pos As) = vs0) (hln : (lg_sl As).length ≤ mi'.2.2.1) (hm : rp_rm K rm mi') (hst : st0 = As.reverse ++ rest) (hcat : (rest.map fun v => v.category).sum ≤ 8) (hd : decode mi.2.1 pc = .ok (.invokestatic idx, 3))
    (k : ∀ x, g = some x → rp_R E K mi (pc + 3) vs ((h' x).1.toList ++ rest) (h' x).2 h (F x)) : rp_R E K mi pc vs st0 σ h (g.bind F) := by
  intro z ho p e s m args below meth c H locs arr G X D hl
  cases hg : g with
  | none => rw [hg] at ho; cases ho
  | some x =>
    rw [hg] at ho
    have hM := rp_met (av := As) hb.2.2.2 hr hvs hln hg
    obtain ⟨hm1, hm2, hm3, hm4, hm5⟩ := hm
    have ht := G.2.2.2.2.2.1
    have hPS : PreS s H (rp_Pc E σ As) As := ⟨rp_blind _ _ _, fun U hU hW => rp_pre G D _ U hU hW⟩
    subst hst
    have hrun : va_Run p E.1 e K.1 s m args below meth c H locs K.2.1 K.2.2.1 0 0 (F0 m pc arr (As.reverse ++ rest)) rest (rp_Qc E (h' x).1 (h' x).2 As.toArray) E.2.2.1 := by
      rcases hk with hk | ⟨host, hk⟩
      · exact va_runS (index := idx) ⟨G.1, G.2.1, G.2.2.2.1, G.2.2.2.2.1, ht⟩ hM ⟨callB_of As.length ht (rp_goodIn hb) rfl hm1 hm2 (ht _ hb.1) (ht _ hk) hb.2.2.1 hm3, ht _ hv⟩ hPS rfl rfl hl.1 rfl (lv_room hcat) hd ⟨by omega, by omega⟩
      · exact va_runSN (index := idx) (host := host) ⟨G.1, G.2.1, G.2.2.2.1, G.2.2.2.2.1, ht⟩ hM ⟨va_cnB As.length ht (rp_goodIn hb) rfl hm1 hm2 (G.2.2.2.2.2.2.1 _ hk) (ht _ hb.1) hb.2.2.1 hm3, ht _ hv, trivial⟩ hPS rfl rfl hl.1 rfl (lv_room hcat) hd ⟨by omega, by omega⟩
    exact rp_after D hrun (fun H1 locs1 D1 => k x hg z ho p e s m args below meth c H1 locs1 arr G X D1 hl)
end RPC
/-! returns -/
section RPT
variable {α : Type} {E : rp_E} {R : Room} {mi : rp_MI} {pc : Nat} {vs : List (Option Value)} {σ : rp_S} {h : α → Option Value × rp_S} {a : α}
theorem rp_Wz {p : Program} {l : Launch} {e : Env} {R : Room} {s : State} {m : MethodId} {args : Array Value} {below : List Frame} {meth : Method} {c : Code} {H : Heap} {locs : List Loc} {cells slots : Nat} {cc : ByteArray} {Qc : Array Value → State → Outcome → State → Prop} {free : Addr → Prop} {v v' : Int32} {ty : FieldType} (hexec : p.tables.exec = Jvm.exec) (hb : c.code = cc) (hr : meth.sig.returnType = some ty) (hn : narrow ty (.int v) = .int v')
    (hq : ∀ t : State, t.heap = H → s.WarmedH t.vm → Qc args s (.returned (some (.int v'))) t) (hf : ∀ q ∈ locs, free q.base)
    {pc : Nat} {ls : Array Slot} (hdg : decode cc pc = .ok (.ireturn, 1)) (hlocks : meth.locks = false) : W p l e R s m args below meth c H locs cells slots (MQ below Qc args s cells slots free) (F0 m pc ls [.int v]) := by
  intro T hT X
  obtain ⟨fs, hret, hrun, hended, hW, hframe⟩ := X.leave (v := some (.int v')) (fun h => by rw [hr] at h; cases h)
  have hmeth' : T.vm.method? m = some meth := X.method'
  refine ⟨T.setFrames fs, ?_, .returned (some (.int v')), hrun, hended, hq _ hT hW, locs, ⟨⟨_, rfl⟩, hW, hframe⟩, hf⟩
  jvm_step X.here [X.here.top, hexec, hb, hdg, hmeth', hr, hn]
  (try refine ⟨rfl, ?_⟩); (try refine ⟨rfl, ?_⟩)
  first | (intro acts; rw [hret _ acts rfl rfl rfl]) | rw [hret _ _ rfl rfl rfl]
  exact Steps.refl _
theorem rp_zret {x x' : Int32} {ty : FieldType} (hr : mi.2.2.2 = some ty) (hn : narrow ty (.int x) = .int x') (ha : h a = (some (.int x'), σ)) (hd : decode mi.2.1 pc = .ok (.ireturn, 1)) : rp_R E (rp_mK E R) mi pc vs [.int x] σ h (some a) := by
  intro z ho p e s m args below meth c H locs arr G X D hl
  cases ho
  rw [ha]
  exact rp_Wz G.1 G.2.1 (G.2.2.1.trans hr) hn (fun t ht hW => ⟨rfl, by rw [ht]; exact D.1, D.2.2.2.1.F ht⟩) D.2.2.2.1.2.2 hd G.2.2.2.2.2.2.2
theorem rp_iret {x : Int32} (hr : mi.2.2.2 = some .int) (ha : h a = (some (.int x), σ)) (hd : decode mi.2.1 pc = .ok (.ireturn, 1)) : rp_R E (rp_mK E R) mi pc vs [.int x] σ h (some a) := rp_zret hr (vp_nar_int x) ha hd
theorem rp_vret (hr : mi.2.2.2 = none) (ha : h a = (none, σ)) (hd : decode mi.2.1 pc = .ok (.return_, 1)) : rp_R E (rp_mK E R) mi pc vs [] σ h (some a) := by
  intro z ho p e s m args below meth c H locs arr G X D hl
  cases ho
  rw [ha]
  exact W.vret G.1 G.2.1 (G.2.2.1.trans hr) (fun t ht hW => ⟨rfl, by rw [ht]; exact D.1, D.2.2.2.1.F ht⟩) D.2.2.2.1.2.2 hd G.2.2.2.2.2.2.2
theorem rp_lret {x : Int64} (hr : mi.2.2.2 = some .long) (ha : h a = (some (.long x), σ)) (hd : decode mi.2.1 pc = .ok (.lreturn, 1)) : rp_R E (rp_mK E R) mi pc vs [.long x] σ h (some a) := by
  intro z ho p e s m args below meth c H locs arr G X D hl
  cases ho
  rw [ha]
  exact W.lret G.1 G.2.1 (G.2.2.1.trans hr) (fun t ht hW => ⟨rfl, by rw [ht]; exact D.1, D.2.2.2.1.F ht⟩) D.2.2.2.1.2.2 hd G.2.2.2.2.2.2.2
theorem rp_aret {x : Nat} {C : String} (hr : mi.2.2.2 = some (.object C)) (ha : h a = (some (.ref x), σ)) (hd : decode mi.2.1 pc = .ok (.areturn, 1)) : rp_R E (rp_mK E R) mi pc vs [.ref x] σ h (some a) := by
  intro z ho p e s m args below meth c H locs arr G X D hl
  cases ho
  rw [ha]
  exact W.aret G.1 G.2.1 (G.2.2.1.trans hr) (Or.inl ⟨C, rfl⟩) (Or.inr ⟨x, rfl⟩) (fun t ht hW => ⟨rfl, by rw [ht]; exact D.1, D.2.2.2.1.F ht⟩) D.2.2.2.1.2.2 hd G.2.2.2.2.2.2.2
end RPT
/-- what a method's pure function stands for: an int, an int and cells, cells, a long, a long and cells, a cell, nothing -/
def rp_hi (σ : rp_S) : Int32 → Option Value × rp_S := fun x => (some (.int x), σ)
def rp_hI : Int32 × rp_S → Option Value × rp_S := fun x => (some (.int x.1), x.2)
def rp_hv : rp_S → Option Value × rp_S := fun x => (none, x)
def rp_hl (σ : rp_S) : Int64 → Option Value × rp_S := fun x => (some (.long x), σ)
def rp_hL : Int64 × rp_S → Option Value × rp_S := fun x => (some (.long x.1), x.2)
def rp_hr (E : rp_E) (σ : rp_S) : Nat → Option Value × rp_S := fun x => (some (.ref (E.2.2.2.1 x)), σ)
def rp_hu (σ : rp_S) : Unit → Option Value × rp_S := fun _ => (none, σ)
/-! the library's arithmetic, and its copy -/
section RPM
variable {α : Type} {E : rp_E} {K : rp_K} {mi : rp_MI} {pc : Nat} {vs : List (Option Value)} {st : List Value} {σ : rp_S} {h : α → Option Value × rp_S} {o : Option α}
def rq_max (x y : Int32) : Int32 := if x < y then y else x
def rq_min (x y : Int32) : Int32 := if y < x then y else x
def rq_abs (x : Int32) : Int32 := if 0 ≤ x then x else 0 - x
def rp_Ml (K : rp_K) (st : List Value) : Prop := 1 ≤ K.1.frames ∧ (st.map fun v => v.category).sum + 13 ≤ K.1.locals ∧ K.2.1 ≤ K.1.cells ∧ K.2.2.1 ≤ K.1.slots
def rp_Mw (own : String) (idx : Nat) (y : MethodName) (cc : ByteArray) (n : Nat) : Prop := Cond.methodLink own idx y ∈ rp_TG ∧ Cond.static y ∈ rp_TG ∧ Cond.initialized "java/lang/Math" ∈ rp_TG ∧ Cond.code y cc n (some .int) ∈ rp_TG
theorem rp_mmax {x y : Int32} {idx : Nat} (w : rp_Mw mi.1.cls idx Lib.Math.max.name Lib.Math.max.code 2) (hm : rp_Ml K st) (hd : decode mi.2.1 pc = .ok (.invokestatic idx, 3)) (k : rp_R E K mi (pc + 3) vs (.int (rq_max x y) :: st) σ h o) : rp_R E K mi pc vs (.int y :: .int x :: st) σ h o := fun a ho p e s m args below meth c H locs arr G X D hl => va_mmax G.1 G.2.1 (G.2.2.2.1.trans hl.1.symm) G.2.2.2.2.1 (G.2.2.2.2.2.1 _ w.1) (G.2.2.2.2.2.1 _ w.2.1) (G.2.2.2.2.2.1 _ w.2.2.1) (G.2.2.2.2.2.1 _ w.2.2.2) hm.1 hm.2.1 hm.2.2.1 hm.2.2.2 hd (k a ho p e s m args below meth c H locs arr G X D hl)
theorem rp_mmin {x y : Int32} {idx : Nat} (w : rp_Mw mi.1.cls idx Lib.Math.min.name Lib.Math.min.code 2) (hm : rp_Ml K st) (hd : decode mi.2.1 pc = .ok (.invokestatic idx, 3)) (k : rp_R E K mi (pc + 3) vs (.int (rq_min x y) :: st) σ h o) : rp_R E K mi pc vs (.int y :: .int x :: st) σ h o := fun a ho p e s m args below meth c H locs arr G X D hl => va_mmin G.1 G.2.1 (G.2.2.2.1.trans hl.1.symm) G.2.2.2.2.1 (G.2.2.2.2.2.1 _ w.1) (G.2.2.2.2.2.1 _ w.2.1) (G.2.2.2.2.2.1 _ w.2.2.1) (G.2.2.2.2.2.1 _ w.2.2.2) hm.1 hm.2.1 hm.2.2.1 hm.2.2.2 hd (k a ho p e s m args below meth c H locs arr G X D hl)
theorem rp_mabs {x : Int32} {idx : Nat} (w : rp_Mw mi.1.cls idx Lib.Math.abs.name Lib.Math.abs.code 1) (hm : rp_Ml K st) (hd : decode mi.2.1 pc = .ok (.invokestatic idx, 3)) (k : rp_R E K mi (pc + 3) vs (.int (rq_abs x) :: st) σ h o) : rp_R E K mi pc vs (.int x :: st) σ h o := fun a ho p e s m args below meth c H locs arr G X D hl => va_mabs G.1 G.2.1 (G.2.2.2.1.trans hl.1.symm) G.2.2.2.2.1 (G.2.2.2.2.2.1 _ w.1) (G.2.2.2.2.2.1 _ w.2.1) (G.2.2.2.2.2.1 _ w.2.2.1) (G.2.2.2.2.2.1 _ w.2.2.2) hm.1 hm.2.1 hm.2.2.1 hm.2.2.2 hd (k a ho p e s m args below meth c H locs arr G X D hl)
def rp_Cw (own : String) (idx : Nat) : Prop := Cond.methodLink own idx arraycopyName ∈ rp_TG ∧ Cond.native arraycopyName ∈ rp_TG ∧ Cond.static arraycopyName ∈ rp_TG ∧ Cond.initialized "java/lang/System" ∈ rp_TG
theorem rp_copy {a b n na nb idx : Nat} {x : Int32} (w : rp_Cw mi.1.cls idx) (ha : rp_sh[a]? = some (.inr (0, na))) (hb : rp_sh[b]? = some (.inr (0, nb))) (hx : x.toInt = n) (h1 : n ≤ na) (h2 : n ≤ nb) (hm : 1 ≤ K.1.frames ∧ (st.map fun v => v.category).sum + (nativeFrameWords "java/lang/System" "arraycopy" 5 + 11) ≤ K.1.locals) (hd : decode mi.2.1 pc = .ok (.invokestatic idx, 3)) (k : rp_R E K mi (pc + 3) vs st (rp_cp σ a b n) h o) :
    rp_R E K mi pc vs (.int x :: .int (Int32.ofInt 0) :: .ref (E.2.2.2.1 b) :: .int (Int32.ofInt 0) :: .ref (E.2.2.2.1 a) :: st) σ h o := by
  intro z ho p e s m args below meth c H locs arr G X D hl
  have hea : (rp_wd E σ)[a]? = some (E.2.2.2.1 a, .inl (E.2.2.2.2.1 0, na, .inl (σ a))) := rp_at ha
  have heb : (rp_wd E σ)[b]? = some (E.2.2.2.1 b, .inl (E.2.2.2.2.1 0, nb, .inl (σ b))) := rp_at hb
  have hn : x.toNatClampNeg = n := by show x.toInt.toNat = n; omega
  have h0 : (Int32.ofInt 0).toNatClampNeg = 0 := by decide
  refine va_copyi G.1 G.2.1 (G.2.2.2.1.trans hl.1.symm) G.2.2.2.2.1 (G.2.2.2.2.2.1 _ w.1) (G.2.2.2.2.2.1 _ w.2.1) (G.2.2.2.2.2.1 _ w.2.2.1) (G.2.2.2.2.2.1 _ w.2.2.2) D.2.2.1 D.1 D.2.1 D.2.2.2.1 a b 0 0 (ty := .int) hea heb rfl rfl rfl (by decide) (by decide) ?_ (by rw [h0, hn]; omega) (by rw [h0, hn]; omega) (fun i _ => rfl) hm.1 hm.2 hd (fun H1 locs1 hP hD hS => ?_)
  · rw [Int32.lt_iff_toInt_lt, hx, Int32.toInt_zero]; omega
  · rw [h0, hn] at hP hD
    have hset : (rp_wd E σ).set b (E.2.2.2.1 b, .inl (E.2.2.2.2.1 0, nb, .inl (va_cpy (σ a) (σ b) 0 0 n))) = rp_wd E (rp_cp σ a b n) := by
      have e1 : va_cpy (σ a) (σ b) 0 0 n = fun j => if j < n then σ a j else σ b j := by
        funext j
        simp [va_cpy]
      rw [e1]
      exact rp_set hb rfl
    rw [hset] at hP hD
    exact k z ho p e s m args below meth c H1 locs1 arr G X ⟨hP, hD, D.2.2.1, hS, D.2.2.2.2⟩ hl
end RPM
end
