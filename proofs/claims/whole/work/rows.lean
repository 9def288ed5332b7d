section
-- ===== PART A: goes FIRST, ahead of the names: the tables' words, and 'selects' of the private methods out of them =====
/-- a private method of a class that the tables say can be made, by its rows of tables_1 -/
def lw_okq (q : MethodName × Nat) : Prop := (q.1.cls ≠ "java/lang/invoke/MethodHandle" ∧ q.1.cls ≠ "java/lang/invoke/VarHandle") ∧ Cond.instantiable q.1.cls q.2 ∈ tables_1 ∧ Cond.privateMethod q.1 ∈ tables_1 ∧ Cond.instanceMethod q.1 ∈ tables_1
theorem lw_p0 : lw_okq (⟨"IntervalAgreement", "startAnew", "(III)V"⟩, 12) := ⟨⟨by decide +kernel, by decide +kernel⟩, List.mem_of_getElem? (i := 8) (by decide +kernel), List.mem_of_getElem? (i := 60) (by decide +kernel), List.mem_of_getElem? (i := 61) (by decide +kernel)⟩
theorem lw_p1 : lw_okq (⟨"IntervalAgreement", "isNode", "(I)Z"⟩, 12) := ⟨⟨by decide +kernel, by decide +kernel⟩, List.mem_of_getElem? (i := 8) (by decide +kernel), List.mem_of_getElem? (i := 141) (by decide +kernel), List.mem_of_getElem? (i := 142) (by decide +kernel)⟩
theorem lw_p2 : lw_okq (⟨"IntervalAgreement", "readTextInto", "(LIntervalAgreement$IntervalTable;II)I"⟩, 12) := ⟨⟨by decide +kernel, by decide +kernel⟩, List.mem_of_getElem? (i := 8) (by decide +kernel), List.mem_of_getElem? (i := 145) (by decide +kernel), List.mem_of_getElem? (i := 146) (by decide +kernel)⟩
theorem lw_p3 : lw_okq (⟨"IntervalAgreement$IntervalText", "parseNumber", "(I)I"⟩, 6) := ⟨⟨by decide +kernel, by decide +kernel⟩, List.mem_of_getElem? (i := 16) (by decide +kernel), List.mem_of_getElem? (i := 153) (by decide +kernel), List.mem_of_getElem? (i := 154) (by decide +kernel)⟩
theorem lw_p4 : lw_okq (⟨"IntervalAgreement$IntervalText", "skip", "(C)Z"⟩, 6) := ⟨⟨by decide +kernel, by decide +kernel⟩, List.mem_of_getElem? (i := 16) (by decide +kernel), List.mem_of_getElem? (i := 157) (by decide +kernel), List.mem_of_getElem? (i := 158) (by decide +kernel)⟩
theorem lw_p5 : lw_okq (⟨"IntervalAgreement$IntervalText", "characterNext", "()C"⟩, 6) := ⟨⟨by decide +kernel, by decide +kernel⟩, List.mem_of_getElem? (i := 16) (by decide +kernel), List.mem_of_getElem? (i := 161) (by decide +kernel), List.mem_of_getElem? (i := 162) (by decide +kernel)⟩
theorem lw_p6 : lw_okq (⟨"IntervalAgreement$IntervalText", "parseDigits", "()J"⟩, 6) := ⟨⟨by decide +kernel, by decide +kernel⟩, List.mem_of_getElem? (i := 16) (by decide +kernel), List.mem_of_getElem? (i := 165) (by decide +kernel), List.mem_of_getElem? (i := 166) (by decide +kernel)⟩
theorem lw_p7 : lw_okq (⟨"IntervalAgreement", "areTwoNodes", "(II)Z"⟩, 12) := ⟨⟨by decide +kernel, by decide +kernel⟩, List.mem_of_getElem? (i := 8) (by decide +kernel), List.mem_of_getElem? (i := 194) (by decide +kernel), List.mem_of_getElem? (i := 195) (by decide +kernel)⟩
theorem lw_p8 : lw_okq (⟨"IntervalAgreement", "delayOf", "(II)I"⟩, 12) := ⟨⟨by decide +kernel, by decide +kernel⟩, List.mem_of_getElem? (i := 8) (by decide +kernel), List.mem_of_getElem? (i := 212) (by decide +kernel), List.mem_of_getElem? (i := 213) (by decide +kernel)⟩
theorem lw_p9 : lw_okq (⟨"IntervalAgreement", "faultyNodes", "()I"⟩, 12) := ⟨⟨by decide +kernel, by decide +kernel⟩, List.mem_of_getElem? (i := 8) (by decide +kernel), List.mem_of_getElem? (i := 224) (by decide +kernel), List.mem_of_getElem? (i := 225) (by decide +kernel)⟩
theorem lw_p10 : lw_okq (⟨"IntervalAgreement", "correctSet", "()I"⟩, 12) := ⟨⟨by decide +kernel, by decide +kernel⟩, List.mem_of_getElem? (i := 8) (by decide +kernel), List.mem_of_getElem? (i := 228) (by decide +kernel), List.mem_of_getElem? (i := 229) (by decide +kernel)⟩
theorem lw_p11 : lw_okq (⟨"IntervalAgreement", "linksWithDelay", "(I)I"⟩, 12) := ⟨⟨by decide +kernel, by decide +kernel⟩, List.mem_of_getElem? (i := 8) (by decide +kernel), List.mem_of_getElem? (i := 238) (by decide +kernel), List.mem_of_getElem? (i := 239) (by decide +kernel)⟩
theorem lw_p12 : lw_okq (⟨"IntervalAgreement", "differentValues", "()I"⟩, 12) := ⟨⟨by decide +kernel, by decide +kernel⟩, List.mem_of_getElem? (i := 8) (by decide +kernel), List.mem_of_getElem? (i := 242) (by decide +kernel), List.mem_of_getElem? (i := 243) (by decide +kernel)⟩
theorem lw_p13 : lw_okq (⟨"IntervalAgreement", "isCorrect", "(I)Z"⟩, 12) := ⟨⟨by decide +kernel, by decide +kernel⟩, List.mem_of_getElem? (i := 8) (by decide +kernel), List.mem_of_getElem? (i := 246) (by decide +kernel), List.mem_of_getElem? (i := 247) (by decide +kernel)⟩
theorem lw_p14 : lw_okq (⟨"IntervalAgreement", "isFirstHolder", "(I)Z"⟩, 12) := ⟨⟨by decide +kernel, by decide +kernel⟩, List.mem_of_getElem? (i := 8) (by decide +kernel), List.mem_of_getElem? (i := 250) (by decide +kernel), List.mem_of_getElem? (i := 251) (by decide +kernel)⟩
theorem lw_p15 : lw_okq (⟨"IntervalAgreement", "haveSameValue", "(II)Z"⟩, 12) := ⟨⟨by decide +kernel, by decide +kernel⟩, List.mem_of_getElem? (i := 8) (by decide +kernel), List.mem_of_getElem? (i := 254) (by decide +kernel), List.mem_of_getElem? (i := 255) (by decide +kernel)⟩
def lw_privs_1 : List (MethodName × Nat) := [(⟨"IntervalAgreement", "startAnew", "(III)V"⟩, 12), (⟨"IntervalAgreement", "isNode", "(I)Z"⟩, 12), (⟨"IntervalAgreement", "readTextInto", "(LIntervalAgreement$IntervalTable;II)I"⟩, 12), (⟨"IntervalAgreement$IntervalText", "parseNumber", "(I)I"⟩, 6), (⟨"IntervalAgreement$IntervalText", "skip", "(C)Z"⟩, 6), (⟨"IntervalAgreement$IntervalText", "characterNext", "()C"⟩, 6), (⟨"IntervalAgreement$IntervalText", "parseDigits", "()J"⟩, 6), (⟨"IntervalAgreement", "areTwoNodes", "(II)Z"⟩, 12), (⟨"IntervalAgreement", "delayOf", "(II)I"⟩, 12), (⟨"IntervalAgreement", "faultyNodes", "()I"⟩, 12), (⟨"IntervalAgreement", "correctSet", "()I"⟩, 12), (⟨"IntervalAgreement", "linksWithDelay", "(I)I"⟩, 12), (⟨"IntervalAgreement", "differentValues", "()I"⟩, 12), (⟨"IntervalAgreement", "isCorrect", "(I)Z"⟩, 12), (⟨"IntervalAgreement", "isFirstHolder", "(I)Z"⟩, 12), (⟨"IntervalAgreement", "haveSameValue", "(II)Z"⟩, 12)]
theorem lw_r1 : ∀ q ∈ lw_privs_1, lw_okq q := List.forall_mem_cons.mpr ⟨lw_p0, List.forall_mem_cons.mpr ⟨lw_p1, List.forall_mem_cons.mpr ⟨lw_p2, List.forall_mem_cons.mpr ⟨lw_p3, List.forall_mem_cons.mpr ⟨lw_p4, List.forall_mem_cons.mpr ⟨lw_p5, List.forall_mem_cons.mpr ⟨lw_p6, List.forall_mem_cons.mpr ⟨lw_p7, List.forall_mem_cons.mpr ⟨lw_p8, List.forall_mem_cons.mpr ⟨lw_p9, List.forall_mem_cons.mpr ⟨lw_p10, List.forall_mem_cons.mpr ⟨lw_p11, List.forall_mem_cons.mpr ⟨lw_p12, List.forall_mem_cons.mpr ⟨lw_p13, List.forall_mem_cons.mpr ⟨lw_p14, List.forall_mem_cons.mpr ⟨lw_p15, fun _ h => absurd h List.not_mem_nil⟩⟩⟩⟩⟩⟩⟩⟩⟩⟩⟩⟩⟩⟩⟩⟩
theorem lw_p16 : lw_okq (⟨"IntervalAgreement", "carryOut", "(I)V"⟩, 12) := ⟨⟨by decide +kernel, by decide +kernel⟩, List.mem_of_getElem? (i := 8) (by decide +kernel), List.mem_of_getElem? (i := 270) (by decide +kernel), List.mem_of_getElem? (i := 271) (by decide +kernel)⟩
theorem lw_p17 : lw_okq (⟨"IntervalAgreement", "nextEnd", "(IZ)J"⟩, 12) := ⟨⟨by decide +kernel, by decide +kernel⟩, List.mem_of_getElem? (i := 8) (by decide +kernel), List.mem_of_getElem? (i := 274) (by decide +kernel), List.mem_of_getElem? (i := 275) (by decide +kernel)⟩
theorem lw_p18 : lw_okq (⟨"IntervalAgreement", "collectRest", "(IZ)I"⟩, 12) := ⟨⟨by decide +kernel, by decide +kernel⟩, List.mem_of_getElem? (i := 8) (by decide +kernel), List.mem_of_getElem? (i := 278) (by decide +kernel), List.mem_of_getElem? (i := 279) (by decide +kernel)⟩
theorem lw_p19 : lw_okq (⟨"IntervalAgreement", "sentEnd", "(IIZ)J"⟩, 12) := ⟨⟨by decide +kernel, by decide +kernel⟩, List.mem_of_getElem? (i := 8) (by decide +kernel), List.mem_of_getElem? (i := 282) (by decide +kernel), List.mem_of_getElem? (i := 283) (by decide +kernel)⟩
theorem lw_p20 : lw_okq (⟨"IntervalAgreement", "insertAscending", "(JI)V"⟩, 12) := ⟨⟨by decide +kernel, by decide +kernel⟩, List.mem_of_getElem? (i := 8) (by decide +kernel), List.mem_of_getElem? (i := 300) (by decide +kernel), List.mem_of_getElem? (i := 301) (by decide +kernel)⟩
theorem lw_p21 : lw_okq (⟨"IntervalAgreement", "combined", "(I)J"⟩, 12) := ⟨⟨by decide +kernel, by decide +kernel⟩, List.mem_of_getElem? (i := 8) (by decide +kernel), List.mem_of_getElem? (i := 304) (by decide +kernel), List.mem_of_getElem? (i := 305) (by decide +kernel)⟩
theorem lw_p22 : lw_okq (⟨"IntervalAgreement", "restAt", "(I)J"⟩, 12) := ⟨⟨by decide +kernel, by decide +kernel⟩, List.mem_of_getElem? (i := 8) (by decide +kernel), List.mem_of_getElem? (i := 308) (by decide +kernel), List.mem_of_getElem? (i := 309) (by decide +kernel)⟩
theorem lw_p23 : lw_okq (⟨"IntervalAgreement", "meanOfEvery", "(II)J"⟩, 12) := ⟨⟨by decide +kernel, by decide +kernel⟩, List.mem_of_getElem? (i := 8) (by decide +kernel), List.mem_of_getElem? (i := 316) (by decide +kernel), List.mem_of_getElem? (i := 317) (by decide +kernel)⟩
theorem lw_p24 : lw_okq (⟨"IntervalAgreement", "carryOutUntil", "(III)I"⟩, 12) := ⟨⟨by decide +kernel, by decide +kernel⟩, List.mem_of_getElem? (i := 8) (by decide +kernel), List.mem_of_getElem? (i := 327) (by decide +kernel), List.mem_of_getElem? (i := 328) (by decide +kernel)⟩
theorem lw_p25 : lw_okq (⟨"IntervalAgreement", "isWidthAtMost", "(JJ)Z"⟩, 12) := ⟨⟨by decide +kernel, by decide +kernel⟩, List.mem_of_getElem? (i := 8) (by decide +kernel), List.mem_of_getElem? (i := 331) (by decide +kernel), List.mem_of_getElem? (i := 332) (by decide +kernel)⟩
theorem lw_p26 : lw_okq (⟨"IntervalAgreement", "widthAfter", "(I)J"⟩, 12) := ⟨⟨by decide +kernel, by decide +kernel⟩, List.mem_of_getElem? (i := 8) (by decide +kernel), List.mem_of_getElem? (i := 335) (by decide +kernel), List.mem_of_getElem? (i := 336) (by decide +kernel)⟩
theorem lw_p27 : lw_okq (⟨"IntervalAgreement", "asFraction", "(JZ)J"⟩, 12) := ⟨⟨by decide +kernel, by decide +kernel⟩, List.mem_of_getElem? (i := 8) (by decide +kernel), List.mem_of_getElem? (i := 348) (by decide +kernel), List.mem_of_getElem? (i := 349) (by decide +kernel)⟩
theorem lw_p28 : lw_okq (⟨"IntervalAgreement", "holdersOfValueOf", "(I)I"⟩, 12) := ⟨⟨by decide +kernel, by decide +kernel⟩, List.mem_of_getElem? (i := 8) (by decide +kernel), List.mem_of_getElem? (i := 377) (by decide +kernel), List.mem_of_getElem? (i := 378) (by decide +kernel)⟩
theorem lw_p29 : lw_okq (⟨"IntervalAgreement", "isGuaranteed", "()Z"⟩, 12) := ⟨⟨by decide +kernel, by decide +kernel⟩, List.mem_of_getElem? (i := 8) (by decide +kernel), List.mem_of_getElem? (i := 393) (by decide +kernel), List.mem_of_getElem? (i := 394) (by decide +kernel)⟩
theorem lw_p30 : lw_okq (⟨"IntervalAgreement", "widthInFuture", "(I)J"⟩, 12) := ⟨⟨by decide +kernel, by decide +kernel⟩, List.mem_of_getElem? (i := 8) (by decide +kernel), List.mem_of_getElem? (i := 414) (by decide +kernel), List.mem_of_getElem? (i := 415) (by decide +kernel)⟩
theorem lw_p31 : lw_okq (⟨"IntervalAgreementModel", "begin", "(III)V"⟩, 20) := ⟨⟨by decide +kernel, by decide +kernel⟩, List.mem_of_getElem? (i := 423) (by decide +kernel), List.mem_of_getElem? (i := 430) (by decide +kernel), List.mem_of_getElem? (i := 431) (by decide +kernel)⟩
def lw_privs_2 : List (MethodName × Nat) := [(⟨"IntervalAgreement", "carryOut", "(I)V"⟩, 12), (⟨"IntervalAgreement", "nextEnd", "(IZ)J"⟩, 12), (⟨"IntervalAgreement", "collectRest", "(IZ)I"⟩, 12), (⟨"IntervalAgreement", "sentEnd", "(IIZ)J"⟩, 12), (⟨"IntervalAgreement", "insertAscending", "(JI)V"⟩, 12), (⟨"IntervalAgreement", "combined", "(I)J"⟩, 12), (⟨"IntervalAgreement", "restAt", "(I)J"⟩, 12), (⟨"IntervalAgreement", "meanOfEvery", "(II)J"⟩, 12), (⟨"IntervalAgreement", "carryOutUntil", "(III)I"⟩, 12), (⟨"IntervalAgreement", "isWidthAtMost", "(JJ)Z"⟩, 12), (⟨"IntervalAgreement", "widthAfter", "(I)J"⟩, 12), (⟨"IntervalAgreement", "asFraction", "(JZ)J"⟩, 12), (⟨"IntervalAgreement", "holdersOfValueOf", "(I)I"⟩, 12), (⟨"IntervalAgreement", "isGuaranteed", "()Z"⟩, 12), (⟨"IntervalAgreement", "widthInFuture", "(I)J"⟩, 12), (⟨"IntervalAgreementModel", "begin", "(III)V"⟩, 20)]
theorem lw_r2 : ∀ q ∈ lw_privs_2, lw_okq q := List.forall_mem_cons.mpr ⟨lw_p16, List.forall_mem_cons.mpr ⟨lw_p17, List.forall_mem_cons.mpr ⟨lw_p18, List.forall_mem_cons.mpr ⟨lw_p19, List.forall_mem_cons.mpr ⟨lw_p20, List.forall_mem_cons.mpr ⟨lw_p21, List.forall_mem_cons.mpr ⟨lw_p22, List.forall_mem_cons.mpr ⟨lw_p23, List.forall_mem_cons.mpr ⟨lw_p24, List.forall_mem_cons.mpr ⟨lw_p25, List.forall_mem_cons.mpr ⟨lw_p26, List.forall_mem_cons.mpr ⟨lw_p27, List.forall_mem_cons.mpr ⟨lw_p28, List.forall_mem_cons.mpr ⟨lw_p29, List.forall_mem_cons.mpr ⟨lw_p30, List.forall_mem_cons.mpr ⟨lw_p31, fun _ h => absurd h List.not_mem_nil⟩⟩⟩⟩⟩⟩⟩⟩⟩⟩⟩⟩⟩⟩⟩⟩
theorem lw_p32 : lw_okq (⟨"IntervalAgreementModel", "noNode", "(I)Z"⟩, 20) := ⟨⟨by decide +kernel, by decide +kernel⟩, List.mem_of_getElem? (i := 423) (by decide +kernel), List.mem_of_getElem? (i := 518) (by decide +kernel), List.mem_of_getElem? (i := 519) (by decide +kernel)⟩
theorem lw_p33 : lw_okq (⟨"IntervalAgreementModel", "readInterval", "()I"⟩, 20) := ⟨⟨by decide +kernel, by decide +kernel⟩, List.mem_of_getElem? (i := 423) (by decide +kernel), List.mem_of_getElem? (i := 522) (by decide +kernel), List.mem_of_getElem? (i := 523) (by decide +kernel)⟩
theorem lw_p34 : lw_okq (⟨"IntervalAgreementModel", "readNumber", "(J)J"⟩, 20) := ⟨⟨by decide +kernel, by decide +kernel⟩, List.mem_of_getElem? (i := 423) (by decide +kernel), List.mem_of_getElem? (i := 527) (by decide +kernel), List.mem_of_getElem? (i := 528) (by decide +kernel)⟩
theorem lw_p35 : lw_okq (⟨"IntervalAgreementModel", "isAt", "(C)Z"⟩, 20) := ⟨⟨by decide +kernel, by decide +kernel⟩, List.mem_of_getElem? (i := 423) (by decide +kernel), List.mem_of_getElem? (i := 531) (by decide +kernel), List.mem_of_getElem? (i := 532) (by decide +kernel)⟩
theorem lw_p36 : lw_okq (⟨"IntervalAgreementModel", "readDigits", "()J"⟩, 20) := ⟨⟨by decide +kernel, by decide +kernel⟩, List.mem_of_getElem? (i := 423) (by decide +kernel), List.mem_of_getElem? (i := 535) (by decide +kernel), List.mem_of_getElem? (i := 536) (by decide +kernel)⟩
theorem lw_p37 : lw_okq (⟨"IntervalAgreementModel", "isDigit", "()Z"⟩, 20) := ⟨⟨by decide +kernel, by decide +kernel⟩, List.mem_of_getElem? (i := 423) (by decide +kernel), List.mem_of_getElem? (i := 539) (by decide +kernel), List.mem_of_getElem? (i := 540) (by decide +kernel)⟩
theorem lw_p38 : lw_okq (⟨"IntervalAgreementModel", "noPair", "(II)Z"⟩, 20) := ⟨⟨by decide +kernel, by decide +kernel⟩, List.mem_of_getElem? (i := 423) (by decide +kernel), List.mem_of_getElem? (i := 549) (by decide +kernel), List.mem_of_getElem? (i := 550) (by decide +kernel)⟩
theorem lw_p39 : lw_okq (⟨"IntervalAgreementModel", "isCorrect", "(I)Z"⟩, 20) := ⟨⟨by decide +kernel, by decide +kernel⟩, List.mem_of_getElem? (i := 423) (by decide +kernel), List.mem_of_getElem? (i := 575) (by decide +kernel), List.mem_of_getElem? (i := 576) (by decide +kernel)⟩
theorem lw_p40 : lw_okq (⟨"IntervalAgreementModel", "sameBelow", "(II)I"⟩, 20) := ⟨⟨by decide +kernel, by decide +kernel⟩, List.mem_of_getElem? (i := 423) (by decide +kernel), List.mem_of_getElem? (i := 579) (by decide +kernel), List.mem_of_getElem? (i := 580) (by decide +kernel)⟩
theorem lw_p41 : lw_okq (⟨"IntervalAgreementModel", "areSame", "(II)Z"⟩, 20) := ⟨⟨by decide +kernel, by decide +kernel⟩, List.mem_of_getElem? (i := 423) (by decide +kernel), List.mem_of_getElem? (i := 583) (by decide +kernel), List.mem_of_getElem? (i := 584) (by decide +kernel)⟩
theorem lw_p42 : lw_okq (⟨"IntervalAgreementModel", "end", "(III)J"⟩, 20) := ⟨⟨by decide +kernel, by decide +kernel⟩, List.mem_of_getElem? (i := 423) (by decide +kernel), List.mem_of_getElem? (i := 587) (by decide +kernel), List.mem_of_getElem? (i := 588) (by decide +kernel)⟩
theorem lw_p43 : lw_okq (⟨"IntervalAgreementModel", "faulty", "()I"⟩, 20) := ⟨⟨by decide +kernel, by decide +kernel⟩, List.mem_of_getElem? (i := 423) (by decide +kernel), List.mem_of_getElem? (i := 591) (by decide +kernel), List.mem_of_getElem? (i := 592) (by decide +kernel)⟩
theorem lw_p44 : lw_okq (⟨"IntervalAgreementModel", "links", "()I"⟩, 20) := ⟨⟨by decide +kernel, by decide +kernel⟩, List.mem_of_getElem? (i := 423) (by decide +kernel), List.mem_of_getElem? (i := 595) (by decide +kernel), List.mem_of_getElem? (i := 596) (by decide +kernel)⟩
theorem lw_p45 : lw_okq (⟨"IntervalAgreementModel", "round", "()V"⟩, 20) := ⟨⟨by decide +kernel, by decide +kernel⟩, List.mem_of_getElem? (i := 423) (by decide +kernel), List.mem_of_getElem? (i := 608) (by decide +kernel), List.mem_of_getElem? (i := 609) (by decide +kernel)⟩
theorem lw_p46 : lw_okq (⟨"IntervalAgreementModel", "gather", "(II)V"⟩, 20) := ⟨⟨by decide +kernel, by decide +kernel⟩, List.mem_of_getElem? (i := 423) (by decide +kernel), List.mem_of_getElem? (i := 612) (by decide +kernel), List.mem_of_getElem? (i := 613) (by decide +kernel)⟩
theorem lw_p47 : lw_okq (⟨"IntervalAgreementModel", "isSent", "(II)Z"⟩, 20) := ⟨⟨by decide +kernel, by decide +kernel⟩, List.mem_of_getElem? (i := 423) (by decide +kernel), List.mem_of_getElem? (i := 616) (by decide +kernel), List.mem_of_getElem? (i := 617) (by decide +kernel)⟩
def lw_privs_3 : List (MethodName × Nat) := [(⟨"IntervalAgreementModel", "noNode", "(I)Z"⟩, 20), (⟨"IntervalAgreementModel", "readInterval", "()I"⟩, 20), (⟨"IntervalAgreementModel", "readNumber", "(J)J"⟩, 20), (⟨"IntervalAgreementModel", "isAt", "(C)Z"⟩, 20), (⟨"IntervalAgreementModel", "readDigits", "()J"⟩, 20), (⟨"IntervalAgreementModel", "isDigit", "()Z"⟩, 20), (⟨"IntervalAgreementModel", "noPair", "(II)Z"⟩, 20), (⟨"IntervalAgreementModel", "isCorrect", "(I)Z"⟩, 20), (⟨"IntervalAgreementModel", "sameBelow", "(II)I"⟩, 20), (⟨"IntervalAgreementModel", "areSame", "(II)Z"⟩, 20), (⟨"IntervalAgreementModel", "end", "(III)J"⟩, 20), (⟨"IntervalAgreementModel", "faulty", "()I"⟩, 20), (⟨"IntervalAgreementModel", "links", "()I"⟩, 20), (⟨"IntervalAgreementModel", "round", "()V"⟩, 20), (⟨"IntervalAgreementModel", "gather", "(II)V"⟩, 20), (⟨"IntervalAgreementModel", "isSent", "(II)Z"⟩, 20)]
theorem lw_r3 : ∀ q ∈ lw_privs_3, lw_okq q := List.forall_mem_cons.mpr ⟨lw_p32, List.forall_mem_cons.mpr ⟨lw_p33, List.forall_mem_cons.mpr ⟨lw_p34, List.forall_mem_cons.mpr ⟨lw_p35, List.forall_mem_cons.mpr ⟨lw_p36, List.forall_mem_cons.mpr ⟨lw_p37, List.forall_mem_cons.mpr ⟨lw_p38, List.forall_mem_cons.mpr ⟨lw_p39, List.forall_mem_cons.mpr ⟨lw_p40, List.forall_mem_cons.mpr ⟨lw_p41, List.forall_mem_cons.mpr ⟨lw_p42, List.forall_mem_cons.mpr ⟨lw_p43, List.forall_mem_cons.mpr ⟨lw_p44, List.forall_mem_cons.mpr ⟨lw_p45, List.forall_mem_cons.mpr ⟨lw_p46, List.forall_mem_cons.mpr ⟨lw_p47, fun _ h => absurd h List.not_mem_nil⟩⟩⟩⟩⟩⟩⟩⟩⟩⟩⟩⟩⟩⟩⟩⟩
theorem lw_p48 : lw_okq (⟨"IntervalAgreementModel", "sent", "(III)J"⟩, 20) := ⟨⟨by decide +kernel, by decide +kernel⟩, List.mem_of_getElem? (i := 423) (by decide +kernel), List.mem_of_getElem? (i := 620) (by decide +kernel), List.mem_of_getElem? (i := 621) (by decide +kernel)⟩
theorem lw_p49 : lw_okq (⟨"IntervalAgreementModel", "outermost", "(II)J"⟩, 20) := ⟨⟨by decide +kernel, by decide +kernel⟩, List.mem_of_getElem? (i := 423) (by decide +kernel), List.mem_of_getElem? (i := 624) (by decide +kernel), List.mem_of_getElem? (i := 625) (by decide +kernel)⟩
theorem lw_p50 : lw_okq (⟨"IntervalAgreementModel", "combined", "()J"⟩, 20) := ⟨⟨by decide +kernel, by decide +kernel⟩, List.mem_of_getElem? (i := 423) (by decide +kernel), List.mem_of_getElem? (i := 629) (by decide +kernel), List.mem_of_getElem? (i := 630) (by decide +kernel)⟩
theorem lw_p51 : lw_okq (⟨"IntervalAgreementModel", "goTo", "(III)I"⟩, 20) := ⟨⟨by decide +kernel, by decide +kernel⟩, List.mem_of_getElem? (i := 423) (by decide +kernel), List.mem_of_getElem? (i := 643) (by decide +kernel), List.mem_of_getElem? (i := 644) (by decide +kernel)⟩
theorem lw_p52 : lw_okq (⟨"IntervalAgreementModel", "widthOf", "(I)J"⟩, 20) := ⟨⟨by decide +kernel, by decide +kernel⟩, List.mem_of_getElem? (i := 423) (by decide +kernel), List.mem_of_getElem? (i := 647) (by decide +kernel), List.mem_of_getElem? (i := 648) (by decide +kernel)⟩
theorem lw_p53 : lw_okq (⟨"IntervalAgreementModel", "noReceiver", "(I)Z"⟩, 20) := ⟨⟨by decide +kernel, by decide +kernel⟩, List.mem_of_getElem? (i := 423) (by decide +kernel), List.mem_of_getElem? (i := 677) (by decide +kernel), List.mem_of_getElem? (i := 678) (by decide +kernel)⟩
theorem lw_p54 : lw_okq (⟨"IntervalAgreementModel", "widthAfter", "(I)J"⟩, 20) := ⟨⟨by decide +kernel, by decide +kernel⟩, List.mem_of_getElem? (i := 423) (by decide +kernel), List.mem_of_getElem? (i := 717) (by decide +kernel), List.mem_of_getElem? (i := 718) (by decide +kernel)⟩
def lw_privs_4 : List (MethodName × Nat) := [(⟨"IntervalAgreementModel", "sent", "(III)J"⟩, 20), (⟨"IntervalAgreementModel", "outermost", "(II)J"⟩, 20), (⟨"IntervalAgreementModel", "combined", "()J"⟩, 20), (⟨"IntervalAgreementModel", "goTo", "(III)I"⟩, 20), (⟨"IntervalAgreementModel", "widthOf", "(I)J"⟩, 20), (⟨"IntervalAgreementModel", "noReceiver", "(I)Z"⟩, 20), (⟨"IntervalAgreementModel", "widthAfter", "(I)J"⟩, 20)]
theorem lw_r4 : ∀ q ∈ lw_privs_4, lw_okq q := List.forall_mem_cons.mpr ⟨lw_p48, List.forall_mem_cons.mpr ⟨lw_p49, List.forall_mem_cons.mpr ⟨lw_p50, List.forall_mem_cons.mpr ⟨lw_p51, List.forall_mem_cons.mpr ⟨lw_p52, List.forall_mem_cons.mpr ⟨lw_p53, List.forall_mem_cons.mpr ⟨lw_p54, fun _ h => absurd h List.not_mem_nil⟩⟩⟩⟩⟩⟩⟩
def lw_privs : List (MethodName × Nat) := lw_privs_1 ++ (lw_privs_2 ++ (lw_privs_3 ++ (lw_privs_4)))
def lw_tbl : List Cond := k2_sels lw_privs ++ tables_1
theorem lw_privs_ok : ∀ q ∈ lw_privs, lw_okq q := by
  show ∀ q ∈ lw_privs_1 ++ (lw_privs_2 ++ (lw_privs_3 ++ (lw_privs_4))), lw_okq q
  exact List.forall_mem_append.mpr ⟨lw_r1, List.forall_mem_append.mpr ⟨lw_r2, List.forall_mem_append.mpr ⟨lw_r3, lw_r4⟩⟩⟩
end
section
def RX0 : String := "IntervalAgreement$IntervalTable"
def TX0 : u_T := fun k => match k with
  | 0 => ("IntervalAgreement$IntervalTable", "columns", "I", true)
  | 1 => ("IntervalAgreement$IntervalTable", "lows", "[J", true)
  | _ => ("IntervalAgreement$IntervalTable", "highs", "[J", true)
def tyX0 : Nat → FieldType := fun k => match k with
  | 0 => .int
  | 1 => .array .long
  | _ => .array .long
abbrev wsX00 : List Cond := u_ws RX0 TX0 3
theorem nmX0 : ∀ a, a < 3 → ∀ b, b < 3 → a ≠ b → (TX0 a).2.1 ≠ (TX0 b).2.1 := by decide +kernel
theorem tyX0_ok : ∀ k, k < 3 → parseFieldDescriptor (TX0 k).2.2.1 = some (tyX0 k) := by decide +kernel
abbrev cX0_init : ByteArray := prog_2_method_1_code
def yX0_init : MethodName := ⟨RX0, "<init>", "(II)V"⟩
abbrev cX0_end : ByteArray := prog_2_method_2_code
def yX0_end : MethodName := ⟨RX0, "end", "(IIZ)J"⟩
abbrev cX0_put : ByteArray := prog_2_method_3_code
def yX0_put : MethodName := ⟨RX0, "put", "(IIJJ)V"⟩
abbrev cX0_extremeEnd : ByteArray := prog_2_method_4_code
def yX0_extremeEnd : MethodName := ⟨RX0, "extremeEnd", "(IIZZ)J"⟩
abbrev cX0_clearRow : ByteArray := prog_2_method_5_code
def yX0_clearRow : MethodName := ⟨RX0, "clearRow", "(I)V"⟩
def RX1 : String := "IntervalAgreement$IntervalText"
def TX1 : u_T := fun k => match k with
  | 0 => ("IntervalAgreement$IntervalText", "characters", "[C", true)
  | 1 => ("IntervalAgreement$IntervalText", "length", "I", false)
  | 2 => ("IntervalAgreement$IntervalText", "position", "I", false)
  | 3 => ("IntervalAgreement$IntervalText", "number", "J", false)
  | 4 => ("IntervalAgreement$IntervalText", "low", "J", false)
  | _ => ("IntervalAgreement$IntervalText", "high", "J", false)
def tyX1 : Nat → FieldType := fun k => match k with
  | 0 => .array .char
  | 1 => .int
  | 2 => .int
  | 3 => .long
  | 4 => .long
  | _ => .long
abbrev wsX10 : List Cond := u_ws RX1 TX1 6
theorem nmX1 : ∀ a, a < 6 → ∀ b, b < 6 → a ≠ b → (TX1 a).2.1 ≠ (TX1 b).2.1 := by decide +kernel
theorem tyX1_ok : ∀ k, k < 6 → parseFieldDescriptor (TX1 k).2.2.1 = some (tyX1 k) := by decide +kernel
abbrev cX1_init : ByteArray := prog_3_method_1_code
def yX1_init : MethodName := ⟨RX1, "<init>", "()V"⟩
abbrev cX1_append : ByteArray := prog_3_method_2_code
def yX1_append : MethodName := ⟨RX1, "append", "(C)Z"⟩
abbrev cX1_empty : ByteArray := prog_3_method_3_code
def yX1_empty : MethodName := ⟨RX1, "empty", "()I"⟩
abbrev cX1_size : ByteArray := prog_3_method_4_code
def yX1_size : MethodName := ⟨RX1, "size", "()I"⟩
abbrev cX1_parsedLow : ByteArray := prog_3_method_5_code
def yX1_parsedLow : MethodName := ⟨RX1, "parsedLow", "()J"⟩
abbrev cX1_parsedHigh : ByteArray := prog_3_method_6_code
def yX1_parsedHigh : MethodName := ⟨RX1, "parsedHigh", "()J"⟩
abbrev cX1_parse : ByteArray := prog_3_method_7_code
def yX1_parse : MethodName := ⟨RX1, "parse", "(I)I"⟩
abbrev cX1_parseNumber : ByteArray := prog_3_method_8_code
def yX1_parseNumber : MethodName := ⟨RX1, "parseNumber", "(I)I"⟩
abbrev cX1_parseDigits : ByteArray := prog_3_method_9_code
def yX1_parseDigits : MethodName := ⟨RX1, "parseDigits", "()J"⟩
abbrev cX1_isDigit : ByteArray := prog_3_method_10_code
def yX1_isDigit : MethodName := ⟨RX1, "isDigit", "(C)Z"⟩
abbrev cX1_skip : ByteArray := prog_3_method_11_code
def yX1_skip : MethodName := ⟨RX1, "skip", "(C)Z"⟩
abbrev cX1_characterNext : ByteArray := prog_3_method_12_code
def yX1_characterNext : MethodName := ⟨RX1, "characterNext", "()C"⟩
def RX2 : String := "IntervalAgreement"
def TX2 : u_T := fun k => match k with
  | 0 => ("IntervalAgreement", "text", "LIntervalAgreement$IntervalText;", true)
  | 1 => ("IntervalAgreement", "values", "LIntervalAgreement$IntervalTable;", true)
  | 2 => ("IntervalAgreement", "lies", "LIntervalAgreement$IntervalTable;", true)
  | 3 => ("IntervalAgreement", "delays", "[I", true)
  | 4 => ("IntervalAgreement", "strategies", "[I", true)
  | 5 => ("IntervalAgreement", "amounts", "[J", true)
  | 6 => ("IntervalAgreement", "ascending", "[J", true)
  | 7 => ("IntervalAgreement", "nodeCount", "I", false)
  | 8 => ("IntervalAgreement", "trimCount", "I", false)
  | 9 => ("IntervalAgreement", "gridSize", "I", false)
  | 10 => ("IntervalAgreement", "roundCount", "I", false)
  | _ => ("IntervalAgreement", "ruleNumber", "I", false)
def tyX2 : Nat → FieldType := fun k => match k with
  | 0 => .object "IntervalAgreement$IntervalText"
  | 1 => .object "IntervalAgreement$IntervalTable"
  | 2 => .object "IntervalAgreement$IntervalTable"
  | 3 => .array .int
  | 4 => .array .int
  | 5 => .array .long
  | 6 => .array .long
  | 7 => .int
  | 8 => .int
  | 9 => .int
  | 10 => .int
  | _ => .int
abbrev wsX20 : List Cond := u_ws RX2 TX2 12
theorem nmX2 : ∀ a, a < 12 → ∀ b, b < 12 → a ≠ b → (TX2 a).2.1 ≠ (TX2 b).2.1 := by decide +kernel
theorem tyX2_ok : ∀ k, k < 12 → parseFieldDescriptor (TX2 k).2.2.1 = some (tyX2 k) := by decide +kernel
abbrev cX2_init : ByteArray := prog_1_method_1_code
def yX2_init : MethodName := ⟨RX2, "<init>", "()V"⟩
abbrev cX2_reset : ByteArray := prog_1_method_2_code
def yX2_reset : MethodName := ⟨RX2, "reset", "(III)I"⟩
abbrev cX2_type : ByteArray := prog_1_method_3_code
def yX2_type : MethodName := ⟨RX2, "type", "(C)I"⟩
abbrev cX2_clearText : ByteArray := prog_1_method_4_code
def yX2_clearText : MethodName := ⟨RX2, "clearText", "()I"⟩
abbrev cX2_readInput : ByteArray := prog_1_method_5_code
def yX2_readInput : MethodName := ⟨RX2, "readInput", "(I)I"⟩
abbrev cX2_readLie : ByteArray := prog_1_method_6_code
def yX2_readLie : MethodName := ⟨RX2, "readLie", "(II)I"⟩
abbrev cX2_setFaulty : ByteArray := prog_1_method_7_code
def yX2_setFaulty : MethodName := ⟨RX2, "setFaulty", "(IIII)I"⟩
abbrev cX2_setCorrect : ByteArray := prog_1_method_8_code
def yX2_setCorrect : MethodName := ⟨RX2, "setCorrect", "(I)I"⟩
abbrev cX2_setLink : ByteArray := prog_1_method_9_code
def yX2_setLink : MethodName := ⟨RX2, "setLink", "(III)I"⟩
abbrev cX2_setRule : ByteArray := prog_1_method_10_code
def yX2_setRule : MethodName := ⟨RX2, "setRule", "(I)I"⟩
abbrev cX2_count : ByteArray := prog_1_method_11_code
def yX2_count : MethodName := ⟨RX2, "count", "(I)I"⟩
abbrev cX2_strategy : ByteArray := prog_1_method_12_code
def yX2_strategy : MethodName := ⟨RX2, "strategy", "(I)I"⟩
abbrev cX2_run : ByteArray := prog_1_method_13_code
def yX2_run : MethodName := ⟨RX2, "run", "(I)I"⟩
abbrev cX2_runTo : ByteArray := prog_1_method_14_code
def yX2_runTo : MethodName := ⟨RX2, "runTo", "(III)I"⟩
abbrev cX2_back : ByteArray := prog_1_method_15_code
def yX2_back : MethodName := ⟨RX2, "back", "(I)I"⟩
abbrev cX2_value : ByteArray := prog_1_method_16_code
def yX2_value : MethodName := ⟨RX2, "value", "(IIZZ)J"⟩
abbrev cX2_input : ByteArray := prog_1_method_17_code
def yX2_input : MethodName := ⟨RX2, "input", "(IZZ)J"⟩
abbrev cX2_received : ByteArray := prog_1_method_18_code
def yX2_received : MethodName := ⟨RX2, "received", "(IIZZ)J"⟩
abbrev cX2_rest : ByteArray := prog_1_method_19_code
def yX2_rest : MethodName := ⟨RX2, "rest", "(IIZZ)J"⟩
abbrev cX2_mostFrequent : ByteArray := prog_1_method_20_code
def yX2_mostFrequent : MethodName := ⟨RX2, "mostFrequent", "(I)I"⟩
abbrev cX2_width : ByteArray := prog_1_method_21_code
def yX2_width : MethodName := ⟨RX2, "width", "(IZ)J"⟩
abbrev cX2_rate : ByteArray := prog_1_method_22_code
def yX2_rate : MethodName := ⟨RX2, "rate", "(IZ)J"⟩
abbrev cX2_guarantee : ByteArray := prog_1_method_23_code
def yX2_guarantee : MethodName := ⟨RX2, "guarantee", "(Z)J"⟩
abbrev cX2_hull : ByteArray := prog_1_method_24_code
def yX2_hull : MethodName := ⟨RX2, "hull", "(ZZ)J"⟩
abbrev cX2_outside : ByteArray := prog_1_method_25_code
def yX2_outside : MethodName := ⟨RX2, "outside", "()I"⟩
abbrev cX2_roundsTo : ByteArray := prog_1_method_26_code
def yX2_roundsTo : MethodName := ⟨RX2, "roundsTo", "(III)I"⟩
abbrev cX2_worstStrategy : ByteArray := prog_1_method_27_code
def yX2_worstStrategy : MethodName := ⟨RX2, "worstStrategy", "(II)I"⟩
abbrev cX2_bestRule : ByteArray := prog_1_method_28_code
def yX2_bestRule : MethodName := ⟨RX2, "bestRule", "(I)I"⟩
abbrev cX2_startAnew : ByteArray := prog_1_method_29_code
def yX2_startAnew : MethodName := ⟨RX2, "startAnew", "(III)V"⟩
abbrev cX2_readTextInto : ByteArray := prog_1_method_30_code
def yX2_readTextInto : MethodName := ⟨RX2, "readTextInto", "(LIntervalAgreement$IntervalTable;II)I"⟩
abbrev cX2_isWithin : ByteArray := prog_1_method_31_code
def yX2_isWithin : MethodName := ⟨RX2, "isWithin", "(III)Z"⟩
abbrev cX2_isNode : ByteArray := prog_1_method_32_code
def yX2_isNode : MethodName := ⟨RX2, "isNode", "(I)Z"⟩
abbrev cX2_areTwoNodes : ByteArray := prog_1_method_33_code
def yX2_areTwoNodes : MethodName := ⟨RX2, "areTwoNodes", "(II)Z"⟩
abbrev cX2_isCorrect : ByteArray := prog_1_method_34_code
def yX2_isCorrect : MethodName := ⟨RX2, "isCorrect", "(I)Z"⟩
abbrev cX2_isWidthGoal : ByteArray := prog_1_method_35_code
def yX2_isWidthGoal : MethodName := ⟨RX2, "isWidthGoal", "(III)Z"⟩
abbrev cX2_isOnGrid : ByteArray := prog_1_method_36_code
def yX2_isOnGrid : MethodName := ⟨RX2, "isOnGrid", "(JJJ)Z"⟩
abbrev cX2_inUnits : ByteArray := prog_1_method_37_code
def yX2_inUnits : MethodName := ⟨RX2, "inUnits", "(JJJ)J"⟩
abbrev cX2_asFraction : ByteArray := prog_1_method_38_code
def yX2_asFraction : MethodName := ⟨RX2, "asFraction", "(JZ)J"⟩
abbrev cX2_inLowestTerms : ByteArray := prog_1_method_39_code
def yX2_inLowestTerms : MethodName := ⟨RX2, "inLowestTerms", "(JJZ)J"⟩
abbrev cX2_greatestCommonDivisor : ByteArray := prog_1_method_40_code
def yX2_greatestCommonDivisor : MethodName := ⟨RX2, "greatestCommonDivisor", "(JJ)J"⟩
abbrev cX2_correctSet : ByteArray := prog_1_method_41_code
def yX2_correctSet : MethodName := ⟨RX2, "correctSet", "()I"⟩
abbrev cX2_faultyNodes : ByteArray := prog_1_method_42_code
def yX2_faultyNodes : MethodName := ⟨RX2, "faultyNodes", "()I"⟩
abbrev cX2_delayOf : ByteArray := prog_1_method_43_code
def yX2_delayOf : MethodName := ⟨RX2, "delayOf", "(II)I"⟩
abbrev cX2_linksWithDelay : ByteArray := prog_1_method_44_code
def yX2_linksWithDelay : MethodName := ⟨RX2, "linksWithDelay", "(I)I"⟩
abbrev cX2_haveSameValue : ByteArray := prog_1_method_45_code
def yX2_haveSameValue : MethodName := ⟨RX2, "haveSameValue", "(II)Z"⟩
abbrev cX2_holdersOfValueOf : ByteArray := prog_1_method_46_code
def yX2_holdersOfValueOf : MethodName := ⟨RX2, "holdersOfValueOf", "(I)I"⟩
abbrev cX2_differentValues : ByteArray := prog_1_method_47_code
def yX2_differentValues : MethodName := ⟨RX2, "differentValues", "()I"⟩
abbrev cX2_isFirstHolder : ByteArray := prog_1_method_48_code
def yX2_isFirstHolder : MethodName := ⟨RX2, "isFirstHolder", "(I)Z"⟩
abbrev cX2_widthAfter : ByteArray := prog_1_method_49_code
def yX2_widthAfter : MethodName := ⟨RX2, "widthAfter", "(I)J"⟩
abbrev cX2_isGuaranteed : ByteArray := prog_1_method_50_code
def yX2_isGuaranteed : MethodName := ⟨RX2, "isGuaranteed", "()Z"⟩
abbrev cX2_sentEnd : ByteArray := prog_1_method_51_code
def yX2_sentEnd : MethodName := ⟨RX2, "sentEnd", "(IIZ)J"⟩
abbrev cX2_collectRest : ByteArray := prog_1_method_52_code
def yX2_collectRest : MethodName := ⟨RX2, "collectRest", "(IZ)I"⟩
abbrev cX2_insertAscending : ByteArray := prog_1_method_53_code
def yX2_insertAscending : MethodName := ⟨RX2, "insertAscending", "(JI)V"⟩
abbrev cX2_restAt : ByteArray := prog_1_method_54_code
def yX2_restAt : MethodName := ⟨RX2, "restAt", "(I)J"⟩
abbrev cX2_combined : ByteArray := prog_1_method_55_code
def yX2_combined : MethodName := ⟨RX2, "combined", "(I)J"⟩
abbrev cX2_meanOfEvery : ByteArray := prog_1_method_56_code
def yX2_meanOfEvery : MethodName := ⟨RX2, "meanOfEvery", "(II)J"⟩
abbrev cX2_nextEnd : ByteArray := prog_1_method_57_code
def yX2_nextEnd : MethodName := ⟨RX2, "nextEnd", "(IZ)J"⟩
abbrev cX2_carryOut : ByteArray := prog_1_method_58_code
def yX2_carryOut : MethodName := ⟨RX2, "carryOut", "(I)V"⟩
abbrev cX2_carryOutUntil : ByteArray := prog_1_method_59_code
def yX2_carryOutUntil : MethodName := ⟨RX2, "carryOutUntil", "(III)I"⟩
abbrev cX2_isWidthAtMost : ByteArray := prog_1_method_60_code
def yX2_isWidthAtMost : MethodName := ⟨RX2, "isWidthAtMost", "(JJ)Z"⟩
abbrev cX2_widthInFuture : ByteArray := prog_1_method_61_code
def yX2_widthInFuture : MethodName := ⟨RX2, "widthInFuture", "(I)J"⟩
def RX3 : String := "IntervalAgreementModel"
def TX3 : u_T := fun k => match k with
  | 0 => ("IntervalAgreementModel", "nodes", "I", false)
  | 1 => ("IntervalAgreementModel", "trim", "I", false)
  | 2 => ("IntervalAgreementModel", "grid", "J", false)
  | 3 => ("IntervalAgreementModel", "rule", "I", false)
  | 4 => ("IntervalAgreementModel", "done", "I", false)
  | 5 => ("IntervalAgreementModel", "inputOf", "[J", true)
  | 6 => ("IntervalAgreementModel", "strategyOf", "[I", true)
  | 7 => ("IntervalAgreementModel", "amountOf", "[J", true)
  | 8 => ("IntervalAgreementModel", "lieLow", "[J", true)
  | 9 => ("IntervalAgreementModel", "lieHigh", "[J", true)
  | 10 => ("IntervalAgreementModel", "delayOf", "[I", true)
  | 11 => ("IntervalAgreementModel", "valueOf", "[J", true)
  | 12 => ("IntervalAgreementModel", "typed", "I", false)
  | 13 => ("IntervalAgreementModel", "text", "[C", true)
  | 14 => ("IntervalAgreementModel", "place", "I", false)
  | 15 => ("IntervalAgreementModel", "isGood", "Z", false)
  | 16 => ("IntervalAgreementModel", "readLow", "J", false)
  | 17 => ("IntervalAgreementModel", "readHigh", "J", false)
  | 18 => ("IntervalAgreementModel", "many", "I", false)
  | _ => ("IntervalAgreementModel", "got", "[J", true)
def tyX3 : Nat → FieldType := fun k => match k with
  | 0 => .int
  | 1 => .int
  | 2 => .long
  | 3 => .int
  | 4 => .int
  | 5 => .array .long
  | 6 => .array .int
  | 7 => .array .long
  | 8 => .array .long
  | 9 => .array .long
  | 10 => .array .int
  | 11 => .array .long
  | 12 => .int
  | 13 => .array .char
  | 14 => .int
  | 15 => .boolean
  | 16 => .long
  | 17 => .long
  | 18 => .int
  | _ => .array .long
abbrev wsX30 : List Cond := u_ws RX3 TX3 20
theorem nmX3 : ∀ a, a < 20 → ∀ b, b < 20 → a ≠ b → (TX3 a).2.1 ≠ (TX3 b).2.1 := by decide +kernel
theorem tyX3_ok : ∀ k, k < 20 → parseFieldDescriptor (TX3 k).2.2.1 = some (tyX3 k) := by decide +kernel
abbrev cX3_init : ByteArray := prog_5_method_1_code
def yX3_init : MethodName := ⟨RX3, "<init>", "()V"⟩
abbrev cX3_within : ByteArray := prog_5_method_2_code
def yX3_within : MethodName := ⟨RX3, "within", "(JJJ)Z"⟩
abbrev cX3_lost : ByteArray := prog_5_method_3_code
def yX3_lost : MethodName := ⟨RX3, "lost", "()J"⟩
abbrev cX3_common : ByteArray := prog_5_method_4_code
def yX3_common : MethodName := ⟨RX3, "common", "(JJ)J"⟩
abbrev cX3_part : ByteArray := prog_5_method_5_code
def yX3_part : MethodName := ⟨RX3, "part", "(JJZ)J"⟩
abbrev cX3_down : ByteArray := prog_5_method_6_code
def yX3_down : MethodName := ⟨RX3, "down", "(JJ)J"⟩
abbrev cX3_begin : ByteArray := prog_5_method_7_code
def yX3_begin : MethodName := ⟨RX3, "begin", "(III)V"⟩
abbrev cX3_reset : ByteArray := prog_5_method_8_code
def yX3_reset : MethodName := ⟨RX3, "reset", "(III)I"⟩
abbrev cX3_noNode : ByteArray := prog_5_method_9_code
def yX3_noNode : MethodName := ⟨RX3, "noNode", "(I)Z"⟩
abbrev cX3_isCorrect : ByteArray := prog_5_method_10_code
def yX3_isCorrect : MethodName := ⟨RX3, "isCorrect", "(I)Z"⟩
abbrev cX3_type : ByteArray := prog_5_method_11_code
def yX3_type : MethodName := ⟨RX3, "type", "(C)I"⟩
abbrev cX3_clearText : ByteArray := prog_5_method_12_code
def yX3_clearText : MethodName := ⟨RX3, "clearText", "()I"⟩
abbrev cX3_isAt : ByteArray := prog_5_method_13_code
def yX3_isAt : MethodName := ⟨RX3, "isAt", "(C)Z"⟩
abbrev cX3_isDigit : ByteArray := prog_5_method_14_code
def yX3_isDigit : MethodName := ⟨RX3, "isDigit", "()Z"⟩
abbrev cX3_readDigits : ByteArray := prog_5_method_15_code
def yX3_readDigits : MethodName := ⟨RX3, "readDigits", "()J"⟩
abbrev cX3_readNumber : ByteArray := prog_5_method_16_code
def yX3_readNumber : MethodName := ⟨RX3, "readNumber", "(J)J"⟩
abbrev cX3_readInterval : ByteArray := prog_5_method_17_code
def yX3_readInterval : MethodName := ⟨RX3, "readInterval", "()I"⟩
abbrev cX3_readInput : ByteArray := prog_5_method_18_code
def yX3_readInput : MethodName := ⟨RX3, "readInput", "(I)I"⟩
abbrev cX3_noPair : ByteArray := prog_5_method_19_code
def yX3_noPair : MethodName := ⟨RX3, "noPair", "(II)Z"⟩
abbrev cX3_readLie : ByteArray := prog_5_method_20_code
def yX3_readLie : MethodName := ⟨RX3, "readLie", "(II)I"⟩
abbrev cX3_setFaulty : ByteArray := prog_5_method_21_code
def yX3_setFaulty : MethodName := ⟨RX3, "setFaulty", "(IIII)I"⟩
abbrev cX3_setCorrect : ByteArray := prog_5_method_22_code
def yX3_setCorrect : MethodName := ⟨RX3, "setCorrect", "(I)I"⟩
abbrev cX3_setLink : ByteArray := prog_5_method_23_code
def yX3_setLink : MethodName := ⟨RX3, "setLink", "(III)I"⟩
abbrev cX3_setRule : ByteArray := prog_5_method_24_code
def yX3_setRule : MethodName := ⟨RX3, "setRule", "(I)I"⟩
abbrev cX3_faulty : ByteArray := prog_5_method_25_code
def yX3_faulty : MethodName := ⟨RX3, "faulty", "()I"⟩
abbrev cX3_links : ByteArray := prog_5_method_26_code
def yX3_links : MethodName := ⟨RX3, "links", "()I"⟩
abbrev cX3_end : ByteArray := prog_5_method_27_code
def yX3_end : MethodName := ⟨RX3, "end", "(III)J"⟩
abbrev cX3_areSame : ByteArray := prog_5_method_28_code
def yX3_areSame : MethodName := ⟨RX3, "areSame", "(II)Z"⟩
abbrev cX3_sameBelow : ByteArray := prog_5_method_29_code
def yX3_sameBelow : MethodName := ⟨RX3, "sameBelow", "(II)I"⟩
abbrev cX3_count : ByteArray := prog_5_method_30_code
def yX3_count : MethodName := ⟨RX3, "count", "(I)I"⟩
abbrev cX3_strategy : ByteArray := prog_5_method_31_code
def yX3_strategy : MethodName := ⟨RX3, "strategy", "(I)I"⟩
abbrev cX3_outermost : ByteArray := prog_5_method_32_code
def yX3_outermost : MethodName := ⟨RX3, "outermost", "(II)J"⟩
abbrev cX3_isSent : ByteArray := prog_5_method_33_code
def yX3_isSent : MethodName := ⟨RX3, "isSent", "(II)Z"⟩
abbrev cX3_sent : ByteArray := prog_5_method_34_code
def yX3_sent : MethodName := ⟨RX3, "sent", "(III)J"⟩
abbrev cX3_gather : ByteArray := prog_5_method_35_code
def yX3_gather : MethodName := ⟨RX3, "gather", "(II)V"⟩
abbrev cX3_combined : ByteArray := prog_5_method_36_code
def yX3_combined : MethodName := ⟨RX3, "combined", "()J"⟩
abbrev cX3_round : ByteArray := prog_5_method_37_code
def yX3_round : MethodName := ⟨RX3, "round", "()V"⟩
abbrev cX3_run : ByteArray := prog_5_method_38_code
def yX3_run : MethodName := ⟨RX3, "run", "(I)I"⟩
abbrev cX3_widthOf : ByteArray := prog_5_method_39_code
def yX3_widthOf : MethodName := ⟨RX3, "widthOf", "(I)J"⟩
abbrev cX3_isGoal : ByteArray := prog_5_method_40_code
def yX3_isGoal : MethodName := ⟨RX3, "isGoal", "(III)Z"⟩
abbrev cX3_goTo : ByteArray := prog_5_method_41_code
def yX3_goTo : MethodName := ⟨RX3, "goTo", "(III)I"⟩
abbrev cX3_runTo : ByteArray := prog_5_method_42_code
def yX3_runTo : MethodName := ⟨RX3, "runTo", "(III)I"⟩
abbrev cX3_back : ByteArray := prog_5_method_43_code
def yX3_back : MethodName := ⟨RX3, "back", "(I)I"⟩
abbrev cX3_value : ByteArray := prog_5_method_44_code
def yX3_value : MethodName := ⟨RX3, "value", "(IIZZ)J"⟩
abbrev cX3_input : ByteArray := prog_5_method_45_code
def yX3_input : MethodName := ⟨RX3, "input", "(IZZ)J"⟩
abbrev cX3_noReceiver : ByteArray := prog_5_method_46_code
def yX3_noReceiver : MethodName := ⟨RX3, "noReceiver", "(I)Z"⟩
abbrev cX3_received : ByteArray := prog_5_method_47_code
def yX3_received : MethodName := ⟨RX3, "received", "(IIZZ)J"⟩
abbrev cX3_rest : ByteArray := prog_5_method_48_code
def yX3_rest : MethodName := ⟨RX3, "rest", "(IIZZ)J"⟩
abbrev cX3_mostFrequent : ByteArray := prog_5_method_49_code
def yX3_mostFrequent : MethodName := ⟨RX3, "mostFrequent", "(I)I"⟩
abbrev cX3_width : ByteArray := prog_5_method_50_code
def yX3_width : MethodName := ⟨RX3, "width", "(IZ)J"⟩
abbrev cX3_rate : ByteArray := prog_5_method_51_code
def yX3_rate : MethodName := ⟨RX3, "rate", "(IZ)J"⟩
abbrev cX3_guarantee : ByteArray := prog_5_method_52_code
def yX3_guarantee : MethodName := ⟨RX3, "guarantee", "(Z)J"⟩
abbrev cX3_hull : ByteArray := prog_5_method_53_code
def yX3_hull : MethodName := ⟨RX3, "hull", "(ZZ)J"⟩
abbrev cX3_outside : ByteArray := prog_5_method_54_code
def yX3_outside : MethodName := ⟨RX3, "outside", "()I"⟩
abbrev cX3_roundsTo : ByteArray := prog_5_method_55_code
def yX3_roundsTo : MethodName := ⟨RX3, "roundsTo", "(III)I"⟩
abbrev cX3_widthAfter : ByteArray := prog_5_method_56_code
def yX3_widthAfter : MethodName := ⟨RX3, "widthAfter", "(I)J"⟩
abbrev cX3_worstStrategy : ByteArray := prog_5_method_57_code
def yX3_worstStrategy : MethodName := ⟨RX3, "worstStrategy", "(II)I"⟩
abbrev cX3_bestRule : ByteArray := prog_5_method_58_code
def yX3_bestRule : MethodName := ⟨RX3, "bestRule", "(I)I"⟩
def RJ6 : String := "java/lang/Integer"
def TJ6 : u_T := fun k => match k with
  | _ => ("", "", "", false)
def tyJ6 : Nat → FieldType := fun k => match k with
  | _ => .int
abbrev wsJ60 : List Cond := u_ws RJ6 TJ6 0
abbrev cJ6_bitCount_0f7a4 : ByteArray := prog_6_method_49_code
def yJ6_bitCount_0f7a4 : MethodName := ⟨RJ6, "bitCount", "(I)I"⟩
def RJ9 : String := "java/lang/Math"
def TJ9 : u_T := fun k => match k with
  | _ => ("", "", "", false)
def tyJ9 : Nat → FieldType := fun k => match k with
  | _ => .int
abbrev wsJ90 : List Cond := u_ws RJ9 TJ9 0
abbrev cJ9_floorDiv_f86c9 : ByteArray := prog_7_method_49_code
def yJ9_floorDiv_f86c9 : MethodName := ⟨RJ9, "floorDiv", "(JJ)J"⟩
abbrev cJ9_abs_067f4 : ByteArray := prog_7_method_61_code
def yJ9_abs_067f4 : MethodName := ⟨RJ9, "abs", "(J)J"⟩
abbrev cJ9_max_7cf53 : ByteArray := prog_7_method_65_code
def yJ9_max_7cf53 : MethodName := ⟨RJ9, "max", "(II)I"⟩
abbrev cJ9_max_f86c9 : ByteArray := prog_7_method_66_code
def yJ9_max_f86c9 : MethodName := ⟨RJ9, "max", "(JJ)J"⟩
abbrev cJ9_min_f86c9 : ByteArray := prog_7_method_70_code
def yJ9_min_f86c9 : MethodName := ⟨RJ9, "min", "(JJ)J"⟩
def RL : String := "IntervalAgreementLaw"
abbrev cL_law : ByteArray := code
def yL_law : MethodName := ⟨RL, "law", "([I)Z"⟩
end
section
theorem dX0_init_0 : decode cX0_init 0 = .ok (.aload_n 0, 1) := by decide +kernel
theorem dX0_init_1 : decode cX0_init 1 = .ok (.invokespecial 1, 3) := by decide +kernel
theorem dX0_init_4 : decode cX0_init 4 = .ok (.iload_n 1, 1) := by decide +kernel
theorem dX0_init_5 : decode cX0_init 5 = .ok (.ifCond .le 13, 3) := by decide +kernel
theorem dX0_init_8 : decode cX0_init 8 = .ok (.iload_n 2, 1) := by decide +kernel
theorem dX0_init_9 : decode cX0_init 9 = .ok (.ifCond .le 9, 3) := by decide +kernel
theorem dX0_init_12 : decode cX0_init 12 = .ok (.iload_n 1, 1) := by decide +kernel
theorem dX0_init_13 : decode cX0_init 13 = .ok (.iload_n 2, 1) := by decide +kernel
theorem dX0_init_14 : decode cX0_init 14 = .ok (.imul, 1) := by decide +kernel
theorem dX0_init_15 : decode cX0_init 15 = .ok (.goto 4, 3) := by decide +kernel
theorem dX0_init_18 : decode cX0_init 18 = .ok (.iconst 0, 1) := by decide +kernel
theorem dX0_init_19 : decode cX0_init 19 = .ok (.istore_n 3, 1) := by decide +kernel
theorem dX0_init_20 : decode cX0_init 20 = .ok (.aload_n 0, 1) := by decide +kernel
theorem dX0_init_21 : decode cX0_init 21 = .ok (.iload_n 2, 1) := by decide +kernel
theorem dX0_init_22 : decode cX0_init 22 = .ok (.putfield 7, 3) := by decide +kernel
theorem dX0_init_25 : decode cX0_init 25 = .ok (.aload_n 0, 1) := by decide +kernel
theorem dX0_init_26 : decode cX0_init 26 = .ok (.iload_n 3, 1) := by decide +kernel
theorem dX0_init_27 : decode cX0_init 27 = .ok (.newarray .long, 2) := by decide +kernel
theorem dX0_init_29 : decode cX0_init 29 = .ok (.putfield 13, 3) := by decide +kernel
theorem dX0_init_32 : decode cX0_init 32 = .ok (.aload_n 0, 1) := by decide +kernel
theorem dX0_init_33 : decode cX0_init 33 = .ok (.iload_n 3, 1) := by decide +kernel
theorem dX0_init_34 : decode cX0_init 34 = .ok (.newarray .long, 2) := by decide +kernel
theorem dX0_init_36 : decode cX0_init 36 = .ok (.putfield 17, 3) := by decide +kernel
theorem dX0_init_39 : decode cX0_init 39 = .ok (.return_, 1) := by decide +kernel
theorem dX0_end_0 : decode cX0_end 0 = .ok (.iload_n 1, 1) := by decide +kernel
theorem dX0_end_1 : decode cX0_end 1 = .ok (.aload_n 0, 1) := by decide +kernel
theorem dX0_end_2 : decode cX0_end 2 = .ok (.getfield 7, 3) := by decide +kernel
theorem dX0_end_5 : decode cX0_end 5 = .ok (.imul, 1) := by decide +kernel
theorem dX0_end_6 : decode cX0_end 6 = .ok (.iload_n 2, 1) := by decide +kernel
theorem dX0_end_7 : decode cX0_end 7 = .ok (.iadd, 1) := by decide +kernel
theorem dX0_end_8 : decode cX0_end 8 = .ok (.istore 4, 2) := by decide +kernel
theorem dX0_end_10 : decode cX0_end 10 = .ok (.iload 4, 2) := by decide +kernel
theorem dX0_end_12 : decode cX0_end 12 = .ok (.ifCond .lt 23, 3) := by decide +kernel
theorem dX0_end_15 : decode cX0_end 15 = .ok (.iload 4, 2) := by decide +kernel
theorem dX0_end_17 : decode cX0_end 17 = .ok (.aload_n 0, 1) := by decide +kernel
theorem dX0_end_18 : decode cX0_end 18 = .ok (.getfield 13, 3) := by decide +kernel
theorem dX0_end_21 : decode cX0_end 21 = .ok (.arraylength, 1) := by decide +kernel
theorem dX0_end_22 : decode cX0_end 22 = .ok (.if_icmp .ge 13, 3) := by decide +kernel
theorem dX0_end_25 : decode cX0_end 25 = .ok (.iload 4, 2) := by decide +kernel
theorem dX0_end_27 : decode cX0_end 27 = .ok (.aload_n 0, 1) := by decide +kernel
theorem dX0_end_28 : decode cX0_end 28 = .ok (.getfield 17, 3) := by decide +kernel
theorem dX0_end_31 : decode cX0_end 31 = .ok (.arraylength, 1) := by decide +kernel
theorem dX0_end_32 : decode cX0_end 32 = .ok (.if_icmp .lt 5, 3) := by decide +kernel
theorem dX0_end_35 : decode cX0_end 35 = .ok (.lconst 0, 1) := by decide +kernel
theorem dX0_end_36 : decode cX0_end 36 = .ok (.lreturn, 1) := by decide +kernel
theorem dX0_end_37 : decode cX0_end 37 = .ok (.iload_n 3, 1) := by decide +kernel
theorem dX0_end_38 : decode cX0_end 38 = .ok (.ifCond .eq 13, 3) := by decide +kernel
theorem dX0_end_41 : decode cX0_end 41 = .ok (.aload_n 0, 1) := by decide +kernel
theorem dX0_end_42 : decode cX0_end 42 = .ok (.getfield 17, 3) := by decide +kernel
theorem dX0_end_45 : decode cX0_end 45 = .ok (.iload 4, 2) := by decide +kernel
theorem dX0_end_47 : decode cX0_end 47 = .ok (.laload, 1) := by decide +kernel
theorem dX0_end_48 : decode cX0_end 48 = .ok (.goto 10, 3) := by decide +kernel
theorem dX0_end_51 : decode cX0_end 51 = .ok (.aload_n 0, 1) := by decide +kernel
theorem dX0_end_52 : decode cX0_end 52 = .ok (.getfield 13, 3) := by decide +kernel
theorem dX0_end_55 : decode cX0_end 55 = .ok (.iload 4, 2) := by decide +kernel
theorem dX0_end_57 : decode cX0_end 57 = .ok (.laload, 1) := by decide +kernel
theorem dX0_end_58 : decode cX0_end 58 = .ok (.lreturn, 1) := by decide +kernel
theorem dX0_put_0 : decode cX0_put 0 = .ok (.iload_n 1, 1) := by decide +kernel
theorem dX0_put_1 : decode cX0_put 1 = .ok (.aload_n 0, 1) := by decide +kernel
theorem dX0_put_2 : decode cX0_put 2 = .ok (.getfield 7, 3) := by decide +kernel
theorem dX0_put_5 : decode cX0_put 5 = .ok (.imul, 1) := by decide +kernel
theorem dX0_put_6 : decode cX0_put 6 = .ok (.iload_n 2, 1) := by decide +kernel
theorem dX0_put_7 : decode cX0_put 7 = .ok (.iadd, 1) := by decide +kernel
theorem dX0_put_8 : decode cX0_put 8 = .ok (.istore 7, 2) := by decide +kernel
theorem dX0_put_10 : decode cX0_put 10 = .ok (.iload 7, 2) := by decide +kernel
theorem dX0_put_12 : decode cX0_put 12 = .ok (.ifCond .lt 23, 3) := by decide +kernel
theorem dX0_put_15 : decode cX0_put 15 = .ok (.iload 7, 2) := by decide +kernel
theorem dX0_put_17 : decode cX0_put 17 = .ok (.aload_n 0, 1) := by decide +kernel
theorem dX0_put_18 : decode cX0_put 18 = .ok (.getfield 13, 3) := by decide +kernel
theorem dX0_put_21 : decode cX0_put 21 = .ok (.arraylength, 1) := by decide +kernel
theorem dX0_put_22 : decode cX0_put 22 = .ok (.if_icmp .ge 13, 3) := by decide +kernel
theorem dX0_put_25 : decode cX0_put 25 = .ok (.iload 7, 2) := by decide +kernel
theorem dX0_put_27 : decode cX0_put 27 = .ok (.aload_n 0, 1) := by decide +kernel
theorem dX0_put_28 : decode cX0_put 28 = .ok (.getfield 17, 3) := by decide +kernel
theorem dX0_put_31 : decode cX0_put 31 = .ok (.arraylength, 1) := by decide +kernel
theorem dX0_put_32 : decode cX0_put 32 = .ok (.if_icmp .lt 4, 3) := by decide +kernel
theorem dX0_put_35 : decode cX0_put 35 = .ok (.return_, 1) := by decide +kernel
theorem dX0_put_36 : decode cX0_put 36 = .ok (.aload_n 0, 1) := by decide +kernel
theorem dX0_put_37 : decode cX0_put 37 = .ok (.getfield 13, 3) := by decide +kernel
theorem dX0_put_40 : decode cX0_put 40 = .ok (.iload 7, 2) := by decide +kernel
theorem dX0_put_42 : decode cX0_put 42 = .ok (.lload_n 3, 1) := by decide +kernel
theorem dX0_put_43 : decode cX0_put 43 = .ok (.lastore, 1) := by decide +kernel
theorem dX0_put_44 : decode cX0_put 44 = .ok (.aload_n 0, 1) := by decide +kernel
theorem dX0_put_45 : decode cX0_put 45 = .ok (.getfield 17, 3) := by decide +kernel
theorem dX0_put_48 : decode cX0_put 48 = .ok (.iload 7, 2) := by decide +kernel
theorem dX0_put_50 : decode cX0_put 50 = .ok (.lload 5, 2) := by decide +kernel
theorem dX0_put_52 : decode cX0_put 52 = .ok (.lastore, 1) := by decide +kernel
theorem dX0_put_53 : decode cX0_put 53 = .ok (.return_, 1) := by decide +kernel
theorem dX0_extremeEnd_0 : decode cX0_extremeEnd 0 = .ok (.iload_n 3, 1) := by decide +kernel
theorem dX0_extremeEnd_1 : decode cX0_extremeEnd 1 = .ok (.ifCond .eq 10, 3) := by decide +kernel
theorem dX0_extremeEnd_4 : decode cX0_extremeEnd 4 = .ok (.aload_n 0, 1) := by decide +kernel
theorem dX0_extremeEnd_5 : decode cX0_extremeEnd 5 = .ok (.getfield 17, 3) := by decide +kernel
theorem dX0_extremeEnd_8 : decode cX0_extremeEnd 8 = .ok (.goto 7, 3) := by decide +kernel
theorem dX0_extremeEnd_11 : decode cX0_extremeEnd 11 = .ok (.aload_n 0, 1) := by decide +kernel
theorem dX0_extremeEnd_12 : decode cX0_extremeEnd 12 = .ok (.getfield 13, 3) := by decide +kernel
theorem dX0_extremeEnd_15 : decode cX0_extremeEnd 15 = .ok (.astore 5, 2) := by decide +kernel
theorem dX0_extremeEnd_17 : decode cX0_extremeEnd 17 = .ok (.lconst 0, 1) := by decide +kernel
theorem dX0_extremeEnd_18 : decode cX0_extremeEnd 18 = .ok (.lstore 6, 2) := by decide +kernel
theorem dX0_extremeEnd_20 : decode cX0_extremeEnd 20 = .ok (.iconst 0, 1) := by decide +kernel
theorem dX0_extremeEnd_21 : decode cX0_extremeEnd 21 = .ok (.istore 8, 2) := by decide +kernel
theorem dX0_extremeEnd_23 : decode cX0_extremeEnd 23 = .ok (.iconst 0, 1) := by decide +kernel
theorem dX0_extremeEnd_24 : decode cX0_extremeEnd 24 = .ok (.istore 9, 2) := by decide +kernel
theorem dX0_extremeEnd_26 : decode cX0_extremeEnd 26 = .ok (.iload 9, 2) := by decide +kernel
theorem dX0_extremeEnd_28 : decode cX0_extremeEnd 28 = .ok (.aload_n 0, 1) := by decide +kernel
theorem dX0_extremeEnd_29 : decode cX0_extremeEnd 29 = .ok (.getfield 7, 3) := by decide +kernel
theorem dX0_extremeEnd_32 : decode cX0_extremeEnd 32 = .ok (.if_icmp .ge 122, 3) := by decide +kernel
theorem dX0_extremeEnd_35 : decode cX0_extremeEnd 35 = .ok (.iload_n 1, 1) := by decide +kernel
theorem dX0_extremeEnd_36 : decode cX0_extremeEnd 36 = .ok (.aload_n 0, 1) := by decide +kernel
theorem dX0_extremeEnd_37 : decode cX0_extremeEnd 37 = .ok (.getfield 7, 3) := by decide +kernel
theorem dX0_extremeEnd_40 : decode cX0_extremeEnd 40 = .ok (.imul, 1) := by decide +kernel
theorem dX0_extremeEnd_41 : decode cX0_extremeEnd 41 = .ok (.iload 9, 2) := by decide +kernel
theorem dX0_extremeEnd_43 : decode cX0_extremeEnd 43 = .ok (.iadd, 1) := by decide +kernel
theorem dX0_extremeEnd_44 : decode cX0_extremeEnd 44 = .ok (.istore 10, 2) := by decide +kernel
theorem dX0_extremeEnd_46 : decode cX0_extremeEnd 46 = .ok (.iload_n 2, 1) := by decide +kernel
theorem dX0_extremeEnd_47 : decode cX0_extremeEnd 47 = .ok (.iload 9, 2) := by decide +kernel
theorem dX0_extremeEnd_49 : decode cX0_extremeEnd 49 = .ok (.ishr, 1) := by decide +kernel
theorem dX0_extremeEnd_50 : decode cX0_extremeEnd 50 = .ok (.iconst 1, 1) := by decide +kernel
theorem dX0_extremeEnd_51 : decode cX0_extremeEnd 51 = .ok (.iand, 1) := by decide +kernel
theorem dX0_extremeEnd_52 : decode cX0_extremeEnd 52 = .ok (.iconst 1, 1) := by decide +kernel
theorem dX0_extremeEnd_53 : decode cX0_extremeEnd 53 = .ok (.if_icmp .ne 7, 3) := by decide +kernel
theorem dX0_extremeEnd_56 : decode cX0_extremeEnd 56 = .ok (.iconst 1, 1) := by decide +kernel
theorem dX0_extremeEnd_57 : decode cX0_extremeEnd 57 = .ok (.goto 4, 3) := by decide +kernel
theorem dX0_extremeEnd_60 : decode cX0_extremeEnd 60 = .ok (.iconst 0, 1) := by decide +kernel
theorem dX0_extremeEnd_61 : decode cX0_extremeEnd 61 = .ok (.istore 11, 2) := by decide +kernel
theorem dX0_extremeEnd_63 : decode cX0_extremeEnd 63 = .ok (.iload 11, 2) := by decide +kernel
theorem dX0_extremeEnd_65 : decode cX0_extremeEnd 65 = .ok (.ifCond .eq 83, 3) := by decide +kernel
theorem dX0_extremeEnd_68 : decode cX0_extremeEnd 68 = .ok (.iload 10, 2) := by decide +kernel
theorem dX0_extremeEnd_70 : decode cX0_extremeEnd 70 = .ok (.ifCond .lt 78, 3) := by decide +kernel
theorem dX0_extremeEnd_73 : decode cX0_extremeEnd 73 = .ok (.iload 10, 2) := by decide +kernel
theorem dX0_extremeEnd_75 : decode cX0_extremeEnd 75 = .ok (.aload 5, 2) := by decide +kernel
theorem dX0_extremeEnd_77 : decode cX0_extremeEnd 77 = .ok (.arraylength, 1) := by decide +kernel
theorem dX0_extremeEnd_78 : decode cX0_extremeEnd 78 = .ok (.if_icmp .ge 70, 3) := by decide +kernel
theorem dX0_extremeEnd_81 : decode cX0_extremeEnd 81 = .ok (.iload 4, 2) := by decide +kernel
theorem dX0_extremeEnd_83 : decode cX0_extremeEnd 83 = .ok (.ifCond .eq 22, 3) := by decide +kernel
theorem dX0_extremeEnd_86 : decode cX0_extremeEnd 86 = .ok (.aload 5, 2) := by decide +kernel
theorem dX0_extremeEnd_88 : decode cX0_extremeEnd 88 = .ok (.iload 10, 2) := by decide +kernel
theorem dX0_extremeEnd_90 : decode cX0_extremeEnd 90 = .ok (.laload, 1) := by decide +kernel
theorem dX0_extremeEnd_91 : decode cX0_extremeEnd 91 = .ok (.lload 6, 2) := by decide +kernel
theorem dX0_extremeEnd_93 : decode cX0_extremeEnd 93 = .ok (.lcmp, 1) := by decide +kernel
theorem dX0_extremeEnd_94 : decode cX0_extremeEnd 94 = .ok (.ifCond .le 7, 3) := by decide +kernel
theorem dX0_extremeEnd_97 : decode cX0_extremeEnd 97 = .ok (.iconst 1, 1) := by decide +kernel
theorem dX0_extremeEnd_98 : decode cX0_extremeEnd 98 = .ok (.goto 23, 3) := by decide +kernel
theorem dX0_extremeEnd_101 : decode cX0_extremeEnd 101 = .ok (.iconst 0, 1) := by decide +kernel
theorem dX0_extremeEnd_102 : decode cX0_extremeEnd 102 = .ok (.goto 19, 3) := by decide +kernel
theorem dX0_extremeEnd_105 : decode cX0_extremeEnd 105 = .ok (.aload 5, 2) := by decide +kernel
theorem dX0_extremeEnd_107 : decode cX0_extremeEnd 107 = .ok (.iload 10, 2) := by decide +kernel
theorem dX0_extremeEnd_109 : decode cX0_extremeEnd 109 = .ok (.laload, 1) := by decide +kernel
theorem dX0_extremeEnd_110 : decode cX0_extremeEnd 110 = .ok (.lload 6, 2) := by decide +kernel
theorem dX0_extremeEnd_112 : decode cX0_extremeEnd 112 = .ok (.lcmp, 1) := by decide +kernel
theorem dX0_extremeEnd_113 : decode cX0_extremeEnd 113 = .ok (.ifCond .ge 7, 3) := by decide +kernel
theorem dX0_extremeEnd_116 : decode cX0_extremeEnd 116 = .ok (.iconst 1, 1) := by decide +kernel
theorem dX0_extremeEnd_117 : decode cX0_extremeEnd 117 = .ok (.goto 4, 3) := by decide +kernel
theorem dX0_extremeEnd_120 : decode cX0_extremeEnd 120 = .ok (.iconst 0, 1) := by decide +kernel
theorem dX0_extremeEnd_121 : decode cX0_extremeEnd 121 = .ok (.istore 12, 2) := by decide +kernel
theorem dX0_extremeEnd_123 : decode cX0_extremeEnd 123 = .ok (.iload 8, 2) := by decide +kernel
theorem dX0_extremeEnd_125 : decode cX0_extremeEnd 125 = .ok (.ifCond .eq 8, 3) := by decide +kernel
theorem dX0_extremeEnd_128 : decode cX0_extremeEnd 128 = .ok (.iload 12, 2) := by decide +kernel
theorem dX0_extremeEnd_130 : decode cX0_extremeEnd 130 = .ok (.ifCond .eq 11, 3) := by decide +kernel
theorem dX0_extremeEnd_133 : decode cX0_extremeEnd 133 = .ok (.aload 5, 2) := by decide +kernel
theorem dX0_extremeEnd_135 : decode cX0_extremeEnd 135 = .ok (.iload 10, 2) := by decide +kernel
theorem dX0_extremeEnd_137 : decode cX0_extremeEnd 137 = .ok (.laload, 1) := by decide +kernel
theorem dX0_extremeEnd_138 : decode cX0_extremeEnd 138 = .ok (.goto 5, 3) := by decide +kernel
theorem dX0_extremeEnd_141 : decode cX0_extremeEnd 141 = .ok (.lload 6, 2) := by decide +kernel
theorem dX0_extremeEnd_143 : decode cX0_extremeEnd 143 = .ok (.lstore 6, 2) := by decide +kernel
theorem dX0_extremeEnd_145 : decode cX0_extremeEnd 145 = .ok (.iconst 1, 1) := by decide +kernel
theorem dX0_extremeEnd_146 : decode cX0_extremeEnd 146 = .ok (.istore 8, 2) := by decide +kernel
theorem dX0_extremeEnd_148 : decode cX0_extremeEnd 148 = .ok (.iinc 9 1, 3) := by decide +kernel
theorem dX0_extremeEnd_151 : decode cX0_extremeEnd 151 = .ok (.goto (-125), 3) := by decide +kernel
theorem dX0_extremeEnd_154 : decode cX0_extremeEnd 154 = .ok (.lload 6, 2) := by decide +kernel
theorem dX0_extremeEnd_156 : decode cX0_extremeEnd 156 = .ok (.lreturn, 1) := by decide +kernel
theorem dX0_clearRow_0 : decode cX0_clearRow 0 = .ok (.iconst 0, 1) := by decide +kernel
theorem dX0_clearRow_1 : decode cX0_clearRow 1 = .ok (.istore_n 2, 1) := by decide +kernel
theorem dX0_clearRow_2 : decode cX0_clearRow 2 = .ok (.iload_n 2, 1) := by decide +kernel
theorem dX0_clearRow_3 : decode cX0_clearRow 3 = .ok (.aload_n 0, 1) := by decide +kernel
theorem dX0_clearRow_4 : decode cX0_clearRow 4 = .ok (.getfield 7, 3) := by decide +kernel
theorem dX0_clearRow_7 : decode cX0_clearRow 7 = .ok (.if_icmp .ge 17, 3) := by decide +kernel
theorem dX0_clearRow_10 : decode cX0_clearRow 10 = .ok (.aload_n 0, 1) := by decide +kernel
theorem dX0_clearRow_11 : decode cX0_clearRow 11 = .ok (.iload_n 1, 1) := by decide +kernel
theorem dX0_clearRow_12 : decode cX0_clearRow 12 = .ok (.iload_n 2, 1) := by decide +kernel
theorem dX0_clearRow_13 : decode cX0_clearRow 13 = .ok (.lconst 0, 1) := by decide +kernel
theorem dX0_clearRow_14 : decode cX0_clearRow 14 = .ok (.lconst 0, 1) := by decide +kernel
theorem dX0_clearRow_15 : decode cX0_clearRow 15 = .ok (.invokevirtual 20, 3) := by decide +kernel
theorem dX0_clearRow_18 : decode cX0_clearRow 18 = .ok (.iinc 2 1, 3) := by decide +kernel
theorem dX0_clearRow_21 : decode cX0_clearRow 21 = .ok (.goto (-19), 3) := by decide +kernel
theorem dX0_clearRow_24 : decode cX0_clearRow 24 = .ok (.return_, 1) := by decide +kernel
theorem dX1_init_0 : decode cX1_init 0 = .ok (.aload_n 0, 1) := by decide +kernel
theorem dX1_init_1 : decode cX1_init 1 = .ok (.invokespecial 3, 3) := by decide +kernel
theorem dX1_init_4 : decode cX1_init 4 = .ok (.aload_n 0, 1) := by decide +kernel
theorem dX1_init_5 : decode cX1_init 5 = .ok (.bipush 40, 2) := by decide +kernel
theorem dX1_init_7 : decode cX1_init 7 = .ok (.newarray .char, 2) := by decide +kernel
theorem dX1_init_9 : decode cX1_init 9 = .ok (.putfield 9, 3) := by decide +kernel
theorem dX1_init_12 : decode cX1_init 12 = .ok (.return_, 1) := by decide +kernel
theorem dX1_append_0 : decode cX1_append 0 = .ok (.aload_n 0, 1) := by decide +kernel
theorem dX1_append_1 : decode cX1_append 1 = .ok (.getfield 15, 3) := by decide +kernel
theorem dX1_append_4 : decode cX1_append 4 = .ok (.ifCond .lt 15, 3) := by decide +kernel
theorem dX1_append_7 : decode cX1_append 7 = .ok (.aload_n 0, 1) := by decide +kernel
theorem dX1_append_8 : decode cX1_append 8 = .ok (.getfield 15, 3) := by decide +kernel
theorem dX1_append_11 : decode cX1_append 11 = .ok (.aload_n 0, 1) := by decide +kernel
theorem dX1_append_12 : decode cX1_append 12 = .ok (.getfield 9, 3) := by decide +kernel
theorem dX1_append_15 : decode cX1_append 15 = .ok (.arraylength, 1) := by decide +kernel
theorem dX1_append_16 : decode cX1_append 16 = .ok (.if_icmp .lt 5, 3) := by decide +kernel
theorem dX1_append_19 : decode cX1_append 19 = .ok (.iconst 0, 1) := by decide +kernel
theorem dX1_append_20 : decode cX1_append 20 = .ok (.ireturn, 1) := by decide +kernel
theorem dX1_append_21 : decode cX1_append 21 = .ok (.aload_n 0, 1) := by decide +kernel
theorem dX1_append_22 : decode cX1_append 22 = .ok (.getfield 9, 3) := by decide +kernel
theorem dX1_append_25 : decode cX1_append 25 = .ok (.aload_n 0, 1) := by decide +kernel
theorem dX1_append_26 : decode cX1_append 26 = .ok (.getfield 15, 3) := by decide +kernel
theorem dX1_append_29 : decode cX1_append 29 = .ok (.iload_n 1, 1) := by decide +kernel
theorem dX1_append_30 : decode cX1_append 30 = .ok (.castore, 1) := by decide +kernel
theorem dX1_append_31 : decode cX1_append 31 = .ok (.aload_n 0, 1) := by decide +kernel
theorem dX1_append_32 : decode cX1_append 32 = .ok (.dup, 1) := by decide +kernel
theorem dX1_append_33 : decode cX1_append 33 = .ok (.getfield 15, 3) := by decide +kernel
theorem dX1_append_36 : decode cX1_append 36 = .ok (.iconst 1, 1) := by decide +kernel
theorem dX1_append_37 : decode cX1_append 37 = .ok (.iadd, 1) := by decide +kernel
theorem dX1_append_38 : decode cX1_append 38 = .ok (.putfield 15, 3) := by decide +kernel
theorem dX1_append_41 : decode cX1_append 41 = .ok (.iconst 1, 1) := by decide +kernel
theorem dX1_append_42 : decode cX1_append 42 = .ok (.ireturn, 1) := by decide +kernel
theorem dX1_empty_0 : decode cX1_empty 0 = .ok (.aload_n 0, 1) := by decide +kernel
theorem dX1_empty_1 : decode cX1_empty 1 = .ok (.getfield 15, 3) := by decide +kernel
theorem dX1_empty_4 : decode cX1_empty 4 = .ok (.istore_n 1, 1) := by decide +kernel
theorem dX1_empty_5 : decode cX1_empty 5 = .ok (.aload_n 0, 1) := by decide +kernel
theorem dX1_empty_6 : decode cX1_empty 6 = .ok (.iconst 0, 1) := by decide +kernel
theorem dX1_empty_7 : decode cX1_empty 7 = .ok (.putfield 15, 3) := by decide +kernel
theorem dX1_empty_10 : decode cX1_empty 10 = .ok (.iload_n 1, 1) := by decide +kernel
theorem dX1_empty_11 : decode cX1_empty 11 = .ok (.ireturn, 1) := by decide +kernel
theorem dX1_size_0 : decode cX1_size 0 = .ok (.aload_n 0, 1) := by decide +kernel
theorem dX1_size_1 : decode cX1_size 1 = .ok (.getfield 15, 3) := by decide +kernel
theorem dX1_size_4 : decode cX1_size 4 = .ok (.ireturn, 1) := by decide +kernel
theorem dX1_parsedLow_0 : decode cX1_parsedLow 0 = .ok (.aload_n 0, 1) := by decide +kernel
theorem dX1_parsedLow_1 : decode cX1_parsedLow 1 = .ok (.getfield 19, 3) := by decide +kernel
theorem dX1_parsedLow_4 : decode cX1_parsedLow 4 = .ok (.lreturn, 1) := by decide +kernel
theorem dX1_parsedHigh_0 : decode cX1_parsedHigh 0 = .ok (.aload_n 0, 1) := by decide +kernel
theorem dX1_parsedHigh_1 : decode cX1_parsedHigh 1 = .ok (.getfield 23, 3) := by decide +kernel
theorem dX1_parsedHigh_4 : decode cX1_parsedHigh 4 = .ok (.lreturn, 1) := by decide +kernel
theorem dX1_parse_0 : decode cX1_parse 0 = .ok (.aload_n 0, 1) := by decide +kernel
theorem dX1_parse_1 : decode cX1_parse 1 = .ok (.iconst 0, 1) := by decide +kernel
theorem dX1_parse_2 : decode cX1_parse 2 = .ok (.putfield 26, 3) := by decide +kernel
theorem dX1_parse_5 : decode cX1_parse 5 = .ok (.aload_n 0, 1) := by decide +kernel
theorem dX1_parse_6 : decode cX1_parse 6 = .ok (.iload_n 1, 1) := by decide +kernel
theorem dX1_parse_7 : decode cX1_parse 7 = .ok (.invokevirtual 29, 3) := by decide +kernel
theorem dX1_parse_10 : decode cX1_parse 10 = .ok (.istore_n 2, 1) := by decide +kernel
theorem dX1_parse_11 : decode cX1_parse 11 = .ok (.iload_n 2, 1) := by decide +kernel
theorem dX1_parse_12 : decode cX1_parse 12 = .ok (.iconst (-1), 1) := by decide +kernel
theorem dX1_parse_13 : decode cX1_parse 13 = .ok (.if_icmp .eq 5, 3) := by decide +kernel
theorem dX1_parse_16 : decode cX1_parse 16 = .ok (.iload_n 2, 1) := by decide +kernel
theorem dX1_parse_17 : decode cX1_parse 17 = .ok (.ireturn, 1) := by decide +kernel
theorem dX1_parse_18 : decode cX1_parse 18 = .ok (.aload_n 0, 1) := by decide +kernel
theorem dX1_parse_19 : decode cX1_parse 19 = .ok (.aload_n 0, 1) := by decide +kernel
theorem dX1_parse_20 : decode cX1_parse 20 = .ok (.getfield 33, 3) := by decide +kernel
theorem dX1_parse_23 : decode cX1_parse 23 = .ok (.putfield 19, 3) := by decide +kernel
theorem dX1_parse_26 : decode cX1_parse 26 = .ok (.aload_n 0, 1) := by decide +kernel
theorem dX1_parse_27 : decode cX1_parse 27 = .ok (.aload_n 0, 1) := by decide +kernel
theorem dX1_parse_28 : decode cX1_parse 28 = .ok (.getfield 33, 3) := by decide +kernel
theorem dX1_parse_31 : decode cX1_parse 31 = .ok (.putfield 23, 3) := by decide +kernel
theorem dX1_parse_34 : decode cX1_parse 34 = .ok (.aload_n 0, 1) := by decide +kernel
theorem dX1_parse_35 : decode cX1_parse 35 = .ok (.getfield 26, 3) := by decide +kernel
theorem dX1_parse_38 : decode cX1_parse 38 = .ok (.aload_n 0, 1) := by decide +kernel
theorem dX1_parse_39 : decode cX1_parse 39 = .ok (.getfield 15, 3) := by decide +kernel
theorem dX1_parse_42 : decode cX1_parse 42 = .ok (.if_icmp .ne 5, 3) := by decide +kernel
theorem dX1_parse_45 : decode cX1_parse 45 = .ok (.iconst (-1), 1) := by decide +kernel
theorem dX1_parse_46 : decode cX1_parse 46 = .ok (.ireturn, 1) := by decide +kernel
theorem dX1_parse_47 : decode cX1_parse 47 = .ok (.aload_n 0, 1) := by decide +kernel
theorem dX1_parse_48 : decode cX1_parse 48 = .ok (.bipush 46, 2) := by decide +kernel
theorem dX1_parse_50 : decode cX1_parse 50 = .ok (.invokevirtual 36, 3) := by decide +kernel
theorem dX1_parse_53 : decode cX1_parse 53 = .ok (.ifCond .eq 12, 3) := by decide +kernel
theorem dX1_parse_56 : decode cX1_parse 56 = .ok (.aload_n 0, 1) := by decide +kernel
theorem dX1_parse_57 : decode cX1_parse 57 = .ok (.bipush 46, 2) := by decide +kernel
theorem dX1_parse_59 : decode cX1_parse 59 = .ok (.invokevirtual 36, 3) := by decide +kernel
theorem dX1_parse_62 : decode cX1_parse 62 = .ok (.ifCond .ne 8, 3) := by decide +kernel
theorem dX1_parse_65 : decode cX1_parse 65 = .ok (.aload_n 0, 1) := by decide +kernel
theorem dX1_parse_66 : decode cX1_parse 66 = .ok (.getfield 26, 3) := by decide +kernel
theorem dX1_parse_69 : decode cX1_parse 69 = .ok (.ireturn, 1) := by decide +kernel
theorem dX1_parse_70 : decode cX1_parse 70 = .ok (.aload_n 0, 1) := by decide +kernel
theorem dX1_parse_71 : decode cX1_parse 71 = .ok (.getfield 26, 3) := by decide +kernel
theorem dX1_parse_74 : decode cX1_parse 74 = .ok (.istore_n 3, 1) := by decide +kernel
theorem dX1_parse_75 : decode cX1_parse 75 = .ok (.aload_n 0, 1) := by decide +kernel
theorem dX1_parse_76 : decode cX1_parse 76 = .ok (.iload_n 1, 1) := by decide +kernel
theorem dX1_parse_77 : decode cX1_parse 77 = .ok (.invokevirtual 29, 3) := by decide +kernel
theorem dX1_parse_80 : decode cX1_parse 80 = .ok (.istore_n 2, 1) := by decide +kernel
theorem dX1_parse_81 : decode cX1_parse 81 = .ok (.iload_n 2, 1) := by decide +kernel
theorem dX1_parse_82 : decode cX1_parse 82 = .ok (.iconst (-1), 1) := by decide +kernel
theorem dX1_parse_83 : decode cX1_parse 83 = .ok (.if_icmp .eq 5, 3) := by decide +kernel
theorem dX1_parse_86 : decode cX1_parse 86 = .ok (.iload_n 2, 1) := by decide +kernel
theorem dX1_parse_87 : decode cX1_parse 87 = .ok (.ireturn, 1) := by decide +kernel
theorem dX1_parse_88 : decode cX1_parse 88 = .ok (.aload_n 0, 1) := by decide +kernel
theorem dX1_parse_89 : decode cX1_parse 89 = .ok (.getfield 33, 3) := by decide +kernel
theorem dX1_parse_92 : decode cX1_parse 92 = .ok (.aload_n 0, 1) := by decide +kernel
theorem dX1_parse_93 : decode cX1_parse 93 = .ok (.getfield 19, 3) := by decide +kernel
theorem dX1_parse_96 : decode cX1_parse 96 = .ok (.lcmp, 1) := by decide +kernel
theorem dX1_parse_97 : decode cX1_parse 97 = .ok (.ifCond .ge 5, 3) := by decide +kernel
theorem dX1_parse_100 : decode cX1_parse 100 = .ok (.iload_n 3, 1) := by decide +kernel
theorem dX1_parse_101 : decode cX1_parse 101 = .ok (.ireturn, 1) := by decide +kernel
theorem dX1_parse_102 : decode cX1_parse 102 = .ok (.aload_n 0, 1) := by decide +kernel
theorem dX1_parse_103 : decode cX1_parse 103 = .ok (.aload_n 0, 1) := by decide +kernel
theorem dX1_parse_104 : decode cX1_parse 104 = .ok (.getfield 33, 3) := by decide +kernel
theorem dX1_parse_107 : decode cX1_parse 107 = .ok (.putfield 23, 3) := by decide +kernel
theorem dX1_parse_110 : decode cX1_parse 110 = .ok (.aload_n 0, 1) := by decide +kernel
theorem dX1_parse_111 : decode cX1_parse 111 = .ok (.getfield 26, 3) := by decide +kernel
theorem dX1_parse_114 : decode cX1_parse 114 = .ok (.aload_n 0, 1) := by decide +kernel
theorem dX1_parse_115 : decode cX1_parse 115 = .ok (.getfield 15, 3) := by decide +kernel
theorem dX1_parse_118 : decode cX1_parse 118 = .ok (.if_icmp .ne 7, 3) := by decide +kernel
theorem dX1_parse_121 : decode cX1_parse 121 = .ok (.iconst (-1), 1) := by decide +kernel
theorem dX1_parse_122 : decode cX1_parse 122 = .ok (.goto 7, 3) := by decide +kernel
theorem dX1_parse_125 : decode cX1_parse 125 = .ok (.aload_n 0, 1) := by decide +kernel
theorem dX1_parse_126 : decode cX1_parse 126 = .ok (.getfield 26, 3) := by decide +kernel
theorem dX1_parse_129 : decode cX1_parse 129 = .ok (.ireturn, 1) := by decide +kernel
theorem dX1_parseNumber_0 : decode cX1_parseNumber 0 = .ok (.aload_n 0, 1) := by decide +kernel
theorem dX1_parseNumber_1 : decode cX1_parseNumber 1 = .ok (.getfield 26, 3) := by decide +kernel
theorem dX1_parseNumber_4 : decode cX1_parseNumber 4 = .ok (.istore_n 2, 1) := by decide +kernel
theorem dX1_parseNumber_5 : decode cX1_parseNumber 5 = .ok (.aload_n 0, 1) := by decide +kernel
theorem dX1_parseNumber_6 : decode cX1_parseNumber 6 = .ok (.bipush 45, 2) := by decide +kernel
theorem dX1_parseNumber_8 : decode cX1_parseNumber 8 = .ok (.invokevirtual 36, 3) := by decide +kernel
theorem dX1_parseNumber_11 : decode cX1_parseNumber 11 = .ok (.istore_n 3, 1) := by decide +kernel
theorem dX1_parseNumber_12 : decode cX1_parseNumber 12 = .ok (.aload_n 0, 1) := by decide +kernel
theorem dX1_parseNumber_13 : decode cX1_parseNumber 13 = .ok (.invokevirtual 40, 3) := by decide +kernel
theorem dX1_parseNumber_16 : decode cX1_parseNumber 16 = .ok (.lstore 4, 2) := by decide +kernel
theorem dX1_parseNumber_18 : decode cX1_parseNumber 18 = .ok (.lload 4, 2) := by decide +kernel
theorem dX1_parseNumber_20 : decode cX1_parseNumber 20 = .ok (.ldc2_w 44, 3) := by decide +kernel
theorem dX1_parseNumber_23 : decode cX1_parseNumber 23 = .ok (.lcmp, 1) := by decide +kernel
theorem dX1_parseNumber_24 : decode cX1_parseNumber 24 = .ok (.ifCond .ne 8, 3) := by decide +kernel
theorem dX1_parseNumber_27 : decode cX1_parseNumber 27 = .ok (.aload_n 0, 1) := by decide +kernel
theorem dX1_parseNumber_28 : decode cX1_parseNumber 28 = .ok (.getfield 26, 3) := by decide +kernel
theorem dX1_parseNumber_31 : decode cX1_parseNumber 31 = .ok (.ireturn, 1) := by decide +kernel
theorem dX1_parseNumber_32 : decode cX1_parseNumber 32 = .ok (.lconst 1, 1) := by decide +kernel
theorem dX1_parseNumber_33 : decode cX1_parseNumber 33 = .ok (.lstore 6, 2) := by decide +kernel
theorem dX1_parseNumber_35 : decode cX1_parseNumber 35 = .ok (.aload_n 0, 1) := by decide +kernel
theorem dX1_parseNumber_36 : decode cX1_parseNumber 36 = .ok (.bipush 47, 2) := by decide +kernel
theorem dX1_parseNumber_38 : decode cX1_parseNumber 38 = .ok (.invokevirtual 36, 3) := by decide +kernel
theorem dX1_parseNumber_41 : decode cX1_parseNumber 41 = .ok (.ifCond .eq 23, 3) := by decide +kernel
theorem dX1_parseNumber_44 : decode cX1_parseNumber 44 = .ok (.aload_n 0, 1) := by decide +kernel
theorem dX1_parseNumber_45 : decode cX1_parseNumber 45 = .ok (.invokevirtual 40, 3) := by decide +kernel
theorem dX1_parseNumber_48 : decode cX1_parseNumber 48 = .ok (.lstore 6, 2) := by decide +kernel
theorem dX1_parseNumber_50 : decode cX1_parseNumber 50 = .ok (.lload 6, 2) := by decide +kernel
theorem dX1_parseNumber_52 : decode cX1_parseNumber 52 = .ok (.ldc2_w 44, 3) := by decide +kernel
theorem dX1_parseNumber_55 : decode cX1_parseNumber 55 = .ok (.lcmp, 1) := by decide +kernel
theorem dX1_parseNumber_56 : decode cX1_parseNumber 56 = .ok (.ifCond .ne 8, 3) := by decide +kernel
theorem dX1_parseNumber_59 : decode cX1_parseNumber 59 = .ok (.aload_n 0, 1) := by decide +kernel
theorem dX1_parseNumber_60 : decode cX1_parseNumber 60 = .ok (.getfield 26, 3) := by decide +kernel
theorem dX1_parseNumber_63 : decode cX1_parseNumber 63 = .ok (.ireturn, 1) := by decide +kernel
theorem dX1_parseNumber_64 : decode cX1_parseNumber 64 = .ok (.lload 4, 2) := by decide +kernel
theorem dX1_parseNumber_66 : decode cX1_parseNumber 66 = .ok (.ldc2_w 46, 3) := by decide +kernel
theorem dX1_parseNumber_69 : decode cX1_parseNumber 69 = .ok (.lload 6, 2) := by decide +kernel
theorem dX1_parseNumber_71 : decode cX1_parseNumber 71 = .ok (.lmul, 1) := by decide +kernel
theorem dX1_parseNumber_72 : decode cX1_parseNumber 72 = .ok (.lcmp, 1) := by decide +kernel
theorem dX1_parseNumber_73 : decode cX1_parseNumber 73 = .ok (.ifCond .gt 15, 3) := by decide +kernel
theorem dX1_parseNumber_76 : decode cX1_parseNumber 76 = .ok (.lload 4, 2) := by decide +kernel
theorem dX1_parseNumber_78 : decode cX1_parseNumber 78 = .ok (.lload 6, 2) := by decide +kernel
theorem dX1_parseNumber_80 : decode cX1_parseNumber 80 = .ok (.iload_n 1, 1) := by decide +kernel
theorem dX1_parseNumber_81 : decode cX1_parseNumber 81 = .ok (.i2l, 1) := by decide +kernel
theorem dX1_parseNumber_82 : decode cX1_parseNumber 82 = .ok (.invokestatic 48, 3) := by decide +kernel
theorem dX1_parseNumber_85 : decode cX1_parseNumber 85 = .ok (.ifCond .ne 5, 3) := by decide +kernel
theorem dX1_parseNumber_88 : decode cX1_parseNumber 88 = .ok (.iload_n 2, 1) := by decide +kernel
theorem dX1_parseNumber_89 : decode cX1_parseNumber 89 = .ok (.ireturn, 1) := by decide +kernel
theorem dX1_parseNumber_90 : decode cX1_parseNumber 90 = .ok (.lload 4, 2) := by decide +kernel
theorem dX1_parseNumber_92 : decode cX1_parseNumber 92 = .ok (.lload 6, 2) := by decide +kernel
theorem dX1_parseNumber_94 : decode cX1_parseNumber 94 = .ok (.iload_n 1, 1) := by decide +kernel
theorem dX1_parseNumber_95 : decode cX1_parseNumber 95 = .ok (.i2l, 1) := by decide +kernel
theorem dX1_parseNumber_96 : decode cX1_parseNumber 96 = .ok (.invokestatic 52, 3) := by decide +kernel
theorem dX1_parseNumber_99 : decode cX1_parseNumber 99 = .ok (.lstore 8, 2) := by decide +kernel
theorem dX1_parseNumber_101 : decode cX1_parseNumber 101 = .ok (.aload_n 0, 1) := by decide +kernel
theorem dX1_parseNumber_102 : decode cX1_parseNumber 102 = .ok (.iload_n 3, 1) := by decide +kernel
theorem dX1_parseNumber_103 : decode cX1_parseNumber 103 = .ok (.ifCond .eq 9, 3) := by decide +kernel
theorem dX1_parseNumber_106 : decode cX1_parseNumber 106 = .ok (.lload 8, 2) := by decide +kernel
theorem dX1_parseNumber_108 : decode cX1_parseNumber 108 = .ok (.lneg, 1) := by decide +kernel
theorem dX1_parseNumber_109 : decode cX1_parseNumber 109 = .ok (.goto 5, 3) := by decide +kernel
theorem dX1_parseNumber_112 : decode cX1_parseNumber 112 = .ok (.lload 8, 2) := by decide +kernel
theorem dX1_parseNumber_114 : decode cX1_parseNumber 114 = .ok (.putfield 33, 3) := by decide +kernel
theorem dX1_parseNumber_117 : decode cX1_parseNumber 117 = .ok (.iconst (-1), 1) := by decide +kernel
theorem dX1_parseNumber_118 : decode cX1_parseNumber 118 = .ok (.ireturn, 1) := by decide +kernel
theorem dX1_parseDigits_0 : decode cX1_parseDigits 0 = .ok (.lconst 0, 1) := by decide +kernel
theorem dX1_parseDigits_1 : decode cX1_parseDigits 1 = .ok (.lstore_n 1, 1) := by decide +kernel
theorem dX1_parseDigits_2 : decode cX1_parseDigits 2 = .ok (.iconst 0, 1) := by decide +kernel
theorem dX1_parseDigits_3 : decode cX1_parseDigits 3 = .ok (.istore_n 3, 1) := by decide +kernel
theorem dX1_parseDigits_4 : decode cX1_parseDigits 4 = .ok (.iload_n 3, 1) := by decide +kernel
theorem dX1_parseDigits_5 : decode cX1_parseDigits 5 = .ok (.bipush 6, 2) := by decide +kernel
theorem dX1_parseDigits_7 : decode cX1_parseDigits 7 = .ok (.if_icmp .ge 44, 3) := by decide +kernel
theorem dX1_parseDigits_10 : decode cX1_parseDigits 10 = .ok (.aload_n 0, 1) := by decide +kernel
theorem dX1_parseDigits_11 : decode cX1_parseDigits 11 = .ok (.invokevirtual 56, 3) := by decide +kernel
theorem dX1_parseDigits_14 : decode cX1_parseDigits 14 = .ok (.invokestatic 60, 3) := by decide +kernel
theorem dX1_parseDigits_17 : decode cX1_parseDigits 17 = .ok (.ifCond .eq 34, 3) := by decide +kernel
theorem dX1_parseDigits_20 : decode cX1_parseDigits 20 = .ok (.lload_n 1, 1) := by decide +kernel
theorem dX1_parseDigits_21 : decode cX1_parseDigits 21 = .ok (.ldc2_w 63, 3) := by decide +kernel
theorem dX1_parseDigits_24 : decode cX1_parseDigits 24 = .ok (.lmul, 1) := by decide +kernel
theorem dX1_parseDigits_25 : decode cX1_parseDigits 25 = .ok (.aload_n 0, 1) := by decide +kernel
theorem dX1_parseDigits_26 : decode cX1_parseDigits 26 = .ok (.invokevirtual 56, 3) := by decide +kernel
theorem dX1_parseDigits_29 : decode cX1_parseDigits 29 = .ok (.bipush 48, 2) := by decide +kernel
theorem dX1_parseDigits_31 : decode cX1_parseDigits 31 = .ok (.isub, 1) := by decide +kernel
theorem dX1_parseDigits_32 : decode cX1_parseDigits 32 = .ok (.i2l, 1) := by decide +kernel
theorem dX1_parseDigits_33 : decode cX1_parseDigits 33 = .ok (.ladd, 1) := by decide +kernel
theorem dX1_parseDigits_34 : decode cX1_parseDigits 34 = .ok (.lstore_n 1, 1) := by decide +kernel
theorem dX1_parseDigits_35 : decode cX1_parseDigits 35 = .ok (.iinc 3 1, 3) := by decide +kernel
theorem dX1_parseDigits_38 : decode cX1_parseDigits 38 = .ok (.aload_n 0, 1) := by decide +kernel
theorem dX1_parseDigits_39 : decode cX1_parseDigits 39 = .ok (.dup, 1) := by decide +kernel
theorem dX1_parseDigits_40 : decode cX1_parseDigits 40 = .ok (.getfield 26, 3) := by decide +kernel
theorem dX1_parseDigits_43 : decode cX1_parseDigits 43 = .ok (.iconst 1, 1) := by decide +kernel
theorem dX1_parseDigits_44 : decode cX1_parseDigits 44 = .ok (.iadd, 1) := by decide +kernel
theorem dX1_parseDigits_45 : decode cX1_parseDigits 45 = .ok (.putfield 26, 3) := by decide +kernel
theorem dX1_parseDigits_48 : decode cX1_parseDigits 48 = .ok (.goto (-44), 3) := by decide +kernel
theorem dX1_parseDigits_51 : decode cX1_parseDigits 51 = .ok (.iload_n 3, 1) := by decide +kernel
theorem dX1_parseDigits_52 : decode cX1_parseDigits 52 = .ok (.ifCond .eq 13, 3) := by decide +kernel
theorem dX1_parseDigits_55 : decode cX1_parseDigits 55 = .ok (.aload_n 0, 1) := by decide +kernel
theorem dX1_parseDigits_56 : decode cX1_parseDigits 56 = .ok (.invokevirtual 56, 3) := by decide +kernel
theorem dX1_parseDigits_59 : decode cX1_parseDigits 59 = .ok (.invokestatic 60, 3) := by decide +kernel
theorem dX1_parseDigits_62 : decode cX1_parseDigits 62 = .ok (.ifCond .eq 9, 3) := by decide +kernel
theorem dX1_parseDigits_65 : decode cX1_parseDigits 65 = .ok (.ldc2_w 44, 3) := by decide +kernel
theorem dX1_parseDigits_68 : decode cX1_parseDigits 68 = .ok (.goto 4, 3) := by decide +kernel
theorem dX1_parseDigits_71 : decode cX1_parseDigits 71 = .ok (.lload_n 1, 1) := by decide +kernel
theorem dX1_parseDigits_72 : decode cX1_parseDigits 72 = .ok (.lreturn, 1) := by decide +kernel
theorem dX1_isDigit_0 : decode cX1_isDigit 0 = .ok (.iload_n 0, 1) := by decide +kernel
theorem dX1_isDigit_1 : decode cX1_isDigit 1 = .ok (.bipush 48, 2) := by decide +kernel
theorem dX1_isDigit_3 : decode cX1_isDigit 3 = .ok (.if_icmp .lt 13, 3) := by decide +kernel
theorem dX1_isDigit_6 : decode cX1_isDigit 6 = .ok (.iload_n 0, 1) := by decide +kernel
theorem dX1_isDigit_7 : decode cX1_isDigit 7 = .ok (.bipush 57, 2) := by decide +kernel
theorem dX1_isDigit_9 : decode cX1_isDigit 9 = .ok (.if_icmp .gt 7, 3) := by decide +kernel
theorem dX1_isDigit_12 : decode cX1_isDigit 12 = .ok (.iconst 1, 1) := by decide +kernel
theorem dX1_isDigit_13 : decode cX1_isDigit 13 = .ok (.goto 4, 3) := by decide +kernel
theorem dX1_isDigit_16 : decode cX1_isDigit 16 = .ok (.iconst 0, 1) := by decide +kernel
theorem dX1_isDigit_17 : decode cX1_isDigit 17 = .ok (.ireturn, 1) := by decide +kernel
theorem dX1_skip_0 : decode cX1_skip 0 = .ok (.aload_n 0, 1) := by decide +kernel
theorem dX1_skip_1 : decode cX1_skip 1 = .ok (.invokevirtual 56, 3) := by decide +kernel
theorem dX1_skip_4 : decode cX1_skip 4 = .ok (.iload_n 1, 1) := by decide +kernel
theorem dX1_skip_5 : decode cX1_skip 5 = .ok (.if_icmp .eq 5, 3) := by decide +kernel
theorem dX1_skip_8 : decode cX1_skip 8 = .ok (.iconst 0, 1) := by decide +kernel
theorem dX1_skip_9 : decode cX1_skip 9 = .ok (.ireturn, 1) := by decide +kernel
theorem dX1_skip_10 : decode cX1_skip 10 = .ok (.aload_n 0, 1) := by decide +kernel
theorem dX1_skip_11 : decode cX1_skip 11 = .ok (.dup, 1) := by decide +kernel
theorem dX1_skip_12 : decode cX1_skip 12 = .ok (.getfield 26, 3) := by decide +kernel
theorem dX1_skip_15 : decode cX1_skip 15 = .ok (.iconst 1, 1) := by decide +kernel
theorem dX1_skip_16 : decode cX1_skip 16 = .ok (.iadd, 1) := by decide +kernel
theorem dX1_skip_17 : decode cX1_skip 17 = .ok (.putfield 26, 3) := by decide +kernel
theorem dX1_skip_20 : decode cX1_skip 20 = .ok (.iconst 1, 1) := by decide +kernel
theorem dX1_skip_21 : decode cX1_skip 21 = .ok (.ireturn, 1) := by decide +kernel
theorem dX1_characterNext_0 : decode cX1_characterNext 0 = .ok (.aload_n 0, 1) := by decide +kernel
theorem dX1_characterNext_1 : decode cX1_characterNext 1 = .ok (.getfield 26, 3) := by decide +kernel
theorem dX1_characterNext_4 : decode cX1_characterNext 4 = .ok (.ifCond .lt 30, 3) := by decide +kernel
theorem dX1_characterNext_7 : decode cX1_characterNext 7 = .ok (.aload_n 0, 1) := by decide +kernel
theorem dX1_characterNext_8 : decode cX1_characterNext 8 = .ok (.getfield 26, 3) := by decide +kernel
theorem dX1_characterNext_11 : decode cX1_characterNext 11 = .ok (.aload_n 0, 1) := by decide +kernel
theorem dX1_characterNext_12 : decode cX1_characterNext 12 = .ok (.getfield 15, 3) := by decide +kernel
theorem dX1_characterNext_15 : decode cX1_characterNext 15 = .ok (.if_icmp .ge 19, 3) := by decide +kernel
theorem dX1_characterNext_18 : decode cX1_characterNext 18 = .ok (.aload_n 0, 1) := by decide +kernel
theorem dX1_characterNext_19 : decode cX1_characterNext 19 = .ok (.getfield 26, 3) := by decide +kernel
theorem dX1_characterNext_22 : decode cX1_characterNext 22 = .ok (.aload_n 0, 1) := by decide +kernel
theorem dX1_characterNext_23 : decode cX1_characterNext 23 = .ok (.getfield 9, 3) := by decide +kernel
theorem dX1_characterNext_26 : decode cX1_characterNext 26 = .ok (.arraylength, 1) := by decide +kernel
theorem dX1_characterNext_27 : decode cX1_characterNext 27 = .ok (.if_icmp .ge 7, 3) := by decide +kernel
theorem dX1_characterNext_30 : decode cX1_characterNext 30 = .ok (.iconst 1, 1) := by decide +kernel
theorem dX1_characterNext_31 : decode cX1_characterNext 31 = .ok (.goto 4, 3) := by decide +kernel
theorem dX1_characterNext_34 : decode cX1_characterNext 34 = .ok (.iconst 0, 1) := by decide +kernel
theorem dX1_characterNext_35 : decode cX1_characterNext 35 = .ok (.istore_n 1, 1) := by decide +kernel
theorem dX1_characterNext_36 : decode cX1_characterNext 36 = .ok (.iload_n 1, 1) := by decide +kernel
theorem dX1_characterNext_37 : decode cX1_characterNext 37 = .ok (.ifCond .eq 15, 3) := by decide +kernel
theorem dX1_characterNext_40 : decode cX1_characterNext 40 = .ok (.aload_n 0, 1) := by decide +kernel
theorem dX1_characterNext_41 : decode cX1_characterNext 41 = .ok (.getfield 9, 3) := by decide +kernel
theorem dX1_characterNext_44 : decode cX1_characterNext 44 = .ok (.aload_n 0, 1) := by decide +kernel
theorem dX1_characterNext_45 : decode cX1_characterNext 45 = .ok (.getfield 26, 3) := by decide +kernel
theorem dX1_characterNext_48 : decode cX1_characterNext 48 = .ok (.caload, 1) := by decide +kernel
theorem dX1_characterNext_49 : decode cX1_characterNext 49 = .ok (.goto 4, 3) := by decide +kernel
theorem dX1_characterNext_52 : decode cX1_characterNext 52 = .ok (.iconst 0, 1) := by decide +kernel
theorem dX1_characterNext_53 : decode cX1_characterNext 53 = .ok (.ireturn, 1) := by decide +kernel
theorem dX2_init_0 : decode cX2_init 0 = .ok (.aload_n 0, 1) := by decide +kernel
theorem dX2_init_1 : decode cX2_init 1 = .ok (.invokespecial 3, 3) := by decide +kernel
theorem dX2_init_4 : decode cX2_init 4 = .ok (.aload_n 0, 1) := by decide +kernel
theorem dX2_init_5 : decode cX2_init 5 = .ok (.new 9, 3) := by decide +kernel
theorem dX2_init_8 : decode cX2_init 8 = .ok (.dup, 1) := by decide +kernel
theorem dX2_init_9 : decode cX2_init 9 = .ok (.invokespecial 11, 3) := by decide +kernel
theorem dX2_init_12 : decode cX2_init 12 = .ok (.putfield 12, 3) := by decide +kernel
theorem dX2_init_15 : decode cX2_init 15 = .ok (.aload_n 0, 1) := by decide +kernel
theorem dX2_init_16 : decode cX2_init 16 = .ok (.new 18, 3) := by decide +kernel
theorem dX2_init_19 : decode cX2_init 19 = .ok (.dup, 1) := by decide +kernel
theorem dX2_init_20 : decode cX2_init 20 = .ok (.bipush 61, 2) := by decide +kernel
theorem dX2_init_22 : decode cX2_init 22 = .ok (.bipush 10, 2) := by decide +kernel
theorem dX2_init_24 : decode cX2_init 24 = .ok (.invokespecial 20, 3) := by decide +kernel
theorem dX2_init_27 : decode cX2_init 27 = .ok (.putfield 23, 3) := by decide +kernel
theorem dX2_init_30 : decode cX2_init 30 = .ok (.aload_n 0, 1) := by decide +kernel
theorem dX2_init_31 : decode cX2_init 31 = .ok (.new 18, 3) := by decide +kernel
theorem dX2_init_34 : decode cX2_init 34 = .ok (.dup, 1) := by decide +kernel
theorem dX2_init_35 : decode cX2_init 35 = .ok (.bipush 10, 2) := by decide +kernel
theorem dX2_init_37 : decode cX2_init 37 = .ok (.bipush 10, 2) := by decide +kernel
theorem dX2_init_39 : decode cX2_init 39 = .ok (.invokespecial 20, 3) := by decide +kernel
theorem dX2_init_42 : decode cX2_init 42 = .ok (.putfield 27, 3) := by decide +kernel
theorem dX2_init_45 : decode cX2_init 45 = .ok (.aload_n 0, 1) := by decide +kernel
theorem dX2_init_46 : decode cX2_init 46 = .ok (.bipush 100, 2) := by decide +kernel
theorem dX2_init_48 : decode cX2_init 48 = .ok (.newarray .int, 2) := by decide +kernel
theorem dX2_init_50 : decode cX2_init 50 = .ok (.putfield 30, 3) := by decide +kernel
theorem dX2_init_53 : decode cX2_init 53 = .ok (.aload_n 0, 1) := by decide +kernel
theorem dX2_init_54 : decode cX2_init 54 = .ok (.bipush 10, 2) := by decide +kernel
theorem dX2_init_56 : decode cX2_init 56 = .ok (.newarray .int, 2) := by decide +kernel
theorem dX2_init_58 : decode cX2_init 58 = .ok (.putfield 34, 3) := by decide +kernel
theorem dX2_init_61 : decode cX2_init 61 = .ok (.aload_n 0, 1) := by decide +kernel
theorem dX2_init_62 : decode cX2_init 62 = .ok (.bipush 10, 2) := by decide +kernel
theorem dX2_init_64 : decode cX2_init 64 = .ok (.newarray .long, 2) := by decide +kernel
theorem dX2_init_66 : decode cX2_init 66 = .ok (.putfield 37, 3) := by decide +kernel
theorem dX2_init_69 : decode cX2_init 69 = .ok (.aload_n 0, 1) := by decide +kernel
theorem dX2_init_70 : decode cX2_init 70 = .ok (.bipush 10, 2) := by decide +kernel
theorem dX2_init_72 : decode cX2_init 72 = .ok (.newarray .long, 2) := by decide +kernel
theorem dX2_init_74 : decode cX2_init 74 = .ok (.putfield 41, 3) := by decide +kernel
theorem dX2_init_77 : decode cX2_init 77 = .ok (.aload_n 0, 1) := by decide +kernel
theorem dX2_init_78 : decode cX2_init 78 = .ok (.iconst 4, 1) := by decide +kernel
theorem dX2_init_79 : decode cX2_init 79 = .ok (.iconst 1, 1) := by decide +kernel
theorem dX2_init_80 : decode cX2_init 80 = .ok (.ldc 44, 2) := by decide +kernel
theorem dX2_init_82 : decode cX2_init 82 = .ok (.invokevirtual 45, 3) := by decide +kernel
theorem dX2_init_85 : decode cX2_init 85 = .ok (.return_, 1) := by decide +kernel
theorem dX2_reset_0 : decode cX2_reset 0 = .ok (.iload_n 1, 1) := by decide +kernel
theorem dX2_reset_1 : decode cX2_reset 1 = .ok (.iconst 2, 1) := by decide +kernel
theorem dX2_reset_2 : decode cX2_reset 2 = .ok (.bipush 10, 2) := by decide +kernel
theorem dX2_reset_4 : decode cX2_reset 4 = .ok (.invokestatic 49, 3) := by decide +kernel
theorem dX2_reset_7 : decode cX2_reset 7 = .ok (.ifCond .eq 22, 3) := by decide +kernel
theorem dX2_reset_10 : decode cX2_reset 10 = .ok (.iload_n 2, 1) := by decide +kernel
theorem dX2_reset_11 : decode cX2_reset 11 = .ok (.iconst 0, 1) := by decide +kernel
theorem dX2_reset_12 : decode cX2_reset 12 = .ok (.iconst 3, 1) := by decide +kernel
theorem dX2_reset_13 : decode cX2_reset 13 = .ok (.invokestatic 49, 3) := by decide +kernel
theorem dX2_reset_16 : decode cX2_reset 16 = .ok (.ifCond .eq 13, 3) := by decide +kernel
theorem dX2_reset_19 : decode cX2_reset 19 = .ok (.iload_n 3, 1) := by decide +kernel
theorem dX2_reset_20 : decode cX2_reset 20 = .ok (.iconst 1, 1) := by decide +kernel
theorem dX2_reset_21 : decode cX2_reset 21 = .ok (.ldc 44, 2) := by decide +kernel
theorem dX2_reset_23 : decode cX2_reset 23 = .ok (.invokestatic 49, 3) := by decide +kernel
theorem dX2_reset_26 : decode cX2_reset 26 = .ok (.ifCond .ne 7, 3) := by decide +kernel
theorem dX2_reset_29 : decode cX2_reset 29 = .ok (.sipush (-1002), 3) := by decide +kernel
theorem dX2_reset_32 : decode cX2_reset 32 = .ok (.ireturn, 1) := by decide +kernel
theorem dX2_reset_33 : decode cX2_reset 33 = .ok (.aload_n 0, 1) := by decide +kernel
theorem dX2_reset_34 : decode cX2_reset 34 = .ok (.getfield 53, 3) := by decide +kernel
theorem dX2_reset_37 : decode cX2_reset 37 = .ok (.istore 4, 2) := by decide +kernel
theorem dX2_reset_39 : decode cX2_reset 39 = .ok (.aload_n 0, 1) := by decide +kernel
theorem dX2_reset_40 : decode cX2_reset 40 = .ok (.iload_n 1, 1) := by decide +kernel
theorem dX2_reset_41 : decode cX2_reset 41 = .ok (.iload_n 2, 1) := by decide +kernel
theorem dX2_reset_42 : decode cX2_reset 42 = .ok (.iload_n 3, 1) := by decide +kernel
theorem dX2_reset_43 : decode cX2_reset 43 = .ok (.invokevirtual 45, 3) := by decide +kernel
theorem dX2_reset_46 : decode cX2_reset 46 = .ok (.iload 4, 2) := by decide +kernel
theorem dX2_reset_48 : decode cX2_reset 48 = .ok (.ireturn, 1) := by decide +kernel
theorem dX2_type_0 : decode cX2_type 0 = .ok (.aload_n 0, 1) := by decide +kernel
theorem dX2_type_1 : decode cX2_type 1 = .ok (.getfield 12, 3) := by decide +kernel
theorem dX2_type_4 : decode cX2_type 4 = .ok (.iload_n 1, 1) := by decide +kernel
theorem dX2_type_5 : decode cX2_type 5 = .ok (.invokevirtual 57, 3) := by decide +kernel
theorem dX2_type_8 : decode cX2_type 8 = .ok (.ifCond .eq 13, 3) := by decide +kernel
theorem dX2_type_11 : decode cX2_type 11 = .ok (.aload_n 0, 1) := by decide +kernel
theorem dX2_type_12 : decode cX2_type 12 = .ok (.getfield 12, 3) := by decide +kernel
theorem dX2_type_15 : decode cX2_type 15 = .ok (.invokevirtual 61, 3) := by decide +kernel
theorem dX2_type_18 : decode cX2_type 18 = .ok (.goto 6, 3) := by decide +kernel
theorem dX2_type_21 : decode cX2_type 21 = .ok (.sipush (-1004), 3) := by decide +kernel
theorem dX2_type_24 : decode cX2_type 24 = .ok (.ireturn, 1) := by decide +kernel
theorem dX2_clearText_0 : decode cX2_clearText 0 = .ok (.aload_n 0, 1) := by decide +kernel
theorem dX2_clearText_1 : decode cX2_clearText 1 = .ok (.getfield 12, 3) := by decide +kernel
theorem dX2_clearText_4 : decode cX2_clearText 4 = .ok (.invokevirtual 65, 3) := by decide +kernel
theorem dX2_clearText_7 : decode cX2_clearText 7 = .ok (.ireturn, 1) := by decide +kernel
theorem dX2_readInput_0 : decode cX2_readInput 0 = .ok (.aload_n 0, 1) := by decide +kernel
theorem dX2_readInput_1 : decode cX2_readInput 1 = .ok (.iload_n 1, 1) := by decide +kernel
theorem dX2_readInput_2 : decode cX2_readInput 2 = .ok (.invokevirtual 68, 3) := by decide +kernel
theorem dX2_readInput_5 : decode cX2_readInput 5 = .ok (.ifCond .ne 7, 3) := by decide +kernel
theorem dX2_readInput_8 : decode cX2_readInput 8 = .ok (.sipush (-1001), 3) := by decide +kernel
theorem dX2_readInput_11 : decode cX2_readInput 11 = .ok (.ireturn, 1) := by decide +kernel
theorem dX2_readInput_12 : decode cX2_readInput 12 = .ok (.aload_n 0, 1) := by decide +kernel
theorem dX2_readInput_13 : decode cX2_readInput 13 = .ok (.getfield 72, 3) := by decide +kernel
theorem dX2_readInput_16 : decode cX2_readInput 16 = .ok (.ifCond .eq 7, 3) := by decide +kernel
theorem dX2_readInput_19 : decode cX2_readInput 19 = .ok (.sipush (-1003), 3) := by decide +kernel
theorem dX2_readInput_22 : decode cX2_readInput 22 = .ok (.ireturn, 1) := by decide +kernel
theorem dX2_readInput_23 : decode cX2_readInput 23 = .ok (.aload_n 0, 1) := by decide +kernel
theorem dX2_readInput_24 : decode cX2_readInput 24 = .ok (.aload_n 0, 1) := by decide +kernel
theorem dX2_readInput_25 : decode cX2_readInput 25 = .ok (.getfield 23, 3) := by decide +kernel
theorem dX2_readInput_28 : decode cX2_readInput 28 = .ok (.iconst 0, 1) := by decide +kernel
theorem dX2_readInput_29 : decode cX2_readInput 29 = .ok (.iload_n 1, 1) := by decide +kernel
theorem dX2_readInput_30 : decode cX2_readInput 30 = .ok (.invokevirtual 75, 3) := by decide +kernel
theorem dX2_readInput_33 : decode cX2_readInput 33 = .ok (.ireturn, 1) := by decide +kernel
theorem dX2_readLie_0 : decode cX2_readLie 0 = .ok (.aload_n 0, 1) := by decide +kernel
theorem dX2_readLie_1 : decode cX2_readLie 1 = .ok (.iload_n 1, 1) := by decide +kernel
theorem dX2_readLie_2 : decode cX2_readLie 2 = .ok (.iload_n 2, 1) := by decide +kernel
theorem dX2_readLie_3 : decode cX2_readLie 3 = .ok (.invokevirtual 79, 3) := by decide +kernel
theorem dX2_readLie_6 : decode cX2_readLie 6 = .ok (.ifCond .ne 7, 3) := by decide +kernel
theorem dX2_readLie_9 : decode cX2_readLie 9 = .ok (.sipush (-1001), 3) := by decide +kernel
theorem dX2_readLie_12 : decode cX2_readLie 12 = .ok (.ireturn, 1) := by decide +kernel
theorem dX2_readLie_13 : decode cX2_readLie 13 = .ok (.aload_n 0, 1) := by decide +kernel
theorem dX2_readLie_14 : decode cX2_readLie 14 = .ok (.aload_n 0, 1) := by decide +kernel
theorem dX2_readLie_15 : decode cX2_readLie 15 = .ok (.getfield 27, 3) := by decide +kernel
theorem dX2_readLie_18 : decode cX2_readLie 18 = .ok (.iload_n 1, 1) := by decide +kernel
theorem dX2_readLie_19 : decode cX2_readLie 19 = .ok (.iload_n 2, 1) := by decide +kernel
theorem dX2_readLie_20 : decode cX2_readLie 20 = .ok (.invokevirtual 75, 3) := by decide +kernel
theorem dX2_readLie_23 : decode cX2_readLie 23 = .ok (.ireturn, 1) := by decide +kernel
theorem dX2_setFaulty_0 : decode cX2_setFaulty 0 = .ok (.aload_n 0, 1) := by decide +kernel
theorem dX2_setFaulty_1 : decode cX2_setFaulty 1 = .ok (.iload_n 1, 1) := by decide +kernel
theorem dX2_setFaulty_2 : decode cX2_setFaulty 2 = .ok (.invokevirtual 68, 3) := by decide +kernel
theorem dX2_setFaulty_5 : decode cX2_setFaulty 5 = .ok (.ifCond .ne 7, 3) := by decide +kernel
theorem dX2_setFaulty_8 : decode cX2_setFaulty 8 = .ok (.sipush (-1001), 3) := by decide +kernel
theorem dX2_setFaulty_11 : decode cX2_setFaulty 11 = .ok (.ireturn, 1) := by decide +kernel
theorem dX2_setFaulty_12 : decode cX2_setFaulty 12 = .ok (.iload_n 2, 1) := by decide +kernel
theorem dX2_setFaulty_13 : decode cX2_setFaulty 13 = .ok (.iconst 1, 1) := by decide +kernel
theorem dX2_setFaulty_14 : decode cX2_setFaulty 14 = .ok (.iconst 5, 1) := by decide +kernel
theorem dX2_setFaulty_15 : decode cX2_setFaulty 15 = .ok (.invokestatic 49, 3) := by decide +kernel
theorem dX2_setFaulty_18 : decode cX2_setFaulty 18 = .ok (.ifCond .eq 44, 3) := by decide +kernel
theorem dX2_setFaulty_21 : decode cX2_setFaulty 21 = .ok (.iload_n 3, 1) := by decide +kernel
theorem dX2_setFaulty_22 : decode cX2_setFaulty 22 = .ok (.sipush (-1000), 3) := by decide +kernel
theorem dX2_setFaulty_25 : decode cX2_setFaulty 25 = .ok (.sipush 1000, 3) := by decide +kernel
theorem dX2_setFaulty_28 : decode cX2_setFaulty 28 = .ok (.invokestatic 49, 3) := by decide +kernel
theorem dX2_setFaulty_31 : decode cX2_setFaulty 31 = .ok (.ifCond .eq 31, 3) := by decide +kernel
theorem dX2_setFaulty_34 : decode cX2_setFaulty 34 = .ok (.iload 4, 2) := by decide +kernel
theorem dX2_setFaulty_36 : decode cX2_setFaulty 36 = .ok (.iconst 1, 1) := by decide +kernel
theorem dX2_setFaulty_37 : decode cX2_setFaulty 37 = .ok (.sipush 1000, 3) := by decide +kernel
theorem dX2_setFaulty_40 : decode cX2_setFaulty 40 = .ok (.invokestatic 49, 3) := by decide +kernel
theorem dX2_setFaulty_43 : decode cX2_setFaulty 43 = .ok (.ifCond .eq 19, 3) := by decide +kernel
theorem dX2_setFaulty_46 : decode cX2_setFaulty 46 = .ok (.iload_n 3, 1) := by decide +kernel
theorem dX2_setFaulty_47 : decode cX2_setFaulty 47 = .ok (.i2l, 1) := by decide +kernel
theorem dX2_setFaulty_48 : decode cX2_setFaulty 48 = .ok (.iload 4, 2) := by decide +kernel
theorem dX2_setFaulty_50 : decode cX2_setFaulty 50 = .ok (.i2l, 1) := by decide +kernel
theorem dX2_setFaulty_51 : decode cX2_setFaulty 51 = .ok (.aload_n 0, 1) := by decide +kernel
theorem dX2_setFaulty_52 : decode cX2_setFaulty 52 = .ok (.getfield 83, 3) := by decide +kernel
theorem dX2_setFaulty_55 : decode cX2_setFaulty 55 = .ok (.i2l, 1) := by decide +kernel
theorem dX2_setFaulty_56 : decode cX2_setFaulty 56 = .ok (.invokestatic 86, 3) := by decide +kernel
theorem dX2_setFaulty_59 : decode cX2_setFaulty 59 = .ok (.ifCond .ne 7, 3) := by decide +kernel
theorem dX2_setFaulty_62 : decode cX2_setFaulty 62 = .ok (.sipush (-1002), 3) := by decide +kernel
theorem dX2_setFaulty_65 : decode cX2_setFaulty 65 = .ok (.ireturn, 1) := by decide +kernel
theorem dX2_setFaulty_66 : decode cX2_setFaulty 66 = .ok (.aload_n 0, 1) := by decide +kernel
theorem dX2_setFaulty_67 : decode cX2_setFaulty 67 = .ok (.getfield 72, 3) := by decide +kernel
theorem dX2_setFaulty_70 : decode cX2_setFaulty 70 = .ok (.ifCond .eq 7, 3) := by decide +kernel
theorem dX2_setFaulty_73 : decode cX2_setFaulty 73 = .ok (.sipush (-1003), 3) := by decide +kernel
theorem dX2_setFaulty_76 : decode cX2_setFaulty 76 = .ok (.ireturn, 1) := by decide +kernel
theorem dX2_setFaulty_77 : decode cX2_setFaulty 77 = .ok (.aload_n 0, 1) := by decide +kernel
theorem dX2_setFaulty_78 : decode cX2_setFaulty 78 = .ok (.getfield 34, 3) := by decide +kernel
theorem dX2_setFaulty_81 : decode cX2_setFaulty 81 = .ok (.iload_n 1, 1) := by decide +kernel
theorem dX2_setFaulty_82 : decode cX2_setFaulty 82 = .ok (.iaload, 1) := by decide +kernel
theorem dX2_setFaulty_83 : decode cX2_setFaulty 83 = .ok (.istore 5, 2) := by decide +kernel
theorem dX2_setFaulty_85 : decode cX2_setFaulty 85 = .ok (.aload_n 0, 1) := by decide +kernel
theorem dX2_setFaulty_86 : decode cX2_setFaulty 86 = .ok (.getfield 34, 3) := by decide +kernel
theorem dX2_setFaulty_89 : decode cX2_setFaulty 89 = .ok (.iload_n 1, 1) := by decide +kernel
theorem dX2_setFaulty_90 : decode cX2_setFaulty 90 = .ok (.iload_n 2, 1) := by decide +kernel
theorem dX2_setFaulty_91 : decode cX2_setFaulty 91 = .ok (.iastore, 1) := by decide +kernel
theorem dX2_setFaulty_92 : decode cX2_setFaulty 92 = .ok (.aload_n 0, 1) := by decide +kernel
theorem dX2_setFaulty_93 : decode cX2_setFaulty 93 = .ok (.getfield 37, 3) := by decide +kernel
theorem dX2_setFaulty_96 : decode cX2_setFaulty 96 = .ok (.iload_n 1, 1) := by decide +kernel
theorem dX2_setFaulty_97 : decode cX2_setFaulty 97 = .ok (.iload_n 3, 1) := by decide +kernel
theorem dX2_setFaulty_98 : decode cX2_setFaulty 98 = .ok (.i2l, 1) := by decide +kernel
theorem dX2_setFaulty_99 : decode cX2_setFaulty 99 = .ok (.iload 4, 2) := by decide +kernel
theorem dX2_setFaulty_101 : decode cX2_setFaulty 101 = .ok (.i2l, 1) := by decide +kernel
theorem dX2_setFaulty_102 : decode cX2_setFaulty 102 = .ok (.aload_n 0, 1) := by decide +kernel
theorem dX2_setFaulty_103 : decode cX2_setFaulty 103 = .ok (.getfield 83, 3) := by decide +kernel
theorem dX2_setFaulty_106 : decode cX2_setFaulty 106 = .ok (.i2l, 1) := by decide +kernel
theorem dX2_setFaulty_107 : decode cX2_setFaulty 107 = .ok (.invokestatic 90, 3) := by decide +kernel
theorem dX2_setFaulty_110 : decode cX2_setFaulty 110 = .ok (.lastore, 1) := by decide +kernel
theorem dX2_setFaulty_111 : decode cX2_setFaulty 111 = .ok (.iload 5, 2) := by decide +kernel
theorem dX2_setFaulty_113 : decode cX2_setFaulty 113 = .ok (.ireturn, 1) := by decide +kernel
theorem dX2_setCorrect_0 : decode cX2_setCorrect 0 = .ok (.aload_n 0, 1) := by decide +kernel
theorem dX2_setCorrect_1 : decode cX2_setCorrect 1 = .ok (.iload_n 1, 1) := by decide +kernel
theorem dX2_setCorrect_2 : decode cX2_setCorrect 2 = .ok (.invokevirtual 68, 3) := by decide +kernel
theorem dX2_setCorrect_5 : decode cX2_setCorrect 5 = .ok (.ifCond .ne 7, 3) := by decide +kernel
theorem dX2_setCorrect_8 : decode cX2_setCorrect 8 = .ok (.sipush (-1001), 3) := by decide +kernel
theorem dX2_setCorrect_11 : decode cX2_setCorrect 11 = .ok (.ireturn, 1) := by decide +kernel
theorem dX2_setCorrect_12 : decode cX2_setCorrect 12 = .ok (.aload_n 0, 1) := by decide +kernel
theorem dX2_setCorrect_13 : decode cX2_setCorrect 13 = .ok (.getfield 72, 3) := by decide +kernel
theorem dX2_setCorrect_16 : decode cX2_setCorrect 16 = .ok (.ifCond .eq 7, 3) := by decide +kernel
theorem dX2_setCorrect_19 : decode cX2_setCorrect 19 = .ok (.sipush (-1003), 3) := by decide +kernel
theorem dX2_setCorrect_22 : decode cX2_setCorrect 22 = .ok (.ireturn, 1) := by decide +kernel
theorem dX2_setCorrect_23 : decode cX2_setCorrect 23 = .ok (.aload_n 0, 1) := by decide +kernel
theorem dX2_setCorrect_24 : decode cX2_setCorrect 24 = .ok (.getfield 34, 3) := by decide +kernel
theorem dX2_setCorrect_27 : decode cX2_setCorrect 27 = .ok (.iload_n 1, 1) := by decide +kernel
theorem dX2_setCorrect_28 : decode cX2_setCorrect 28 = .ok (.iaload, 1) := by decide +kernel
theorem dX2_setCorrect_29 : decode cX2_setCorrect 29 = .ok (.istore_n 2, 1) := by decide +kernel
theorem dX2_setCorrect_30 : decode cX2_setCorrect 30 = .ok (.aload_n 0, 1) := by decide +kernel
theorem dX2_setCorrect_31 : decode cX2_setCorrect 31 = .ok (.getfield 34, 3) := by decide +kernel
theorem dX2_setCorrect_34 : decode cX2_setCorrect 34 = .ok (.iload_n 1, 1) := by decide +kernel
theorem dX2_setCorrect_35 : decode cX2_setCorrect 35 = .ok (.iconst 0, 1) := by decide +kernel
theorem dX2_setCorrect_36 : decode cX2_setCorrect 36 = .ok (.iastore, 1) := by decide +kernel
theorem dX2_setCorrect_37 : decode cX2_setCorrect 37 = .ok (.iload_n 2, 1) := by decide +kernel
theorem dX2_setCorrect_38 : decode cX2_setCorrect 38 = .ok (.ireturn, 1) := by decide +kernel
theorem dX2_setLink_0 : decode cX2_setLink 0 = .ok (.aload_n 0, 1) := by decide +kernel
theorem dX2_setLink_1 : decode cX2_setLink 1 = .ok (.iload_n 1, 1) := by decide +kernel
theorem dX2_setLink_2 : decode cX2_setLink 2 = .ok (.iload_n 2, 1) := by decide +kernel
theorem dX2_setLink_3 : decode cX2_setLink 3 = .ok (.invokevirtual 79, 3) := by decide +kernel
theorem dX2_setLink_6 : decode cX2_setLink 6 = .ok (.ifCond .ne 7, 3) := by decide +kernel
theorem dX2_setLink_9 : decode cX2_setLink 9 = .ok (.sipush (-1001), 3) := by decide +kernel
theorem dX2_setLink_12 : decode cX2_setLink 12 = .ok (.ireturn, 1) := by decide +kernel
theorem dX2_setLink_13 : decode cX2_setLink 13 = .ok (.iload_n 3, 1) := by decide +kernel
theorem dX2_setLink_14 : decode cX2_setLink 14 = .ok (.iconst (-1), 1) := by decide +kernel
theorem dX2_setLink_15 : decode cX2_setLink 15 = .ok (.iconst 3, 1) := by decide +kernel
theorem dX2_setLink_16 : decode cX2_setLink 16 = .ok (.invokestatic 49, 3) := by decide +kernel
theorem dX2_setLink_19 : decode cX2_setLink 19 = .ok (.ifCond .ne 7, 3) := by decide +kernel
theorem dX2_setLink_22 : decode cX2_setLink 22 = .ok (.sipush (-1002), 3) := by decide +kernel
theorem dX2_setLink_25 : decode cX2_setLink 25 = .ok (.ireturn, 1) := by decide +kernel
theorem dX2_setLink_26 : decode cX2_setLink 26 = .ok (.aload_n 0, 1) := by decide +kernel
theorem dX2_setLink_27 : decode cX2_setLink 27 = .ok (.iload_n 1, 1) := by decide +kernel
theorem dX2_setLink_28 : decode cX2_setLink 28 = .ok (.iload_n 2, 1) := by decide +kernel
theorem dX2_setLink_29 : decode cX2_setLink 29 = .ok (.invokevirtual 94, 3) := by decide +kernel
theorem dX2_setLink_32 : decode cX2_setLink 32 = .ok (.istore 4, 2) := by decide +kernel
theorem dX2_setLink_34 : decode cX2_setLink 34 = .ok (.aload_n 0, 1) := by decide +kernel
theorem dX2_setLink_35 : decode cX2_setLink 35 = .ok (.getfield 30, 3) := by decide +kernel
theorem dX2_setLink_38 : decode cX2_setLink 38 = .ok (.iload_n 1, 1) := by decide +kernel
theorem dX2_setLink_39 : decode cX2_setLink 39 = .ok (.bipush 10, 2) := by decide +kernel
theorem dX2_setLink_41 : decode cX2_setLink 41 = .ok (.imul, 1) := by decide +kernel
theorem dX2_setLink_42 : decode cX2_setLink 42 = .ok (.iload_n 2, 1) := by decide +kernel
theorem dX2_setLink_43 : decode cX2_setLink 43 = .ok (.iadd, 1) := by decide +kernel
theorem dX2_setLink_44 : decode cX2_setLink 44 = .ok (.iload_n 3, 1) := by decide +kernel
theorem dX2_setLink_45 : decode cX2_setLink 45 = .ok (.iastore, 1) := by decide +kernel
theorem dX2_setLink_46 : decode cX2_setLink 46 = .ok (.iload 4, 2) := by decide +kernel
theorem dX2_setLink_48 : decode cX2_setLink 48 = .ok (.ireturn, 1) := by decide +kernel
theorem dX2_setRule_0 : decode cX2_setRule 0 = .ok (.iload_n 1, 1) := by decide +kernel
theorem dX2_setRule_1 : decode cX2_setRule 1 = .ok (.iconst 0, 1) := by decide +kernel
theorem dX2_setRule_2 : decode cX2_setRule 2 = .ok (.iconst 3, 1) := by decide +kernel
theorem dX2_setRule_3 : decode cX2_setRule 3 = .ok (.invokestatic 49, 3) := by decide +kernel
theorem dX2_setRule_6 : decode cX2_setRule 6 = .ok (.ifCond .ne 7, 3) := by decide +kernel
theorem dX2_setRule_9 : decode cX2_setRule 9 = .ok (.sipush (-1002), 3) := by decide +kernel
theorem dX2_setRule_12 : decode cX2_setRule 12 = .ok (.ireturn, 1) := by decide +kernel
theorem dX2_setRule_13 : decode cX2_setRule 13 = .ok (.aload_n 0, 1) := by decide +kernel
theorem dX2_setRule_14 : decode cX2_setRule 14 = .ok (.getfield 98, 3) := by decide +kernel
theorem dX2_setRule_17 : decode cX2_setRule 17 = .ok (.istore_n 2, 1) := by decide +kernel
theorem dX2_setRule_18 : decode cX2_setRule 18 = .ok (.aload_n 0, 1) := by decide +kernel
theorem dX2_setRule_19 : decode cX2_setRule 19 = .ok (.iload_n 1, 1) := by decide +kernel
theorem dX2_setRule_20 : decode cX2_setRule 20 = .ok (.putfield 98, 3) := by decide +kernel
theorem dX2_setRule_23 : decode cX2_setRule 23 = .ok (.iload_n 2, 1) := by decide +kernel
theorem dX2_setRule_24 : decode cX2_setRule 24 = .ok (.ireturn, 1) := by decide +kernel
theorem dX2_count_0 : decode cX2_count 0 = .ok (.iload_n 1, 1) := by decide +kernel
theorem dX2_count_1 : decode cX2_count 1 = .ok (.tableswitch 88 0 7 #[47, 52, 57, 62, 67, 72, 77, 83], 47) := by decide +kernel
theorem dX2_count_48 : decode cX2_count 48 = .ok (.aload_n 0, 1) := by decide +kernel
theorem dX2_count_49 : decode cX2_count 49 = .ok (.getfield 53, 3) := by decide +kernel
theorem dX2_count_52 : decode cX2_count 52 = .ok (.ireturn, 1) := by decide +kernel
theorem dX2_count_53 : decode cX2_count 53 = .ok (.aload_n 0, 1) := by decide +kernel
theorem dX2_count_54 : decode cX2_count 54 = .ok (.getfield 101, 3) := by decide +kernel
theorem dX2_count_57 : decode cX2_count 57 = .ok (.ireturn, 1) := by decide +kernel
theorem dX2_count_58 : decode cX2_count 58 = .ok (.aload_n 0, 1) := by decide +kernel
theorem dX2_count_59 : decode cX2_count 59 = .ok (.getfield 83, 3) := by decide +kernel
theorem dX2_count_62 : decode cX2_count 62 = .ok (.ireturn, 1) := by decide +kernel
theorem dX2_count_63 : decode cX2_count 63 = .ok (.aload_n 0, 1) := by decide +kernel
theorem dX2_count_64 : decode cX2_count 64 = .ok (.getfield 72, 3) := by decide +kernel
theorem dX2_count_67 : decode cX2_count 67 = .ok (.ireturn, 1) := by decide +kernel
theorem dX2_count_68 : decode cX2_count 68 = .ok (.aload_n 0, 1) := by decide +kernel
theorem dX2_count_69 : decode cX2_count 69 = .ok (.invokevirtual 104, 3) := by decide +kernel
theorem dX2_count_72 : decode cX2_count 72 = .ok (.ireturn, 1) := by decide +kernel
theorem dX2_count_73 : decode cX2_count 73 = .ok (.aload_n 0, 1) := by decide +kernel
theorem dX2_count_74 : decode cX2_count 74 = .ok (.getfield 98, 3) := by decide +kernel
theorem dX2_count_77 : decode cX2_count 77 = .ok (.ireturn, 1) := by decide +kernel
theorem dX2_count_78 : decode cX2_count 78 = .ok (.aload_n 0, 1) := by decide +kernel
theorem dX2_count_79 : decode cX2_count 79 = .ok (.iconst 3, 1) := by decide +kernel
theorem dX2_count_80 : decode cX2_count 80 = .ok (.invokevirtual 107, 3) := by decide +kernel
theorem dX2_count_83 : decode cX2_count 83 = .ok (.ireturn, 1) := by decide +kernel
theorem dX2_count_84 : decode cX2_count 84 = .ok (.aload_n 0, 1) := by decide +kernel
theorem dX2_count_85 : decode cX2_count 85 = .ok (.invokevirtual 111, 3) := by decide +kernel
theorem dX2_count_88 : decode cX2_count 88 = .ok (.ireturn, 1) := by decide +kernel
theorem dX2_count_89 : decode cX2_count 89 = .ok (.sipush (-1002), 3) := by decide +kernel
theorem dX2_count_92 : decode cX2_count 92 = .ok (.ireturn, 1) := by decide +kernel
theorem dX2_strategy_0 : decode cX2_strategy 0 = .ok (.aload_n 0, 1) := by decide +kernel
theorem dX2_strategy_1 : decode cX2_strategy 1 = .ok (.iload_n 1, 1) := by decide +kernel
theorem dX2_strategy_2 : decode cX2_strategy 2 = .ok (.invokevirtual 68, 3) := by decide +kernel
theorem dX2_strategy_5 : decode cX2_strategy 5 = .ok (.ifCond .eq 12, 3) := by decide +kernel
theorem dX2_strategy_8 : decode cX2_strategy 8 = .ok (.aload_n 0, 1) := by decide +kernel
theorem dX2_strategy_9 : decode cX2_strategy 9 = .ok (.getfield 34, 3) := by decide +kernel
theorem dX2_strategy_12 : decode cX2_strategy 12 = .ok (.iload_n 1, 1) := by decide +kernel
theorem dX2_strategy_13 : decode cX2_strategy 13 = .ok (.iaload, 1) := by decide +kernel
theorem dX2_strategy_14 : decode cX2_strategy 14 = .ok (.goto 6, 3) := by decide +kernel
theorem dX2_strategy_17 : decode cX2_strategy 17 = .ok (.sipush (-1001), 3) := by decide +kernel
theorem dX2_strategy_20 : decode cX2_strategy 20 = .ok (.ireturn, 1) := by decide +kernel
theorem dX2_run_0 : decode cX2_run 0 = .ok (.iload_n 1, 1) := by decide +kernel
theorem dX2_run_1 : decode cX2_run 1 = .ok (.iconst 1, 1) := by decide +kernel
theorem dX2_run_2 : decode cX2_run 2 = .ok (.bipush 60, 2) := by decide +kernel
theorem dX2_run_4 : decode cX2_run 4 = .ok (.invokestatic 49, 3) := by decide +kernel
theorem dX2_run_7 : decode cX2_run 7 = .ok (.ifCond .ne 7, 3) := by decide +kernel
theorem dX2_run_10 : decode cX2_run 10 = .ok (.sipush (-1002), 3) := by decide +kernel
theorem dX2_run_13 : decode cX2_run 13 = .ok (.ireturn, 1) := by decide +kernel
theorem dX2_run_14 : decode cX2_run 14 = .ok (.aload_n 0, 1) := by decide +kernel
theorem dX2_run_15 : decode cX2_run 15 = .ok (.getfield 72, 3) := by decide +kernel
theorem dX2_run_18 : decode cX2_run 18 = .ok (.iload_n 1, 1) := by decide +kernel
theorem dX2_run_19 : decode cX2_run 19 = .ok (.iadd, 1) := by decide +kernel
theorem dX2_run_20 : decode cX2_run 20 = .ok (.bipush 60, 2) := by decide +kernel
theorem dX2_run_22 : decode cX2_run 22 = .ok (.if_icmp .le 7, 3) := by decide +kernel
theorem dX2_run_25 : decode cX2_run 25 = .ok (.sipush (-1004), 3) := by decide +kernel
theorem dX2_run_28 : decode cX2_run 28 = .ok (.ireturn, 1) := by decide +kernel
theorem dX2_run_29 : decode cX2_run 29 = .ok (.aload_n 0, 1) := by decide +kernel
theorem dX2_run_30 : decode cX2_run 30 = .ok (.iload_n 1, 1) := by decide +kernel
theorem dX2_run_31 : decode cX2_run 31 = .ok (.invokevirtual 114, 3) := by decide +kernel
theorem dX2_run_34 : decode cX2_run 34 = .ok (.aload_n 0, 1) := by decide +kernel
theorem dX2_run_35 : decode cX2_run 35 = .ok (.getfield 72, 3) := by decide +kernel
theorem dX2_run_38 : decode cX2_run 38 = .ok (.ireturn, 1) := by decide +kernel
theorem dX2_runTo_0 : decode cX2_runTo 0 = .ok (.iload_n 1, 1) := by decide +kernel
theorem dX2_runTo_1 : decode cX2_runTo 1 = .ok (.iload_n 2, 1) := by decide +kernel
theorem dX2_runTo_2 : decode cX2_runTo 2 = .ok (.iload_n 3, 1) := by decide +kernel
theorem dX2_runTo_3 : decode cX2_runTo 3 = .ok (.invokestatic 118, 3) := by decide +kernel
theorem dX2_runTo_6 : decode cX2_runTo 6 = .ok (.ifCond .ne 7, 3) := by decide +kernel
theorem dX2_runTo_9 : decode cX2_runTo 9 = .ok (.sipush (-1002), 3) := by decide +kernel
theorem dX2_runTo_12 : decode cX2_runTo 12 = .ok (.ireturn, 1) := by decide +kernel
theorem dX2_runTo_13 : decode cX2_runTo 13 = .ok (.aload_n 0, 1) := by decide +kernel
theorem dX2_runTo_14 : decode cX2_runTo 14 = .ok (.getfield 72, 3) := by decide +kernel
theorem dX2_runTo_17 : decode cX2_runTo 17 = .ok (.istore 4, 2) := by decide +kernel
theorem dX2_runTo_19 : decode cX2_runTo 19 = .ok (.aload_n 0, 1) := by decide +kernel
theorem dX2_runTo_20 : decode cX2_runTo 20 = .ok (.iload_n 1, 1) := by decide +kernel
theorem dX2_runTo_21 : decode cX2_runTo 21 = .ok (.iload_n 2, 1) := by decide +kernel
theorem dX2_runTo_22 : decode cX2_runTo 22 = .ok (.iload_n 3, 1) := by decide +kernel
theorem dX2_runTo_23 : decode cX2_runTo 23 = .ok (.invokevirtual 121, 3) := by decide +kernel
theorem dX2_runTo_26 : decode cX2_runTo 26 = .ok (.istore 5, 2) := by decide +kernel
theorem dX2_runTo_28 : decode cX2_runTo 28 = .ok (.iload 5, 2) := by decide +kernel
theorem dX2_runTo_30 : decode cX2_runTo 30 = .ok (.sipush (-1005), 3) := by decide +kernel
theorem dX2_runTo_33 : decode cX2_runTo 33 = .ok (.if_icmp .ne 9, 3) := by decide +kernel
theorem dX2_runTo_36 : decode cX2_runTo 36 = .ok (.aload_n 0, 1) := by decide +kernel
theorem dX2_runTo_37 : decode cX2_runTo 37 = .ok (.iload 4, 2) := by decide +kernel
theorem dX2_runTo_39 : decode cX2_runTo 39 = .ok (.putfield 72, 3) := by decide +kernel
theorem dX2_runTo_42 : decode cX2_runTo 42 = .ok (.iload 5, 2) := by decide +kernel
theorem dX2_runTo_44 : decode cX2_runTo 44 = .ok (.ireturn, 1) := by decide +kernel
theorem dX2_back_0 : decode cX2_back 0 = .ok (.iload_n 1, 1) := by decide +kernel
theorem dX2_back_1 : decode cX2_back 1 = .ok (.iconst 0, 1) := by decide +kernel
theorem dX2_back_2 : decode cX2_back 2 = .ok (.aload_n 0, 1) := by decide +kernel
theorem dX2_back_3 : decode cX2_back 3 = .ok (.getfield 72, 3) := by decide +kernel
theorem dX2_back_6 : decode cX2_back 6 = .ok (.invokestatic 49, 3) := by decide +kernel
theorem dX2_back_9 : decode cX2_back 9 = .ok (.ifCond .ne 7, 3) := by decide +kernel
theorem dX2_back_12 : decode cX2_back 12 = .ok (.sipush (-1002), 3) := by decide +kernel
theorem dX2_back_15 : decode cX2_back 15 = .ok (.ireturn, 1) := by decide +kernel
theorem dX2_back_16 : decode cX2_back 16 = .ok (.aload_n 0, 1) := by decide +kernel
theorem dX2_back_17 : decode cX2_back 17 = .ok (.dup, 1) := by decide +kernel
theorem dX2_back_18 : decode cX2_back 18 = .ok (.getfield 72, 3) := by decide +kernel
theorem dX2_back_21 : decode cX2_back 21 = .ok (.iload_n 1, 1) := by decide +kernel
theorem dX2_back_22 : decode cX2_back 22 = .ok (.isub, 1) := by decide +kernel
theorem dX2_back_23 : decode cX2_back 23 = .ok (.putfield 72, 3) := by decide +kernel
theorem dX2_back_26 : decode cX2_back 26 = .ok (.aload_n 0, 1) := by decide +kernel
theorem dX2_back_27 : decode cX2_back 27 = .ok (.getfield 72, 3) := by decide +kernel
theorem dX2_back_30 : decode cX2_back 30 = .ok (.ireturn, 1) := by decide +kernel
theorem dX2_value_0 : decode cX2_value 0 = .ok (.aload_n 0, 1) := by decide +kernel
theorem dX2_value_1 : decode cX2_value 1 = .ok (.iload_n 1, 1) := by decide +kernel
theorem dX2_value_2 : decode cX2_value 2 = .ok (.invokevirtual 125, 3) := by decide +kernel
theorem dX2_value_5 : decode cX2_value 5 = .ok (.ifCond .eq 15, 3) := by decide +kernel
theorem dX2_value_8 : decode cX2_value 8 = .ok (.iload_n 2, 1) := by decide +kernel
theorem dX2_value_9 : decode cX2_value 9 = .ok (.iconst 0, 1) := by decide +kernel
theorem dX2_value_10 : decode cX2_value 10 = .ok (.aload_n 0, 1) := by decide +kernel
theorem dX2_value_11 : decode cX2_value 11 = .ok (.getfield 72, 3) := by decide +kernel
theorem dX2_value_14 : decode cX2_value 14 = .ok (.invokestatic 49, 3) := by decide +kernel
theorem dX2_value_17 : decode cX2_value 17 = .ok (.ifCond .ne 7, 3) := by decide +kernel
theorem dX2_value_20 : decode cX2_value 20 = .ok (.ldc2_w 128, 3) := by decide +kernel
theorem dX2_value_23 : decode cX2_value 23 = .ok (.lreturn, 1) := by decide +kernel
theorem dX2_value_24 : decode cX2_value 24 = .ok (.aload_n 0, 1) := by decide +kernel
theorem dX2_value_25 : decode cX2_value 25 = .ok (.aload_n 0, 1) := by decide +kernel
theorem dX2_value_26 : decode cX2_value 26 = .ok (.getfield 23, 3) := by decide +kernel
theorem dX2_value_29 : decode cX2_value 29 = .ok (.iload_n 2, 1) := by decide +kernel
theorem dX2_value_30 : decode cX2_value 30 = .ok (.iload_n 1, 1) := by decide +kernel
theorem dX2_value_31 : decode cX2_value 31 = .ok (.iload_n 3, 1) := by decide +kernel
theorem dX2_value_32 : decode cX2_value 32 = .ok (.invokevirtual 130, 3) := by decide +kernel
theorem dX2_value_35 : decode cX2_value 35 = .ok (.iload 4, 2) := by decide +kernel
theorem dX2_value_37 : decode cX2_value 37 = .ok (.invokevirtual 134, 3) := by decide +kernel
theorem dX2_value_40 : decode cX2_value 40 = .ok (.lreturn, 1) := by decide +kernel
theorem dX2_input_0 : decode cX2_input 0 = .ok (.aload_n 0, 1) := by decide +kernel
theorem dX2_input_1 : decode cX2_input 1 = .ok (.iload_n 1, 1) := by decide +kernel
theorem dX2_input_2 : decode cX2_input 2 = .ok (.invokevirtual 68, 3) := by decide +kernel
theorem dX2_input_5 : decode cX2_input 5 = .ok (.ifCond .ne 7, 3) := by decide +kernel
theorem dX2_input_8 : decode cX2_input 8 = .ok (.ldc2_w 128, 3) := by decide +kernel
theorem dX2_input_11 : decode cX2_input 11 = .ok (.lreturn, 1) := by decide +kernel
theorem dX2_input_12 : decode cX2_input 12 = .ok (.aload_n 0, 1) := by decide +kernel
theorem dX2_input_13 : decode cX2_input 13 = .ok (.aload_n 0, 1) := by decide +kernel
theorem dX2_input_14 : decode cX2_input 14 = .ok (.getfield 23, 3) := by decide +kernel
theorem dX2_input_17 : decode cX2_input 17 = .ok (.iconst 0, 1) := by decide +kernel
theorem dX2_input_18 : decode cX2_input 18 = .ok (.iload_n 1, 1) := by decide +kernel
theorem dX2_input_19 : decode cX2_input 19 = .ok (.iload_n 2, 1) := by decide +kernel
theorem dX2_input_20 : decode cX2_input 20 = .ok (.invokevirtual 130, 3) := by decide +kernel
theorem dX2_input_23 : decode cX2_input 23 = .ok (.iload_n 3, 1) := by decide +kernel
theorem dX2_input_24 : decode cX2_input 24 = .ok (.invokevirtual 134, 3) := by decide +kernel
theorem dX2_input_27 : decode cX2_input 27 = .ok (.lreturn, 1) := by decide +kernel
theorem dX2_received_0 : decode cX2_received 0 = .ok (.aload_n 0, 1) := by decide +kernel
theorem dX2_received_1 : decode cX2_received 1 = .ok (.iload_n 1, 1) := by decide +kernel
theorem dX2_received_2 : decode cX2_received 2 = .ok (.invokevirtual 125, 3) := by decide +kernel
theorem dX2_received_5 : decode cX2_received 5 = .ok (.ifCond .eq 21, 3) := by decide +kernel
theorem dX2_received_8 : decode cX2_received 8 = .ok (.aload_n 0, 1) := by decide +kernel
theorem dX2_received_9 : decode cX2_received 9 = .ok (.iload_n 2, 1) := by decide +kernel
theorem dX2_received_10 : decode cX2_received 10 = .ok (.invokevirtual 68, 3) := by decide +kernel
theorem dX2_received_13 : decode cX2_received 13 = .ok (.ifCond .eq 13, 3) := by decide +kernel
theorem dX2_received_16 : decode cX2_received 16 = .ok (.aload_n 0, 1) := by decide +kernel
theorem dX2_received_17 : decode cX2_received 17 = .ok (.iload_n 2, 1) := by decide +kernel
theorem dX2_received_18 : decode cX2_received 18 = .ok (.iload_n 1, 1) := by decide +kernel
theorem dX2_received_19 : decode cX2_received 19 = .ok (.invokevirtual 94, 3) := by decide +kernel
theorem dX2_received_22 : decode cX2_received 22 = .ok (.iconst (-1), 1) := by decide +kernel
theorem dX2_received_23 : decode cX2_received 23 = .ok (.if_icmp .ne 7, 3) := by decide +kernel
theorem dX2_received_26 : decode cX2_received 26 = .ok (.ldc2_w 128, 3) := by decide +kernel
theorem dX2_received_29 : decode cX2_received 29 = .ok (.lreturn, 1) := by decide +kernel
theorem dX2_received_30 : decode cX2_received 30 = .ok (.aload_n 0, 1) := by decide +kernel
theorem dX2_received_31 : decode cX2_received 31 = .ok (.aload_n 0, 1) := by decide +kernel
theorem dX2_received_32 : decode cX2_received 32 = .ok (.iload_n 2, 1) := by decide +kernel
theorem dX2_received_33 : decode cX2_received 33 = .ok (.iload_n 1, 1) := by decide +kernel
theorem dX2_received_34 : decode cX2_received 34 = .ok (.iload_n 3, 1) := by decide +kernel
theorem dX2_received_35 : decode cX2_received 35 = .ok (.invokevirtual 138, 3) := by decide +kernel
theorem dX2_received_38 : decode cX2_received 38 = .ok (.iload 4, 2) := by decide +kernel
theorem dX2_received_40 : decode cX2_received 40 = .ok (.invokevirtual 134, 3) := by decide +kernel
theorem dX2_received_43 : decode cX2_received 43 = .ok (.lreturn, 1) := by decide +kernel
theorem dX2_rest_0 : decode cX2_rest 0 = .ok (.aload_n 0, 1) := by decide +kernel
theorem dX2_rest_1 : decode cX2_rest 1 = .ok (.iload_n 1, 1) := by decide +kernel
theorem dX2_rest_2 : decode cX2_rest 2 = .ok (.invokevirtual 125, 3) := by decide +kernel
theorem dX2_rest_5 : decode cX2_rest 5 = .ok (.ifCond .eq 17, 3) := by decide +kernel
theorem dX2_rest_8 : decode cX2_rest 8 = .ok (.iload_n 2, 1) := by decide +kernel
theorem dX2_rest_9 : decode cX2_rest 9 = .ok (.ifCond .lt 13, 3) := by decide +kernel
theorem dX2_rest_12 : decode cX2_rest 12 = .ok (.iload_n 2, 1) := by decide +kernel
theorem dX2_rest_13 : decode cX2_rest 13 = .ok (.aload_n 0, 1) := by decide +kernel
theorem dX2_rest_14 : decode cX2_rest 14 = .ok (.iload_n 1, 1) := by decide +kernel
theorem dX2_rest_15 : decode cX2_rest 15 = .ok (.iload_n 3, 1) := by decide +kernel
theorem dX2_rest_16 : decode cX2_rest 16 = .ok (.invokevirtual 141, 3) := by decide +kernel
theorem dX2_rest_19 : decode cX2_rest 19 = .ok (.if_icmp .lt 7, 3) := by decide +kernel
theorem dX2_rest_22 : decode cX2_rest 22 = .ok (.ldc2_w 128, 3) := by decide +kernel
theorem dX2_rest_25 : decode cX2_rest 25 = .ok (.lreturn, 1) := by decide +kernel
theorem dX2_rest_26 : decode cX2_rest 26 = .ok (.aload_n 0, 1) := by decide +kernel
theorem dX2_rest_27 : decode cX2_rest 27 = .ok (.aload_n 0, 1) := by decide +kernel
theorem dX2_rest_28 : decode cX2_rest 28 = .ok (.iload_n 2, 1) := by decide +kernel
theorem dX2_rest_29 : decode cX2_rest 29 = .ok (.invokevirtual 145, 3) := by decide +kernel
theorem dX2_rest_32 : decode cX2_rest 32 = .ok (.iload 4, 2) := by decide +kernel
theorem dX2_rest_34 : decode cX2_rest 34 = .ok (.invokevirtual 134, 3) := by decide +kernel
theorem dX2_rest_37 : decode cX2_rest 37 = .ok (.lreturn, 1) := by decide +kernel
theorem dX2_mostFrequent_0 : decode cX2_mostFrequent 0 = .ok (.iload_n 1, 1) := by decide +kernel
theorem dX2_mostFrequent_1 : decode cX2_mostFrequent 1 = .ok (.iconst 0, 1) := by decide +kernel
theorem dX2_mostFrequent_2 : decode cX2_mostFrequent 2 = .ok (.iconst 1, 1) := by decide +kernel
theorem dX2_mostFrequent_3 : decode cX2_mostFrequent 3 = .ok (.invokestatic 49, 3) := by decide +kernel
theorem dX2_mostFrequent_6 : decode cX2_mostFrequent 6 = .ok (.ifCond .ne 7, 3) := by decide +kernel
theorem dX2_mostFrequent_9 : decode cX2_mostFrequent 9 = .ok (.sipush (-1002), 3) := by decide +kernel
theorem dX2_mostFrequent_12 : decode cX2_mostFrequent 12 = .ok (.ireturn, 1) := by decide +kernel
theorem dX2_mostFrequent_13 : decode cX2_mostFrequent 13 = .ok (.aload_n 0, 1) := by decide +kernel
end
section
theorem dX2_mostFrequent_14 : decode cX2_mostFrequent 14 = .ok (.invokevirtual 149, 3) := by decide +kernel
theorem dX2_mostFrequent_17 : decode cX2_mostFrequent 17 = .ok (.ifCond .ne 7, 3) := by decide +kernel
theorem dX2_mostFrequent_20 : decode cX2_mostFrequent 20 = .ok (.sipush (-1005), 3) := by decide +kernel
theorem dX2_mostFrequent_23 : decode cX2_mostFrequent 23 = .ok (.ireturn, 1) := by decide +kernel
theorem dX2_mostFrequent_24 : decode cX2_mostFrequent 24 = .ok (.iconst 0, 1) := by decide +kernel
theorem dX2_mostFrequent_25 : decode cX2_mostFrequent 25 = .ok (.istore_n 2, 1) := by decide +kernel
theorem dX2_mostFrequent_26 : decode cX2_mostFrequent 26 = .ok (.iconst 0, 1) := by decide +kernel
theorem dX2_mostFrequent_27 : decode cX2_mostFrequent 27 = .ok (.istore_n 3, 1) := by decide +kernel
theorem dX2_mostFrequent_28 : decode cX2_mostFrequent 28 = .ok (.iconst 0, 1) := by decide +kernel
theorem dX2_mostFrequent_29 : decode cX2_mostFrequent 29 = .ok (.istore 4, 2) := by decide +kernel
theorem dX2_mostFrequent_31 : decode cX2_mostFrequent 31 = .ok (.iload 4, 2) := by decide +kernel
theorem dX2_mostFrequent_33 : decode cX2_mostFrequent 33 = .ok (.aload_n 0, 1) := by decide +kernel
theorem dX2_mostFrequent_34 : decode cX2_mostFrequent 34 = .ok (.getfield 53, 3) := by decide +kernel
theorem dX2_mostFrequent_37 : decode cX2_mostFrequent 37 = .ok (.if_icmp .ge 42, 3) := by decide +kernel
theorem dX2_mostFrequent_40 : decode cX2_mostFrequent 40 = .ok (.aload_n 0, 1) := by decide +kernel
theorem dX2_mostFrequent_41 : decode cX2_mostFrequent 41 = .ok (.iload 4, 2) := by decide +kernel
theorem dX2_mostFrequent_43 : decode cX2_mostFrequent 43 = .ok (.invokevirtual 125, 3) := by decide +kernel
theorem dX2_mostFrequent_46 : decode cX2_mostFrequent 46 = .ok (.ifCond .eq 12, 3) := by decide +kernel
theorem dX2_mostFrequent_49 : decode cX2_mostFrequent 49 = .ok (.aload_n 0, 1) := by decide +kernel
theorem dX2_mostFrequent_50 : decode cX2_mostFrequent 50 = .ok (.iload 4, 2) := by decide +kernel
theorem dX2_mostFrequent_52 : decode cX2_mostFrequent 52 = .ok (.invokevirtual 152, 3) := by decide +kernel
theorem dX2_mostFrequent_55 : decode cX2_mostFrequent 55 = .ok (.goto 4, 3) := by decide +kernel
theorem dX2_mostFrequent_58 : decode cX2_mostFrequent 58 = .ok (.iconst 0, 1) := by decide +kernel
theorem dX2_mostFrequent_59 : decode cX2_mostFrequent 59 = .ok (.istore 5, 2) := by decide +kernel
theorem dX2_mostFrequent_61 : decode cX2_mostFrequent 61 = .ok (.iload 5, 2) := by decide +kernel
theorem dX2_mostFrequent_63 : decode cX2_mostFrequent 63 = .ok (.iload_n 3, 1) := by decide +kernel
theorem dX2_mostFrequent_64 : decode cX2_mostFrequent 64 = .ok (.if_icmp .le 9, 3) := by decide +kernel
theorem dX2_mostFrequent_67 : decode cX2_mostFrequent 67 = .ok (.iload 5, 2) := by decide +kernel
theorem dX2_mostFrequent_69 : decode cX2_mostFrequent 69 = .ok (.istore_n 3, 1) := by decide +kernel
theorem dX2_mostFrequent_70 : decode cX2_mostFrequent 70 = .ok (.iload 4, 2) := by decide +kernel
theorem dX2_mostFrequent_72 : decode cX2_mostFrequent 72 = .ok (.istore_n 2, 1) := by decide +kernel
theorem dX2_mostFrequent_73 : decode cX2_mostFrequent 73 = .ok (.iinc 4 1, 3) := by decide +kernel
theorem dX2_mostFrequent_76 : decode cX2_mostFrequent 76 = .ok (.goto (-45), 3) := by decide +kernel
theorem dX2_mostFrequent_79 : decode cX2_mostFrequent 79 = .ok (.iload_n 1, 1) := by decide +kernel
theorem dX2_mostFrequent_80 : decode cX2_mostFrequent 80 = .ok (.ifCond .ne 7, 3) := by decide +kernel
theorem dX2_mostFrequent_83 : decode cX2_mostFrequent 83 = .ok (.iload_n 2, 1) := by decide +kernel
theorem dX2_mostFrequent_84 : decode cX2_mostFrequent 84 = .ok (.goto 4, 3) := by decide +kernel
theorem dX2_mostFrequent_87 : decode cX2_mostFrequent 87 = .ok (.iload_n 3, 1) := by decide +kernel
theorem dX2_mostFrequent_88 : decode cX2_mostFrequent 88 = .ok (.ireturn, 1) := by decide +kernel
theorem dX2_width_0 : decode cX2_width 0 = .ok (.iload_n 1, 1) := by decide +kernel
theorem dX2_width_1 : decode cX2_width 1 = .ok (.iconst 0, 1) := by decide +kernel
theorem dX2_width_2 : decode cX2_width 2 = .ok (.aload_n 0, 1) := by decide +kernel
theorem dX2_width_3 : decode cX2_width 3 = .ok (.getfield 72, 3) := by decide +kernel
theorem dX2_width_6 : decode cX2_width 6 = .ok (.invokestatic 49, 3) := by decide +kernel
theorem dX2_width_9 : decode cX2_width 9 = .ok (.ifCond .ne 7, 3) := by decide +kernel
theorem dX2_width_12 : decode cX2_width 12 = .ok (.ldc2_w 128, 3) := by decide +kernel
theorem dX2_width_15 : decode cX2_width 15 = .ok (.lreturn, 1) := by decide +kernel
theorem dX2_width_16 : decode cX2_width 16 = .ok (.aload_n 0, 1) := by decide +kernel
theorem dX2_width_17 : decode cX2_width 17 = .ok (.aload_n 0, 1) := by decide +kernel
theorem dX2_width_18 : decode cX2_width 18 = .ok (.iload_n 1, 1) := by decide +kernel
theorem dX2_width_19 : decode cX2_width 19 = .ok (.invokevirtual 155, 3) := by decide +kernel
theorem dX2_width_22 : decode cX2_width 22 = .ok (.iload_n 2, 1) := by decide +kernel
theorem dX2_width_23 : decode cX2_width 23 = .ok (.invokevirtual 134, 3) := by decide +kernel
theorem dX2_width_26 : decode cX2_width 26 = .ok (.lreturn, 1) := by decide +kernel
theorem dX2_rate_0 : decode cX2_rate 0 = .ok (.iload_n 1, 1) := by decide +kernel
theorem dX2_rate_1 : decode cX2_rate 1 = .ok (.iconst 1, 1) := by decide +kernel
theorem dX2_rate_2 : decode cX2_rate 2 = .ok (.aload_n 0, 1) := by decide +kernel
theorem dX2_rate_3 : decode cX2_rate 3 = .ok (.getfield 72, 3) := by decide +kernel
theorem dX2_rate_6 : decode cX2_rate 6 = .ok (.invokestatic 49, 3) := by decide +kernel
theorem dX2_rate_9 : decode cX2_rate 9 = .ok (.ifCond .ne 7, 3) := by decide +kernel
theorem dX2_rate_12 : decode cX2_rate 12 = .ok (.ldc2_w 128, 3) := by decide +kernel
theorem dX2_rate_15 : decode cX2_rate 15 = .ok (.lreturn, 1) := by decide +kernel
theorem dX2_rate_16 : decode cX2_rate 16 = .ok (.aload_n 0, 1) := by decide +kernel
theorem dX2_rate_17 : decode cX2_rate 17 = .ok (.iload_n 1, 1) := by decide +kernel
theorem dX2_rate_18 : decode cX2_rate 18 = .ok (.iconst 1, 1) := by decide +kernel
theorem dX2_rate_19 : decode cX2_rate 19 = .ok (.isub, 1) := by decide +kernel
theorem dX2_rate_20 : decode cX2_rate 20 = .ok (.invokevirtual 155, 3) := by decide +kernel
theorem dX2_rate_23 : decode cX2_rate 23 = .ok (.lstore_n 3, 1) := by decide +kernel
theorem dX2_rate_24 : decode cX2_rate 24 = .ok (.lload_n 3, 1) := by decide +kernel
theorem dX2_rate_25 : decode cX2_rate 25 = .ok (.lconst 0, 1) := by decide +kernel
theorem dX2_rate_26 : decode cX2_rate 26 = .ok (.lcmp, 1) := by decide +kernel
theorem dX2_rate_27 : decode cX2_rate 27 = .ok (.ifCond .ne 9, 3) := by decide +kernel
theorem dX2_rate_30 : decode cX2_rate 30 = .ok (.ldc2_w 128, 3) := by decide +kernel
theorem dX2_rate_33 : decode cX2_rate 33 = .ok (.goto 13, 3) := by decide +kernel
theorem dX2_rate_36 : decode cX2_rate 36 = .ok (.aload_n 0, 1) := by decide +kernel
theorem dX2_rate_37 : decode cX2_rate 37 = .ok (.iload_n 1, 1) := by decide +kernel
theorem dX2_rate_38 : decode cX2_rate 38 = .ok (.invokevirtual 155, 3) := by decide +kernel
theorem dX2_rate_41 : decode cX2_rate 41 = .ok (.lload_n 3, 1) := by decide +kernel
theorem dX2_rate_42 : decode cX2_rate 42 = .ok (.iload_n 2, 1) := by decide +kernel
theorem dX2_rate_43 : decode cX2_rate 43 = .ok (.invokestatic 158, 3) := by decide +kernel
theorem dX2_rate_46 : decode cX2_rate 46 = .ok (.lreturn, 1) := by decide +kernel
theorem dX2_guarantee_0 : decode cX2_guarantee 0 = .ok (.aload_n 0, 1) := by decide +kernel
theorem dX2_guarantee_1 : decode cX2_guarantee 1 = .ok (.invokevirtual 162, 3) := by decide +kernel
theorem dX2_guarantee_4 : decode cX2_guarantee 4 = .ok (.ifCond .ne 7, 3) := by decide +kernel
theorem dX2_guarantee_7 : decode cX2_guarantee 7 = .ok (.ldc2_w 128, 3) := by decide +kernel
theorem dX2_guarantee_10 : decode cX2_guarantee 10 = .ok (.lreturn, 1) := by decide +kernel
theorem dX2_guarantee_11 : decode cX2_guarantee 11 = .ok (.aload_n 0, 1) := by decide +kernel
theorem dX2_guarantee_12 : decode cX2_guarantee 12 = .ok (.getfield 101, 3) := by decide +kernel
theorem dX2_guarantee_15 : decode cX2_guarantee 15 = .ok (.ifCond .ne 10, 3) := by decide +kernel
theorem dX2_guarantee_18 : decode cX2_guarantee 18 = .ok (.lconst 0, 1) := by decide +kernel
theorem dX2_guarantee_19 : decode cX2_guarantee 19 = .ok (.lconst 1, 1) := by decide +kernel
theorem dX2_guarantee_20 : decode cX2_guarantee 20 = .ok (.iload_n 1, 1) := by decide +kernel
theorem dX2_guarantee_21 : decode cX2_guarantee 21 = .ok (.invokestatic 158, 3) := by decide +kernel
theorem dX2_guarantee_24 : decode cX2_guarantee 24 = .ok (.lreturn, 1) := by decide +kernel
theorem dX2_guarantee_25 : decode cX2_guarantee 25 = .ok (.aload_n 0, 1) := by decide +kernel
theorem dX2_guarantee_26 : decode cX2_guarantee 26 = .ok (.getfield 98, 3) := by decide +kernel
theorem dX2_guarantee_29 : decode cX2_guarantee 29 = .ok (.lookupswitch 58 #[(0, 27), (1, 49)], 27) := by decide +kernel
theorem dX2_guarantee_56 : decode cX2_guarantee 56 = .ok (.aload_n 0, 1) := by decide +kernel
theorem dX2_guarantee_57 : decode cX2_guarantee 57 = .ok (.getfield 101, 3) := by decide +kernel
theorem dX2_guarantee_60 : decode cX2_guarantee 60 = .ok (.i2l, 1) := by decide +kernel
theorem dX2_guarantee_61 : decode cX2_guarantee 61 = .ok (.aload_n 0, 1) := by decide +kernel
theorem dX2_guarantee_62 : decode cX2_guarantee 62 = .ok (.getfield 53, 3) := by decide +kernel
theorem dX2_guarantee_65 : decode cX2_guarantee 65 = .ok (.iconst 2, 1) := by decide +kernel
theorem dX2_guarantee_66 : decode cX2_guarantee 66 = .ok (.aload_n 0, 1) := by decide +kernel
theorem dX2_guarantee_67 : decode cX2_guarantee 67 = .ok (.getfield 101, 3) := by decide +kernel
theorem dX2_guarantee_70 : decode cX2_guarantee 70 = .ok (.imul, 1) := by decide +kernel
theorem dX2_guarantee_71 : decode cX2_guarantee 71 = .ok (.isub, 1) := by decide +kernel
theorem dX2_guarantee_72 : decode cX2_guarantee 72 = .ok (.i2l, 1) := by decide +kernel
theorem dX2_guarantee_73 : decode cX2_guarantee 73 = .ok (.iload_n 1, 1) := by decide +kernel
theorem dX2_guarantee_74 : decode cX2_guarantee 74 = .ok (.invokestatic 158, 3) := by decide +kernel
theorem dX2_guarantee_77 : decode cX2_guarantee 77 = .ok (.lreturn, 1) := by decide +kernel
theorem dX2_guarantee_78 : decode cX2_guarantee 78 = .ok (.lconst 1, 1) := by decide +kernel
theorem dX2_guarantee_79 : decode cX2_guarantee 79 = .ok (.ldc2_w 166, 3) := by decide +kernel
theorem dX2_guarantee_82 : decode cX2_guarantee 82 = .ok (.iload_n 1, 1) := by decide +kernel
theorem dX2_guarantee_83 : decode cX2_guarantee 83 = .ok (.invokestatic 158, 3) := by decide +kernel
theorem dX2_guarantee_86 : decode cX2_guarantee 86 = .ok (.lreturn, 1) := by decide +kernel
theorem dX2_guarantee_87 : decode cX2_guarantee 87 = .ok (.lconst 1, 1) := by decide +kernel
theorem dX2_guarantee_88 : decode cX2_guarantee 88 = .ok (.aload_n 0, 1) := by decide +kernel
theorem dX2_guarantee_89 : decode cX2_guarantee 89 = .ok (.getfield 53, 3) := by decide +kernel
theorem dX2_guarantee_92 : decode cX2_guarantee 92 = .ok (.iconst 2, 1) := by decide +kernel
theorem dX2_guarantee_93 : decode cX2_guarantee 93 = .ok (.aload_n 0, 1) := by decide +kernel
theorem dX2_guarantee_94 : decode cX2_guarantee 94 = .ok (.getfield 101, 3) := by decide +kernel
theorem dX2_guarantee_97 : decode cX2_guarantee 97 = .ok (.imul, 1) := by decide +kernel
theorem dX2_guarantee_98 : decode cX2_guarantee 98 = .ok (.isub, 1) := by decide +kernel
theorem dX2_guarantee_99 : decode cX2_guarantee 99 = .ok (.iconst 1, 1) := by decide +kernel
theorem dX2_guarantee_100 : decode cX2_guarantee 100 = .ok (.isub, 1) := by decide +kernel
theorem dX2_guarantee_101 : decode cX2_guarantee 101 = .ok (.aload_n 0, 1) := by decide +kernel
theorem dX2_guarantee_102 : decode cX2_guarantee 102 = .ok (.getfield 101, 3) := by decide +kernel
theorem dX2_guarantee_105 : decode cX2_guarantee 105 = .ok (.idiv, 1) := by decide +kernel
theorem dX2_guarantee_106 : decode cX2_guarantee 106 = .ok (.iconst 1, 1) := by decide +kernel
theorem dX2_guarantee_107 : decode cX2_guarantee 107 = .ok (.iadd, 1) := by decide +kernel
theorem dX2_guarantee_108 : decode cX2_guarantee 108 = .ok (.i2l, 1) := by decide +kernel
theorem dX2_guarantee_109 : decode cX2_guarantee 109 = .ok (.iload_n 1, 1) := by decide +kernel
theorem dX2_guarantee_110 : decode cX2_guarantee 110 = .ok (.invokestatic 158, 3) := by decide +kernel
theorem dX2_guarantee_113 : decode cX2_guarantee 113 = .ok (.lreturn, 1) := by decide +kernel
theorem dX2_hull_0 : decode cX2_hull 0 = .ok (.aload_n 0, 1) := by decide +kernel
theorem dX2_hull_1 : decode cX2_hull 1 = .ok (.invokevirtual 149, 3) := by decide +kernel
theorem dX2_hull_4 : decode cX2_hull 4 = .ok (.istore_n 3, 1) := by decide +kernel
theorem dX2_hull_5 : decode cX2_hull 5 = .ok (.iload_n 3, 1) := by decide +kernel
theorem dX2_hull_6 : decode cX2_hull 6 = .ok (.ifCond .ne 7, 3) := by decide +kernel
theorem dX2_hull_9 : decode cX2_hull 9 = .ok (.ldc2_w 128, 3) := by decide +kernel
theorem dX2_hull_12 : decode cX2_hull 12 = .ok (.lreturn, 1) := by decide +kernel
theorem dX2_hull_13 : decode cX2_hull 13 = .ok (.aload_n 0, 1) := by decide +kernel
theorem dX2_hull_14 : decode cX2_hull 14 = .ok (.aload_n 0, 1) := by decide +kernel
theorem dX2_hull_15 : decode cX2_hull 15 = .ok (.getfield 23, 3) := by decide +kernel
theorem dX2_hull_18 : decode cX2_hull 18 = .ok (.iconst 0, 1) := by decide +kernel
theorem dX2_hull_19 : decode cX2_hull 19 = .ok (.iload_n 3, 1) := by decide +kernel
theorem dX2_hull_20 : decode cX2_hull 20 = .ok (.iload_n 1, 1) := by decide +kernel
theorem dX2_hull_21 : decode cX2_hull 21 = .ok (.iload_n 1, 1) := by decide +kernel
theorem dX2_hull_22 : decode cX2_hull 22 = .ok (.invokevirtual 168, 3) := by decide +kernel
theorem dX2_hull_25 : decode cX2_hull 25 = .ok (.iload_n 2, 1) := by decide +kernel
theorem dX2_hull_26 : decode cX2_hull 26 = .ok (.invokevirtual 134, 3) := by decide +kernel
theorem dX2_hull_29 : decode cX2_hull 29 = .ok (.lreturn, 1) := by decide +kernel
theorem dX2_outside_0 : decode cX2_outside 0 = .ok (.aload_n 0, 1) := by decide +kernel
theorem dX2_outside_1 : decode cX2_outside 1 = .ok (.invokevirtual 149, 3) := by decide +kernel
theorem dX2_outside_4 : decode cX2_outside 4 = .ok (.istore_n 1, 1) := by decide +kernel
theorem dX2_outside_5 : decode cX2_outside 5 = .ok (.aload_n 0, 1) := by decide +kernel
theorem dX2_outside_6 : decode cX2_outside 6 = .ok (.getfield 23, 3) := by decide +kernel
theorem dX2_outside_9 : decode cX2_outside 9 = .ok (.iconst 0, 1) := by decide +kernel
theorem dX2_outside_10 : decode cX2_outside 10 = .ok (.iload_n 1, 1) := by decide +kernel
theorem dX2_outside_11 : decode cX2_outside 11 = .ok (.iconst 0, 1) := by decide +kernel
theorem dX2_outside_12 : decode cX2_outside 12 = .ok (.iconst 0, 1) := by decide +kernel
theorem dX2_outside_13 : decode cX2_outside 13 = .ok (.invokevirtual 168, 3) := by decide +kernel
theorem dX2_outside_16 : decode cX2_outside 16 = .ok (.lstore_n 2, 1) := by decide +kernel
theorem dX2_outside_17 : decode cX2_outside 17 = .ok (.aload_n 0, 1) := by decide +kernel
theorem dX2_outside_18 : decode cX2_outside 18 = .ok (.getfield 23, 3) := by decide +kernel
theorem dX2_outside_21 : decode cX2_outside 21 = .ok (.iconst 0, 1) := by decide +kernel
theorem dX2_outside_22 : decode cX2_outside 22 = .ok (.iload_n 1, 1) := by decide +kernel
theorem dX2_outside_23 : decode cX2_outside 23 = .ok (.iconst 1, 1) := by decide +kernel
theorem dX2_outside_24 : decode cX2_outside 24 = .ok (.iconst 1, 1) := by decide +kernel
theorem dX2_outside_25 : decode cX2_outside 25 = .ok (.invokevirtual 168, 3) := by decide +kernel
theorem dX2_outside_28 : decode cX2_outside 28 = .ok (.lstore 4, 2) := by decide +kernel
theorem dX2_outside_30 : decode cX2_outside 30 = .ok (.iconst 0, 1) := by decide +kernel
theorem dX2_outside_31 : decode cX2_outside 31 = .ok (.istore 6, 2) := by decide +kernel
theorem dX2_outside_33 : decode cX2_outside 33 = .ok (.iconst 0, 1) := by decide +kernel
theorem dX2_outside_34 : decode cX2_outside 34 = .ok (.istore 7, 2) := by decide +kernel
theorem dX2_outside_36 : decode cX2_outside 36 = .ok (.iload 7, 2) := by decide +kernel
theorem dX2_outside_38 : decode cX2_outside 38 = .ok (.aload_n 0, 1) := by decide +kernel
theorem dX2_outside_39 : decode cX2_outside 39 = .ok (.getfield 53, 3) := by decide +kernel
theorem dX2_outside_42 : decode cX2_outside 42 = .ok (.if_icmp .ge 66, 3) := by decide +kernel
theorem dX2_outside_45 : decode cX2_outside 45 = .ok (.aload_n 0, 1) := by decide +kernel
theorem dX2_outside_46 : decode cX2_outside 46 = .ok (.iload 7, 2) := by decide +kernel
theorem dX2_outside_48 : decode cX2_outside 48 = .ok (.invokevirtual 125, 3) := by decide +kernel
theorem dX2_outside_51 : decode cX2_outside 51 = .ok (.ifCond .eq 51, 3) := by decide +kernel
theorem dX2_outside_54 : decode cX2_outside 54 = .ok (.aload_n 0, 1) := by decide +kernel
theorem dX2_outside_55 : decode cX2_outside 55 = .ok (.getfield 23, 3) := by decide +kernel
theorem dX2_outside_58 : decode cX2_outside 58 = .ok (.aload_n 0, 1) := by decide +kernel
theorem dX2_outside_59 : decode cX2_outside 59 = .ok (.getfield 72, 3) := by decide +kernel
theorem dX2_outside_62 : decode cX2_outside 62 = .ok (.iload 7, 2) := by decide +kernel
theorem dX2_outside_64 : decode cX2_outside 64 = .ok (.iconst 0, 1) := by decide +kernel
theorem dX2_outside_65 : decode cX2_outside 65 = .ok (.invokevirtual 130, 3) := by decide +kernel
theorem dX2_outside_68 : decode cX2_outside 68 = .ok (.lload_n 2, 1) := by decide +kernel
theorem dX2_outside_69 : decode cX2_outside 69 = .ok (.lcmp, 1) := by decide +kernel
theorem dX2_outside_70 : decode cX2_outside 70 = .ok (.ifCond .lt 23, 3) := by decide +kernel
theorem dX2_outside_73 : decode cX2_outside 73 = .ok (.aload_n 0, 1) := by decide +kernel
theorem dX2_outside_74 : decode cX2_outside 74 = .ok (.getfield 23, 3) := by decide +kernel
theorem dX2_outside_77 : decode cX2_outside 77 = .ok (.aload_n 0, 1) := by decide +kernel
theorem dX2_outside_78 : decode cX2_outside 78 = .ok (.getfield 72, 3) := by decide +kernel
theorem dX2_outside_81 : decode cX2_outside 81 = .ok (.iload 7, 2) := by decide +kernel
theorem dX2_outside_83 : decode cX2_outside 83 = .ok (.iconst 1, 1) := by decide +kernel
theorem dX2_outside_84 : decode cX2_outside 84 = .ok (.invokevirtual 130, 3) := by decide +kernel
theorem dX2_outside_87 : decode cX2_outside 87 = .ok (.lload 4, 2) := by decide +kernel
theorem dX2_outside_89 : decode cX2_outside 89 = .ok (.lcmp, 1) := by decide +kernel
theorem dX2_outside_90 : decode cX2_outside 90 = .ok (.ifCond .le 12, 3) := by decide +kernel
theorem dX2_outside_93 : decode cX2_outside 93 = .ok (.iload 6, 2) := by decide +kernel
theorem dX2_outside_95 : decode cX2_outside 95 = .ok (.iconst 1, 1) := by decide +kernel
theorem dX2_outside_96 : decode cX2_outside 96 = .ok (.iload 7, 2) := by decide +kernel
theorem dX2_outside_98 : decode cX2_outside 98 = .ok (.ishl, 1) := by decide +kernel
theorem dX2_outside_99 : decode cX2_outside 99 = .ok (.ior, 1) := by decide +kernel
theorem dX2_outside_100 : decode cX2_outside 100 = .ok (.istore 6, 2) := by decide +kernel
theorem dX2_outside_102 : decode cX2_outside 102 = .ok (.iinc 7 1, 3) := by decide +kernel
theorem dX2_outside_105 : decode cX2_outside 105 = .ok (.goto (-69), 3) := by decide +kernel
theorem dX2_outside_108 : decode cX2_outside 108 = .ok (.iload 6, 2) := by decide +kernel
theorem dX2_outside_110 : decode cX2_outside 110 = .ok (.ireturn, 1) := by decide +kernel
theorem dX2_roundsTo_0 : decode cX2_roundsTo 0 = .ok (.iload_n 1, 1) := by decide +kernel
theorem dX2_roundsTo_1 : decode cX2_roundsTo 1 = .ok (.iload_n 2, 1) := by decide +kernel
theorem dX2_roundsTo_2 : decode cX2_roundsTo 2 = .ok (.iload_n 3, 1) := by decide +kernel
theorem dX2_roundsTo_3 : decode cX2_roundsTo 3 = .ok (.invokestatic 118, 3) := by decide +kernel
theorem dX2_roundsTo_6 : decode cX2_roundsTo 6 = .ok (.ifCond .ne 7, 3) := by decide +kernel
theorem dX2_roundsTo_9 : decode cX2_roundsTo 9 = .ok (.sipush (-1002), 3) := by decide +kernel
theorem dX2_roundsTo_12 : decode cX2_roundsTo 12 = .ok (.ireturn, 1) := by decide +kernel
theorem dX2_roundsTo_13 : decode cX2_roundsTo 13 = .ok (.aload_n 0, 1) := by decide +kernel
theorem dX2_roundsTo_14 : decode cX2_roundsTo 14 = .ok (.getfield 72, 3) := by decide +kernel
theorem dX2_roundsTo_17 : decode cX2_roundsTo 17 = .ok (.istore 4, 2) := by decide +kernel
theorem dX2_roundsTo_19 : decode cX2_roundsTo 19 = .ok (.aload_n 0, 1) := by decide +kernel
theorem dX2_roundsTo_20 : decode cX2_roundsTo 20 = .ok (.iload_n 1, 1) := by decide +kernel
theorem dX2_roundsTo_21 : decode cX2_roundsTo 21 = .ok (.iload_n 2, 1) := by decide +kernel
theorem dX2_roundsTo_22 : decode cX2_roundsTo 22 = .ok (.iload_n 3, 1) := by decide +kernel
theorem dX2_roundsTo_23 : decode cX2_roundsTo 23 = .ok (.invokevirtual 121, 3) := by decide +kernel
theorem dX2_roundsTo_26 : decode cX2_roundsTo 26 = .ok (.istore 5, 2) := by decide +kernel
theorem dX2_roundsTo_28 : decode cX2_roundsTo 28 = .ok (.aload_n 0, 1) := by decide +kernel
theorem dX2_roundsTo_29 : decode cX2_roundsTo 29 = .ok (.iload 4, 2) := by decide +kernel
theorem dX2_roundsTo_31 : decode cX2_roundsTo 31 = .ok (.putfield 72, 3) := by decide +kernel
theorem dX2_roundsTo_34 : decode cX2_roundsTo 34 = .ok (.iload 5, 2) := by decide +kernel
theorem dX2_roundsTo_36 : decode cX2_roundsTo 36 = .ok (.ireturn, 1) := by decide +kernel
theorem dX2_worstStrategy_0 : decode cX2_worstStrategy 0 = .ok (.aload_n 0, 1) := by decide +kernel
theorem dX2_worstStrategy_1 : decode cX2_worstStrategy 1 = .ok (.iload_n 1, 1) := by decide +kernel
theorem dX2_worstStrategy_2 : decode cX2_worstStrategy 2 = .ok (.invokevirtual 68, 3) := by decide +kernel
theorem dX2_worstStrategy_5 : decode cX2_worstStrategy 5 = .ok (.ifCond .ne 7, 3) := by decide +kernel
theorem dX2_worstStrategy_8 : decode cX2_worstStrategy 8 = .ok (.sipush (-1001), 3) := by decide +kernel
theorem dX2_worstStrategy_11 : decode cX2_worstStrategy 11 = .ok (.ireturn, 1) := by decide +kernel
theorem dX2_worstStrategy_12 : decode cX2_worstStrategy 12 = .ok (.iload_n 2, 1) := by decide +kernel
theorem dX2_worstStrategy_13 : decode cX2_worstStrategy 13 = .ok (.iconst 1, 1) := by decide +kernel
theorem dX2_worstStrategy_14 : decode cX2_worstStrategy 14 = .ok (.bipush 10, 2) := by decide +kernel
theorem dX2_worstStrategy_16 : decode cX2_worstStrategy 16 = .ok (.invokestatic 49, 3) := by decide +kernel
theorem dX2_worstStrategy_19 : decode cX2_worstStrategy 19 = .ok (.ifCond .ne 7, 3) := by decide +kernel
theorem dX2_worstStrategy_22 : decode cX2_worstStrategy 22 = .ok (.sipush (-1002), 3) := by decide +kernel
theorem dX2_worstStrategy_25 : decode cX2_worstStrategy 25 = .ok (.ireturn, 1) := by decide +kernel
theorem dX2_worstStrategy_26 : decode cX2_worstStrategy 26 = .ok (.aload_n 0, 1) := by decide +kernel
theorem dX2_worstStrategy_27 : decode cX2_worstStrategy 27 = .ok (.iload_n 1, 1) := by decide +kernel
theorem dX2_worstStrategy_28 : decode cX2_worstStrategy 28 = .ok (.invokevirtual 125, 3) := by decide +kernel
theorem dX2_worstStrategy_31 : decode cX2_worstStrategy 31 = .ok (.ifCond .eq 7, 3) := by decide +kernel
theorem dX2_worstStrategy_34 : decode cX2_worstStrategy 34 = .ok (.sipush (-1003), 3) := by decide +kernel
theorem dX2_worstStrategy_37 : decode cX2_worstStrategy 37 = .ok (.ireturn, 1) := by decide +kernel
theorem dX2_worstStrategy_38 : decode cX2_worstStrategy 38 = .ok (.aload_n 0, 1) := by decide +kernel
theorem dX2_worstStrategy_39 : decode cX2_worstStrategy 39 = .ok (.getfield 72, 3) := by decide +kernel
theorem dX2_worstStrategy_42 : decode cX2_worstStrategy 42 = .ok (.iload_n 2, 1) := by decide +kernel
theorem dX2_worstStrategy_43 : decode cX2_worstStrategy 43 = .ok (.iadd, 1) := by decide +kernel
theorem dX2_worstStrategy_44 : decode cX2_worstStrategy 44 = .ok (.bipush 60, 2) := by decide +kernel
theorem dX2_worstStrategy_46 : decode cX2_worstStrategy 46 = .ok (.if_icmp .le 7, 3) := by decide +kernel
theorem dX2_worstStrategy_49 : decode cX2_worstStrategy 49 = .ok (.sipush (-1004), 3) := by decide +kernel
theorem dX2_worstStrategy_52 : decode cX2_worstStrategy 52 = .ok (.ireturn, 1) := by decide +kernel
theorem dX2_worstStrategy_53 : decode cX2_worstStrategy 53 = .ok (.aload_n 0, 1) := by decide +kernel
theorem dX2_worstStrategy_54 : decode cX2_worstStrategy 54 = .ok (.getfield 34, 3) := by decide +kernel
theorem dX2_worstStrategy_57 : decode cX2_worstStrategy 57 = .ok (.iload_n 1, 1) := by decide +kernel
theorem dX2_worstStrategy_58 : decode cX2_worstStrategy 58 = .ok (.iaload, 1) := by decide +kernel
theorem dX2_worstStrategy_59 : decode cX2_worstStrategy 59 = .ok (.istore_n 3, 1) := by decide +kernel
theorem dX2_worstStrategy_60 : decode cX2_worstStrategy 60 = .ok (.iconst 1, 1) := by decide +kernel
theorem dX2_worstStrategy_61 : decode cX2_worstStrategy 61 = .ok (.istore 4, 2) := by decide +kernel
theorem dX2_worstStrategy_63 : decode cX2_worstStrategy 63 = .ok (.ldc2_w 172, 3) := by decide +kernel
theorem dX2_worstStrategy_66 : decode cX2_worstStrategy 66 = .ok (.lstore 5, 2) := by decide +kernel
theorem dX2_worstStrategy_68 : decode cX2_worstStrategy 68 = .ok (.iconst 1, 1) := by decide +kernel
theorem dX2_worstStrategy_69 : decode cX2_worstStrategy 69 = .ok (.istore 7, 2) := by decide +kernel
theorem dX2_worstStrategy_71 : decode cX2_worstStrategy 71 = .ok (.iload 7, 2) := by decide +kernel
theorem dX2_worstStrategy_73 : decode cX2_worstStrategy 73 = .ok (.iconst 5, 1) := by decide +kernel
theorem dX2_worstStrategy_74 : decode cX2_worstStrategy 74 = .ok (.if_icmp .gt 40, 3) := by decide +kernel
theorem dX2_worstStrategy_77 : decode cX2_worstStrategy 77 = .ok (.aload_n 0, 1) := by decide +kernel
theorem dX2_worstStrategy_78 : decode cX2_worstStrategy 78 = .ok (.getfield 34, 3) := by decide +kernel
theorem dX2_worstStrategy_81 : decode cX2_worstStrategy 81 = .ok (.iload_n 1, 1) := by decide +kernel
theorem dX2_worstStrategy_82 : decode cX2_worstStrategy 82 = .ok (.iload 7, 2) := by decide +kernel
theorem dX2_worstStrategy_84 : decode cX2_worstStrategy 84 = .ok (.iastore, 1) := by decide +kernel
theorem dX2_worstStrategy_85 : decode cX2_worstStrategy 85 = .ok (.aload_n 0, 1) := by decide +kernel
theorem dX2_worstStrategy_86 : decode cX2_worstStrategy 86 = .ok (.iload_n 2, 1) := by decide +kernel
theorem dX2_worstStrategy_87 : decode cX2_worstStrategy 87 = .ok (.invokevirtual 174, 3) := by decide +kernel
theorem dX2_worstStrategy_90 : decode cX2_worstStrategy 90 = .ok (.lstore 8, 2) := by decide +kernel
theorem dX2_worstStrategy_92 : decode cX2_worstStrategy 92 = .ok (.lload 8, 2) := by decide +kernel
theorem dX2_worstStrategy_94 : decode cX2_worstStrategy 94 = .ok (.lload 5, 2) := by decide +kernel
theorem dX2_worstStrategy_96 : decode cX2_worstStrategy 96 = .ok (.lcmp, 1) := by decide +kernel
theorem dX2_worstStrategy_97 : decode cX2_worstStrategy 97 = .ok (.ifCond .le 11, 3) := by decide +kernel
theorem dX2_worstStrategy_100 : decode cX2_worstStrategy 100 = .ok (.lload 8, 2) := by decide +kernel
theorem dX2_worstStrategy_102 : decode cX2_worstStrategy 102 = .ok (.lstore 5, 2) := by decide +kernel
theorem dX2_worstStrategy_104 : decode cX2_worstStrategy 104 = .ok (.iload 7, 2) := by decide +kernel
theorem dX2_worstStrategy_106 : decode cX2_worstStrategy 106 = .ok (.istore 4, 2) := by decide +kernel
theorem dX2_worstStrategy_108 : decode cX2_worstStrategy 108 = .ok (.iinc 7 1, 3) := by decide +kernel
theorem dX2_worstStrategy_111 : decode cX2_worstStrategy 111 = .ok (.goto (-40), 3) := by decide +kernel
theorem dX2_worstStrategy_114 : decode cX2_worstStrategy 114 = .ok (.aload_n 0, 1) := by decide +kernel
theorem dX2_worstStrategy_115 : decode cX2_worstStrategy 115 = .ok (.getfield 34, 3) := by decide +kernel
theorem dX2_worstStrategy_118 : decode cX2_worstStrategy 118 = .ok (.iload_n 1, 1) := by decide +kernel
theorem dX2_worstStrategy_119 : decode cX2_worstStrategy 119 = .ok (.iload_n 3, 1) := by decide +kernel
theorem dX2_worstStrategy_120 : decode cX2_worstStrategy 120 = .ok (.iastore, 1) := by decide +kernel
theorem dX2_worstStrategy_121 : decode cX2_worstStrategy 121 = .ok (.iload 4, 2) := by decide +kernel
theorem dX2_worstStrategy_123 : decode cX2_worstStrategy 123 = .ok (.ireturn, 1) := by decide +kernel
theorem dX2_bestRule_0 : decode cX2_bestRule 0 = .ok (.iload_n 1, 1) := by decide +kernel
theorem dX2_bestRule_1 : decode cX2_bestRule 1 = .ok (.iconst 1, 1) := by decide +kernel
theorem dX2_bestRule_2 : decode cX2_bestRule 2 = .ok (.bipush 10, 2) := by decide +kernel
theorem dX2_bestRule_4 : decode cX2_bestRule 4 = .ok (.invokestatic 49, 3) := by decide +kernel
theorem dX2_bestRule_7 : decode cX2_bestRule 7 = .ok (.ifCond .ne 7, 3) := by decide +kernel
theorem dX2_bestRule_10 : decode cX2_bestRule 10 = .ok (.sipush (-1002), 3) := by decide +kernel
theorem dX2_bestRule_13 : decode cX2_bestRule 13 = .ok (.ireturn, 1) := by decide +kernel
theorem dX2_bestRule_14 : decode cX2_bestRule 14 = .ok (.aload_n 0, 1) := by decide +kernel
theorem dX2_bestRule_15 : decode cX2_bestRule 15 = .ok (.getfield 72, 3) := by decide +kernel
theorem dX2_bestRule_18 : decode cX2_bestRule 18 = .ok (.iload_n 1, 1) := by decide +kernel
theorem dX2_bestRule_19 : decode cX2_bestRule 19 = .ok (.iadd, 1) := by decide +kernel
theorem dX2_bestRule_20 : decode cX2_bestRule 20 = .ok (.bipush 60, 2) := by decide +kernel
theorem dX2_bestRule_22 : decode cX2_bestRule 22 = .ok (.if_icmp .le 7, 3) := by decide +kernel
theorem dX2_bestRule_25 : decode cX2_bestRule 25 = .ok (.sipush (-1004), 3) := by decide +kernel
theorem dX2_bestRule_28 : decode cX2_bestRule 28 = .ok (.ireturn, 1) := by decide +kernel
theorem dX2_bestRule_29 : decode cX2_bestRule 29 = .ok (.aload_n 0, 1) := by decide +kernel
theorem dX2_bestRule_30 : decode cX2_bestRule 30 = .ok (.getfield 98, 3) := by decide +kernel
theorem dX2_bestRule_33 : decode cX2_bestRule 33 = .ok (.istore_n 2, 1) := by decide +kernel
theorem dX2_bestRule_34 : decode cX2_bestRule 34 = .ok (.iconst 0, 1) := by decide +kernel
theorem dX2_bestRule_35 : decode cX2_bestRule 35 = .ok (.istore_n 3, 1) := by decide +kernel
theorem dX2_bestRule_36 : decode cX2_bestRule 36 = .ok (.ldc2_w 177, 3) := by decide +kernel
theorem dX2_bestRule_39 : decode cX2_bestRule 39 = .ok (.lstore 4, 2) := by decide +kernel
theorem dX2_bestRule_41 : decode cX2_bestRule 41 = .ok (.iconst 0, 1) := by decide +kernel
theorem dX2_bestRule_42 : decode cX2_bestRule 42 = .ok (.istore 6, 2) := by decide +kernel
theorem dX2_bestRule_44 : decode cX2_bestRule 44 = .ok (.iload 6, 2) := by decide +kernel
theorem dX2_bestRule_46 : decode cX2_bestRule 46 = .ok (.iconst 3, 1) := by decide +kernel
theorem dX2_bestRule_47 : decode cX2_bestRule 47 = .ok (.if_icmp .gt 37, 3) := by decide +kernel
theorem dX2_bestRule_50 : decode cX2_bestRule 50 = .ok (.aload_n 0, 1) := by decide +kernel
theorem dX2_bestRule_51 : decode cX2_bestRule 51 = .ok (.iload 6, 2) := by decide +kernel
theorem dX2_bestRule_53 : decode cX2_bestRule 53 = .ok (.putfield 98, 3) := by decide +kernel
theorem dX2_bestRule_56 : decode cX2_bestRule 56 = .ok (.aload_n 0, 1) := by decide +kernel
theorem dX2_bestRule_57 : decode cX2_bestRule 57 = .ok (.iload_n 1, 1) := by decide +kernel
theorem dX2_bestRule_58 : decode cX2_bestRule 58 = .ok (.invokevirtual 174, 3) := by decide +kernel
theorem dX2_bestRule_61 : decode cX2_bestRule 61 = .ok (.lstore 7, 2) := by decide +kernel
theorem dX2_bestRule_63 : decode cX2_bestRule 63 = .ok (.lload 7, 2) := by decide +kernel
theorem dX2_bestRule_65 : decode cX2_bestRule 65 = .ok (.lload 4, 2) := by decide +kernel
theorem dX2_bestRule_67 : decode cX2_bestRule 67 = .ok (.lcmp, 1) := by decide +kernel
theorem dX2_bestRule_68 : decode cX2_bestRule 68 = .ok (.ifCond .ge 10, 3) := by decide +kernel
theorem dX2_bestRule_71 : decode cX2_bestRule 71 = .ok (.lload 7, 2) := by decide +kernel
theorem dX2_bestRule_73 : decode cX2_bestRule 73 = .ok (.lstore 4, 2) := by decide +kernel
theorem dX2_bestRule_75 : decode cX2_bestRule 75 = .ok (.iload 6, 2) := by decide +kernel
theorem dX2_bestRule_77 : decode cX2_bestRule 77 = .ok (.istore_n 3, 1) := by decide +kernel
theorem dX2_bestRule_78 : decode cX2_bestRule 78 = .ok (.iinc 6 1, 3) := by decide +kernel
theorem dX2_bestRule_81 : decode cX2_bestRule 81 = .ok (.goto (-37), 3) := by decide +kernel
theorem dX2_bestRule_84 : decode cX2_bestRule 84 = .ok (.aload_n 0, 1) := by decide +kernel
theorem dX2_bestRule_85 : decode cX2_bestRule 85 = .ok (.iload_n 2, 1) := by decide +kernel
theorem dX2_bestRule_86 : decode cX2_bestRule 86 = .ok (.putfield 98, 3) := by decide +kernel
theorem dX2_bestRule_89 : decode cX2_bestRule 89 = .ok (.iload_n 3, 1) := by decide +kernel
theorem dX2_bestRule_90 : decode cX2_bestRule 90 = .ok (.ireturn, 1) := by decide +kernel
theorem dX2_startAnew_0 : decode cX2_startAnew 0 = .ok (.aload_n 0, 1) := by decide +kernel
theorem dX2_startAnew_1 : decode cX2_startAnew 1 = .ok (.iload_n 1, 1) := by decide +kernel
theorem dX2_startAnew_2 : decode cX2_startAnew 2 = .ok (.putfield 53, 3) := by decide +kernel
theorem dX2_startAnew_5 : decode cX2_startAnew 5 = .ok (.aload_n 0, 1) := by decide +kernel
theorem dX2_startAnew_6 : decode cX2_startAnew 6 = .ok (.iload_n 2, 1) := by decide +kernel
theorem dX2_startAnew_7 : decode cX2_startAnew 7 = .ok (.putfield 101, 3) := by decide +kernel
theorem dX2_startAnew_10 : decode cX2_startAnew 10 = .ok (.aload_n 0, 1) := by decide +kernel
theorem dX2_startAnew_11 : decode cX2_startAnew 11 = .ok (.iload_n 3, 1) := by decide +kernel
theorem dX2_startAnew_12 : decode cX2_startAnew 12 = .ok (.putfield 83, 3) := by decide +kernel
theorem dX2_startAnew_15 : decode cX2_startAnew 15 = .ok (.aload_n 0, 1) := by decide +kernel
theorem dX2_startAnew_16 : decode cX2_startAnew 16 = .ok (.iconst 0, 1) := by decide +kernel
theorem dX2_startAnew_17 : decode cX2_startAnew 17 = .ok (.putfield 72, 3) := by decide +kernel
theorem dX2_startAnew_20 : decode cX2_startAnew 20 = .ok (.aload_n 0, 1) := by decide +kernel
theorem dX2_startAnew_21 : decode cX2_startAnew 21 = .ok (.iconst 0, 1) := by decide +kernel
theorem dX2_startAnew_22 : decode cX2_startAnew 22 = .ok (.putfield 98, 3) := by decide +kernel
theorem dX2_startAnew_25 : decode cX2_startAnew 25 = .ok (.aload_n 0, 1) := by decide +kernel
theorem dX2_startAnew_26 : decode cX2_startAnew 26 = .ok (.getfield 23, 3) := by decide +kernel
theorem dX2_startAnew_29 : decode cX2_startAnew 29 = .ok (.iconst 0, 1) := by decide +kernel
theorem dX2_startAnew_30 : decode cX2_startAnew 30 = .ok (.invokevirtual 179, 3) := by decide +kernel
theorem dX2_startAnew_33 : decode cX2_startAnew 33 = .ok (.iconst 0, 1) := by decide +kernel
theorem dX2_startAnew_34 : decode cX2_startAnew 34 = .ok (.istore 4, 2) := by decide +kernel
theorem dX2_startAnew_36 : decode cX2_startAnew 36 = .ok (.iload 4, 2) := by decide +kernel
theorem dX2_startAnew_38 : decode cX2_startAnew 38 = .ok (.bipush 10, 2) := by decide +kernel
theorem dX2_startAnew_40 : decode cX2_startAnew 40 = .ok (.if_icmp .ge 26, 3) := by decide +kernel
theorem dX2_startAnew_43 : decode cX2_startAnew 43 = .ok (.aload_n 0, 1) := by decide +kernel
theorem dX2_startAnew_44 : decode cX2_startAnew 44 = .ok (.getfield 34, 3) := by decide +kernel
theorem dX2_startAnew_47 : decode cX2_startAnew 47 = .ok (.iload 4, 2) := by decide +kernel
theorem dX2_startAnew_49 : decode cX2_startAnew 49 = .ok (.iconst 0, 1) := by decide +kernel
theorem dX2_startAnew_50 : decode cX2_startAnew 50 = .ok (.iastore, 1) := by decide +kernel
theorem dX2_startAnew_51 : decode cX2_startAnew 51 = .ok (.aload_n 0, 1) := by decide +kernel
theorem dX2_startAnew_52 : decode cX2_startAnew 52 = .ok (.getfield 27, 3) := by decide +kernel
theorem dX2_startAnew_55 : decode cX2_startAnew 55 = .ok (.iload 4, 2) := by decide +kernel
theorem dX2_startAnew_57 : decode cX2_startAnew 57 = .ok (.invokevirtual 179, 3) := by decide +kernel
theorem dX2_startAnew_60 : decode cX2_startAnew 60 = .ok (.iinc 4 1, 3) := by decide +kernel
theorem dX2_startAnew_63 : decode cX2_startAnew 63 = .ok (.goto (-27), 3) := by decide +kernel
theorem dX2_startAnew_66 : decode cX2_startAnew 66 = .ok (.iconst 0, 1) := by decide +kernel
theorem dX2_startAnew_67 : decode cX2_startAnew 67 = .ok (.istore 4, 2) := by decide +kernel
theorem dX2_startAnew_69 : decode cX2_startAnew 69 = .ok (.iload 4, 2) := by decide +kernel
theorem dX2_startAnew_71 : decode cX2_startAnew 71 = .ok (.aload_n 0, 1) := by decide +kernel
theorem dX2_startAnew_72 : decode cX2_startAnew 72 = .ok (.getfield 30, 3) := by decide +kernel
theorem dX2_startAnew_75 : decode cX2_startAnew 75 = .ok (.arraylength, 1) := by decide +kernel
theorem dX2_startAnew_76 : decode cX2_startAnew 76 = .ok (.if_icmp .ge 17, 3) := by decide +kernel
theorem dX2_startAnew_79 : decode cX2_startAnew 79 = .ok (.aload_n 0, 1) := by decide +kernel
theorem dX2_startAnew_80 : decode cX2_startAnew 80 = .ok (.getfield 30, 3) := by decide +kernel
theorem dX2_startAnew_83 : decode cX2_startAnew 83 = .ok (.iload 4, 2) := by decide +kernel
theorem dX2_startAnew_85 : decode cX2_startAnew 85 = .ok (.iconst 0, 1) := by decide +kernel
theorem dX2_startAnew_86 : decode cX2_startAnew 86 = .ok (.iastore, 1) := by decide +kernel
theorem dX2_startAnew_87 : decode cX2_startAnew 87 = .ok (.iinc 4 1, 3) := by decide +kernel
theorem dX2_startAnew_90 : decode cX2_startAnew 90 = .ok (.goto (-21), 3) := by decide +kernel
theorem dX2_startAnew_93 : decode cX2_startAnew 93 = .ok (.return_, 1) := by decide +kernel
theorem dX2_readTextInto_0 : decode cX2_readTextInto 0 = .ok (.aload_n 0, 1) := by decide +kernel
theorem dX2_readTextInto_1 : decode cX2_readTextInto 1 = .ok (.getfield 12, 3) := by decide +kernel
theorem dX2_readTextInto_4 : decode cX2_readTextInto 4 = .ok (.aload_n 0, 1) := by decide +kernel
theorem dX2_readTextInto_5 : decode cX2_readTextInto 5 = .ok (.getfield 83, 3) := by decide +kernel
theorem dX2_readTextInto_8 : decode cX2_readTextInto 8 = .ok (.invokevirtual 182, 3) := by decide +kernel
theorem dX2_readTextInto_11 : decode cX2_readTextInto 11 = .ok (.istore 4, 2) := by decide +kernel
theorem dX2_readTextInto_13 : decode cX2_readTextInto 13 = .ok (.iload 4, 2) := by decide +kernel
theorem dX2_readTextInto_15 : decode cX2_readTextInto 15 = .ok (.iconst (-1), 1) := by decide +kernel
theorem dX2_readTextInto_16 : decode cX2_readTextInto 16 = .ok (.if_icmp .eq 9, 3) := by decide +kernel
theorem dX2_readTextInto_19 : decode cX2_readTextInto 19 = .ok (.bipush (-100), 2) := by decide +kernel
theorem dX2_readTextInto_21 : decode cX2_readTextInto 21 = .ok (.iload 4, 2) := by decide +kernel
theorem dX2_readTextInto_23 : decode cX2_readTextInto 23 = .ok (.isub, 1) := by decide +kernel
theorem dX2_readTextInto_24 : decode cX2_readTextInto 24 = .ok (.ireturn, 1) := by decide +kernel
theorem dX2_readTextInto_25 : decode cX2_readTextInto 25 = .ok (.aload_n 1, 1) := by decide +kernel
theorem dX2_readTextInto_26 : decode cX2_readTextInto 26 = .ok (.iload_n 2, 1) := by decide +kernel
theorem dX2_readTextInto_27 : decode cX2_readTextInto 27 = .ok (.iload_n 3, 1) := by decide +kernel
theorem dX2_readTextInto_28 : decode cX2_readTextInto 28 = .ok (.aload_n 0, 1) := by decide +kernel
theorem dX2_readTextInto_29 : decode cX2_readTextInto 29 = .ok (.getfield 12, 3) := by decide +kernel
theorem dX2_readTextInto_32 : decode cX2_readTextInto 32 = .ok (.invokevirtual 185, 3) := by decide +kernel
theorem dX2_readTextInto_35 : decode cX2_readTextInto 35 = .ok (.aload_n 0, 1) := by decide +kernel
theorem dX2_readTextInto_36 : decode cX2_readTextInto 36 = .ok (.getfield 12, 3) := by decide +kernel
theorem dX2_readTextInto_39 : decode cX2_readTextInto 39 = .ok (.invokevirtual 189, 3) := by decide +kernel
theorem dX2_readTextInto_42 : decode cX2_readTextInto 42 = .ok (.invokevirtual 192, 3) := by decide +kernel
theorem dX2_readTextInto_45 : decode cX2_readTextInto 45 = .ok (.iconst 1, 1) := by decide +kernel
theorem dX2_readTextInto_46 : decode cX2_readTextInto 46 = .ok (.ireturn, 1) := by decide +kernel
theorem dX2_isWithin_0 : decode cX2_isWithin 0 = .ok (.iload_n 0, 1) := by decide +kernel
theorem dX2_isWithin_1 : decode cX2_isWithin 1 = .ok (.iload_n 1, 1) := by decide +kernel
theorem dX2_isWithin_2 : decode cX2_isWithin 2 = .ok (.if_icmp .lt 12, 3) := by decide +kernel
theorem dX2_isWithin_5 : decode cX2_isWithin 5 = .ok (.iload_n 0, 1) := by decide +kernel
theorem dX2_isWithin_6 : decode cX2_isWithin 6 = .ok (.iload_n 2, 1) := by decide +kernel
theorem dX2_isWithin_7 : decode cX2_isWithin 7 = .ok (.if_icmp .gt 7, 3) := by decide +kernel
theorem dX2_isWithin_10 : decode cX2_isWithin 10 = .ok (.iconst 1, 1) := by decide +kernel
theorem dX2_isWithin_11 : decode cX2_isWithin 11 = .ok (.goto 4, 3) := by decide +kernel
theorem dX2_isWithin_14 : decode cX2_isWithin 14 = .ok (.iconst 0, 1) := by decide +kernel
theorem dX2_isWithin_15 : decode cX2_isWithin 15 = .ok (.ireturn, 1) := by decide +kernel
theorem dX2_isNode_0 : decode cX2_isNode 0 = .ok (.iload_n 1, 1) := by decide +kernel
theorem dX2_isNode_1 : decode cX2_isNode 1 = .ok (.ifCond .lt 15, 3) := by decide +kernel
theorem dX2_isNode_4 : decode cX2_isNode 4 = .ok (.iload_n 1, 1) := by decide +kernel
theorem dX2_isNode_5 : decode cX2_isNode 5 = .ok (.aload_n 0, 1) := by decide +kernel
theorem dX2_isNode_6 : decode cX2_isNode 6 = .ok (.getfield 53, 3) := by decide +kernel
theorem dX2_isNode_9 : decode cX2_isNode 9 = .ok (.if_icmp .ge 7, 3) := by decide +kernel
theorem dX2_isNode_12 : decode cX2_isNode 12 = .ok (.iconst 1, 1) := by decide +kernel
theorem dX2_isNode_13 : decode cX2_isNode 13 = .ok (.goto 4, 3) := by decide +kernel
theorem dX2_isNode_16 : decode cX2_isNode 16 = .ok (.iconst 0, 1) := by decide +kernel
theorem dX2_isNode_17 : decode cX2_isNode 17 = .ok (.ireturn, 1) := by decide +kernel
theorem dX2_areTwoNodes_0 : decode cX2_areTwoNodes 0 = .ok (.aload_n 0, 1) := by decide +kernel
theorem dX2_areTwoNodes_1 : decode cX2_areTwoNodes 1 = .ok (.iload_n 1, 1) := by decide +kernel
theorem dX2_areTwoNodes_2 : decode cX2_areTwoNodes 2 = .ok (.invokevirtual 68, 3) := by decide +kernel
theorem dX2_areTwoNodes_5 : decode cX2_areTwoNodes 5 = .ok (.ifCond .eq 20, 3) := by decide +kernel
theorem dX2_areTwoNodes_8 : decode cX2_areTwoNodes 8 = .ok (.aload_n 0, 1) := by decide +kernel
theorem dX2_areTwoNodes_9 : decode cX2_areTwoNodes 9 = .ok (.iload_n 2, 1) := by decide +kernel
theorem dX2_areTwoNodes_10 : decode cX2_areTwoNodes 10 = .ok (.invokevirtual 68, 3) := by decide +kernel
theorem dX2_areTwoNodes_13 : decode cX2_areTwoNodes 13 = .ok (.ifCond .eq 12, 3) := by decide +kernel
theorem dX2_areTwoNodes_16 : decode cX2_areTwoNodes 16 = .ok (.iload_n 1, 1) := by decide +kernel
theorem dX2_areTwoNodes_17 : decode cX2_areTwoNodes 17 = .ok (.iload_n 2, 1) := by decide +kernel
theorem dX2_areTwoNodes_18 : decode cX2_areTwoNodes 18 = .ok (.if_icmp .eq 7, 3) := by decide +kernel
theorem dX2_areTwoNodes_21 : decode cX2_areTwoNodes 21 = .ok (.iconst 1, 1) := by decide +kernel
theorem dX2_areTwoNodes_22 : decode cX2_areTwoNodes 22 = .ok (.goto 4, 3) := by decide +kernel
theorem dX2_areTwoNodes_25 : decode cX2_areTwoNodes 25 = .ok (.iconst 0, 1) := by decide +kernel
theorem dX2_areTwoNodes_26 : decode cX2_areTwoNodes 26 = .ok (.ireturn, 1) := by decide +kernel
theorem dX2_isCorrect_0 : decode cX2_isCorrect 0 = .ok (.iload_n 1, 1) := by decide +kernel
theorem dX2_isCorrect_1 : decode cX2_isCorrect 1 = .ok (.ifCond .lt 24, 3) := by decide +kernel
theorem dX2_isCorrect_4 : decode cX2_isCorrect 4 = .ok (.iload_n 1, 1) := by decide +kernel
theorem dX2_isCorrect_5 : decode cX2_isCorrect 5 = .ok (.aload_n 0, 1) := by decide +kernel
theorem dX2_isCorrect_6 : decode cX2_isCorrect 6 = .ok (.getfield 53, 3) := by decide +kernel
theorem dX2_isCorrect_9 : decode cX2_isCorrect 9 = .ok (.if_icmp .ge 16, 3) := by decide +kernel
theorem dX2_isCorrect_12 : decode cX2_isCorrect 12 = .ok (.aload_n 0, 1) := by decide +kernel
theorem dX2_isCorrect_13 : decode cX2_isCorrect 13 = .ok (.getfield 34, 3) := by decide +kernel
theorem dX2_isCorrect_16 : decode cX2_isCorrect 16 = .ok (.iload_n 1, 1) := by decide +kernel
theorem dX2_isCorrect_17 : decode cX2_isCorrect 17 = .ok (.iaload, 1) := by decide +kernel
theorem dX2_isCorrect_18 : decode cX2_isCorrect 18 = .ok (.ifCond .ne 7, 3) := by decide +kernel
theorem dX2_isCorrect_21 : decode cX2_isCorrect 21 = .ok (.iconst 1, 1) := by decide +kernel
theorem dX2_isCorrect_22 : decode cX2_isCorrect 22 = .ok (.goto 4, 3) := by decide +kernel
theorem dX2_isCorrect_25 : decode cX2_isCorrect 25 = .ok (.iconst 0, 1) := by decide +kernel
theorem dX2_isCorrect_26 : decode cX2_isCorrect 26 = .ok (.ireturn, 1) := by decide +kernel
theorem dX2_isWidthGoal_0 : decode cX2_isWidthGoal 0 = .ok (.iload_n 0, 1) := by decide +kernel
theorem dX2_isWidthGoal_1 : decode cX2_isWidthGoal 1 = .ok (.iconst 0, 1) := by decide +kernel
theorem dX2_isWidthGoal_2 : decode cX2_isWidthGoal 2 = .ok (.sipush 1000, 3) := by decide +kernel
theorem dX2_isWidthGoal_5 : decode cX2_isWidthGoal 5 = .ok (.invokestatic 49, 3) := by decide +kernel
theorem dX2_isWidthGoal_8 : decode cX2_isWidthGoal 8 = .ok (.ifCond .eq 28, 3) := by decide +kernel
theorem dX2_isWidthGoal_11 : decode cX2_isWidthGoal 11 = .ok (.iload_n 1, 1) := by decide +kernel
theorem dX2_isWidthGoal_12 : decode cX2_isWidthGoal 12 = .ok (.iconst 1, 1) := by decide +kernel
theorem dX2_isWidthGoal_13 : decode cX2_isWidthGoal 13 = .ok (.sipush 1000, 3) := by decide +kernel
theorem dX2_isWidthGoal_16 : decode cX2_isWidthGoal 16 = .ok (.invokestatic 49, 3) := by decide +kernel
theorem dX2_isWidthGoal_19 : decode cX2_isWidthGoal 19 = .ok (.ifCond .eq 17, 3) := by decide +kernel
theorem dX2_isWidthGoal_22 : decode cX2_isWidthGoal 22 = .ok (.iload_n 2, 1) := by decide +kernel
theorem dX2_isWidthGoal_23 : decode cX2_isWidthGoal 23 = .ok (.iconst 0, 1) := by decide +kernel
theorem dX2_isWidthGoal_24 : decode cX2_isWidthGoal 24 = .ok (.bipush 60, 2) := by decide +kernel
theorem dX2_isWidthGoal_26 : decode cX2_isWidthGoal 26 = .ok (.invokestatic 49, 3) := by decide +kernel
theorem dX2_isWidthGoal_29 : decode cX2_isWidthGoal 29 = .ok (.ifCond .eq 7, 3) := by decide +kernel
theorem dX2_isWidthGoal_32 : decode cX2_isWidthGoal 32 = .ok (.iconst 1, 1) := by decide +kernel
theorem dX2_isWidthGoal_33 : decode cX2_isWidthGoal 33 = .ok (.goto 4, 3) := by decide +kernel
theorem dX2_isWidthGoal_36 : decode cX2_isWidthGoal 36 = .ok (.iconst 0, 1) := by decide +kernel
theorem dX2_isWidthGoal_37 : decode cX2_isWidthGoal 37 = .ok (.ireturn, 1) := by decide +kernel
theorem dX2_isOnGrid_0 : decode cX2_isOnGrid 0 = .ok (.lload_n 2, 1) := by decide +kernel
theorem dX2_isOnGrid_1 : decode cX2_isOnGrid 1 = .ok (.lconst 0, 1) := by decide +kernel
theorem dX2_isOnGrid_2 : decode cX2_isOnGrid 2 = .ok (.lcmp, 1) := by decide +kernel
theorem dX2_isOnGrid_3 : decode cX2_isOnGrid 3 = .ok (.ifCond .le 18, 3) := by decide +kernel
theorem dX2_isOnGrid_6 : decode cX2_isOnGrid 6 = .ok (.lload_n 0, 1) := by decide +kernel
theorem dX2_isOnGrid_7 : decode cX2_isOnGrid 7 = .ok (.lload 4, 2) := by decide +kernel
theorem dX2_isOnGrid_9 : decode cX2_isOnGrid 9 = .ok (.lmul, 1) := by decide +kernel
theorem dX2_isOnGrid_10 : decode cX2_isOnGrid 10 = .ok (.lload_n 2, 1) := by decide +kernel
theorem dX2_isOnGrid_11 : decode cX2_isOnGrid 11 = .ok (.lrem, 1) := by decide +kernel
theorem dX2_isOnGrid_12 : decode cX2_isOnGrid 12 = .ok (.lconst 0, 1) := by decide +kernel
theorem dX2_isOnGrid_13 : decode cX2_isOnGrid 13 = .ok (.lcmp, 1) := by decide +kernel
theorem dX2_isOnGrid_14 : decode cX2_isOnGrid 14 = .ok (.ifCond .ne 7, 3) := by decide +kernel
theorem dX2_isOnGrid_17 : decode cX2_isOnGrid 17 = .ok (.iconst 1, 1) := by decide +kernel
theorem dX2_isOnGrid_18 : decode cX2_isOnGrid 18 = .ok (.goto 4, 3) := by decide +kernel
theorem dX2_isOnGrid_21 : decode cX2_isOnGrid 21 = .ok (.iconst 0, 1) := by decide +kernel
theorem dX2_isOnGrid_22 : decode cX2_isOnGrid 22 = .ok (.ireturn, 1) := by decide +kernel
theorem dX2_inUnits_0 : decode cX2_inUnits 0 = .ok (.lload_n 2, 1) := by decide +kernel
theorem dX2_inUnits_1 : decode cX2_inUnits 1 = .ok (.lconst 0, 1) := by decide +kernel
theorem dX2_inUnits_2 : decode cX2_inUnits 2 = .ok (.lcmp, 1) := by decide +kernel
theorem dX2_inUnits_3 : decode cX2_inUnits 3 = .ok (.ifCond .le 12, 3) := by decide +kernel
theorem dX2_inUnits_6 : decode cX2_inUnits 6 = .ok (.lload_n 0, 1) := by decide +kernel
theorem dX2_inUnits_7 : decode cX2_inUnits 7 = .ok (.lload 4, 2) := by decide +kernel
theorem dX2_inUnits_9 : decode cX2_inUnits 9 = .ok (.lmul, 1) := by decide +kernel
theorem dX2_inUnits_10 : decode cX2_inUnits 10 = .ok (.lload_n 2, 1) := by decide +kernel
theorem dX2_inUnits_11 : decode cX2_inUnits 11 = .ok (.ldiv, 1) := by decide +kernel
theorem dX2_inUnits_12 : decode cX2_inUnits 12 = .ok (.goto 4, 3) := by decide +kernel
theorem dX2_inUnits_15 : decode cX2_inUnits 15 = .ok (.lconst 0, 1) := by decide +kernel
theorem dX2_inUnits_16 : decode cX2_inUnits 16 = .ok (.lreturn, 1) := by decide +kernel
theorem dX2_asFraction_0 : decode cX2_asFraction 0 = .ok (.lload_n 1, 1) := by decide +kernel
theorem dX2_asFraction_1 : decode cX2_asFraction 1 = .ok (.aload_n 0, 1) := by decide +kernel
theorem dX2_asFraction_2 : decode cX2_asFraction 2 = .ok (.getfield 83, 3) := by decide +kernel
theorem dX2_asFraction_5 : decode cX2_asFraction 5 = .ok (.i2l, 1) := by decide +kernel
theorem dX2_asFraction_6 : decode cX2_asFraction 6 = .ok (.iload_n 3, 1) := by decide +kernel
theorem dX2_asFraction_7 : decode cX2_asFraction 7 = .ok (.invokestatic 158, 3) := by decide +kernel
theorem dX2_asFraction_10 : decode cX2_asFraction 10 = .ok (.lreturn, 1) := by decide +kernel
theorem dX2_inLowestTerms_0 : decode cX2_inLowestTerms 0 = .ok (.lload_n 0, 1) := by decide +kernel
theorem dX2_inLowestTerms_1 : decode cX2_inLowestTerms 1 = .ok (.invokestatic 196, 3) := by decide +kernel
theorem dX2_inLowestTerms_4 : decode cX2_inLowestTerms 4 = .ok (.lload_n 2, 1) := by decide +kernel
theorem dX2_inLowestTerms_5 : decode cX2_inLowestTerms 5 = .ok (.invokestatic 202, 3) := by decide +kernel
theorem dX2_inLowestTerms_8 : decode cX2_inLowestTerms 8 = .ok (.lstore 5, 2) := by decide +kernel
theorem dX2_inLowestTerms_10 : decode cX2_inLowestTerms 10 = .ok (.lload 5, 2) := by decide +kernel
theorem dX2_inLowestTerms_12 : decode cX2_inLowestTerms 12 = .ok (.lconst 1, 1) := by decide +kernel
theorem dX2_inLowestTerms_13 : decode cX2_inLowestTerms 13 = .ok (.lcmp, 1) := by decide +kernel
theorem dX2_inLowestTerms_14 : decode cX2_inLowestTerms 14 = .ok (.ifCond .ge 7, 3) := by decide +kernel
theorem dX2_inLowestTerms_17 : decode cX2_inLowestTerms 17 = .ok (.ldc2_w 128, 3) := by decide +kernel
theorem dX2_inLowestTerms_20 : decode cX2_inLowestTerms 20 = .ok (.lreturn, 1) := by decide +kernel
theorem dX2_inLowestTerms_21 : decode cX2_inLowestTerms 21 = .ok (.iload 4, 2) := by decide +kernel
theorem dX2_inLowestTerms_23 : decode cX2_inLowestTerms 23 = .ok (.ifCond .eq 10, 3) := by decide +kernel
theorem dX2_inLowestTerms_26 : decode cX2_inLowestTerms 26 = .ok (.lload_n 2, 1) := by decide +kernel
theorem dX2_inLowestTerms_27 : decode cX2_inLowestTerms 27 = .ok (.lload 5, 2) := by decide +kernel
theorem dX2_inLowestTerms_29 : decode cX2_inLowestTerms 29 = .ok (.ldiv, 1) := by decide +kernel
theorem dX2_inLowestTerms_30 : decode cX2_inLowestTerms 30 = .ok (.goto 7, 3) := by decide +kernel
theorem dX2_inLowestTerms_33 : decode cX2_inLowestTerms 33 = .ok (.lload_n 0, 1) := by decide +kernel
theorem dX2_inLowestTerms_34 : decode cX2_inLowestTerms 34 = .ok (.lload 5, 2) := by decide +kernel
theorem dX2_inLowestTerms_36 : decode cX2_inLowestTerms 36 = .ok (.ldiv, 1) := by decide +kernel
theorem dX2_inLowestTerms_37 : decode cX2_inLowestTerms 37 = .ok (.lreturn, 1) := by decide +kernel
theorem dX2_greatestCommonDivisor_0 : decode cX2_greatestCommonDivisor 0 = .ok (.lload_n 0, 1) := by decide +kernel
theorem dX2_greatestCommonDivisor_1 : decode cX2_greatestCommonDivisor 1 = .ok (.lstore 4, 2) := by decide +kernel
theorem dX2_greatestCommonDivisor_3 : decode cX2_greatestCommonDivisor 3 = .ok (.lload_n 2, 1) := by decide +kernel
theorem dX2_greatestCommonDivisor_4 : decode cX2_greatestCommonDivisor 4 = .ok (.lstore 6, 2) := by decide +kernel
theorem dX2_greatestCommonDivisor_6 : decode cX2_greatestCommonDivisor 6 = .ok (.iconst 0, 1) := by decide +kernel
theorem dX2_greatestCommonDivisor_7 : decode cX2_greatestCommonDivisor 7 = .ok (.istore 8, 2) := by decide +kernel
theorem dX2_greatestCommonDivisor_9 : decode cX2_greatestCommonDivisor 9 = .ok (.iload 8, 2) := by decide +kernel
theorem dX2_greatestCommonDivisor_11 : decode cX2_greatestCommonDivisor 11 = .ok (.sipush 1000, 3) := by decide +kernel
theorem dX2_greatestCommonDivisor_14 : decode cX2_greatestCommonDivisor 14 = .ok (.if_icmp .ge 31, 3) := by decide +kernel
theorem dX2_greatestCommonDivisor_17 : decode cX2_greatestCommonDivisor 17 = .ok (.lload 6, 2) := by decide +kernel
theorem dX2_greatestCommonDivisor_19 : decode cX2_greatestCommonDivisor 19 = .ok (.lconst 0, 1) := by decide +kernel
theorem dX2_greatestCommonDivisor_20 : decode cX2_greatestCommonDivisor 20 = .ok (.lcmp, 1) := by decide +kernel
theorem dX2_greatestCommonDivisor_21 : decode cX2_greatestCommonDivisor 21 = .ok (.ifCond .eq 24, 3) := by decide +kernel
theorem dX2_greatestCommonDivisor_24 : decode cX2_greatestCommonDivisor 24 = .ok (.lload 4, 2) := by decide +kernel
theorem dX2_greatestCommonDivisor_26 : decode cX2_greatestCommonDivisor 26 = .ok (.lload 6, 2) := by decide +kernel
theorem dX2_greatestCommonDivisor_28 : decode cX2_greatestCommonDivisor 28 = .ok (.lrem, 1) := by decide +kernel
theorem dX2_greatestCommonDivisor_29 : decode cX2_greatestCommonDivisor 29 = .ok (.lstore 9, 2) := by decide +kernel
theorem dX2_greatestCommonDivisor_31 : decode cX2_greatestCommonDivisor 31 = .ok (.lload 6, 2) := by decide +kernel
theorem dX2_greatestCommonDivisor_33 : decode cX2_greatestCommonDivisor 33 = .ok (.lstore 4, 2) := by decide +kernel
theorem dX2_greatestCommonDivisor_35 : decode cX2_greatestCommonDivisor 35 = .ok (.lload 9, 2) := by decide +kernel
theorem dX2_greatestCommonDivisor_37 : decode cX2_greatestCommonDivisor 37 = .ok (.lstore 6, 2) := by decide +kernel
theorem dX2_greatestCommonDivisor_39 : decode cX2_greatestCommonDivisor 39 = .ok (.iinc 8 1, 3) := by decide +kernel
theorem dX2_greatestCommonDivisor_42 : decode cX2_greatestCommonDivisor 42 = .ok (.goto (-33), 3) := by decide +kernel
theorem dX2_greatestCommonDivisor_45 : decode cX2_greatestCommonDivisor 45 = .ok (.lload 4, 2) := by decide +kernel
theorem dX2_greatestCommonDivisor_47 : decode cX2_greatestCommonDivisor 47 = .ok (.lreturn, 1) := by decide +kernel
theorem dX2_correctSet_0 : decode cX2_correctSet 0 = .ok (.iconst 0, 1) := by decide +kernel
theorem dX2_correctSet_1 : decode cX2_correctSet 1 = .ok (.istore_n 1, 1) := by decide +kernel
theorem dX2_correctSet_2 : decode cX2_correctSet 2 = .ok (.iconst 0, 1) := by decide +kernel
theorem dX2_correctSet_3 : decode cX2_correctSet 3 = .ok (.istore_n 2, 1) := by decide +kernel
theorem dX2_correctSet_4 : decode cX2_correctSet 4 = .ok (.iload_n 2, 1) := by decide +kernel
theorem dX2_correctSet_5 : decode cX2_correctSet 5 = .ok (.aload_n 0, 1) := by decide +kernel
theorem dX2_correctSet_6 : decode cX2_correctSet 6 = .ok (.getfield 53, 3) := by decide +kernel
theorem dX2_correctSet_9 : decode cX2_correctSet 9 = .ok (.if_icmp .ge 24, 3) := by decide +kernel
theorem dX2_correctSet_12 : decode cX2_correctSet 12 = .ok (.aload_n 0, 1) := by decide +kernel
theorem dX2_correctSet_13 : decode cX2_correctSet 13 = .ok (.getfield 34, 3) := by decide +kernel
theorem dX2_correctSet_16 : decode cX2_correctSet 16 = .ok (.iload_n 2, 1) := by decide +kernel
theorem dX2_correctSet_17 : decode cX2_correctSet 17 = .ok (.iaload, 1) := by decide +kernel
theorem dX2_correctSet_18 : decode cX2_correctSet 18 = .ok (.ifCond .ne 9, 3) := by decide +kernel
theorem dX2_correctSet_21 : decode cX2_correctSet 21 = .ok (.iload_n 1, 1) := by decide +kernel
theorem dX2_correctSet_22 : decode cX2_correctSet 22 = .ok (.iconst 1, 1) := by decide +kernel
theorem dX2_correctSet_23 : decode cX2_correctSet 23 = .ok (.iload_n 2, 1) := by decide +kernel
theorem dX2_correctSet_24 : decode cX2_correctSet 24 = .ok (.ishl, 1) := by decide +kernel
theorem dX2_correctSet_25 : decode cX2_correctSet 25 = .ok (.ior, 1) := by decide +kernel
theorem dX2_correctSet_26 : decode cX2_correctSet 26 = .ok (.istore_n 1, 1) := by decide +kernel
theorem dX2_correctSet_27 : decode cX2_correctSet 27 = .ok (.iinc 2 1, 3) := by decide +kernel
theorem dX2_correctSet_30 : decode cX2_correctSet 30 = .ok (.goto (-26), 3) := by decide +kernel
theorem dX2_correctSet_33 : decode cX2_correctSet 33 = .ok (.iload_n 1, 1) := by decide +kernel
theorem dX2_correctSet_34 : decode cX2_correctSet 34 = .ok (.ireturn, 1) := by decide +kernel
theorem dX2_faultyNodes_0 : decode cX2_faultyNodes 0 = .ok (.aload_n 0, 1) := by decide +kernel
theorem dX2_faultyNodes_1 : decode cX2_faultyNodes 1 = .ok (.getfield 53, 3) := by decide +kernel
theorem dX2_faultyNodes_4 : decode cX2_faultyNodes 4 = .ok (.aload_n 0, 1) := by decide +kernel
theorem dX2_faultyNodes_5 : decode cX2_faultyNodes 5 = .ok (.invokevirtual 149, 3) := by decide +kernel
theorem dX2_faultyNodes_8 : decode cX2_faultyNodes 8 = .ok (.invokestatic 206, 3) := by decide +kernel
theorem dX2_faultyNodes_11 : decode cX2_faultyNodes 11 = .ok (.isub, 1) := by decide +kernel
theorem dX2_faultyNodes_12 : decode cX2_faultyNodes 12 = .ok (.ireturn, 1) := by decide +kernel
theorem dX2_delayOf_0 : decode cX2_delayOf 0 = .ok (.iload_n 1, 1) := by decide +kernel
theorem dX2_delayOf_1 : decode cX2_delayOf 1 = .ok (.bipush 10, 2) := by decide +kernel
theorem dX2_delayOf_3 : decode cX2_delayOf 3 = .ok (.imul, 1) := by decide +kernel
theorem dX2_delayOf_4 : decode cX2_delayOf 4 = .ok (.iload_n 2, 1) := by decide +kernel
theorem dX2_delayOf_5 : decode cX2_delayOf 5 = .ok (.iadd, 1) := by decide +kernel
theorem dX2_delayOf_6 : decode cX2_delayOf 6 = .ok (.istore_n 3, 1) := by decide +kernel
theorem dX2_delayOf_7 : decode cX2_delayOf 7 = .ok (.iload_n 3, 1) := by decide +kernel
theorem dX2_delayOf_8 : decode cX2_delayOf 8 = .ok (.ifCond .lt 21, 3) := by decide +kernel
theorem dX2_delayOf_11 : decode cX2_delayOf 11 = .ok (.iload_n 3, 1) := by decide +kernel
theorem dX2_delayOf_12 : decode cX2_delayOf 12 = .ok (.aload_n 0, 1) := by decide +kernel
theorem dX2_delayOf_13 : decode cX2_delayOf 13 = .ok (.getfield 30, 3) := by decide +kernel
theorem dX2_delayOf_16 : decode cX2_delayOf 16 = .ok (.arraylength, 1) := by decide +kernel
theorem dX2_delayOf_17 : decode cX2_delayOf 17 = .ok (.if_icmp .ge 12, 3) := by decide +kernel
theorem dX2_delayOf_20 : decode cX2_delayOf 20 = .ok (.aload_n 0, 1) := by decide +kernel
theorem dX2_delayOf_21 : decode cX2_delayOf 21 = .ok (.getfield 30, 3) := by decide +kernel
theorem dX2_delayOf_24 : decode cX2_delayOf 24 = .ok (.iload_n 3, 1) := by decide +kernel
theorem dX2_delayOf_25 : decode cX2_delayOf 25 = .ok (.iaload, 1) := by decide +kernel
theorem dX2_delayOf_26 : decode cX2_delayOf 26 = .ok (.goto 4, 3) := by decide +kernel
theorem dX2_delayOf_29 : decode cX2_delayOf 29 = .ok (.iconst (-1), 1) := by decide +kernel
theorem dX2_delayOf_30 : decode cX2_delayOf 30 = .ok (.ireturn, 1) := by decide +kernel
theorem dX2_linksWithDelay_0 : decode cX2_linksWithDelay 0 = .ok (.iconst 0, 1) := by decide +kernel
theorem dX2_linksWithDelay_1 : decode cX2_linksWithDelay 1 = .ok (.istore_n 2, 1) := by decide +kernel
theorem dX2_linksWithDelay_2 : decode cX2_linksWithDelay 2 = .ok (.iconst 0, 1) := by decide +kernel
theorem dX2_linksWithDelay_3 : decode cX2_linksWithDelay 3 = .ok (.istore_n 3, 1) := by decide +kernel
theorem dX2_linksWithDelay_4 : decode cX2_linksWithDelay 4 = .ok (.iload_n 3, 1) := by decide +kernel
theorem dX2_linksWithDelay_5 : decode cX2_linksWithDelay 5 = .ok (.aload_n 0, 1) := by decide +kernel
theorem dX2_linksWithDelay_6 : decode cX2_linksWithDelay 6 = .ok (.getfield 53, 3) := by decide +kernel
theorem dX2_linksWithDelay_9 : decode cX2_linksWithDelay 9 = .ok (.if_icmp .ge 51, 3) := by decide +kernel
theorem dX2_linksWithDelay_12 : decode cX2_linksWithDelay 12 = .ok (.iconst 0, 1) := by decide +kernel
theorem dX2_linksWithDelay_13 : decode cX2_linksWithDelay 13 = .ok (.istore 4, 2) := by decide +kernel
theorem dX2_linksWithDelay_15 : decode cX2_linksWithDelay 15 = .ok (.iload 4, 2) := by decide +kernel
theorem dX2_linksWithDelay_17 : decode cX2_linksWithDelay 17 = .ok (.aload_n 0, 1) := by decide +kernel
theorem dX2_linksWithDelay_18 : decode cX2_linksWithDelay 18 = .ok (.getfield 53, 3) := by decide +kernel
theorem dX2_linksWithDelay_21 : decode cX2_linksWithDelay 21 = .ok (.if_icmp .ge 33, 3) := by decide +kernel
theorem dX2_linksWithDelay_24 : decode cX2_linksWithDelay 24 = .ok (.iload_n 3, 1) := by decide +kernel
theorem dX2_linksWithDelay_25 : decode cX2_linksWithDelay 25 = .ok (.iload 4, 2) := by decide +kernel
theorem dX2_linksWithDelay_27 : decode cX2_linksWithDelay 27 = .ok (.if_icmp .eq 21, 3) := by decide +kernel
theorem dX2_linksWithDelay_30 : decode cX2_linksWithDelay 30 = .ok (.aload_n 0, 1) := by decide +kernel
theorem dX2_linksWithDelay_31 : decode cX2_linksWithDelay 31 = .ok (.iload_n 3, 1) := by decide +kernel
theorem dX2_linksWithDelay_32 : decode cX2_linksWithDelay 32 = .ok (.iload 4, 2) := by decide +kernel
theorem dX2_linksWithDelay_34 : decode cX2_linksWithDelay 34 = .ok (.invokevirtual 94, 3) := by decide +kernel
theorem dX2_linksWithDelay_37 : decode cX2_linksWithDelay 37 = .ok (.iconst 0, 1) := by decide +kernel
theorem dX2_linksWithDelay_38 : decode cX2_linksWithDelay 38 = .ok (.iload_n 1, 1) := by decide +kernel
theorem dX2_linksWithDelay_39 : decode cX2_linksWithDelay 39 = .ok (.invokestatic 49, 3) := by decide +kernel
theorem dX2_linksWithDelay_42 : decode cX2_linksWithDelay 42 = .ok (.ifCond .eq 6, 3) := by decide +kernel
theorem dX2_linksWithDelay_45 : decode cX2_linksWithDelay 45 = .ok (.iinc 2 1, 3) := by decide +kernel
theorem dX2_linksWithDelay_48 : decode cX2_linksWithDelay 48 = .ok (.iinc 4 1, 3) := by decide +kernel
theorem dX2_linksWithDelay_51 : decode cX2_linksWithDelay 51 = .ok (.goto (-36), 3) := by decide +kernel
theorem dX2_linksWithDelay_54 : decode cX2_linksWithDelay 54 = .ok (.iinc 3 1, 3) := by decide +kernel
theorem dX2_linksWithDelay_57 : decode cX2_linksWithDelay 57 = .ok (.goto (-53), 3) := by decide +kernel
theorem dX2_linksWithDelay_60 : decode cX2_linksWithDelay 60 = .ok (.iload_n 2, 1) := by decide +kernel
theorem dX2_linksWithDelay_61 : decode cX2_linksWithDelay 61 = .ok (.ireturn, 1) := by decide +kernel
theorem dX2_haveSameValue_0 : decode cX2_haveSameValue 0 = .ok (.aload_n 0, 1) := by decide +kernel
theorem dX2_haveSameValue_1 : decode cX2_haveSameValue 1 = .ok (.iload_n 1, 1) := by decide +kernel
theorem dX2_haveSameValue_2 : decode cX2_haveSameValue 2 = .ok (.invokevirtual 125, 3) := by decide +kernel
theorem dX2_haveSameValue_5 : decode cX2_haveSameValue 5 = .ok (.ifCond .eq 75, 3) := by decide +kernel
theorem dX2_haveSameValue_8 : decode cX2_haveSameValue 8 = .ok (.aload_n 0, 1) := by decide +kernel
theorem dX2_haveSameValue_9 : decode cX2_haveSameValue 9 = .ok (.iload_n 2, 1) := by decide +kernel
theorem dX2_haveSameValue_10 : decode cX2_haveSameValue 10 = .ok (.invokevirtual 125, 3) := by decide +kernel
theorem dX2_haveSameValue_13 : decode cX2_haveSameValue 13 = .ok (.ifCond .eq 67, 3) := by decide +kernel
theorem dX2_haveSameValue_16 : decode cX2_haveSameValue 16 = .ok (.aload_n 0, 1) := by decide +kernel
theorem dX2_haveSameValue_17 : decode cX2_haveSameValue 17 = .ok (.getfield 23, 3) := by decide +kernel
theorem dX2_haveSameValue_20 : decode cX2_haveSameValue 20 = .ok (.aload_n 0, 1) := by decide +kernel
theorem dX2_haveSameValue_21 : decode cX2_haveSameValue 21 = .ok (.getfield 72, 3) := by decide +kernel
theorem dX2_haveSameValue_24 : decode cX2_haveSameValue 24 = .ok (.iload_n 1, 1) := by decide +kernel
theorem dX2_haveSameValue_25 : decode cX2_haveSameValue 25 = .ok (.iconst 0, 1) := by decide +kernel
theorem dX2_haveSameValue_26 : decode cX2_haveSameValue 26 = .ok (.invokevirtual 130, 3) := by decide +kernel
theorem dX2_haveSameValue_29 : decode cX2_haveSameValue 29 = .ok (.aload_n 0, 1) := by decide +kernel
theorem dX2_haveSameValue_30 : decode cX2_haveSameValue 30 = .ok (.getfield 23, 3) := by decide +kernel
theorem dX2_haveSameValue_33 : decode cX2_haveSameValue 33 = .ok (.aload_n 0, 1) := by decide +kernel
theorem dX2_haveSameValue_34 : decode cX2_haveSameValue 34 = .ok (.getfield 72, 3) := by decide +kernel
theorem dX2_haveSameValue_37 : decode cX2_haveSameValue 37 = .ok (.iload_n 2, 1) := by decide +kernel
theorem dX2_haveSameValue_38 : decode cX2_haveSameValue 38 = .ok (.iconst 0, 1) := by decide +kernel
theorem dX2_haveSameValue_39 : decode cX2_haveSameValue 39 = .ok (.invokevirtual 130, 3) := by decide +kernel
theorem dX2_haveSameValue_42 : decode cX2_haveSameValue 42 = .ok (.lcmp, 1) := by decide +kernel
theorem dX2_haveSameValue_43 : decode cX2_haveSameValue 43 = .ok (.ifCond .ne 37, 3) := by decide +kernel
theorem dX2_haveSameValue_46 : decode cX2_haveSameValue 46 = .ok (.aload_n 0, 1) := by decide +kernel
theorem dX2_haveSameValue_47 : decode cX2_haveSameValue 47 = .ok (.getfield 23, 3) := by decide +kernel
theorem dX2_haveSameValue_50 : decode cX2_haveSameValue 50 = .ok (.aload_n 0, 1) := by decide +kernel
theorem dX2_haveSameValue_51 : decode cX2_haveSameValue 51 = .ok (.getfield 72, 3) := by decide +kernel
theorem dX2_haveSameValue_54 : decode cX2_haveSameValue 54 = .ok (.iload_n 1, 1) := by decide +kernel
theorem dX2_haveSameValue_55 : decode cX2_haveSameValue 55 = .ok (.iconst 1, 1) := by decide +kernel
theorem dX2_haveSameValue_56 : decode cX2_haveSameValue 56 = .ok (.invokevirtual 130, 3) := by decide +kernel
theorem dX2_haveSameValue_59 : decode cX2_haveSameValue 59 = .ok (.aload_n 0, 1) := by decide +kernel
theorem dX2_haveSameValue_60 : decode cX2_haveSameValue 60 = .ok (.getfield 23, 3) := by decide +kernel
theorem dX2_haveSameValue_63 : decode cX2_haveSameValue 63 = .ok (.aload_n 0, 1) := by decide +kernel
theorem dX2_haveSameValue_64 : decode cX2_haveSameValue 64 = .ok (.getfield 72, 3) := by decide +kernel
theorem dX2_haveSameValue_67 : decode cX2_haveSameValue 67 = .ok (.iload_n 2, 1) := by decide +kernel
theorem dX2_haveSameValue_68 : decode cX2_haveSameValue 68 = .ok (.iconst 1, 1) := by decide +kernel
theorem dX2_haveSameValue_69 : decode cX2_haveSameValue 69 = .ok (.invokevirtual 130, 3) := by decide +kernel
theorem dX2_haveSameValue_72 : decode cX2_haveSameValue 72 = .ok (.lcmp, 1) := by decide +kernel
theorem dX2_haveSameValue_73 : decode cX2_haveSameValue 73 = .ok (.ifCond .ne 7, 3) := by decide +kernel
theorem dX2_haveSameValue_76 : decode cX2_haveSameValue 76 = .ok (.iconst 1, 1) := by decide +kernel
theorem dX2_haveSameValue_77 : decode cX2_haveSameValue 77 = .ok (.goto 4, 3) := by decide +kernel
theorem dX2_haveSameValue_80 : decode cX2_haveSameValue 80 = .ok (.iconst 0, 1) := by decide +kernel
theorem dX2_haveSameValue_81 : decode cX2_haveSameValue 81 = .ok (.ireturn, 1) := by decide +kernel
theorem dX2_holdersOfValueOf_0 : decode cX2_holdersOfValueOf 0 = .ok (.iconst 0, 1) := by decide +kernel
theorem dX2_holdersOfValueOf_1 : decode cX2_holdersOfValueOf 1 = .ok (.istore_n 2, 1) := by decide +kernel
theorem dX2_holdersOfValueOf_2 : decode cX2_holdersOfValueOf 2 = .ok (.iconst 0, 1) := by decide +kernel
theorem dX2_holdersOfValueOf_3 : decode cX2_holdersOfValueOf 3 = .ok (.istore_n 3, 1) := by decide +kernel
theorem dX2_holdersOfValueOf_4 : decode cX2_holdersOfValueOf 4 = .ok (.iload_n 3, 1) := by decide +kernel
theorem dX2_holdersOfValueOf_5 : decode cX2_holdersOfValueOf 5 = .ok (.aload_n 0, 1) := by decide +kernel
theorem dX2_holdersOfValueOf_6 : decode cX2_holdersOfValueOf 6 = .ok (.getfield 53, 3) := by decide +kernel
theorem dX2_holdersOfValueOf_9 : decode cX2_holdersOfValueOf 9 = .ok (.if_icmp .ge 21, 3) := by decide +kernel
theorem dX2_holdersOfValueOf_12 : decode cX2_holdersOfValueOf 12 = .ok (.aload_n 0, 1) := by decide +kernel
theorem dX2_holdersOfValueOf_13 : decode cX2_holdersOfValueOf 13 = .ok (.iload_n 1, 1) := by decide +kernel
theorem dX2_holdersOfValueOf_14 : decode cX2_holdersOfValueOf 14 = .ok (.iload_n 3, 1) := by decide +kernel
theorem dX2_holdersOfValueOf_15 : decode cX2_holdersOfValueOf 15 = .ok (.invokevirtual 211, 3) := by decide +kernel
theorem dX2_holdersOfValueOf_18 : decode cX2_holdersOfValueOf 18 = .ok (.ifCond .eq 6, 3) := by decide +kernel
theorem dX2_holdersOfValueOf_21 : decode cX2_holdersOfValueOf 21 = .ok (.iinc 2 1, 3) := by decide +kernel
theorem dX2_holdersOfValueOf_24 : decode cX2_holdersOfValueOf 24 = .ok (.iinc 3 1, 3) := by decide +kernel
theorem dX2_holdersOfValueOf_27 : decode cX2_holdersOfValueOf 27 = .ok (.goto (-23), 3) := by decide +kernel
theorem dX2_holdersOfValueOf_30 : decode cX2_holdersOfValueOf 30 = .ok (.iload_n 2, 1) := by decide +kernel
theorem dX2_holdersOfValueOf_31 : decode cX2_holdersOfValueOf 31 = .ok (.ireturn, 1) := by decide +kernel
theorem dX2_differentValues_0 : decode cX2_differentValues 0 = .ok (.iconst 0, 1) := by decide +kernel
theorem dX2_differentValues_1 : decode cX2_differentValues 1 = .ok (.istore_n 1, 1) := by decide +kernel
theorem dX2_differentValues_2 : decode cX2_differentValues 2 = .ok (.iconst 0, 1) := by decide +kernel
theorem dX2_differentValues_3 : decode cX2_differentValues 3 = .ok (.istore_n 2, 1) := by decide +kernel
theorem dX2_differentValues_4 : decode cX2_differentValues 4 = .ok (.iload_n 2, 1) := by decide +kernel
theorem dX2_differentValues_5 : decode cX2_differentValues 5 = .ok (.aload_n 0, 1) := by decide +kernel
theorem dX2_differentValues_6 : decode cX2_differentValues 6 = .ok (.getfield 53, 3) := by decide +kernel
theorem dX2_differentValues_9 : decode cX2_differentValues 9 = .ok (.if_icmp .ge 28, 3) := by decide +kernel
theorem dX2_differentValues_12 : decode cX2_differentValues 12 = .ok (.aload_n 0, 1) := by decide +kernel
theorem dX2_differentValues_13 : decode cX2_differentValues 13 = .ok (.iload_n 2, 1) := by decide +kernel
theorem dX2_differentValues_14 : decode cX2_differentValues 14 = .ok (.invokevirtual 125, 3) := by decide +kernel
theorem dX2_differentValues_17 : decode cX2_differentValues 17 = .ok (.ifCond .eq 14, 3) := by decide +kernel
theorem dX2_differentValues_20 : decode cX2_differentValues 20 = .ok (.aload_n 0, 1) := by decide +kernel
theorem dX2_differentValues_21 : decode cX2_differentValues 21 = .ok (.iload_n 2, 1) := by decide +kernel
theorem dX2_differentValues_22 : decode cX2_differentValues 22 = .ok (.invokevirtual 214, 3) := by decide +kernel
theorem dX2_differentValues_25 : decode cX2_differentValues 25 = .ok (.ifCond .eq 6, 3) := by decide +kernel
theorem dX2_differentValues_28 : decode cX2_differentValues 28 = .ok (.iinc 1 1, 3) := by decide +kernel
theorem dX2_differentValues_31 : decode cX2_differentValues 31 = .ok (.iinc 2 1, 3) := by decide +kernel
theorem dX2_differentValues_34 : decode cX2_differentValues 34 = .ok (.goto (-30), 3) := by decide +kernel
theorem dX2_differentValues_37 : decode cX2_differentValues 37 = .ok (.iload_n 1, 1) := by decide +kernel
theorem dX2_differentValues_38 : decode cX2_differentValues 38 = .ok (.ireturn, 1) := by decide +kernel
theorem dX2_isFirstHolder_0 : decode cX2_isFirstHolder 0 = .ok (.iconst 0, 1) := by decide +kernel
theorem dX2_isFirstHolder_1 : decode cX2_isFirstHolder 1 = .ok (.istore_n 2, 1) := by decide +kernel
theorem dX2_isFirstHolder_2 : decode cX2_isFirstHolder 2 = .ok (.iload_n 2, 1) := by decide +kernel
theorem dX2_isFirstHolder_3 : decode cX2_isFirstHolder 3 = .ok (.iload_n 1, 1) := by decide +kernel
theorem dX2_isFirstHolder_4 : decode cX2_isFirstHolder 4 = .ok (.if_icmp .ge 20, 3) := by decide +kernel
theorem dX2_isFirstHolder_7 : decode cX2_isFirstHolder 7 = .ok (.aload_n 0, 1) := by decide +kernel
theorem dX2_isFirstHolder_8 : decode cX2_isFirstHolder 8 = .ok (.iload_n 2, 1) := by decide +kernel
theorem dX2_isFirstHolder_9 : decode cX2_isFirstHolder 9 = .ok (.iload_n 1, 1) := by decide +kernel
theorem dX2_isFirstHolder_10 : decode cX2_isFirstHolder 10 = .ok (.invokevirtual 211, 3) := by decide +kernel
theorem dX2_isFirstHolder_13 : decode cX2_isFirstHolder 13 = .ok (.ifCond .eq 5, 3) := by decide +kernel
theorem dX2_isFirstHolder_16 : decode cX2_isFirstHolder 16 = .ok (.iconst 0, 1) := by decide +kernel
theorem dX2_isFirstHolder_17 : decode cX2_isFirstHolder 17 = .ok (.ireturn, 1) := by decide +kernel
theorem dX2_isFirstHolder_18 : decode cX2_isFirstHolder 18 = .ok (.iinc 2 1, 3) := by decide +kernel
theorem dX2_isFirstHolder_21 : decode cX2_isFirstHolder 21 = .ok (.goto (-19), 3) := by decide +kernel
theorem dX2_isFirstHolder_24 : decode cX2_isFirstHolder 24 = .ok (.iconst 1, 1) := by decide +kernel
theorem dX2_isFirstHolder_25 : decode cX2_isFirstHolder 25 = .ok (.ireturn, 1) := by decide +kernel
theorem dX2_widthAfter_0 : decode cX2_widthAfter 0 = .ok (.aload_n 0, 1) := by decide +kernel
theorem dX2_widthAfter_1 : decode cX2_widthAfter 1 = .ok (.invokevirtual 149, 3) := by decide +kernel
theorem dX2_widthAfter_4 : decode cX2_widthAfter 4 = .ok (.istore_n 2, 1) := by decide +kernel
theorem dX2_widthAfter_5 : decode cX2_widthAfter 5 = .ok (.aload_n 0, 1) := by decide +kernel
theorem dX2_widthAfter_6 : decode cX2_widthAfter 6 = .ok (.getfield 23, 3) := by decide +kernel
theorem dX2_widthAfter_9 : decode cX2_widthAfter 9 = .ok (.iload_n 1, 1) := by decide +kernel
theorem dX2_widthAfter_10 : decode cX2_widthAfter 10 = .ok (.iload_n 2, 1) := by decide +kernel
theorem dX2_widthAfter_11 : decode cX2_widthAfter 11 = .ok (.iconst 0, 1) := by decide +kernel
theorem dX2_widthAfter_12 : decode cX2_widthAfter 12 = .ok (.iconst 1, 1) := by decide +kernel
theorem dX2_widthAfter_13 : decode cX2_widthAfter 13 = .ok (.invokevirtual 168, 3) := by decide +kernel
theorem dX2_widthAfter_16 : decode cX2_widthAfter 16 = .ok (.aload_n 0, 1) := by decide +kernel
theorem dX2_widthAfter_17 : decode cX2_widthAfter 17 = .ok (.getfield 23, 3) := by decide +kernel
theorem dX2_widthAfter_20 : decode cX2_widthAfter 20 = .ok (.iload_n 1, 1) := by decide +kernel
theorem dX2_widthAfter_21 : decode cX2_widthAfter 21 = .ok (.iload_n 2, 1) := by decide +kernel
theorem dX2_widthAfter_22 : decode cX2_widthAfter 22 = .ok (.iconst 0, 1) := by decide +kernel
theorem dX2_widthAfter_23 : decode cX2_widthAfter 23 = .ok (.iconst 0, 1) := by decide +kernel
theorem dX2_widthAfter_24 : decode cX2_widthAfter 24 = .ok (.invokevirtual 168, 3) := by decide +kernel
theorem dX2_widthAfter_27 : decode cX2_widthAfter 27 = .ok (.lsub, 1) := by decide +kernel
theorem dX2_widthAfter_28 : decode cX2_widthAfter 28 = .ok (.lstore_n 3, 1) := by decide +kernel
theorem dX2_widthAfter_29 : decode cX2_widthAfter 29 = .ok (.aload_n 0, 1) := by decide +kernel
theorem dX2_widthAfter_30 : decode cX2_widthAfter 30 = .ok (.getfield 23, 3) := by decide +kernel
theorem dX2_widthAfter_33 : decode cX2_widthAfter 33 = .ok (.iload_n 1, 1) := by decide +kernel
theorem dX2_widthAfter_34 : decode cX2_widthAfter 34 = .ok (.iload_n 2, 1) := by decide +kernel
theorem dX2_widthAfter_35 : decode cX2_widthAfter 35 = .ok (.iconst 1, 1) := by decide +kernel
theorem dX2_widthAfter_36 : decode cX2_widthAfter 36 = .ok (.iconst 1, 1) := by decide +kernel
theorem dX2_widthAfter_37 : decode cX2_widthAfter 37 = .ok (.invokevirtual 168, 3) := by decide +kernel
theorem dX2_widthAfter_40 : decode cX2_widthAfter 40 = .ok (.aload_n 0, 1) := by decide +kernel
theorem dX2_widthAfter_41 : decode cX2_widthAfter 41 = .ok (.getfield 23, 3) := by decide +kernel
theorem dX2_widthAfter_44 : decode cX2_widthAfter 44 = .ok (.iload_n 1, 1) := by decide +kernel
theorem dX2_widthAfter_45 : decode cX2_widthAfter 45 = .ok (.iload_n 2, 1) := by decide +kernel
theorem dX2_widthAfter_46 : decode cX2_widthAfter 46 = .ok (.iconst 1, 1) := by decide +kernel
theorem dX2_widthAfter_47 : decode cX2_widthAfter 47 = .ok (.iconst 0, 1) := by decide +kernel
theorem dX2_widthAfter_48 : decode cX2_widthAfter 48 = .ok (.invokevirtual 168, 3) := by decide +kernel
theorem dX2_widthAfter_51 : decode cX2_widthAfter 51 = .ok (.lsub, 1) := by decide +kernel
theorem dX2_widthAfter_52 : decode cX2_widthAfter 52 = .ok (.lstore 5, 2) := by decide +kernel
theorem dX2_widthAfter_54 : decode cX2_widthAfter 54 = .ok (.lload_n 3, 1) := by decide +kernel
theorem dX2_widthAfter_55 : decode cX2_widthAfter 55 = .ok (.lload 5, 2) := by decide +kernel
theorem dX2_widthAfter_57 : decode cX2_widthAfter 57 = .ok (.invokestatic 217, 3) := by decide +kernel
theorem dX2_widthAfter_60 : decode cX2_widthAfter 60 = .ok (.lreturn, 1) := by decide +kernel
theorem dX2_isGuaranteed_0 : decode cX2_isGuaranteed 0 = .ok (.aload_n 0, 1) := by decide +kernel
theorem dX2_isGuaranteed_1 : decode cX2_isGuaranteed 1 = .ok (.iconst 0, 1) := by decide +kernel
theorem dX2_isGuaranteed_2 : decode cX2_isGuaranteed 2 = .ok (.invokevirtual 107, 3) := by decide +kernel
theorem dX2_isGuaranteed_5 : decode cX2_isGuaranteed 5 = .ok (.aload_n 0, 1) := by decide +kernel
theorem dX2_isGuaranteed_6 : decode cX2_isGuaranteed 6 = .ok (.getfield 53, 3) := by decide +kernel
theorem dX2_isGuaranteed_9 : decode cX2_isGuaranteed 9 = .ok (.aload_n 0, 1) := by decide +kernel
theorem dX2_isGuaranteed_10 : decode cX2_isGuaranteed 10 = .ok (.getfield 53, 3) := by decide +kernel
theorem dX2_isGuaranteed_13 : decode cX2_isGuaranteed 13 = .ok (.iconst 1, 1) := by decide +kernel
theorem dX2_isGuaranteed_14 : decode cX2_isGuaranteed 14 = .ok (.isub, 1) := by decide +kernel
theorem dX2_isGuaranteed_15 : decode cX2_isGuaranteed 15 = .ok (.imul, 1) := by decide +kernel
theorem dX2_isGuaranteed_16 : decode cX2_isGuaranteed 16 = .ok (.if_icmp .ne 39, 3) := by decide +kernel
theorem dX2_isGuaranteed_19 : decode cX2_isGuaranteed 19 = .ok (.aload_n 0, 1) := by decide +kernel
theorem dX2_isGuaranteed_20 : decode cX2_isGuaranteed 20 = .ok (.invokevirtual 104, 3) := by decide +kernel
theorem dX2_isGuaranteed_23 : decode cX2_isGuaranteed 23 = .ok (.aload_n 0, 1) := by decide +kernel
theorem dX2_isGuaranteed_24 : decode cX2_isGuaranteed 24 = .ok (.getfield 101, 3) := by decide +kernel
theorem dX2_isGuaranteed_27 : decode cX2_isGuaranteed 27 = .ok (.if_icmp .gt 28, 3) := by decide +kernel
theorem dX2_isGuaranteed_30 : decode cX2_isGuaranteed 30 = .ok (.aload_n 0, 1) := by decide +kernel
theorem dX2_isGuaranteed_31 : decode cX2_isGuaranteed 31 = .ok (.getfield 53, 3) := by decide +kernel
theorem dX2_isGuaranteed_34 : decode cX2_isGuaranteed 34 = .ok (.iconst 3, 1) := by decide +kernel
theorem dX2_isGuaranteed_35 : decode cX2_isGuaranteed 35 = .ok (.aload_n 0, 1) := by decide +kernel
theorem dX2_isGuaranteed_36 : decode cX2_isGuaranteed 36 = .ok (.getfield 101, 3) := by decide +kernel
theorem dX2_isGuaranteed_39 : decode cX2_isGuaranteed 39 = .ok (.imul, 1) := by decide +kernel
theorem dX2_isGuaranteed_40 : decode cX2_isGuaranteed 40 = .ok (.if_icmp .le 15, 3) := by decide +kernel
theorem dX2_isGuaranteed_43 : decode cX2_isGuaranteed 43 = .ok (.aload_n 0, 1) := by decide +kernel
theorem dX2_isGuaranteed_44 : decode cX2_isGuaranteed 44 = .ok (.getfield 98, 3) := by decide +kernel
theorem dX2_isGuaranteed_47 : decode cX2_isGuaranteed 47 = .ok (.iconst 2, 1) := by decide +kernel
theorem dX2_isGuaranteed_48 : decode cX2_isGuaranteed 48 = .ok (.if_icmp .eq 7, 3) := by decide +kernel
theorem dX2_isGuaranteed_51 : decode cX2_isGuaranteed 51 = .ok (.iconst 1, 1) := by decide +kernel
theorem dX2_isGuaranteed_52 : decode cX2_isGuaranteed 52 = .ok (.goto 4, 3) := by decide +kernel
theorem dX2_isGuaranteed_55 : decode cX2_isGuaranteed 55 = .ok (.iconst 0, 1) := by decide +kernel
theorem dX2_isGuaranteed_56 : decode cX2_isGuaranteed 56 = .ok (.ireturn, 1) := by decide +kernel
theorem dX2_sentEnd_0 : decode cX2_sentEnd 0 = .ok (.aload_n 0, 1) := by decide +kernel
theorem dX2_sentEnd_1 : decode cX2_sentEnd 1 = .ok (.iload_n 1, 1) := by decide +kernel
theorem dX2_sentEnd_2 : decode cX2_sentEnd 2 = .ok (.invokevirtual 68, 3) := by decide +kernel
theorem dX2_sentEnd_5 : decode cX2_sentEnd 5 = .ok (.ifCond .ne 5, 3) := by decide +kernel
theorem dX2_sentEnd_8 : decode cX2_sentEnd 8 = .ok (.lconst 0, 1) := by decide +kernel
theorem dX2_sentEnd_9 : decode cX2_sentEnd 9 = .ok (.lreturn, 1) := by decide +kernel
theorem dX2_sentEnd_10 : decode cX2_sentEnd 10 = .ok (.aload_n 0, 1) := by decide +kernel
theorem dX2_sentEnd_11 : decode cX2_sentEnd 11 = .ok (.getfield 34, 3) := by decide +kernel
theorem dX2_sentEnd_14 : decode cX2_sentEnd 14 = .ok (.iload_n 1, 1) := by decide +kernel
theorem dX2_sentEnd_15 : decode cX2_sentEnd 15 = .ok (.iaload, 1) := by decide +kernel
theorem dX2_sentEnd_16 : decode cX2_sentEnd 16 = .ok (.tableswitch 184 1 5 #[36, 51, 113, 138, 156], 36) := by decide +kernel
theorem dX2_sentEnd_52 : decode cX2_sentEnd 52 = .ok (.aload_n 0, 1) := by decide +kernel
theorem dX2_sentEnd_53 : decode cX2_sentEnd 53 = .ok (.getfield 27, 3) := by decide +kernel
theorem dX2_sentEnd_56 : decode cX2_sentEnd 56 = .ok (.iload_n 1, 1) := by decide +kernel
theorem dX2_sentEnd_57 : decode cX2_sentEnd 57 = .ok (.iload_n 2, 1) := by decide +kernel
theorem dX2_sentEnd_58 : decode cX2_sentEnd 58 = .ok (.iload_n 3, 1) := by decide +kernel
theorem dX2_sentEnd_59 : decode cX2_sentEnd 59 = .ok (.invokevirtual 130, 3) := by decide +kernel
theorem dX2_sentEnd_62 : decode cX2_sentEnd 62 = .ok (.lstore 4, 2) := by decide +kernel
theorem dX2_sentEnd_64 : decode cX2_sentEnd 64 = .ok (.goto 161, 3) := by decide +kernel
theorem dX2_sentEnd_67 : decode cX2_sentEnd 67 = .ok (.iload_n 2, 1) := by decide +kernel
theorem dX2_sentEnd_68 : decode cX2_sentEnd 68 = .ok (.iconst 2, 1) := by decide +kernel
theorem dX2_sentEnd_69 : decode cX2_sentEnd 69 = .ok (.irem, 1) := by decide +kernel
theorem dX2_sentEnd_70 : decode cX2_sentEnd 70 = .ok (.ifCond .ne 30, 3) := by decide +kernel
theorem dX2_sentEnd_73 : decode cX2_sentEnd 73 = .ok (.aload_n 0, 1) := by decide +kernel
theorem dX2_sentEnd_74 : decode cX2_sentEnd 74 = .ok (.getfield 23, 3) := by decide +kernel
theorem dX2_sentEnd_77 : decode cX2_sentEnd 77 = .ok (.aload_n 0, 1) := by decide +kernel
theorem dX2_sentEnd_78 : decode cX2_sentEnd 78 = .ok (.getfield 72, 3) := by decide +kernel
theorem dX2_sentEnd_81 : decode cX2_sentEnd 81 = .ok (.aload_n 0, 1) := by decide +kernel
theorem dX2_sentEnd_82 : decode cX2_sentEnd 82 = .ok (.invokevirtual 149, 3) := by decide +kernel
theorem dX2_sentEnd_85 : decode cX2_sentEnd 85 = .ok (.iconst 0, 1) := by decide +kernel
theorem dX2_sentEnd_86 : decode cX2_sentEnd 86 = .ok (.iconst 0, 1) := by decide +kernel
theorem dX2_sentEnd_87 : decode cX2_sentEnd 87 = .ok (.invokevirtual 168, 3) := by decide +kernel
theorem dX2_sentEnd_90 : decode cX2_sentEnd 90 = .ok (.aload_n 0, 1) := by decide +kernel
theorem dX2_sentEnd_91 : decode cX2_sentEnd 91 = .ok (.getfield 37, 3) := by decide +kernel
theorem dX2_sentEnd_94 : decode cX2_sentEnd 94 = .ok (.iload_n 1, 1) := by decide +kernel
theorem dX2_sentEnd_95 : decode cX2_sentEnd 95 = .ok (.laload, 1) := by decide +kernel
theorem dX2_sentEnd_96 : decode cX2_sentEnd 96 = .ok (.lsub, 1) := by decide +kernel
theorem dX2_sentEnd_97 : decode cX2_sentEnd 97 = .ok (.goto 27, 3) := by decide +kernel
theorem dX2_sentEnd_100 : decode cX2_sentEnd 100 = .ok (.aload_n 0, 1) := by decide +kernel
theorem dX2_sentEnd_101 : decode cX2_sentEnd 101 = .ok (.getfield 23, 3) := by decide +kernel
theorem dX2_sentEnd_104 : decode cX2_sentEnd 104 = .ok (.aload_n 0, 1) := by decide +kernel
theorem dX2_sentEnd_105 : decode cX2_sentEnd 105 = .ok (.getfield 72, 3) := by decide +kernel
theorem dX2_sentEnd_108 : decode cX2_sentEnd 108 = .ok (.aload_n 0, 1) := by decide +kernel
theorem dX2_sentEnd_109 : decode cX2_sentEnd 109 = .ok (.invokevirtual 149, 3) := by decide +kernel
theorem dX2_sentEnd_112 : decode cX2_sentEnd 112 = .ok (.iconst 1, 1) := by decide +kernel
theorem dX2_sentEnd_113 : decode cX2_sentEnd 113 = .ok (.iconst 1, 1) := by decide +kernel
theorem dX2_sentEnd_114 : decode cX2_sentEnd 114 = .ok (.invokevirtual 168, 3) := by decide +kernel
theorem dX2_sentEnd_117 : decode cX2_sentEnd 117 = .ok (.aload_n 0, 1) := by decide +kernel
theorem dX2_sentEnd_118 : decode cX2_sentEnd 118 = .ok (.getfield 37, 3) := by decide +kernel
theorem dX2_sentEnd_121 : decode cX2_sentEnd 121 = .ok (.iload_n 1, 1) := by decide +kernel
theorem dX2_sentEnd_122 : decode cX2_sentEnd 122 = .ok (.laload, 1) := by decide +kernel
theorem dX2_sentEnd_123 : decode cX2_sentEnd 123 = .ok (.ladd, 1) := by decide +kernel
theorem dX2_sentEnd_124 : decode cX2_sentEnd 124 = .ok (.lstore 4, 2) := by decide +kernel
theorem dX2_sentEnd_126 : decode cX2_sentEnd 126 = .ok (.goto 99, 3) := by decide +kernel
theorem dX2_sentEnd_129 : decode cX2_sentEnd 129 = .ok (.aload_n 0, 1) := by decide +kernel
theorem dX2_sentEnd_130 : decode cX2_sentEnd 130 = .ok (.getfield 23, 3) := by decide +kernel
theorem dX2_sentEnd_133 : decode cX2_sentEnd 133 = .ok (.aload_n 0, 1) := by decide +kernel
theorem dX2_sentEnd_134 : decode cX2_sentEnd 134 = .ok (.getfield 72, 3) := by decide +kernel
theorem dX2_sentEnd_137 : decode cX2_sentEnd 137 = .ok (.iload_n 2, 1) := by decide +kernel
theorem dX2_sentEnd_138 : decode cX2_sentEnd 138 = .ok (.iload_n 3, 1) := by decide +kernel
theorem dX2_sentEnd_139 : decode cX2_sentEnd 139 = .ok (.invokevirtual 130, 3) := by decide +kernel
theorem dX2_sentEnd_142 : decode cX2_sentEnd 142 = .ok (.aload_n 0, 1) := by decide +kernel
theorem dX2_sentEnd_143 : decode cX2_sentEnd 143 = .ok (.getfield 37, 3) := by decide +kernel
theorem dX2_sentEnd_146 : decode cX2_sentEnd 146 = .ok (.iload_n 1, 1) := by decide +kernel
theorem dX2_sentEnd_147 : decode cX2_sentEnd 147 = .ok (.laload, 1) := by decide +kernel
theorem dX2_sentEnd_148 : decode cX2_sentEnd 148 = .ok (.ladd, 1) := by decide +kernel
theorem dX2_sentEnd_149 : decode cX2_sentEnd 149 = .ok (.lstore 4, 2) := by decide +kernel
theorem dX2_sentEnd_151 : decode cX2_sentEnd 151 = .ok (.goto 74, 3) := by decide +kernel
theorem dX2_sentEnd_154 : decode cX2_sentEnd 154 = .ok (.aload_n 0, 1) := by decide +kernel
theorem dX2_sentEnd_155 : decode cX2_sentEnd 155 = .ok (.getfield 23, 3) := by decide +kernel
theorem dX2_sentEnd_158 : decode cX2_sentEnd 158 = .ok (.aload_n 0, 1) := by decide +kernel
theorem dX2_sentEnd_159 : decode cX2_sentEnd 159 = .ok (.getfield 72, 3) := by decide +kernel
theorem dX2_sentEnd_162 : decode cX2_sentEnd 162 = .ok (.iload_n 2, 1) := by decide +kernel
end
section
theorem dX2_sentEnd_163 : decode cX2_sentEnd 163 = .ok (.iload_n 3, 1) := by decide +kernel
theorem dX2_sentEnd_164 : decode cX2_sentEnd 164 = .ok (.invokevirtual 130, 3) := by decide +kernel
theorem dX2_sentEnd_167 : decode cX2_sentEnd 167 = .ok (.lstore 4, 2) := by decide +kernel
theorem dX2_sentEnd_169 : decode cX2_sentEnd 169 = .ok (.goto 56, 3) := by decide +kernel
theorem dX2_sentEnd_172 : decode cX2_sentEnd 172 = .ok (.aload_n 0, 1) := by decide +kernel
theorem dX2_sentEnd_173 : decode cX2_sentEnd 173 = .ok (.getfield 23, 3) := by decide +kernel
theorem dX2_sentEnd_176 : decode cX2_sentEnd 176 = .ok (.iconst 0, 1) := by decide +kernel
theorem dX2_sentEnd_177 : decode cX2_sentEnd 177 = .ok (.iload_n 1, 1) := by decide +kernel
theorem dX2_sentEnd_178 : decode cX2_sentEnd 178 = .ok (.iload_n 3, 1) := by decide +kernel
theorem dX2_sentEnd_179 : decode cX2_sentEnd 179 = .ok (.invokevirtual 130, 3) := by decide +kernel
theorem dX2_sentEnd_182 : decode cX2_sentEnd 182 = .ok (.aload_n 0, 1) := by decide +kernel
theorem dX2_sentEnd_183 : decode cX2_sentEnd 183 = .ok (.getfield 72, 3) := by decide +kernel
theorem dX2_sentEnd_186 : decode cX2_sentEnd 186 = .ok (.i2l, 1) := by decide +kernel
theorem dX2_sentEnd_187 : decode cX2_sentEnd 187 = .ok (.aload_n 0, 1) := by decide +kernel
theorem dX2_sentEnd_188 : decode cX2_sentEnd 188 = .ok (.getfield 37, 3) := by decide +kernel
theorem dX2_sentEnd_191 : decode cX2_sentEnd 191 = .ok (.iload_n 1, 1) := by decide +kernel
theorem dX2_sentEnd_192 : decode cX2_sentEnd 192 = .ok (.laload, 1) := by decide +kernel
theorem dX2_sentEnd_193 : decode cX2_sentEnd 193 = .ok (.lmul, 1) := by decide +kernel
theorem dX2_sentEnd_194 : decode cX2_sentEnd 194 = .ok (.ladd, 1) := by decide +kernel
theorem dX2_sentEnd_195 : decode cX2_sentEnd 195 = .ok (.lstore 4, 2) := by decide +kernel
theorem dX2_sentEnd_197 : decode cX2_sentEnd 197 = .ok (.goto 28, 3) := by decide +kernel
theorem dX2_sentEnd_200 : decode cX2_sentEnd 200 = .ok (.aload_n 0, 1) := by decide +kernel
theorem dX2_sentEnd_201 : decode cX2_sentEnd 201 = .ok (.getfield 23, 3) := by decide +kernel
theorem dX2_sentEnd_204 : decode cX2_sentEnd 204 = .ok (.iconst 0, 1) := by decide +kernel
theorem dX2_sentEnd_205 : decode cX2_sentEnd 205 = .ok (.aload_n 0, 1) := by decide +kernel
theorem dX2_sentEnd_206 : decode cX2_sentEnd 206 = .ok (.getfield 72, 3) := by decide +kernel
theorem dX2_sentEnd_209 : decode cX2_sentEnd 209 = .ok (.aload_n 0, 1) := by decide +kernel
theorem dX2_sentEnd_210 : decode cX2_sentEnd 210 = .ok (.iload_n 1, 1) := by decide +kernel
theorem dX2_sentEnd_211 : decode cX2_sentEnd 211 = .ok (.iload_n 2, 1) := by decide +kernel
theorem dX2_sentEnd_212 : decode cX2_sentEnd 212 = .ok (.invokevirtual 94, 3) := by decide +kernel
theorem dX2_sentEnd_215 : decode cX2_sentEnd 215 = .ok (.isub, 1) := by decide +kernel
theorem dX2_sentEnd_216 : decode cX2_sentEnd 216 = .ok (.invokestatic 220, 3) := by decide +kernel
theorem dX2_sentEnd_219 : decode cX2_sentEnd 219 = .ok (.iload_n 1, 1) := by decide +kernel
theorem dX2_sentEnd_220 : decode cX2_sentEnd 220 = .ok (.iload_n 3, 1) := by decide +kernel
theorem dX2_sentEnd_221 : decode cX2_sentEnd 221 = .ok (.invokevirtual 130, 3) := by decide +kernel
theorem dX2_sentEnd_224 : decode cX2_sentEnd 224 = .ok (.lreturn, 1) := by decide +kernel
theorem dX2_sentEnd_225 : decode cX2_sentEnd 225 = .ok (.ldc2_w 222, 3) := by decide +kernel
theorem dX2_sentEnd_228 : decode cX2_sentEnd 228 = .ok (.aload_n 0, 1) := by decide +kernel
theorem dX2_sentEnd_229 : decode cX2_sentEnd 229 = .ok (.getfield 83, 3) := by decide +kernel
theorem dX2_sentEnd_232 : decode cX2_sentEnd 232 = .ok (.i2l, 1) := by decide +kernel
theorem dX2_sentEnd_233 : decode cX2_sentEnd 233 = .ok (.lmul, 1) := by decide +kernel
theorem dX2_sentEnd_234 : decode cX2_sentEnd 234 = .ok (.lstore 6, 2) := by decide +kernel
theorem dX2_sentEnd_236 : decode cX2_sentEnd 236 = .ok (.lload 6, 2) := by decide +kernel
theorem dX2_sentEnd_238 : decode cX2_sentEnd 238 = .ok (.lneg, 1) := by decide +kernel
theorem dX2_sentEnd_239 : decode cX2_sentEnd 239 = .ok (.lload 6, 2) := by decide +kernel
theorem dX2_sentEnd_241 : decode cX2_sentEnd 241 = .ok (.lload 4, 2) := by decide +kernel
theorem dX2_sentEnd_243 : decode cX2_sentEnd 243 = .ok (.invokestatic 224, 3) := by decide +kernel
theorem dX2_sentEnd_246 : decode cX2_sentEnd 246 = .ok (.invokestatic 217, 3) := by decide +kernel
theorem dX2_sentEnd_249 : decode cX2_sentEnd 249 = .ok (.lreturn, 1) := by decide +kernel
theorem dX2_collectRest_0 : decode cX2_collectRest 0 = .ok (.iconst 0, 1) := by decide +kernel
theorem dX2_collectRest_1 : decode cX2_collectRest 1 = .ok (.istore_n 3, 1) := by decide +kernel
theorem dX2_collectRest_2 : decode cX2_collectRest 2 = .ok (.iconst 0, 1) := by decide +kernel
theorem dX2_collectRest_3 : decode cX2_collectRest 3 = .ok (.istore 4, 2) := by decide +kernel
theorem dX2_collectRest_5 : decode cX2_collectRest 5 = .ok (.iload 4, 2) := by decide +kernel
theorem dX2_collectRest_7 : decode cX2_collectRest 7 = .ok (.aload_n 0, 1) := by decide +kernel
theorem dX2_collectRest_8 : decode cX2_collectRest 8 = .ok (.getfield 53, 3) := by decide +kernel
theorem dX2_collectRest_11 : decode cX2_collectRest 11 = .ok (.if_icmp .ge 36, 3) := by decide +kernel
theorem dX2_collectRest_14 : decode cX2_collectRest 14 = .ok (.aload_n 0, 1) := by decide +kernel
theorem dX2_collectRest_15 : decode cX2_collectRest 15 = .ok (.iload 4, 2) := by decide +kernel
theorem dX2_collectRest_17 : decode cX2_collectRest 17 = .ok (.iload_n 1, 1) := by decide +kernel
theorem dX2_collectRest_18 : decode cX2_collectRest 18 = .ok (.invokevirtual 94, 3) := by decide +kernel
theorem dX2_collectRest_21 : decode cX2_collectRest 21 = .ok (.iconst (-1), 1) := by decide +kernel
theorem dX2_collectRest_22 : decode cX2_collectRest 22 = .ok (.if_icmp .eq 19, 3) := by decide +kernel
theorem dX2_collectRest_25 : decode cX2_collectRest 25 = .ok (.aload_n 0, 1) := by decide +kernel
theorem dX2_collectRest_26 : decode cX2_collectRest 26 = .ok (.aload_n 0, 1) := by decide +kernel
theorem dX2_collectRest_27 : decode cX2_collectRest 27 = .ok (.iload 4, 2) := by decide +kernel
theorem dX2_collectRest_29 : decode cX2_collectRest 29 = .ok (.iload_n 1, 1) := by decide +kernel
theorem dX2_collectRest_30 : decode cX2_collectRest 30 = .ok (.iload_n 2, 1) := by decide +kernel
theorem dX2_collectRest_31 : decode cX2_collectRest 31 = .ok (.invokevirtual 138, 3) := by decide +kernel
theorem dX2_collectRest_34 : decode cX2_collectRest 34 = .ok (.iload_n 3, 1) := by decide +kernel
theorem dX2_collectRest_35 : decode cX2_collectRest 35 = .ok (.invokevirtual 227, 3) := by decide +kernel
theorem dX2_collectRest_38 : decode cX2_collectRest 38 = .ok (.iinc 3 1, 3) := by decide +kernel
theorem dX2_collectRest_41 : decode cX2_collectRest 41 = .ok (.iinc 4 1, 3) := by decide +kernel
theorem dX2_collectRest_44 : decode cX2_collectRest 44 = .ok (.goto (-39), 3) := by decide +kernel
theorem dX2_collectRest_47 : decode cX2_collectRest 47 = .ok (.iconst 0, 1) := by decide +kernel
theorem dX2_collectRest_48 : decode cX2_collectRest 48 = .ok (.iload_n 3, 1) := by decide +kernel
theorem dX2_collectRest_49 : decode cX2_collectRest 49 = .ok (.iconst 2, 1) := by decide +kernel
theorem dX2_collectRest_50 : decode cX2_collectRest 50 = .ok (.aload_n 0, 1) := by decide +kernel
theorem dX2_collectRest_51 : decode cX2_collectRest 51 = .ok (.getfield 101, 3) := by decide +kernel
theorem dX2_collectRest_54 : decode cX2_collectRest 54 = .ok (.imul, 1) := by decide +kernel
theorem dX2_collectRest_55 : decode cX2_collectRest 55 = .ok (.isub, 1) := by decide +kernel
theorem dX2_collectRest_56 : decode cX2_collectRest 56 = .ok (.invokestatic 220, 3) := by decide +kernel
theorem dX2_collectRest_59 : decode cX2_collectRest 59 = .ok (.ireturn, 1) := by decide +kernel
theorem dX2_insertAscending_0 : decode cX2_insertAscending 0 = .ok (.iload_n 3, 1) := by decide +kernel
theorem dX2_insertAscending_1 : decode cX2_insertAscending 1 = .ok (.istore 4, 2) := by decide +kernel
theorem dX2_insertAscending_3 : decode cX2_insertAscending 3 = .ok (.iload 4, 2) := by decide +kernel
theorem dX2_insertAscending_5 : decode cX2_insertAscending 5 = .ok (.ifCond .lt 13, 3) := by decide +kernel
theorem dX2_insertAscending_8 : decode cX2_insertAscending 8 = .ok (.iload 4, 2) := by decide +kernel
theorem dX2_insertAscending_10 : decode cX2_insertAscending 10 = .ok (.aload_n 0, 1) := by decide +kernel
theorem dX2_insertAscending_11 : decode cX2_insertAscending 11 = .ok (.getfield 41, 3) := by decide +kernel
theorem dX2_insertAscending_14 : decode cX2_insertAscending 14 = .ok (.arraylength, 1) := by decide +kernel
theorem dX2_insertAscending_15 : decode cX2_insertAscending 15 = .ok (.if_icmp .lt 4, 3) := by decide +kernel
theorem dX2_insertAscending_18 : decode cX2_insertAscending 18 = .ok (.return_, 1) := by decide +kernel
theorem dX2_insertAscending_19 : decode cX2_insertAscending 19 = .ok (.iload 4, 2) := by decide +kernel
theorem dX2_insertAscending_21 : decode cX2_insertAscending 21 = .ok (.ifCond .le 39, 3) := by decide +kernel
theorem dX2_insertAscending_24 : decode cX2_insertAscending 24 = .ok (.aload_n 0, 1) := by decide +kernel
theorem dX2_insertAscending_25 : decode cX2_insertAscending 25 = .ok (.getfield 41, 3) := by decide +kernel
theorem dX2_insertAscending_28 : decode cX2_insertAscending 28 = .ok (.iload 4, 2) := by decide +kernel
theorem dX2_insertAscending_30 : decode cX2_insertAscending 30 = .ok (.iconst 1, 1) := by decide +kernel
theorem dX2_insertAscending_31 : decode cX2_insertAscending 31 = .ok (.isub, 1) := by decide +kernel
theorem dX2_insertAscending_32 : decode cX2_insertAscending 32 = .ok (.laload, 1) := by decide +kernel
theorem dX2_insertAscending_33 : decode cX2_insertAscending 33 = .ok (.lload_n 1, 1) := by decide +kernel
theorem dX2_insertAscending_34 : decode cX2_insertAscending 34 = .ok (.lcmp, 1) := by decide +kernel
theorem dX2_insertAscending_35 : decode cX2_insertAscending 35 = .ok (.ifCond .le 25, 3) := by decide +kernel
theorem dX2_insertAscending_38 : decode cX2_insertAscending 38 = .ok (.aload_n 0, 1) := by decide +kernel
theorem dX2_insertAscending_39 : decode cX2_insertAscending 39 = .ok (.getfield 41, 3) := by decide +kernel
theorem dX2_insertAscending_42 : decode cX2_insertAscending 42 = .ok (.iload 4, 2) := by decide +kernel
theorem dX2_insertAscending_44 : decode cX2_insertAscending 44 = .ok (.aload_n 0, 1) := by decide +kernel
theorem dX2_insertAscending_45 : decode cX2_insertAscending 45 = .ok (.getfield 41, 3) := by decide +kernel
theorem dX2_insertAscending_48 : decode cX2_insertAscending 48 = .ok (.iload 4, 2) := by decide +kernel
theorem dX2_insertAscending_50 : decode cX2_insertAscending 50 = .ok (.iconst 1, 1) := by decide +kernel
theorem dX2_insertAscending_51 : decode cX2_insertAscending 51 = .ok (.isub, 1) := by decide +kernel
theorem dX2_insertAscending_52 : decode cX2_insertAscending 52 = .ok (.laload, 1) := by decide +kernel
theorem dX2_insertAscending_53 : decode cX2_insertAscending 53 = .ok (.lastore, 1) := by decide +kernel
theorem dX2_insertAscending_54 : decode cX2_insertAscending 54 = .ok (.iinc 4 (-1), 3) := by decide +kernel
theorem dX2_insertAscending_57 : decode cX2_insertAscending 57 = .ok (.goto (-38), 3) := by decide +kernel
theorem dX2_insertAscending_60 : decode cX2_insertAscending 60 = .ok (.aload_n 0, 1) := by decide +kernel
theorem dX2_insertAscending_61 : decode cX2_insertAscending 61 = .ok (.getfield 41, 3) := by decide +kernel
theorem dX2_insertAscending_64 : decode cX2_insertAscending 64 = .ok (.iload 4, 2) := by decide +kernel
theorem dX2_insertAscending_66 : decode cX2_insertAscending 66 = .ok (.lload_n 1, 1) := by decide +kernel
theorem dX2_insertAscending_67 : decode cX2_insertAscending 67 = .ok (.lastore, 1) := by decide +kernel
theorem dX2_insertAscending_68 : decode cX2_insertAscending 68 = .ok (.return_, 1) := by decide +kernel
theorem dX2_restAt_0 : decode cX2_restAt 0 = .ok (.aload_n 0, 1) := by decide +kernel
theorem dX2_restAt_1 : decode cX2_restAt 1 = .ok (.getfield 101, 3) := by decide +kernel
theorem dX2_restAt_4 : decode cX2_restAt 4 = .ok (.iload_n 1, 1) := by decide +kernel
theorem dX2_restAt_5 : decode cX2_restAt 5 = .ok (.iadd, 1) := by decide +kernel
theorem dX2_restAt_6 : decode cX2_restAt 6 = .ok (.istore_n 2, 1) := by decide +kernel
theorem dX2_restAt_7 : decode cX2_restAt 7 = .ok (.iload_n 2, 1) := by decide +kernel
theorem dX2_restAt_8 : decode cX2_restAt 8 = .ok (.ifCond .lt 21, 3) := by decide +kernel
theorem dX2_restAt_11 : decode cX2_restAt 11 = .ok (.iload_n 2, 1) := by decide +kernel
theorem dX2_restAt_12 : decode cX2_restAt 12 = .ok (.aload_n 0, 1) := by decide +kernel
theorem dX2_restAt_13 : decode cX2_restAt 13 = .ok (.getfield 41, 3) := by decide +kernel
theorem dX2_restAt_16 : decode cX2_restAt 16 = .ok (.arraylength, 1) := by decide +kernel
theorem dX2_restAt_17 : decode cX2_restAt 17 = .ok (.if_icmp .ge 12, 3) := by decide +kernel
theorem dX2_restAt_20 : decode cX2_restAt 20 = .ok (.aload_n 0, 1) := by decide +kernel
theorem dX2_restAt_21 : decode cX2_restAt 21 = .ok (.getfield 41, 3) := by decide +kernel
theorem dX2_restAt_24 : decode cX2_restAt 24 = .ok (.iload_n 2, 1) := by decide +kernel
theorem dX2_restAt_25 : decode cX2_restAt 25 = .ok (.laload, 1) := by decide +kernel
theorem dX2_restAt_26 : decode cX2_restAt 26 = .ok (.goto 4, 3) := by decide +kernel
theorem dX2_restAt_29 : decode cX2_restAt 29 = .ok (.lconst 0, 1) := by decide +kernel
theorem dX2_restAt_30 : decode cX2_restAt 30 = .ok (.lreturn, 1) := by decide +kernel
theorem dX2_combined_0 : decode cX2_combined 0 = .ok (.aload_n 0, 1) := by decide +kernel
theorem dX2_combined_1 : decode cX2_combined 1 = .ok (.getfield 98, 3) := by decide +kernel
theorem dX2_combined_4 : decode cX2_combined 4 = .ok (.tableswitch 86 1 3 #[28, 48, 72], 28) := by decide +kernel
theorem dX2_combined_32 : decode cX2_combined 32 = .ok (.aload_n 0, 1) := by decide +kernel
theorem dX2_combined_33 : decode cX2_combined 33 = .ok (.iconst 0, 1) := by decide +kernel
theorem dX2_combined_34 : decode cX2_combined 34 = .ok (.invokevirtual 145, 3) := by decide +kernel
theorem dX2_combined_37 : decode cX2_combined 37 = .ok (.aload_n 0, 1) := by decide +kernel
theorem dX2_combined_38 : decode cX2_combined 38 = .ok (.iload_n 1, 1) := by decide +kernel
theorem dX2_combined_39 : decode cX2_combined 39 = .ok (.iconst 1, 1) := by decide +kernel
theorem dX2_combined_40 : decode cX2_combined 40 = .ok (.isub, 1) := by decide +kernel
theorem dX2_combined_41 : decode cX2_combined 41 = .ok (.invokevirtual 145, 3) := by decide +kernel
theorem dX2_combined_44 : decode cX2_combined 44 = .ok (.ladd, 1) := by decide +kernel
theorem dX2_combined_45 : decode cX2_combined 45 = .ok (.ldc2_w 166, 3) := by decide +kernel
theorem dX2_combined_48 : decode cX2_combined 48 = .ok (.invokestatic 231, 3) := by decide +kernel
theorem dX2_combined_51 : decode cX2_combined 51 = .ok (.lreturn, 1) := by decide +kernel
theorem dX2_combined_52 : decode cX2_combined 52 = .ok (.aload_n 0, 1) := by decide +kernel
theorem dX2_combined_53 : decode cX2_combined 53 = .ok (.iload_n 1, 1) := by decide +kernel
theorem dX2_combined_54 : decode cX2_combined 54 = .ok (.iconst 1, 1) := by decide +kernel
theorem dX2_combined_55 : decode cX2_combined 55 = .ok (.isub, 1) := by decide +kernel
theorem dX2_combined_56 : decode cX2_combined 56 = .ok (.iconst 2, 1) := by decide +kernel
theorem dX2_combined_57 : decode cX2_combined 57 = .ok (.idiv, 1) := by decide +kernel
theorem dX2_combined_58 : decode cX2_combined 58 = .ok (.invokevirtual 145, 3) := by decide +kernel
theorem dX2_combined_61 : decode cX2_combined 61 = .ok (.aload_n 0, 1) := by decide +kernel
theorem dX2_combined_62 : decode cX2_combined 62 = .ok (.iload_n 1, 1) := by decide +kernel
theorem dX2_combined_63 : decode cX2_combined 63 = .ok (.iconst 2, 1) := by decide +kernel
theorem dX2_combined_64 : decode cX2_combined 64 = .ok (.idiv, 1) := by decide +kernel
theorem dX2_combined_65 : decode cX2_combined 65 = .ok (.invokevirtual 145, 3) := by decide +kernel
theorem dX2_combined_68 : decode cX2_combined 68 = .ok (.ladd, 1) := by decide +kernel
theorem dX2_combined_69 : decode cX2_combined 69 = .ok (.ldc2_w 166, 3) := by decide +kernel
theorem dX2_combined_72 : decode cX2_combined 72 = .ok (.invokestatic 231, 3) := by decide +kernel
theorem dX2_combined_75 : decode cX2_combined 75 = .ok (.lreturn, 1) := by decide +kernel
theorem dX2_combined_76 : decode cX2_combined 76 = .ok (.aload_n 0, 1) := by decide +kernel
theorem dX2_combined_77 : decode cX2_combined 77 = .ok (.iconst 1, 1) := by decide +kernel
theorem dX2_combined_78 : decode cX2_combined 78 = .ok (.aload_n 0, 1) := by decide +kernel
theorem dX2_combined_79 : decode cX2_combined 79 = .ok (.getfield 101, 3) := by decide +kernel
theorem dX2_combined_82 : decode cX2_combined 82 = .ok (.invokestatic 220, 3) := by decide +kernel
theorem dX2_combined_85 : decode cX2_combined 85 = .ok (.iload_n 1, 1) := by decide +kernel
theorem dX2_combined_86 : decode cX2_combined 86 = .ok (.invokevirtual 234, 3) := by decide +kernel
theorem dX2_combined_89 : decode cX2_combined 89 = .ok (.lreturn, 1) := by decide +kernel
theorem dX2_combined_90 : decode cX2_combined 90 = .ok (.aload_n 0, 1) := by decide +kernel
theorem dX2_combined_91 : decode cX2_combined 91 = .ok (.iconst 1, 1) := by decide +kernel
theorem dX2_combined_92 : decode cX2_combined 92 = .ok (.iload_n 1, 1) := by decide +kernel
theorem dX2_combined_93 : decode cX2_combined 93 = .ok (.invokevirtual 234, 3) := by decide +kernel
theorem dX2_combined_96 : decode cX2_combined 96 = .ok (.lreturn, 1) := by decide +kernel
theorem dX2_meanOfEvery_0 : decode cX2_meanOfEvery 0 = .ok (.lconst 0, 1) := by decide +kernel
theorem dX2_meanOfEvery_1 : decode cX2_meanOfEvery 1 = .ok (.lstore_n 3, 1) := by decide +kernel
theorem dX2_meanOfEvery_2 : decode cX2_meanOfEvery 2 = .ok (.lconst 0, 1) := by decide +kernel
theorem dX2_meanOfEvery_3 : decode cX2_meanOfEvery 3 = .ok (.lstore 5, 2) := by decide +kernel
theorem dX2_meanOfEvery_5 : decode cX2_meanOfEvery 5 = .ok (.iconst 0, 1) := by decide +kernel
theorem dX2_meanOfEvery_6 : decode cX2_meanOfEvery 6 = .ok (.istore 7, 2) := by decide +kernel
theorem dX2_meanOfEvery_8 : decode cX2_meanOfEvery 8 = .ok (.iload 7, 2) := by decide +kernel
theorem dX2_meanOfEvery_10 : decode cX2_meanOfEvery 10 = .ok (.iload_n 2, 1) := by decide +kernel
theorem dX2_meanOfEvery_11 : decode cX2_meanOfEvery 11 = .ok (.if_icmp .ge 27, 3) := by decide +kernel
theorem dX2_meanOfEvery_14 : decode cX2_meanOfEvery 14 = .ok (.lload_n 3, 1) := by decide +kernel
theorem dX2_meanOfEvery_15 : decode cX2_meanOfEvery 15 = .ok (.aload_n 0, 1) := by decide +kernel
theorem dX2_meanOfEvery_16 : decode cX2_meanOfEvery 16 = .ok (.iload 7, 2) := by decide +kernel
theorem dX2_meanOfEvery_18 : decode cX2_meanOfEvery 18 = .ok (.invokevirtual 145, 3) := by decide +kernel
theorem dX2_meanOfEvery_21 : decode cX2_meanOfEvery 21 = .ok (.ladd, 1) := by decide +kernel
theorem dX2_meanOfEvery_22 : decode cX2_meanOfEvery 22 = .ok (.lstore_n 3, 1) := by decide +kernel
theorem dX2_meanOfEvery_23 : decode cX2_meanOfEvery 23 = .ok (.lload 5, 2) := by decide +kernel
theorem dX2_meanOfEvery_25 : decode cX2_meanOfEvery 25 = .ok (.lconst 1, 1) := by decide +kernel
theorem dX2_meanOfEvery_26 : decode cX2_meanOfEvery 26 = .ok (.ladd, 1) := by decide +kernel
theorem dX2_meanOfEvery_27 : decode cX2_meanOfEvery 27 = .ok (.lstore 5, 2) := by decide +kernel
theorem dX2_meanOfEvery_29 : decode cX2_meanOfEvery 29 = .ok (.iload 7, 2) := by decide +kernel
theorem dX2_meanOfEvery_31 : decode cX2_meanOfEvery 31 = .ok (.iload_n 1, 1) := by decide +kernel
theorem dX2_meanOfEvery_32 : decode cX2_meanOfEvery 32 = .ok (.iadd, 1) := by decide +kernel
theorem dX2_meanOfEvery_33 : decode cX2_meanOfEvery 33 = .ok (.istore 7, 2) := by decide +kernel
theorem dX2_meanOfEvery_35 : decode cX2_meanOfEvery 35 = .ok (.goto (-27), 3) := by decide +kernel
theorem dX2_meanOfEvery_38 : decode cX2_meanOfEvery 38 = .ok (.lload 5, 2) := by decide +kernel
theorem dX2_meanOfEvery_40 : decode cX2_meanOfEvery 40 = .ok (.lconst 0, 1) := by decide +kernel
theorem dX2_meanOfEvery_41 : decode cX2_meanOfEvery 41 = .ok (.lcmp, 1) := by decide +kernel
theorem dX2_meanOfEvery_42 : decode cX2_meanOfEvery 42 = .ok (.ifCond .le 12, 3) := by decide +kernel
theorem dX2_meanOfEvery_45 : decode cX2_meanOfEvery 45 = .ok (.lload_n 3, 1) := by decide +kernel
theorem dX2_meanOfEvery_46 : decode cX2_meanOfEvery 46 = .ok (.lload 5, 2) := by decide +kernel
theorem dX2_meanOfEvery_48 : decode cX2_meanOfEvery 48 = .ok (.invokestatic 231, 3) := by decide +kernel
theorem dX2_meanOfEvery_51 : decode cX2_meanOfEvery 51 = .ok (.goto 4, 3) := by decide +kernel
theorem dX2_meanOfEvery_54 : decode cX2_meanOfEvery 54 = .ok (.lconst 0, 1) := by decide +kernel
theorem dX2_meanOfEvery_55 : decode cX2_meanOfEvery 55 = .ok (.lreturn, 1) := by decide +kernel
theorem dX2_nextEnd_0 : decode cX2_nextEnd 0 = .ok (.aload_n 0, 1) := by decide +kernel
theorem dX2_nextEnd_1 : decode cX2_nextEnd 1 = .ok (.iload_n 1, 1) := by decide +kernel
theorem dX2_nextEnd_2 : decode cX2_nextEnd 2 = .ok (.iload_n 2, 1) := by decide +kernel
theorem dX2_nextEnd_3 : decode cX2_nextEnd 3 = .ok (.invokevirtual 141, 3) := by decide +kernel
theorem dX2_nextEnd_6 : decode cX2_nextEnd 6 = .ok (.istore_n 3, 1) := by decide +kernel
theorem dX2_nextEnd_7 : decode cX2_nextEnd 7 = .ok (.iload_n 3, 1) := by decide +kernel
theorem dX2_nextEnd_8 : decode cX2_nextEnd 8 = .ok (.ifCond .le 11, 3) := by decide +kernel
theorem dX2_nextEnd_11 : decode cX2_nextEnd 11 = .ok (.aload_n 0, 1) := by decide +kernel
theorem dX2_nextEnd_12 : decode cX2_nextEnd 12 = .ok (.iload_n 3, 1) := by decide +kernel
theorem dX2_nextEnd_13 : decode cX2_nextEnd 13 = .ok (.invokevirtual 238, 3) := by decide +kernel
theorem dX2_nextEnd_16 : decode cX2_nextEnd 16 = .ok (.goto 16, 3) := by decide +kernel
theorem dX2_nextEnd_19 : decode cX2_nextEnd 19 = .ok (.aload_n 0, 1) := by decide +kernel
theorem dX2_nextEnd_20 : decode cX2_nextEnd 20 = .ok (.getfield 23, 3) := by decide +kernel
theorem dX2_nextEnd_23 : decode cX2_nextEnd 23 = .ok (.aload_n 0, 1) := by decide +kernel
theorem dX2_nextEnd_24 : decode cX2_nextEnd 24 = .ok (.getfield 72, 3) := by decide +kernel
theorem dX2_nextEnd_27 : decode cX2_nextEnd 27 = .ok (.iload_n 1, 1) := by decide +kernel
theorem dX2_nextEnd_28 : decode cX2_nextEnd 28 = .ok (.iload_n 2, 1) := by decide +kernel
theorem dX2_nextEnd_29 : decode cX2_nextEnd 29 = .ok (.invokevirtual 130, 3) := by decide +kernel
theorem dX2_nextEnd_32 : decode cX2_nextEnd 32 = .ok (.lreturn, 1) := by decide +kernel
theorem dX2_carryOut_0 : decode cX2_carryOut 0 = .ok (.iconst 0, 1) := by decide +kernel
theorem dX2_carryOut_1 : decode cX2_carryOut 1 = .ok (.istore_n 2, 1) := by decide +kernel
theorem dX2_carryOut_2 : decode cX2_carryOut 2 = .ok (.iload_n 2, 1) := by decide +kernel
theorem dX2_carryOut_3 : decode cX2_carryOut 3 = .ok (.iload_n 1, 1) := by decide +kernel
theorem dX2_carryOut_4 : decode cX2_carryOut 4 = .ok (.if_icmp .ge 78, 3) := by decide +kernel
theorem dX2_carryOut_7 : decode cX2_carryOut 7 = .ok (.aload_n 0, 1) := by decide +kernel
theorem dX2_carryOut_8 : decode cX2_carryOut 8 = .ok (.getfield 72, 3) := by decide +kernel
theorem dX2_carryOut_11 : decode cX2_carryOut 11 = .ok (.bipush 60, 2) := by decide +kernel
theorem dX2_carryOut_13 : decode cX2_carryOut 13 = .ok (.if_icmp .ge 69, 3) := by decide +kernel
theorem dX2_carryOut_16 : decode cX2_carryOut 16 = .ok (.iconst 0, 1) := by decide +kernel
theorem dX2_carryOut_17 : decode cX2_carryOut 17 = .ok (.istore_n 3, 1) := by decide +kernel
theorem dX2_carryOut_18 : decode cX2_carryOut 18 = .ok (.iload_n 3, 1) := by decide +kernel
theorem dX2_carryOut_19 : decode cX2_carryOut 19 = .ok (.aload_n 0, 1) := by decide +kernel
theorem dX2_carryOut_20 : decode cX2_carryOut 20 = .ok (.getfield 53, 3) := by decide +kernel
theorem dX2_carryOut_23 : decode cX2_carryOut 23 = .ok (.if_icmp .ge 43, 3) := by decide +kernel
theorem dX2_carryOut_26 : decode cX2_carryOut 26 = .ok (.aload_n 0, 1) := by decide +kernel
theorem dX2_carryOut_27 : decode cX2_carryOut 27 = .ok (.iload_n 3, 1) := by decide +kernel
theorem dX2_carryOut_28 : decode cX2_carryOut 28 = .ok (.invokevirtual 125, 3) := by decide +kernel
theorem dX2_carryOut_31 : decode cX2_carryOut 31 = .ok (.ifCond .eq 29, 3) := by decide +kernel
theorem dX2_carryOut_34 : decode cX2_carryOut 34 = .ok (.aload_n 0, 1) := by decide +kernel
theorem dX2_carryOut_35 : decode cX2_carryOut 35 = .ok (.getfield 23, 3) := by decide +kernel
theorem dX2_carryOut_38 : decode cX2_carryOut 38 = .ok (.aload_n 0, 1) := by decide +kernel
theorem dX2_carryOut_39 : decode cX2_carryOut 39 = .ok (.getfield 72, 3) := by decide +kernel
theorem dX2_carryOut_42 : decode cX2_carryOut 42 = .ok (.iconst 1, 1) := by decide +kernel
theorem dX2_carryOut_43 : decode cX2_carryOut 43 = .ok (.iadd, 1) := by decide +kernel
theorem dX2_carryOut_44 : decode cX2_carryOut 44 = .ok (.iload_n 3, 1) := by decide +kernel
theorem dX2_carryOut_45 : decode cX2_carryOut 45 = .ok (.aload_n 0, 1) := by decide +kernel
theorem dX2_carryOut_46 : decode cX2_carryOut 46 = .ok (.iload_n 3, 1) := by decide +kernel
theorem dX2_carryOut_47 : decode cX2_carryOut 47 = .ok (.iconst 0, 1) := by decide +kernel
theorem dX2_carryOut_48 : decode cX2_carryOut 48 = .ok (.invokevirtual 241, 3) := by decide +kernel
theorem dX2_carryOut_51 : decode cX2_carryOut 51 = .ok (.aload_n 0, 1) := by decide +kernel
theorem dX2_carryOut_52 : decode cX2_carryOut 52 = .ok (.iload_n 3, 1) := by decide +kernel
theorem dX2_carryOut_53 : decode cX2_carryOut 53 = .ok (.iconst 1, 1) := by decide +kernel
theorem dX2_carryOut_54 : decode cX2_carryOut 54 = .ok (.invokevirtual 241, 3) := by decide +kernel
theorem dX2_carryOut_57 : decode cX2_carryOut 57 = .ok (.invokevirtual 192, 3) := by decide +kernel
theorem dX2_carryOut_60 : decode cX2_carryOut 60 = .ok (.iinc 3 1, 3) := by decide +kernel
theorem dX2_carryOut_63 : decode cX2_carryOut 63 = .ok (.goto (-45), 3) := by decide +kernel
theorem dX2_carryOut_66 : decode cX2_carryOut 66 = .ok (.aload_n 0, 1) := by decide +kernel
theorem dX2_carryOut_67 : decode cX2_carryOut 67 = .ok (.dup, 1) := by decide +kernel
theorem dX2_carryOut_68 : decode cX2_carryOut 68 = .ok (.getfield 72, 3) := by decide +kernel
theorem dX2_carryOut_71 : decode cX2_carryOut 71 = .ok (.iconst 1, 1) := by decide +kernel
theorem dX2_carryOut_72 : decode cX2_carryOut 72 = .ok (.iadd, 1) := by decide +kernel
theorem dX2_carryOut_73 : decode cX2_carryOut 73 = .ok (.putfield 72, 3) := by decide +kernel
theorem dX2_carryOut_76 : decode cX2_carryOut 76 = .ok (.iinc 2 1, 3) := by decide +kernel
theorem dX2_carryOut_79 : decode cX2_carryOut 79 = .ok (.goto (-77), 3) := by decide +kernel
theorem dX2_carryOut_82 : decode cX2_carryOut 82 = .ok (.return_, 1) := by decide +kernel
theorem dX2_carryOutUntil_0 : decode cX2_carryOutUntil 0 = .ok (.iconst 0, 1) := by decide +kernel
theorem dX2_carryOutUntil_1 : decode cX2_carryOutUntil 1 = .ok (.istore 4, 2) := by decide +kernel
theorem dX2_carryOutUntil_3 : decode cX2_carryOutUntil 3 = .ok (.iload 4, 2) := by decide +kernel
theorem dX2_carryOutUntil_5 : decode cX2_carryOutUntil 5 = .ok (.iload_n 3, 1) := by decide +kernel
theorem dX2_carryOutUntil_6 : decode cX2_carryOutUntil 6 = .ok (.if_icmp .ge 34, 3) := by decide +kernel
theorem dX2_carryOutUntil_9 : decode cX2_carryOutUntil 9 = .ok (.aload_n 0, 1) := by decide +kernel
theorem dX2_carryOutUntil_10 : decode cX2_carryOutUntil 10 = .ok (.getfield 72, 3) := by decide +kernel
theorem dX2_carryOutUntil_13 : decode cX2_carryOutUntil 13 = .ok (.bipush 60, 2) := by decide +kernel
theorem dX2_carryOutUntil_15 : decode cX2_carryOutUntil 15 = .ok (.if_icmp .ge 25, 3) := by decide +kernel
theorem dX2_carryOutUntil_18 : decode cX2_carryOutUntil 18 = .ok (.aload_n 0, 1) := by decide +kernel
theorem dX2_carryOutUntil_19 : decode cX2_carryOutUntil 19 = .ok (.iload_n 1, 1) := by decide +kernel
theorem dX2_carryOutUntil_20 : decode cX2_carryOutUntil 20 = .ok (.i2l, 1) := by decide +kernel
theorem dX2_carryOutUntil_21 : decode cX2_carryOutUntil 21 = .ok (.iload_n 2, 1) := by decide +kernel
theorem dX2_carryOutUntil_22 : decode cX2_carryOutUntil 22 = .ok (.i2l, 1) := by decide +kernel
theorem dX2_carryOutUntil_23 : decode cX2_carryOutUntil 23 = .ok (.invokevirtual 245, 3) := by decide +kernel
theorem dX2_carryOutUntil_26 : decode cX2_carryOutUntil 26 = .ok (.ifCond .ne 14, 3) := by decide +kernel
theorem dX2_carryOutUntil_29 : decode cX2_carryOutUntil 29 = .ok (.aload_n 0, 1) := by decide +kernel
theorem dX2_carryOutUntil_30 : decode cX2_carryOutUntil 30 = .ok (.iconst 1, 1) := by decide +kernel
theorem dX2_carryOutUntil_31 : decode cX2_carryOutUntil 31 = .ok (.invokevirtual 114, 3) := by decide +kernel
theorem dX2_carryOutUntil_34 : decode cX2_carryOutUntil 34 = .ok (.iinc 4 1, 3) := by decide +kernel
theorem dX2_carryOutUntil_37 : decode cX2_carryOutUntil 37 = .ok (.goto (-34), 3) := by decide +kernel
theorem dX2_carryOutUntil_40 : decode cX2_carryOutUntil 40 = .ok (.aload_n 0, 1) := by decide +kernel
theorem dX2_carryOutUntil_41 : decode cX2_carryOutUntil 41 = .ok (.iload_n 1, 1) := by decide +kernel
theorem dX2_carryOutUntil_42 : decode cX2_carryOutUntil 42 = .ok (.i2l, 1) := by decide +kernel
theorem dX2_carryOutUntil_43 : decode cX2_carryOutUntil 43 = .ok (.iload_n 2, 1) := by decide +kernel
theorem dX2_carryOutUntil_44 : decode cX2_carryOutUntil 44 = .ok (.i2l, 1) := by decide +kernel
theorem dX2_carryOutUntil_45 : decode cX2_carryOutUntil 45 = .ok (.invokevirtual 245, 3) := by decide +kernel
theorem dX2_carryOutUntil_48 : decode cX2_carryOutUntil 48 = .ok (.ifCond .eq 8, 3) := by decide +kernel
theorem dX2_carryOutUntil_51 : decode cX2_carryOutUntil 51 = .ok (.iload 4, 2) := by decide +kernel
theorem dX2_carryOutUntil_53 : decode cX2_carryOutUntil 53 = .ok (.goto 6, 3) := by decide +kernel
theorem dX2_carryOutUntil_56 : decode cX2_carryOutUntil 56 = .ok (.sipush (-1005), 3) := by decide +kernel
theorem dX2_carryOutUntil_59 : decode cX2_carryOutUntil 59 = .ok (.ireturn, 1) := by decide +kernel
theorem dX2_isWidthAtMost_0 : decode cX2_isWidthAtMost 0 = .ok (.aload_n 0, 1) := by decide +kernel
theorem dX2_isWidthAtMost_1 : decode cX2_isWidthAtMost 1 = .ok (.aload_n 0, 1) := by decide +kernel
theorem dX2_isWidthAtMost_2 : decode cX2_isWidthAtMost 2 = .ok (.getfield 72, 3) := by decide +kernel
theorem dX2_isWidthAtMost_5 : decode cX2_isWidthAtMost 5 = .ok (.invokevirtual 155, 3) := by decide +kernel
theorem dX2_isWidthAtMost_8 : decode cX2_isWidthAtMost 8 = .ok (.lload_n 3, 1) := by decide +kernel
theorem dX2_isWidthAtMost_9 : decode cX2_isWidthAtMost 9 = .ok (.lmul, 1) := by decide +kernel
theorem dX2_isWidthAtMost_10 : decode cX2_isWidthAtMost 10 = .ok (.lload_n 1, 1) := by decide +kernel
theorem dX2_isWidthAtMost_11 : decode cX2_isWidthAtMost 11 = .ok (.aload_n 0, 1) := by decide +kernel
theorem dX2_isWidthAtMost_12 : decode cX2_isWidthAtMost 12 = .ok (.getfield 83, 3) := by decide +kernel
theorem dX2_isWidthAtMost_15 : decode cX2_isWidthAtMost 15 = .ok (.i2l, 1) := by decide +kernel
theorem dX2_isWidthAtMost_16 : decode cX2_isWidthAtMost 16 = .ok (.lmul, 1) := by decide +kernel
theorem dX2_isWidthAtMost_17 : decode cX2_isWidthAtMost 17 = .ok (.lcmp, 1) := by decide +kernel
theorem dX2_isWidthAtMost_18 : decode cX2_isWidthAtMost 18 = .ok (.ifCond .gt 7, 3) := by decide +kernel
theorem dX2_isWidthAtMost_21 : decode cX2_isWidthAtMost 21 = .ok (.iconst 1, 1) := by decide +kernel
theorem dX2_isWidthAtMost_22 : decode cX2_isWidthAtMost 22 = .ok (.goto 4, 3) := by decide +kernel
theorem dX2_isWidthAtMost_25 : decode cX2_isWidthAtMost 25 = .ok (.iconst 0, 1) := by decide +kernel
theorem dX2_isWidthAtMost_26 : decode cX2_isWidthAtMost 26 = .ok (.ireturn, 1) := by decide +kernel
theorem dX2_widthInFuture_0 : decode cX2_widthInFuture 0 = .ok (.aload_n 0, 1) := by decide +kernel
theorem dX2_widthInFuture_1 : decode cX2_widthInFuture 1 = .ok (.getfield 72, 3) := by decide +kernel
theorem dX2_widthInFuture_4 : decode cX2_widthInFuture 4 = .ok (.istore_n 2, 1) := by decide +kernel
theorem dX2_widthInFuture_5 : decode cX2_widthInFuture 5 = .ok (.aload_n 0, 1) := by decide +kernel
theorem dX2_widthInFuture_6 : decode cX2_widthInFuture 6 = .ok (.iload_n 1, 1) := by decide +kernel
theorem dX2_widthInFuture_7 : decode cX2_widthInFuture 7 = .ok (.invokevirtual 114, 3) := by decide +kernel
theorem dX2_widthInFuture_10 : decode cX2_widthInFuture 10 = .ok (.aload_n 0, 1) := by decide +kernel
theorem dX2_widthInFuture_11 : decode cX2_widthInFuture 11 = .ok (.aload_n 0, 1) := by decide +kernel
theorem dX2_widthInFuture_12 : decode cX2_widthInFuture 12 = .ok (.getfield 72, 3) := by decide +kernel
theorem dX2_widthInFuture_15 : decode cX2_widthInFuture 15 = .ok (.invokevirtual 155, 3) := by decide +kernel
theorem dX2_widthInFuture_18 : decode cX2_widthInFuture 18 = .ok (.lstore_n 3, 1) := by decide +kernel
theorem dX2_widthInFuture_19 : decode cX2_widthInFuture 19 = .ok (.aload_n 0, 1) := by decide +kernel
theorem dX2_widthInFuture_20 : decode cX2_widthInFuture 20 = .ok (.iload_n 2, 1) := by decide +kernel
theorem dX2_widthInFuture_21 : decode cX2_widthInFuture 21 = .ok (.putfield 72, 3) := by decide +kernel
theorem dX2_widthInFuture_24 : decode cX2_widthInFuture 24 = .ok (.lload_n 3, 1) := by decide +kernel
theorem dX2_widthInFuture_25 : decode cX2_widthInFuture 25 = .ok (.lreturn, 1) := by decide +kernel
theorem dX3_init_0 : decode cX3_init 0 = .ok (.aload_n 0, 1) := by decide +kernel
theorem dX3_init_1 : decode cX3_init 1 = .ok (.invokespecial 1, 3) := by decide +kernel
theorem dX3_init_4 : decode cX3_init 4 = .ok (.aload_n 0, 1) := by decide +kernel
theorem dX3_init_5 : decode cX3_init 5 = .ok (.bipush 20, 2) := by decide +kernel
theorem dX3_init_7 : decode cX3_init 7 = .ok (.newarray .long, 2) := by decide +kernel
theorem dX3_init_9 : decode cX3_init 9 = .ok (.putfield 7, 3) := by decide +kernel
theorem dX3_init_12 : decode cX3_init 12 = .ok (.aload_n 0, 1) := by decide +kernel
theorem dX3_init_13 : decode cX3_init 13 = .ok (.bipush 10, 2) := by decide +kernel
theorem dX3_init_15 : decode cX3_init 15 = .ok (.newarray .int, 2) := by decide +kernel
theorem dX3_init_17 : decode cX3_init 17 = .ok (.putfield 13, 3) := by decide +kernel
theorem dX3_init_20 : decode cX3_init 20 = .ok (.aload_n 0, 1) := by decide +kernel
theorem dX3_init_21 : decode cX3_init 21 = .ok (.bipush 10, 2) := by decide +kernel
theorem dX3_init_23 : decode cX3_init 23 = .ok (.newarray .long, 2) := by decide +kernel
theorem dX3_init_25 : decode cX3_init 25 = .ok (.putfield 17, 3) := by decide +kernel
theorem dX3_init_28 : decode cX3_init 28 = .ok (.aload_n 0, 1) := by decide +kernel
theorem dX3_init_29 : decode cX3_init 29 = .ok (.bipush 100, 2) := by decide +kernel
theorem dX3_init_31 : decode cX3_init 31 = .ok (.newarray .long, 2) := by decide +kernel
theorem dX3_init_33 : decode cX3_init 33 = .ok (.putfield 20, 3) := by decide +kernel
theorem dX3_init_36 : decode cX3_init 36 = .ok (.aload_n 0, 1) := by decide +kernel
theorem dX3_init_37 : decode cX3_init 37 = .ok (.bipush 100, 2) := by decide +kernel
theorem dX3_init_39 : decode cX3_init 39 = .ok (.newarray .long, 2) := by decide +kernel
theorem dX3_init_41 : decode cX3_init 41 = .ok (.putfield 23, 3) := by decide +kernel
theorem dX3_init_44 : decode cX3_init 44 = .ok (.aload_n 0, 1) := by decide +kernel
theorem dX3_init_45 : decode cX3_init 45 = .ok (.bipush 100, 2) := by decide +kernel
theorem dX3_init_47 : decode cX3_init 47 = .ok (.newarray .int, 2) := by decide +kernel
theorem dX3_init_49 : decode cX3_init 49 = .ok (.putfield 26, 3) := by decide +kernel
theorem dX3_init_52 : decode cX3_init 52 = .ok (.aload_n 0, 1) := by decide +kernel
theorem dX3_init_53 : decode cX3_init 53 = .ok (.sipush 1220, 3) := by decide +kernel
theorem dX3_init_56 : decode cX3_init 56 = .ok (.newarray .long, 2) := by decide +kernel
theorem dX3_init_58 : decode cX3_init 58 = .ok (.putfield 29, 3) := by decide +kernel
theorem dX3_init_61 : decode cX3_init 61 = .ok (.aload_n 0, 1) := by decide +kernel
theorem dX3_init_62 : decode cX3_init 62 = .ok (.bipush 40, 2) := by decide +kernel
theorem dX3_init_64 : decode cX3_init 64 = .ok (.newarray .char, 2) := by decide +kernel
theorem dX3_init_66 : decode cX3_init 66 = .ok (.putfield 32, 3) := by decide +kernel
theorem dX3_init_69 : decode cX3_init 69 = .ok (.aload_n 0, 1) := by decide +kernel
theorem dX3_init_70 : decode cX3_init 70 = .ok (.bipush 10, 2) := by decide +kernel
theorem dX3_init_72 : decode cX3_init 72 = .ok (.newarray .long, 2) := by decide +kernel
theorem dX3_init_74 : decode cX3_init 74 = .ok (.putfield 36, 3) := by decide +kernel
theorem dX3_init_77 : decode cX3_init 77 = .ok (.aload_n 0, 1) := by decide +kernel
theorem dX3_init_78 : decode cX3_init 78 = .ok (.iconst 4, 1) := by decide +kernel
theorem dX3_init_79 : decode cX3_init 79 = .ok (.iconst 1, 1) := by decide +kernel
theorem dX3_init_80 : decode cX3_init 80 = .ok (.ldc 39, 2) := by decide +kernel
theorem dX3_init_82 : decode cX3_init 82 = .ok (.invokevirtual 40, 3) := by decide +kernel
theorem dX3_init_85 : decode cX3_init 85 = .ok (.return_, 1) := by decide +kernel
theorem dX3_within_0 : decode cX3_within 0 = .ok (.lload_n 0, 1) := by decide +kernel
theorem dX3_within_1 : decode cX3_within 1 = .ok (.lload_n 2, 1) := by decide +kernel
theorem dX3_within_2 : decode cX3_within 2 = .ok (.lcmp, 1) := by decide +kernel
theorem dX3_within_3 : decode cX3_within 3 = .ok (.ifCond .lt 14, 3) := by decide +kernel
theorem dX3_within_6 : decode cX3_within 6 = .ok (.lload_n 0, 1) := by decide +kernel
theorem dX3_within_7 : decode cX3_within 7 = .ok (.lload 4, 2) := by decide +kernel
theorem dX3_within_9 : decode cX3_within 9 = .ok (.lcmp, 1) := by decide +kernel
theorem dX3_within_10 : decode cX3_within 10 = .ok (.ifCond .gt 7, 3) := by decide +kernel
theorem dX3_within_13 : decode cX3_within 13 = .ok (.iconst 1, 1) := by decide +kernel
theorem dX3_within_14 : decode cX3_within 14 = .ok (.goto 4, 3) := by decide +kernel
theorem dX3_within_17 : decode cX3_within 17 = .ok (.iconst 0, 1) := by decide +kernel
theorem dX3_within_18 : decode cX3_within 18 = .ok (.ireturn, 1) := by decide +kernel
theorem dX3_lost_0 : decode cX3_lost 0 = .ok (.ldc2_w 44, 3) := by decide +kernel
theorem dX3_lost_3 : decode cX3_lost 3 = .ok (.lreturn, 1) := by decide +kernel
theorem dX3_common_0 : decode cX3_common 0 = .ok (.lload_n 0, 1) := by decide +kernel
theorem dX3_common_1 : decode cX3_common 1 = .ok (.lconst 0, 1) := by decide +kernel
theorem dX3_common_2 : decode cX3_common 2 = .ok (.lcmp, 1) := by decide +kernel
theorem dX3_common_3 : decode cX3_common 3 = .ok (.ifCond .ge 8, 3) := by decide +kernel
theorem dX3_common_6 : decode cX3_common 6 = .ok (.lload_n 0, 1) := by decide +kernel
theorem dX3_common_7 : decode cX3_common 7 = .ok (.lneg, 1) := by decide +kernel
theorem dX3_common_8 : decode cX3_common 8 = .ok (.goto 4, 3) := by decide +kernel
theorem dX3_common_11 : decode cX3_common 11 = .ok (.lload_n 0, 1) := by decide +kernel
theorem dX3_common_12 : decode cX3_common 12 = .ok (.lstore 4, 2) := by decide +kernel
theorem dX3_common_14 : decode cX3_common 14 = .ok (.lload_n 2, 1) := by decide +kernel
theorem dX3_common_15 : decode cX3_common 15 = .ok (.lstore 6, 2) := by decide +kernel
theorem dX3_common_17 : decode cX3_common 17 = .ok (.lload 6, 2) := by decide +kernel
theorem dX3_common_19 : decode cX3_common 19 = .ok (.lconst 0, 1) := by decide +kernel
theorem dX3_common_20 : decode cX3_common 20 = .ok (.lcmp, 1) := by decide +kernel
theorem dX3_common_21 : decode cX3_common 21 = .ok (.ifCond .eq 21, 3) := by decide +kernel
theorem dX3_common_24 : decode cX3_common 24 = .ok (.lload 4, 2) := by decide +kernel
theorem dX3_common_26 : decode cX3_common 26 = .ok (.lload 6, 2) := by decide +kernel
theorem dX3_common_28 : decode cX3_common 28 = .ok (.lrem, 1) := by decide +kernel
theorem dX3_common_29 : decode cX3_common 29 = .ok (.lstore 8, 2) := by decide +kernel
theorem dX3_common_31 : decode cX3_common 31 = .ok (.lload 6, 2) := by decide +kernel
theorem dX3_common_33 : decode cX3_common 33 = .ok (.lstore 4, 2) := by decide +kernel
theorem dX3_common_35 : decode cX3_common 35 = .ok (.lload 8, 2) := by decide +kernel
theorem dX3_common_37 : decode cX3_common 37 = .ok (.lstore 6, 2) := by decide +kernel
theorem dX3_common_39 : decode cX3_common 39 = .ok (.goto (-22), 3) := by decide +kernel
theorem dX3_common_42 : decode cX3_common 42 = .ok (.lload 4, 2) := by decide +kernel
theorem dX3_common_44 : decode cX3_common 44 = .ok (.lreturn, 1) := by decide +kernel
theorem dX3_part_0 : decode cX3_part 0 = .ok (.lload_n 0, 1) := by decide +kernel
theorem dX3_part_1 : decode cX3_part 1 = .ok (.lload_n 2, 1) := by decide +kernel
theorem dX3_part_2 : decode cX3_part 2 = .ok (.invokestatic 46, 3) := by decide +kernel
theorem dX3_part_5 : decode cX3_part 5 = .ok (.lstore 5, 2) := by decide +kernel
theorem dX3_part_7 : decode cX3_part 7 = .ok (.iload 4, 2) := by decide +kernel
theorem dX3_part_9 : decode cX3_part 9 = .ok (.ifCond .eq 10, 3) := by decide +kernel
theorem dX3_part_12 : decode cX3_part 12 = .ok (.lload_n 2, 1) := by decide +kernel
theorem dX3_part_13 : decode cX3_part 13 = .ok (.lload 5, 2) := by decide +kernel
theorem dX3_part_15 : decode cX3_part 15 = .ok (.ldiv, 1) := by decide +kernel
theorem dX3_part_16 : decode cX3_part 16 = .ok (.goto 7, 3) := by decide +kernel
theorem dX3_part_19 : decode cX3_part 19 = .ok (.lload_n 0, 1) := by decide +kernel
theorem dX3_part_20 : decode cX3_part 20 = .ok (.lload 5, 2) := by decide +kernel
theorem dX3_part_22 : decode cX3_part 22 = .ok (.ldiv, 1) := by decide +kernel
theorem dX3_part_23 : decode cX3_part 23 = .ok (.lreturn, 1) := by decide +kernel
theorem dX3_down_0 : decode cX3_down 0 = .ok (.lload_n 0, 1) := by decide +kernel
theorem dX3_down_1 : decode cX3_down 1 = .ok (.lload_n 2, 1) := by decide +kernel
theorem dX3_down_2 : decode cX3_down 2 = .ok (.ldiv, 1) := by decide +kernel
theorem dX3_down_3 : decode cX3_down 3 = .ok (.lstore 4, 2) := by decide +kernel
theorem dX3_down_5 : decode cX3_down 5 = .ok (.lload 4, 2) := by decide +kernel
theorem dX3_down_7 : decode cX3_down 7 = .ok (.lload_n 2, 1) := by decide +kernel
theorem dX3_down_8 : decode cX3_down 8 = .ok (.lmul, 1) := by decide +kernel
theorem dX3_down_9 : decode cX3_down 9 = .ok (.lload_n 0, 1) := by decide +kernel
theorem dX3_down_10 : decode cX3_down 10 = .ok (.lcmp, 1) := by decide +kernel
theorem dX3_down_11 : decode cX3_down 11 = .ok (.ifCond .le 10, 3) := by decide +kernel
theorem dX3_down_14 : decode cX3_down 14 = .ok (.lload 4, 2) := by decide +kernel
theorem dX3_down_16 : decode cX3_down 16 = .ok (.lconst 1, 1) := by decide +kernel
theorem dX3_down_17 : decode cX3_down 17 = .ok (.lsub, 1) := by decide +kernel
theorem dX3_down_18 : decode cX3_down 18 = .ok (.goto 5, 3) := by decide +kernel
theorem dX3_down_21 : decode cX3_down 21 = .ok (.lload 4, 2) := by decide +kernel
theorem dX3_down_23 : decode cX3_down 23 = .ok (.lreturn, 1) := by decide +kernel
theorem dX3_begin_0 : decode cX3_begin 0 = .ok (.aload_n 0, 1) := by decide +kernel
theorem dX3_begin_1 : decode cX3_begin 1 = .ok (.iload_n 1, 1) := by decide +kernel
theorem dX3_begin_2 : decode cX3_begin 2 = .ok (.putfield 50, 3) := by decide +kernel
theorem dX3_begin_5 : decode cX3_begin 5 = .ok (.aload_n 0, 1) := by decide +kernel
theorem dX3_begin_6 : decode cX3_begin 6 = .ok (.iload_n 2, 1) := by decide +kernel
theorem dX3_begin_7 : decode cX3_begin 7 = .ok (.putfield 54, 3) := by decide +kernel
theorem dX3_begin_10 : decode cX3_begin 10 = .ok (.aload_n 0, 1) := by decide +kernel
theorem dX3_begin_11 : decode cX3_begin 11 = .ok (.iload_n 3, 1) := by decide +kernel
theorem dX3_begin_12 : decode cX3_begin 12 = .ok (.i2l, 1) := by decide +kernel
theorem dX3_begin_13 : decode cX3_begin 13 = .ok (.putfield 57, 3) := by decide +kernel
theorem dX3_begin_16 : decode cX3_begin 16 = .ok (.aload_n 0, 1) := by decide +kernel
theorem dX3_begin_17 : decode cX3_begin 17 = .ok (.iconst 0, 1) := by decide +kernel
theorem dX3_begin_18 : decode cX3_begin 18 = .ok (.putfield 61, 3) := by decide +kernel
theorem dX3_begin_21 : decode cX3_begin 21 = .ok (.aload_n 0, 1) := by decide +kernel
theorem dX3_begin_22 : decode cX3_begin 22 = .ok (.iconst 0, 1) := by decide +kernel
theorem dX3_begin_23 : decode cX3_begin 23 = .ok (.putfield 64, 3) := by decide +kernel
theorem dX3_begin_26 : decode cX3_begin 26 = .ok (.iconst 0, 1) := by decide +kernel
theorem dX3_begin_27 : decode cX3_begin 27 = .ok (.istore 4, 2) := by decide +kernel
theorem dX3_begin_29 : decode cX3_begin 29 = .ok (.iload 4, 2) := by decide +kernel
theorem dX3_begin_31 : decode cX3_begin 31 = .ok (.bipush 20, 2) := by decide +kernel
theorem dX3_begin_33 : decode cX3_begin 33 = .ok (.if_icmp .ge 25, 3) := by decide +kernel
theorem dX3_begin_36 : decode cX3_begin 36 = .ok (.aload_n 0, 1) := by decide +kernel
theorem dX3_begin_37 : decode cX3_begin 37 = .ok (.getfield 7, 3) := by decide +kernel
theorem dX3_begin_40 : decode cX3_begin 40 = .ok (.iload 4, 2) := by decide +kernel
theorem dX3_begin_42 : decode cX3_begin 42 = .ok (.lconst 0, 1) := by decide +kernel
theorem dX3_begin_43 : decode cX3_begin 43 = .ok (.lastore, 1) := by decide +kernel
theorem dX3_begin_44 : decode cX3_begin 44 = .ok (.aload_n 0, 1) := by decide +kernel
theorem dX3_begin_45 : decode cX3_begin 45 = .ok (.getfield 29, 3) := by decide +kernel
theorem dX3_begin_48 : decode cX3_begin 48 = .ok (.iload 4, 2) := by decide +kernel
theorem dX3_begin_50 : decode cX3_begin 50 = .ok (.lconst 0, 1) := by decide +kernel
theorem dX3_begin_51 : decode cX3_begin 51 = .ok (.lastore, 1) := by decide +kernel
theorem dX3_begin_52 : decode cX3_begin 52 = .ok (.iinc 4 1, 3) := by decide +kernel
theorem dX3_begin_55 : decode cX3_begin 55 = .ok (.goto (-26), 3) := by decide +kernel
theorem dX3_begin_58 : decode cX3_begin 58 = .ok (.iconst 0, 1) := by decide +kernel
theorem dX3_begin_59 : decode cX3_begin 59 = .ok (.istore 4, 2) := by decide +kernel
theorem dX3_begin_61 : decode cX3_begin 61 = .ok (.iload 4, 2) := by decide +kernel
theorem dX3_begin_63 : decode cX3_begin 63 = .ok (.bipush 10, 2) := by decide +kernel
theorem dX3_begin_65 : decode cX3_begin 65 = .ok (.if_icmp .ge 25, 3) := by decide +kernel
theorem dX3_begin_68 : decode cX3_begin 68 = .ok (.aload_n 0, 1) := by decide +kernel
theorem dX3_begin_69 : decode cX3_begin 69 = .ok (.getfield 13, 3) := by decide +kernel
theorem dX3_begin_72 : decode cX3_begin 72 = .ok (.iload 4, 2) := by decide +kernel
theorem dX3_begin_74 : decode cX3_begin 74 = .ok (.iconst 0, 1) := by decide +kernel
theorem dX3_begin_75 : decode cX3_begin 75 = .ok (.iastore, 1) := by decide +kernel
theorem dX3_begin_76 : decode cX3_begin 76 = .ok (.aload_n 0, 1) := by decide +kernel
theorem dX3_begin_77 : decode cX3_begin 77 = .ok (.getfield 17, 3) := by decide +kernel
theorem dX3_begin_80 : decode cX3_begin 80 = .ok (.iload 4, 2) := by decide +kernel
theorem dX3_begin_82 : decode cX3_begin 82 = .ok (.lconst 0, 1) := by decide +kernel
theorem dX3_begin_83 : decode cX3_begin 83 = .ok (.lastore, 1) := by decide +kernel
theorem dX3_begin_84 : decode cX3_begin 84 = .ok (.iinc 4 1, 3) := by decide +kernel
theorem dX3_begin_87 : decode cX3_begin 87 = .ok (.goto (-26), 3) := by decide +kernel
theorem dX3_begin_90 : decode cX3_begin 90 = .ok (.iconst 0, 1) := by decide +kernel
theorem dX3_begin_91 : decode cX3_begin 91 = .ok (.istore 4, 2) := by decide +kernel
theorem dX3_begin_93 : decode cX3_begin 93 = .ok (.iload 4, 2) := by decide +kernel
theorem dX3_begin_95 : decode cX3_begin 95 = .ok (.bipush 100, 2) := by decide +kernel
theorem dX3_begin_97 : decode cX3_begin 97 = .ok (.if_icmp .ge 33, 3) := by decide +kernel
theorem dX3_begin_100 : decode cX3_begin 100 = .ok (.aload_n 0, 1) := by decide +kernel
theorem dX3_begin_101 : decode cX3_begin 101 = .ok (.getfield 20, 3) := by decide +kernel
theorem dX3_begin_104 : decode cX3_begin 104 = .ok (.iload 4, 2) := by decide +kernel
theorem dX3_begin_106 : decode cX3_begin 106 = .ok (.lconst 0, 1) := by decide +kernel
theorem dX3_begin_107 : decode cX3_begin 107 = .ok (.lastore, 1) := by decide +kernel
theorem dX3_begin_108 : decode cX3_begin 108 = .ok (.aload_n 0, 1) := by decide +kernel
theorem dX3_begin_109 : decode cX3_begin 109 = .ok (.getfield 23, 3) := by decide +kernel
theorem dX3_begin_112 : decode cX3_begin 112 = .ok (.iload 4, 2) := by decide +kernel
theorem dX3_begin_114 : decode cX3_begin 114 = .ok (.lconst 0, 1) := by decide +kernel
theorem dX3_begin_115 : decode cX3_begin 115 = .ok (.lastore, 1) := by decide +kernel
theorem dX3_begin_116 : decode cX3_begin 116 = .ok (.aload_n 0, 1) := by decide +kernel
theorem dX3_begin_117 : decode cX3_begin 117 = .ok (.getfield 26, 3) := by decide +kernel
theorem dX3_begin_120 : decode cX3_begin 120 = .ok (.iload 4, 2) := by decide +kernel
theorem dX3_begin_122 : decode cX3_begin 122 = .ok (.iconst 0, 1) := by decide +kernel
theorem dX3_begin_123 : decode cX3_begin 123 = .ok (.iastore, 1) := by decide +kernel
theorem dX3_begin_124 : decode cX3_begin 124 = .ok (.iinc 4 1, 3) := by decide +kernel
theorem dX3_begin_127 : decode cX3_begin 127 = .ok (.goto (-34), 3) := by decide +kernel
theorem dX3_begin_130 : decode cX3_begin 130 = .ok (.return_, 1) := by decide +kernel
theorem dX3_reset_0 : decode cX3_reset 0 = .ok (.iload_n 1, 1) := by decide +kernel
theorem dX3_reset_1 : decode cX3_reset 1 = .ok (.i2l, 1) := by decide +kernel
theorem dX3_reset_2 : decode cX3_reset 2 = .ok (.ldc2_w 67, 3) := by decide +kernel
theorem dX3_reset_5 : decode cX3_reset 5 = .ok (.ldc2_w 69, 3) := by decide +kernel
theorem dX3_reset_8 : decode cX3_reset 8 = .ok (.invokestatic 71, 3) := by decide +kernel
theorem dX3_reset_11 : decode cX3_reset 11 = .ok (.ifCond .eq 27, 3) := by decide +kernel
theorem dX3_reset_14 : decode cX3_reset 14 = .ok (.iload_n 2, 1) := by decide +kernel
theorem dX3_reset_15 : decode cX3_reset 15 = .ok (.i2l, 1) := by decide +kernel
theorem dX3_reset_16 : decode cX3_reset 16 = .ok (.lconst 0, 1) := by decide +kernel
theorem dX3_reset_17 : decode cX3_reset 17 = .ok (.ldc2_w 75, 3) := by decide +kernel
theorem dX3_reset_20 : decode cX3_reset 20 = .ok (.invokestatic 71, 3) := by decide +kernel
theorem dX3_reset_23 : decode cX3_reset 23 = .ok (.ifCond .eq 15, 3) := by decide +kernel
theorem dX3_reset_26 : decode cX3_reset 26 = .ok (.iload_n 3, 1) := by decide +kernel
theorem dX3_reset_27 : decode cX3_reset 27 = .ok (.i2l, 1) := by decide +kernel
theorem dX3_reset_28 : decode cX3_reset 28 = .ok (.lconst 1, 1) := by decide +kernel
theorem dX3_reset_29 : decode cX3_reset 29 = .ok (.ldc2_w 77, 3) := by decide +kernel
theorem dX3_reset_32 : decode cX3_reset 32 = .ok (.invokestatic 71, 3) := by decide +kernel
theorem dX3_reset_35 : decode cX3_reset 35 = .ok (.ifCond .ne 7, 3) := by decide +kernel
theorem dX3_reset_38 : decode cX3_reset 38 = .ok (.sipush (-1002), 3) := by decide +kernel
theorem dX3_reset_41 : decode cX3_reset 41 = .ok (.ireturn, 1) := by decide +kernel
theorem dX3_reset_42 : decode cX3_reset 42 = .ok (.aload_n 0, 1) := by decide +kernel
theorem dX3_reset_43 : decode cX3_reset 43 = .ok (.getfield 50, 3) := by decide +kernel
theorem dX3_reset_46 : decode cX3_reset 46 = .ok (.istore 4, 2) := by decide +kernel
theorem dX3_reset_48 : decode cX3_reset 48 = .ok (.aload_n 0, 1) := by decide +kernel
theorem dX3_reset_49 : decode cX3_reset 49 = .ok (.iload_n 1, 1) := by decide +kernel
theorem dX3_reset_50 : decode cX3_reset 50 = .ok (.iload_n 2, 1) := by decide +kernel
theorem dX3_reset_51 : decode cX3_reset 51 = .ok (.iload_n 3, 1) := by decide +kernel
theorem dX3_reset_52 : decode cX3_reset 52 = .ok (.invokevirtual 40, 3) := by decide +kernel
theorem dX3_reset_55 : decode cX3_reset 55 = .ok (.iload 4, 2) := by decide +kernel
theorem dX3_reset_57 : decode cX3_reset 57 = .ok (.ireturn, 1) := by decide +kernel
theorem dX3_noNode_0 : decode cX3_noNode 0 = .ok (.iload_n 1, 1) := by decide +kernel
theorem dX3_noNode_1 : decode cX3_noNode 1 = .ok (.i2l, 1) := by decide +kernel
theorem dX3_noNode_2 : decode cX3_noNode 2 = .ok (.lconst 0, 1) := by decide +kernel
theorem dX3_noNode_3 : decode cX3_noNode 3 = .ok (.aload_n 0, 1) := by decide +kernel
theorem dX3_noNode_4 : decode cX3_noNode 4 = .ok (.getfield 50, 3) := by decide +kernel
theorem dX3_noNode_7 : decode cX3_noNode 7 = .ok (.iconst 1, 1) := by decide +kernel
theorem dX3_noNode_8 : decode cX3_noNode 8 = .ok (.isub, 1) := by decide +kernel
theorem dX3_noNode_9 : decode cX3_noNode 9 = .ok (.i2l, 1) := by decide +kernel
theorem dX3_noNode_10 : decode cX3_noNode 10 = .ok (.invokestatic 71, 3) := by decide +kernel
theorem dX3_noNode_13 : decode cX3_noNode 13 = .ok (.ifCond .ne 7, 3) := by decide +kernel
theorem dX3_noNode_16 : decode cX3_noNode 16 = .ok (.iconst 1, 1) := by decide +kernel
theorem dX3_noNode_17 : decode cX3_noNode 17 = .ok (.goto 4, 3) := by decide +kernel
theorem dX3_noNode_20 : decode cX3_noNode 20 = .ok (.iconst 0, 1) := by decide +kernel
theorem dX3_noNode_21 : decode cX3_noNode 21 = .ok (.ireturn, 1) := by decide +kernel
theorem dX3_isCorrect_0 : decode cX3_isCorrect 0 = .ok (.aload_n 0, 1) := by decide +kernel
theorem dX3_isCorrect_1 : decode cX3_isCorrect 1 = .ok (.getfield 13, 3) := by decide +kernel
theorem dX3_isCorrect_4 : decode cX3_isCorrect 4 = .ok (.iload_n 1, 1) := by decide +kernel
theorem dX3_isCorrect_5 : decode cX3_isCorrect 5 = .ok (.iaload, 1) := by decide +kernel
theorem dX3_isCorrect_6 : decode cX3_isCorrect 6 = .ok (.ifCond .ne 7, 3) := by decide +kernel
theorem dX3_isCorrect_9 : decode cX3_isCorrect 9 = .ok (.iconst 1, 1) := by decide +kernel
theorem dX3_isCorrect_10 : decode cX3_isCorrect 10 = .ok (.goto 4, 3) := by decide +kernel
theorem dX3_isCorrect_13 : decode cX3_isCorrect 13 = .ok (.iconst 0, 1) := by decide +kernel
theorem dX3_isCorrect_14 : decode cX3_isCorrect 14 = .ok (.ireturn, 1) := by decide +kernel
theorem dX3_type_0 : decode cX3_type 0 = .ok (.aload_n 0, 1) := by decide +kernel
theorem dX3_type_1 : decode cX3_type 1 = .ok (.getfield 79, 3) := by decide +kernel
theorem dX3_type_4 : decode cX3_type 4 = .ok (.bipush 40, 2) := by decide +kernel
theorem dX3_type_6 : decode cX3_type 6 = .ok (.if_icmp .ne 7, 3) := by decide +kernel
theorem dX3_type_9 : decode cX3_type 9 = .ok (.sipush (-1004), 3) := by decide +kernel
theorem dX3_type_12 : decode cX3_type 12 = .ok (.ireturn, 1) := by decide +kernel
theorem dX3_type_13 : decode cX3_type 13 = .ok (.aload_n 0, 1) := by decide +kernel
theorem dX3_type_14 : decode cX3_type 14 = .ok (.getfield 32, 3) := by decide +kernel
theorem dX3_type_17 : decode cX3_type 17 = .ok (.aload_n 0, 1) := by decide +kernel
theorem dX3_type_18 : decode cX3_type 18 = .ok (.getfield 79, 3) := by decide +kernel
theorem dX3_type_21 : decode cX3_type 21 = .ok (.iload_n 1, 1) := by decide +kernel
theorem dX3_type_22 : decode cX3_type 22 = .ok (.castore, 1) := by decide +kernel
theorem dX3_type_23 : decode cX3_type 23 = .ok (.aload_n 0, 1) := by decide +kernel
theorem dX3_type_24 : decode cX3_type 24 = .ok (.dup, 1) := by decide +kernel
theorem dX3_type_25 : decode cX3_type 25 = .ok (.getfield 79, 3) := by decide +kernel
theorem dX3_type_28 : decode cX3_type 28 = .ok (.iconst 1, 1) := by decide +kernel
theorem dX3_type_29 : decode cX3_type 29 = .ok (.iadd, 1) := by decide +kernel
theorem dX3_type_30 : decode cX3_type 30 = .ok (.putfield 79, 3) := by decide +kernel
theorem dX3_type_33 : decode cX3_type 33 = .ok (.aload_n 0, 1) := by decide +kernel
theorem dX3_type_34 : decode cX3_type 34 = .ok (.getfield 79, 3) := by decide +kernel
theorem dX3_type_37 : decode cX3_type 37 = .ok (.ireturn, 1) := by decide +kernel
theorem dX3_clearText_0 : decode cX3_clearText 0 = .ok (.aload_n 0, 1) := by decide +kernel
theorem dX3_clearText_1 : decode cX3_clearText 1 = .ok (.getfield 79, 3) := by decide +kernel
theorem dX3_clearText_4 : decode cX3_clearText 4 = .ok (.istore_n 1, 1) := by decide +kernel
theorem dX3_clearText_5 : decode cX3_clearText 5 = .ok (.aload_n 0, 1) := by decide +kernel
theorem dX3_clearText_6 : decode cX3_clearText 6 = .ok (.iconst 0, 1) := by decide +kernel
theorem dX3_clearText_7 : decode cX3_clearText 7 = .ok (.putfield 79, 3) := by decide +kernel
theorem dX3_clearText_10 : decode cX3_clearText 10 = .ok (.iload_n 1, 1) := by decide +kernel
theorem dX3_clearText_11 : decode cX3_clearText 11 = .ok (.ireturn, 1) := by decide +kernel
theorem dX3_isAt_0 : decode cX3_isAt 0 = .ok (.aload_n 0, 1) := by decide +kernel
theorem dX3_isAt_1 : decode cX3_isAt 1 = .ok (.getfield 82, 3) := by decide +kernel
theorem dX3_isAt_4 : decode cX3_isAt 4 = .ok (.aload_n 0, 1) := by decide +kernel
theorem dX3_isAt_5 : decode cX3_isAt 5 = .ok (.getfield 79, 3) := by decide +kernel
theorem dX3_isAt_8 : decode cX3_isAt 8 = .ok (.if_icmp .ge 20, 3) := by decide +kernel
theorem dX3_isAt_11 : decode cX3_isAt 11 = .ok (.aload_n 0, 1) := by decide +kernel
theorem dX3_isAt_12 : decode cX3_isAt 12 = .ok (.getfield 32, 3) := by decide +kernel
theorem dX3_isAt_15 : decode cX3_isAt 15 = .ok (.aload_n 0, 1) := by decide +kernel
theorem dX3_isAt_16 : decode cX3_isAt 16 = .ok (.getfield 82, 3) := by decide +kernel
theorem dX3_isAt_19 : decode cX3_isAt 19 = .ok (.caload, 1) := by decide +kernel
theorem dX3_isAt_20 : decode cX3_isAt 20 = .ok (.iload_n 1, 1) := by decide +kernel
theorem dX3_isAt_21 : decode cX3_isAt 21 = .ok (.if_icmp .ne 7, 3) := by decide +kernel
theorem dX3_isAt_24 : decode cX3_isAt 24 = .ok (.iconst 1, 1) := by decide +kernel
theorem dX3_isAt_25 : decode cX3_isAt 25 = .ok (.goto 4, 3) := by decide +kernel
theorem dX3_isAt_28 : decode cX3_isAt 28 = .ok (.iconst 0, 1) := by decide +kernel
theorem dX3_isAt_29 : decode cX3_isAt 29 = .ok (.ireturn, 1) := by decide +kernel
theorem dX3_isDigit_0 : decode cX3_isDigit 0 = .ok (.aload_n 0, 1) := by decide +kernel
theorem dX3_isDigit_1 : decode cX3_isDigit 1 = .ok (.getfield 82, 3) := by decide +kernel
theorem dX3_isDigit_4 : decode cX3_isDigit 4 = .ok (.aload_n 0, 1) := by decide +kernel
theorem dX3_isDigit_5 : decode cX3_isDigit 5 = .ok (.getfield 79, 3) := by decide +kernel
theorem dX3_isDigit_8 : decode cX3_isDigit 8 = .ok (.if_icmp .ge 35, 3) := by decide +kernel
theorem dX3_isDigit_11 : decode cX3_isDigit 11 = .ok (.aload_n 0, 1) := by decide +kernel
theorem dX3_isDigit_12 : decode cX3_isDigit 12 = .ok (.getfield 32, 3) := by decide +kernel
theorem dX3_isDigit_15 : decode cX3_isDigit 15 = .ok (.aload_n 0, 1) := by decide +kernel
theorem dX3_isDigit_16 : decode cX3_isDigit 16 = .ok (.getfield 82, 3) := by decide +kernel
theorem dX3_isDigit_19 : decode cX3_isDigit 19 = .ok (.caload, 1) := by decide +kernel
theorem dX3_isDigit_20 : decode cX3_isDigit 20 = .ok (.bipush 48, 2) := by decide +kernel
theorem dX3_isDigit_22 : decode cX3_isDigit 22 = .ok (.if_icmp .lt 21, 3) := by decide +kernel
theorem dX3_isDigit_25 : decode cX3_isDigit 25 = .ok (.aload_n 0, 1) := by decide +kernel
theorem dX3_isDigit_26 : decode cX3_isDigit 26 = .ok (.getfield 32, 3) := by decide +kernel
theorem dX3_isDigit_29 : decode cX3_isDigit 29 = .ok (.aload_n 0, 1) := by decide +kernel
theorem dX3_isDigit_30 : decode cX3_isDigit 30 = .ok (.getfield 82, 3) := by decide +kernel
theorem dX3_isDigit_33 : decode cX3_isDigit 33 = .ok (.caload, 1) := by decide +kernel
theorem dX3_isDigit_34 : decode cX3_isDigit 34 = .ok (.bipush 57, 2) := by decide +kernel
theorem dX3_isDigit_36 : decode cX3_isDigit 36 = .ok (.if_icmp .gt 7, 3) := by decide +kernel
theorem dX3_isDigit_39 : decode cX3_isDigit 39 = .ok (.iconst 1, 1) := by decide +kernel
theorem dX3_isDigit_40 : decode cX3_isDigit 40 = .ok (.goto 4, 3) := by decide +kernel
theorem dX3_isDigit_43 : decode cX3_isDigit 43 = .ok (.iconst 0, 1) := by decide +kernel
theorem dX3_isDigit_44 : decode cX3_isDigit 44 = .ok (.ireturn, 1) := by decide +kernel
theorem dX3_readDigits_0 : decode cX3_readDigits 0 = .ok (.lconst 0, 1) := by decide +kernel
theorem dX3_readDigits_1 : decode cX3_readDigits 1 = .ok (.lstore_n 1, 1) := by decide +kernel
theorem dX3_readDigits_2 : decode cX3_readDigits 2 = .ok (.iconst 0, 1) := by decide +kernel
theorem dX3_readDigits_3 : decode cX3_readDigits 3 = .ok (.istore_n 3, 1) := by decide +kernel
theorem dX3_readDigits_4 : decode cX3_readDigits 4 = .ok (.iload_n 3, 1) := by decide +kernel
theorem dX3_readDigits_5 : decode cX3_readDigits 5 = .ok (.bipush 6, 2) := by decide +kernel
theorem dX3_readDigits_7 : decode cX3_readDigits 7 = .ok (.if_icmp .ge 47, 3) := by decide +kernel
theorem dX3_readDigits_10 : decode cX3_readDigits 10 = .ok (.aload_n 0, 1) := by decide +kernel
theorem dX3_readDigits_11 : decode cX3_readDigits 11 = .ok (.invokevirtual 85, 3) := by decide +kernel
theorem dX3_readDigits_14 : decode cX3_readDigits 14 = .ok (.ifCond .eq 40, 3) := by decide +kernel
theorem dX3_readDigits_17 : decode cX3_readDigits 17 = .ok (.ldc2_w 69, 3) := by decide +kernel
theorem dX3_readDigits_20 : decode cX3_readDigits 20 = .ok (.lload_n 1, 1) := by decide +kernel
theorem dX3_readDigits_21 : decode cX3_readDigits 21 = .ok (.lmul, 1) := by decide +kernel
theorem dX3_readDigits_22 : decode cX3_readDigits 22 = .ok (.aload_n 0, 1) := by decide +kernel
theorem dX3_readDigits_23 : decode cX3_readDigits 23 = .ok (.getfield 32, 3) := by decide +kernel
theorem dX3_readDigits_26 : decode cX3_readDigits 26 = .ok (.aload_n 0, 1) := by decide +kernel
theorem dX3_readDigits_27 : decode cX3_readDigits 27 = .ok (.getfield 82, 3) := by decide +kernel
theorem dX3_readDigits_30 : decode cX3_readDigits 30 = .ok (.caload, 1) := by decide +kernel
theorem dX3_readDigits_31 : decode cX3_readDigits 31 = .ok (.i2l, 1) := by decide +kernel
theorem dX3_readDigits_32 : decode cX3_readDigits 32 = .ok (.ladd, 1) := by decide +kernel
theorem dX3_readDigits_33 : decode cX3_readDigits 33 = .ok (.ldc2_w 89, 3) := by decide +kernel
theorem dX3_readDigits_36 : decode cX3_readDigits 36 = .ok (.lsub, 1) := by decide +kernel
theorem dX3_readDigits_37 : decode cX3_readDigits 37 = .ok (.lstore_n 1, 1) := by decide +kernel
theorem dX3_readDigits_38 : decode cX3_readDigits 38 = .ok (.aload_n 0, 1) := by decide +kernel
theorem dX3_readDigits_39 : decode cX3_readDigits 39 = .ok (.dup, 1) := by decide +kernel
theorem dX3_readDigits_40 : decode cX3_readDigits 40 = .ok (.getfield 82, 3) := by decide +kernel
theorem dX3_readDigits_43 : decode cX3_readDigits 43 = .ok (.iconst 1, 1) := by decide +kernel
theorem dX3_readDigits_44 : decode cX3_readDigits 44 = .ok (.iadd, 1) := by decide +kernel
theorem dX3_readDigits_45 : decode cX3_readDigits 45 = .ok (.putfield 82, 3) := by decide +kernel
theorem dX3_readDigits_48 : decode cX3_readDigits 48 = .ok (.iinc 3 1, 3) := by decide +kernel
theorem dX3_readDigits_51 : decode cX3_readDigits 51 = .ok (.goto (-47), 3) := by decide +kernel
theorem dX3_readDigits_54 : decode cX3_readDigits 54 = .ok (.aload_n 0, 1) := by decide +kernel
theorem dX3_readDigits_55 : decode cX3_readDigits 55 = .ok (.iload_n 3, 1) := by decide +kernel
theorem dX3_readDigits_56 : decode cX3_readDigits 56 = .ok (.ifCond .le 14, 3) := by decide +kernel
theorem dX3_readDigits_59 : decode cX3_readDigits 59 = .ok (.aload_n 0, 1) := by decide +kernel
theorem dX3_readDigits_60 : decode cX3_readDigits 60 = .ok (.invokevirtual 85, 3) := by decide +kernel
theorem dX3_readDigits_63 : decode cX3_readDigits 63 = .ok (.ifCond .ne 7, 3) := by decide +kernel
theorem dX3_readDigits_66 : decode cX3_readDigits 66 = .ok (.iconst 1, 1) := by decide +kernel
theorem dX3_readDigits_67 : decode cX3_readDigits 67 = .ok (.goto 4, 3) := by decide +kernel
theorem dX3_readDigits_70 : decode cX3_readDigits 70 = .ok (.iconst 0, 1) := by decide +kernel
theorem dX3_readDigits_71 : decode cX3_readDigits 71 = .ok (.putfield 91, 3) := by decide +kernel
theorem dX3_readDigits_74 : decode cX3_readDigits 74 = .ok (.lload_n 1, 1) := by decide +kernel
theorem dX3_readDigits_75 : decode cX3_readDigits 75 = .ok (.lreturn, 1) := by decide +kernel
theorem dX3_readNumber_0 : decode cX3_readNumber 0 = .ok (.aload_n 0, 1) := by decide +kernel
theorem dX3_readNumber_1 : decode cX3_readNumber 1 = .ok (.getfield 82, 3) := by decide +kernel
theorem dX3_readNumber_4 : decode cX3_readNumber 4 = .ok (.istore_n 3, 1) := by decide +kernel
theorem dX3_readNumber_5 : decode cX3_readNumber 5 = .ok (.aload_n 0, 1) := by decide +kernel
theorem dX3_readNumber_6 : decode cX3_readNumber 6 = .ok (.bipush 45, 2) := by decide +kernel
theorem dX3_readNumber_8 : decode cX3_readNumber 8 = .ok (.invokevirtual 95, 3) := by decide +kernel
theorem dX3_readNumber_11 : decode cX3_readNumber 11 = .ok (.istore 4, 2) := by decide +kernel
theorem dX3_readNumber_13 : decode cX3_readNumber 13 = .ok (.aload_n 0, 1) := by decide +kernel
theorem dX3_readNumber_14 : decode cX3_readNumber 14 = .ok (.dup, 1) := by decide +kernel
theorem dX3_readNumber_15 : decode cX3_readNumber 15 = .ok (.getfield 82, 3) := by decide +kernel
theorem dX3_readNumber_18 : decode cX3_readNumber 18 = .ok (.iload 4, 2) := by decide +kernel
theorem dX3_readNumber_20 : decode cX3_readNumber 20 = .ok (.ifCond .eq 7, 3) := by decide +kernel
theorem dX3_readNumber_23 : decode cX3_readNumber 23 = .ok (.iconst 1, 1) := by decide +kernel
theorem dX3_readNumber_24 : decode cX3_readNumber 24 = .ok (.goto 4, 3) := by decide +kernel
theorem dX3_readNumber_27 : decode cX3_readNumber 27 = .ok (.iconst 0, 1) := by decide +kernel
theorem dX3_readNumber_28 : decode cX3_readNumber 28 = .ok (.iadd, 1) := by decide +kernel
theorem dX3_readNumber_29 : decode cX3_readNumber 29 = .ok (.putfield 82, 3) := by decide +kernel
theorem dX3_readNumber_32 : decode cX3_readNumber 32 = .ok (.aload_n 0, 1) := by decide +kernel
theorem dX3_readNumber_33 : decode cX3_readNumber 33 = .ok (.invokevirtual 99, 3) := by decide +kernel
theorem dX3_readNumber_36 : decode cX3_readNumber 36 = .ok (.lstore 5, 2) := by decide +kernel
theorem dX3_readNumber_38 : decode cX3_readNumber 38 = .ok (.lconst 1, 1) := by decide +kernel
theorem dX3_readNumber_39 : decode cX3_readNumber 39 = .ok (.lstore 7, 2) := by decide +kernel
theorem dX3_readNumber_41 : decode cX3_readNumber 41 = .ok (.aload_n 0, 1) := by decide +kernel
theorem dX3_readNumber_42 : decode cX3_readNumber 42 = .ok (.getfield 91, 3) := by decide +kernel
theorem dX3_readNumber_45 : decode cX3_readNumber 45 = .ok (.ifCond .eq 28, 3) := by decide +kernel
theorem dX3_readNumber_48 : decode cX3_readNumber 48 = .ok (.aload_n 0, 1) := by decide +kernel
theorem dX3_readNumber_49 : decode cX3_readNumber 49 = .ok (.bipush 47, 2) := by decide +kernel
theorem dX3_readNumber_51 : decode cX3_readNumber 51 = .ok (.invokevirtual 95, 3) := by decide +kernel
theorem dX3_readNumber_54 : decode cX3_readNumber 54 = .ok (.ifCond .eq 19, 3) := by decide +kernel
theorem dX3_readNumber_57 : decode cX3_readNumber 57 = .ok (.aload_n 0, 1) := by decide +kernel
theorem dX3_readNumber_58 : decode cX3_readNumber 58 = .ok (.dup, 1) := by decide +kernel
theorem dX3_readNumber_59 : decode cX3_readNumber 59 = .ok (.getfield 82, 3) := by decide +kernel
theorem dX3_readNumber_62 : decode cX3_readNumber 62 = .ok (.iconst 1, 1) := by decide +kernel
theorem dX3_readNumber_63 : decode cX3_readNumber 63 = .ok (.iadd, 1) := by decide +kernel
theorem dX3_readNumber_64 : decode cX3_readNumber 64 = .ok (.putfield 82, 3) := by decide +kernel
theorem dX3_readNumber_67 : decode cX3_readNumber 67 = .ok (.aload_n 0, 1) := by decide +kernel
theorem dX3_readNumber_68 : decode cX3_readNumber 68 = .ok (.invokevirtual 99, 3) := by decide +kernel
theorem dX3_readNumber_71 : decode cX3_readNumber 71 = .ok (.lstore 7, 2) := by decide +kernel
theorem dX3_readNumber_73 : decode cX3_readNumber 73 = .ok (.aload_n 0, 1) := by decide +kernel
theorem dX3_readNumber_74 : decode cX3_readNumber 74 = .ok (.getfield 91, 3) := by decide +kernel
theorem dX3_readNumber_77 : decode cX3_readNumber 77 = .ok (.ifCond .ne 5, 3) := by decide +kernel
theorem dX3_readNumber_80 : decode cX3_readNumber 80 = .ok (.lconst 0, 1) := by decide +kernel
theorem dX3_readNumber_81 : decode cX3_readNumber 81 = .ok (.lreturn, 1) := by decide +kernel
theorem dX3_readNumber_82 : decode cX3_readNumber 82 = .ok (.lload 7, 2) := by decide +kernel
theorem dX3_readNumber_84 : decode cX3_readNumber 84 = .ok (.lconst 0, 1) := by decide +kernel
theorem dX3_readNumber_85 : decode cX3_readNumber 85 = .ok (.lcmp, 1) := by decide +kernel
theorem dX3_readNumber_86 : decode cX3_readNumber 86 = .ok (.ifCond .le 34, 3) := by decide +kernel
theorem dX3_readNumber_89 : decode cX3_readNumber 89 = .ok (.lload 5, 2) := by decide +kernel
theorem dX3_readNumber_91 : decode cX3_readNumber 91 = .ok (.ldc2_w 103, 3) := by decide +kernel
theorem dX3_readNumber_94 : decode cX3_readNumber 94 = .ok (.lload 7, 2) := by decide +kernel
theorem dX3_readNumber_96 : decode cX3_readNumber 96 = .ok (.lmul, 1) := by decide +kernel
theorem dX3_readNumber_97 : decode cX3_readNumber 97 = .ok (.lcmp, 1) := by decide +kernel
theorem dX3_readNumber_98 : decode cX3_readNumber 98 = .ok (.ifCond .gt 22, 3) := by decide +kernel
theorem dX3_readNumber_101 : decode cX3_readNumber 101 = .ok (.lload 5, 2) := by decide +kernel
theorem dX3_readNumber_103 : decode cX3_readNumber 103 = .ok (.aload_n 0, 1) := by decide +kernel
theorem dX3_readNumber_104 : decode cX3_readNumber 104 = .ok (.getfield 57, 3) := by decide +kernel
theorem dX3_readNumber_107 : decode cX3_readNumber 107 = .ok (.lmul, 1) := by decide +kernel
theorem dX3_readNumber_108 : decode cX3_readNumber 108 = .ok (.lload 7, 2) := by decide +kernel
theorem dX3_readNumber_110 : decode cX3_readNumber 110 = .ok (.lrem, 1) := by decide +kernel
theorem dX3_readNumber_111 : decode cX3_readNumber 111 = .ok (.lconst 0, 1) := by decide +kernel
theorem dX3_readNumber_112 : decode cX3_readNumber 112 = .ok (.lcmp, 1) := by decide +kernel
theorem dX3_readNumber_113 : decode cX3_readNumber 113 = .ok (.ifCond .ne 7, 3) := by decide +kernel
theorem dX3_readNumber_116 : decode cX3_readNumber 116 = .ok (.iconst 1, 1) := by decide +kernel
theorem dX3_readNumber_117 : decode cX3_readNumber 117 = .ok (.goto 4, 3) := by decide +kernel
theorem dX3_readNumber_120 : decode cX3_readNumber 120 = .ok (.iconst 0, 1) := by decide +kernel
theorem dX3_readNumber_121 : decode cX3_readNumber 121 = .ok (.istore 9, 2) := by decide +kernel
theorem dX3_readNumber_123 : decode cX3_readNumber 123 = .ok (.iload 9, 2) := by decide +kernel
theorem dX3_readNumber_125 : decode cX3_readNumber 125 = .ok (.ifCond .eq 16, 3) := by decide +kernel
theorem dX3_readNumber_128 : decode cX3_readNumber 128 = .ok (.lload 5, 2) := by decide +kernel
theorem dX3_readNumber_130 : decode cX3_readNumber 130 = .ok (.aload_n 0, 1) := by decide +kernel
theorem dX3_readNumber_131 : decode cX3_readNumber 131 = .ok (.getfield 57, 3) := by decide +kernel
theorem dX3_readNumber_134 : decode cX3_readNumber 134 = .ok (.lmul, 1) := by decide +kernel
theorem dX3_readNumber_135 : decode cX3_readNumber 135 = .ok (.lload 7, 2) := by decide +kernel
theorem dX3_readNumber_137 : decode cX3_readNumber 137 = .ok (.ldiv, 1) := by decide +kernel
theorem dX3_readNumber_138 : decode cX3_readNumber 138 = .ok (.goto 4, 3) := by decide +kernel
theorem dX3_readNumber_141 : decode cX3_readNumber 141 = .ok (.lconst 0, 1) := by decide +kernel
theorem dX3_readNumber_142 : decode cX3_readNumber 142 = .ok (.lstore 10, 2) := by decide +kernel
theorem dX3_readNumber_144 : decode cX3_readNumber 144 = .ok (.iload 4, 2) := by decide +kernel
theorem dX3_readNumber_146 : decode cX3_readNumber 146 = .ok (.ifCond .eq 9, 3) := by decide +kernel
theorem dX3_readNumber_149 : decode cX3_readNumber 149 = .ok (.lload 10, 2) := by decide +kernel
theorem dX3_readNumber_151 : decode cX3_readNumber 151 = .ok (.lneg, 1) := by decide +kernel
theorem dX3_readNumber_152 : decode cX3_readNumber 152 = .ok (.goto 5, 3) := by decide +kernel
theorem dX3_readNumber_155 : decode cX3_readNumber 155 = .ok (.lload 10, 2) := by decide +kernel
theorem dX3_readNumber_157 : decode cX3_readNumber 157 = .ok (.lstore 10, 2) := by decide +kernel
theorem dX3_readNumber_159 : decode cX3_readNumber 159 = .ok (.aload_n 0, 1) := by decide +kernel
theorem dX3_readNumber_160 : decode cX3_readNumber 160 = .ok (.iload 9, 2) := by decide +kernel
theorem dX3_readNumber_162 : decode cX3_readNumber 162 = .ok (.ifCond .eq 14, 3) := by decide +kernel
theorem dX3_readNumber_165 : decode cX3_readNumber 165 = .ok (.lload 10, 2) := by decide +kernel
theorem dX3_readNumber_167 : decode cX3_readNumber 167 = .ok (.lload_n 1, 1) := by decide +kernel
theorem dX3_readNumber_168 : decode cX3_readNumber 168 = .ok (.lcmp, 1) := by decide +kernel
theorem dX3_readNumber_169 : decode cX3_readNumber 169 = .ok (.ifCond .lt 7, 3) := by decide +kernel
theorem dX3_readNumber_172 : decode cX3_readNumber 172 = .ok (.iconst 1, 1) := by decide +kernel
theorem dX3_readNumber_173 : decode cX3_readNumber 173 = .ok (.goto 4, 3) := by decide +kernel
theorem dX3_readNumber_176 : decode cX3_readNumber 176 = .ok (.iconst 0, 1) := by decide +kernel
theorem dX3_readNumber_177 : decode cX3_readNumber 177 = .ok (.putfield 91, 3) := by decide +kernel
theorem dX3_readNumber_180 : decode cX3_readNumber 180 = .ok (.aload_n 0, 1) := by decide +kernel
theorem dX3_readNumber_181 : decode cX3_readNumber 181 = .ok (.aload_n 0, 1) := by decide +kernel
theorem dX3_readNumber_182 : decode cX3_readNumber 182 = .ok (.getfield 91, 3) := by decide +kernel
theorem dX3_readNumber_185 : decode cX3_readNumber 185 = .ok (.ifCond .eq 10, 3) := by decide +kernel
theorem dX3_readNumber_188 : decode cX3_readNumber 188 = .ok (.aload_n 0, 1) := by decide +kernel
theorem dX3_readNumber_189 : decode cX3_readNumber 189 = .ok (.getfield 82, 3) := by decide +kernel
theorem dX3_readNumber_192 : decode cX3_readNumber 192 = .ok (.goto 4, 3) := by decide +kernel
theorem dX3_readNumber_195 : decode cX3_readNumber 195 = .ok (.iload_n 3, 1) := by decide +kernel
theorem dX3_readNumber_196 : decode cX3_readNumber 196 = .ok (.putfield 82, 3) := by decide +kernel
theorem dX3_readNumber_199 : decode cX3_readNumber 199 = .ok (.lload 10, 2) := by decide +kernel
theorem dX3_readNumber_201 : decode cX3_readNumber 201 = .ok (.lreturn, 1) := by decide +kernel
theorem dX3_readInterval_0 : decode cX3_readInterval 0 = .ok (.aload_n 0, 1) := by decide +kernel
theorem dX3_readInterval_1 : decode cX3_readInterval 1 = .ok (.iconst 0, 1) := by decide +kernel
theorem dX3_readInterval_2 : decode cX3_readInterval 2 = .ok (.putfield 82, 3) := by decide +kernel
theorem dX3_readInterval_5 : decode cX3_readInterval 5 = .ok (.aload_n 0, 1) := by decide +kernel
theorem dX3_readInterval_6 : decode cX3_readInterval 6 = .ok (.aload_n 0, 1) := by decide +kernel
theorem dX3_readInterval_7 : decode cX3_readInterval 7 = .ok (.ldc2_w 105, 3) := by decide +kernel
theorem dX3_readInterval_10 : decode cX3_readInterval 10 = .ok (.aload_n 0, 1) := by decide +kernel
theorem dX3_readInterval_11 : decode cX3_readInterval 11 = .ok (.getfield 57, 3) := by decide +kernel
theorem dX3_readInterval_14 : decode cX3_readInterval 14 = .ok (.lmul, 1) := by decide +kernel
theorem dX3_readInterval_15 : decode cX3_readInterval 15 = .ok (.invokevirtual 107, 3) := by decide +kernel
theorem dX3_readInterval_18 : decode cX3_readInterval 18 = .ok (.putfield 111, 3) := by decide +kernel
theorem dX3_readInterval_21 : decode cX3_readInterval 21 = .ok (.aload_n 0, 1) := by decide +kernel
theorem dX3_readInterval_22 : decode cX3_readInterval 22 = .ok (.aload_n 0, 1) := by decide +kernel
theorem dX3_readInterval_23 : decode cX3_readInterval 23 = .ok (.getfield 111, 3) := by decide +kernel
theorem dX3_readInterval_26 : decode cX3_readInterval 26 = .ok (.putfield 114, 3) := by decide +kernel
theorem dX3_readInterval_29 : decode cX3_readInterval 29 = .ok (.aload_n 0, 1) := by decide +kernel
theorem dX3_readInterval_30 : decode cX3_readInterval 30 = .ok (.getfield 91, 3) := by decide +kernel
theorem dX3_readInterval_33 : decode cX3_readInterval 33 = .ok (.ifCond .eq 111, 3) := by decide +kernel
theorem dX3_readInterval_36 : decode cX3_readInterval 36 = .ok (.aload_n 0, 1) := by decide +kernel
theorem dX3_readInterval_37 : decode cX3_readInterval 37 = .ok (.getfield 82, 3) := by decide +kernel
theorem dX3_readInterval_40 : decode cX3_readInterval 40 = .ok (.aload_n 0, 1) := by decide +kernel
theorem dX3_readInterval_41 : decode cX3_readInterval 41 = .ok (.getfield 79, 3) := by decide +kernel
theorem dX3_readInterval_44 : decode cX3_readInterval 44 = .ok (.if_icmp .ge 100, 3) := by decide +kernel
theorem dX3_readInterval_47 : decode cX3_readInterval 47 = .ok (.iconst 0, 1) := by decide +kernel
theorem dX3_readInterval_48 : decode cX3_readInterval 48 = .ok (.istore_n 1, 1) := by decide +kernel
theorem dX3_readInterval_49 : decode cX3_readInterval 49 = .ok (.iload_n 1, 1) := by decide +kernel
theorem dX3_readInterval_50 : decode cX3_readInterval 50 = .ok (.iconst 2, 1) := by decide +kernel
theorem dX3_readInterval_51 : decode cX3_readInterval 51 = .ok (.if_icmp .ge 47, 3) := by decide +kernel
theorem dX3_readInterval_54 : decode cX3_readInterval 54 = .ok (.aload_n 0, 1) := by decide +kernel
theorem dX3_readInterval_55 : decode cX3_readInterval 55 = .ok (.getfield 91, 3) := by decide +kernel
theorem dX3_readInterval_58 : decode cX3_readInterval 58 = .ok (.ifCond .eq 40, 3) := by decide +kernel
theorem dX3_readInterval_61 : decode cX3_readInterval 61 = .ok (.aload_n 0, 1) := by decide +kernel
theorem dX3_readInterval_62 : decode cX3_readInterval 62 = .ok (.aload_n 0, 1) := by decide +kernel
theorem dX3_readInterval_63 : decode cX3_readInterval 63 = .ok (.bipush 46, 2) := by decide +kernel
theorem dX3_readInterval_65 : decode cX3_readInterval 65 = .ok (.invokevirtual 95, 3) := by decide +kernel
theorem dX3_readInterval_68 : decode cX3_readInterval 68 = .ok (.putfield 91, 3) := by decide +kernel
theorem dX3_readInterval_71 : decode cX3_readInterval 71 = .ok (.aload_n 0, 1) := by decide +kernel
theorem dX3_readInterval_72 : decode cX3_readInterval 72 = .ok (.dup, 1) := by decide +kernel
theorem dX3_readInterval_73 : decode cX3_readInterval 73 = .ok (.getfield 82, 3) := by decide +kernel
theorem dX3_readInterval_76 : decode cX3_readInterval 76 = .ok (.aload_n 0, 1) := by decide +kernel
theorem dX3_readInterval_77 : decode cX3_readInterval 77 = .ok (.getfield 91, 3) := by decide +kernel
theorem dX3_readInterval_80 : decode cX3_readInterval 80 = .ok (.ifCond .eq 7, 3) := by decide +kernel
theorem dX3_readInterval_83 : decode cX3_readInterval 83 = .ok (.iconst 1, 1) := by decide +kernel
theorem dX3_readInterval_84 : decode cX3_readInterval 84 = .ok (.goto 4, 3) := by decide +kernel
theorem dX3_readInterval_87 : decode cX3_readInterval 87 = .ok (.iconst 0, 1) := by decide +kernel
theorem dX3_readInterval_88 : decode cX3_readInterval 88 = .ok (.iadd, 1) := by decide +kernel
theorem dX3_readInterval_89 : decode cX3_readInterval 89 = .ok (.putfield 82, 3) := by decide +kernel
theorem dX3_readInterval_92 : decode cX3_readInterval 92 = .ok (.iinc 1 1, 3) := by decide +kernel
theorem dX3_readInterval_95 : decode cX3_readInterval 95 = .ok (.goto (-46), 3) := by decide +kernel
theorem dX3_readInterval_98 : decode cX3_readInterval 98 = .ok (.aload_n 0, 1) := by decide +kernel
theorem dX3_readInterval_99 : decode cX3_readInterval 99 = .ok (.getfield 91, 3) := by decide +kernel
theorem dX3_readInterval_102 : decode cX3_readInterval 102 = .ok (.ifCond .eq 15, 3) := by decide +kernel
theorem dX3_readInterval_105 : decode cX3_readInterval 105 = .ok (.aload_n 0, 1) := by decide +kernel
theorem dX3_readInterval_106 : decode cX3_readInterval 106 = .ok (.aload_n 0, 1) := by decide +kernel
theorem dX3_readInterval_107 : decode cX3_readInterval 107 = .ok (.aload_n 0, 1) := by decide +kernel
theorem dX3_readInterval_108 : decode cX3_readInterval 108 = .ok (.getfield 111, 3) := by decide +kernel
theorem dX3_readInterval_111 : decode cX3_readInterval 111 = .ok (.invokevirtual 107, 3) := by decide +kernel
theorem dX3_readInterval_114 : decode cX3_readInterval 114 = .ok (.putfield 114, 3) := by decide +kernel
theorem dX3_readInterval_117 : decode cX3_readInterval 117 = .ok (.aload_n 0, 1) := by decide +kernel
theorem dX3_readInterval_118 : decode cX3_readInterval 118 = .ok (.getfield 91, 3) := by decide +kernel
theorem dX3_readInterval_121 : decode cX3_readInterval 121 = .ok (.ifCond .eq 23, 3) := by decide +kernel
theorem dX3_readInterval_124 : decode cX3_readInterval 124 = .ok (.aload_n 0, 1) := by decide +kernel
theorem dX3_readInterval_125 : decode cX3_readInterval 125 = .ok (.aload_n 0, 1) := by decide +kernel
theorem dX3_readInterval_126 : decode cX3_readInterval 126 = .ok (.getfield 82, 3) := by decide +kernel
theorem dX3_readInterval_129 : decode cX3_readInterval 129 = .ok (.aload_n 0, 1) := by decide +kernel
theorem dX3_readInterval_130 : decode cX3_readInterval 130 = .ok (.getfield 79, 3) := by decide +kernel
theorem dX3_readInterval_133 : decode cX3_readInterval 133 = .ok (.if_icmp .ne 7, 3) := by decide +kernel
theorem dX3_readInterval_136 : decode cX3_readInterval 136 = .ok (.iconst 1, 1) := by decide +kernel
theorem dX3_readInterval_137 : decode cX3_readInterval 137 = .ok (.goto 4, 3) := by decide +kernel
theorem dX3_readInterval_140 : decode cX3_readInterval 140 = .ok (.iconst 0, 1) := by decide +kernel
theorem dX3_readInterval_141 : decode cX3_readInterval 141 = .ok (.putfield 91, 3) := by decide +kernel
theorem dX3_readInterval_144 : decode cX3_readInterval 144 = .ok (.aload_n 0, 1) := by decide +kernel
theorem dX3_readInterval_145 : decode cX3_readInterval 145 = .ok (.getfield 91, 3) := by decide +kernel
theorem dX3_readInterval_148 : decode cX3_readInterval 148 = .ok (.ifCond .eq 7, 3) := by decide +kernel
theorem dX3_readInterval_151 : decode cX3_readInterval 151 = .ok (.iconst 0, 1) := by decide +kernel
theorem dX3_readInterval_152 : decode cX3_readInterval 152 = .ok (.goto 10, 3) := by decide +kernel
theorem dX3_readInterval_155 : decode cX3_readInterval 155 = .ok (.bipush (-100), 2) := by decide +kernel
theorem dX3_readInterval_157 : decode cX3_readInterval 157 = .ok (.aload_n 0, 1) := by decide +kernel
theorem dX3_readInterval_158 : decode cX3_readInterval 158 = .ok (.getfield 82, 3) := by decide +kernel
theorem dX3_readInterval_161 : decode cX3_readInterval 161 = .ok (.isub, 1) := by decide +kernel
theorem dX3_readInterval_162 : decode cX3_readInterval 162 = .ok (.ireturn, 1) := by decide +kernel
theorem dX3_readInput_0 : decode cX3_readInput 0 = .ok (.aload_n 0, 1) := by decide +kernel
theorem dX3_readInput_1 : decode cX3_readInput 1 = .ok (.iload_n 1, 1) := by decide +kernel
theorem dX3_readInput_2 : decode cX3_readInput 2 = .ok (.invokevirtual 117, 3) := by decide +kernel
theorem dX3_readInput_5 : decode cX3_readInput 5 = .ok (.ifCond .eq 7, 3) := by decide +kernel
theorem dX3_readInput_8 : decode cX3_readInput 8 = .ok (.sipush (-1001), 3) := by decide +kernel
theorem dX3_readInput_11 : decode cX3_readInput 11 = .ok (.ireturn, 1) := by decide +kernel
theorem dX3_readInput_12 : decode cX3_readInput 12 = .ok (.aload_n 0, 1) := by decide +kernel
theorem dX3_readInput_13 : decode cX3_readInput 13 = .ok (.getfield 64, 3) := by decide +kernel
theorem dX3_readInput_16 : decode cX3_readInput 16 = .ok (.ifCond .le 7, 3) := by decide +kernel
theorem dX3_readInput_19 : decode cX3_readInput 19 = .ok (.sipush (-1003), 3) := by decide +kernel
theorem dX3_readInput_22 : decode cX3_readInput 22 = .ok (.ireturn, 1) := by decide +kernel
theorem dX3_readInput_23 : decode cX3_readInput 23 = .ok (.aload_n 0, 1) := by decide +kernel
theorem dX3_readInput_24 : decode cX3_readInput 24 = .ok (.invokevirtual 121, 3) := by decide +kernel
end
section
theorem dX3_readInput_27 : decode cX3_readInput 27 = .ok (.istore_n 2, 1) := by decide +kernel
theorem dX3_readInput_28 : decode cX3_readInput 28 = .ok (.iload_n 2, 1) := by decide +kernel
theorem dX3_readInput_29 : decode cX3_readInput 29 = .ok (.ifCond .ge 5, 3) := by decide +kernel
theorem dX3_readInput_32 : decode cX3_readInput 32 = .ok (.iload_n 2, 1) := by decide +kernel
theorem dX3_readInput_33 : decode cX3_readInput 33 = .ok (.ireturn, 1) := by decide +kernel
theorem dX3_readInput_34 : decode cX3_readInput 34 = .ok (.aload_n 0, 1) := by decide +kernel
theorem dX3_readInput_35 : decode cX3_readInput 35 = .ok (.getfield 7, 3) := by decide +kernel
theorem dX3_readInput_38 : decode cX3_readInput 38 = .ok (.iconst 2, 1) := by decide +kernel
theorem dX3_readInput_39 : decode cX3_readInput 39 = .ok (.iload_n 1, 1) := by decide +kernel
theorem dX3_readInput_40 : decode cX3_readInput 40 = .ok (.imul, 1) := by decide +kernel
theorem dX3_readInput_41 : decode cX3_readInput 41 = .ok (.aload_n 0, 1) := by decide +kernel
theorem dX3_readInput_42 : decode cX3_readInput 42 = .ok (.getfield 111, 3) := by decide +kernel
theorem dX3_readInput_45 : decode cX3_readInput 45 = .ok (.lastore, 1) := by decide +kernel
theorem dX3_readInput_46 : decode cX3_readInput 46 = .ok (.aload_n 0, 1) := by decide +kernel
theorem dX3_readInput_47 : decode cX3_readInput 47 = .ok (.getfield 7, 3) := by decide +kernel
theorem dX3_readInput_50 : decode cX3_readInput 50 = .ok (.iconst 2, 1) := by decide +kernel
theorem dX3_readInput_51 : decode cX3_readInput 51 = .ok (.iload_n 1, 1) := by decide +kernel
theorem dX3_readInput_52 : decode cX3_readInput 52 = .ok (.imul, 1) := by decide +kernel
theorem dX3_readInput_53 : decode cX3_readInput 53 = .ok (.iconst 1, 1) := by decide +kernel
theorem dX3_readInput_54 : decode cX3_readInput 54 = .ok (.iadd, 1) := by decide +kernel
theorem dX3_readInput_55 : decode cX3_readInput 55 = .ok (.aload_n 0, 1) := by decide +kernel
theorem dX3_readInput_56 : decode cX3_readInput 56 = .ok (.getfield 114, 3) := by decide +kernel
theorem dX3_readInput_59 : decode cX3_readInput 59 = .ok (.lastore, 1) := by decide +kernel
theorem dX3_readInput_60 : decode cX3_readInput 60 = .ok (.aload_n 0, 1) := by decide +kernel
theorem dX3_readInput_61 : decode cX3_readInput 61 = .ok (.getfield 29, 3) := by decide +kernel
theorem dX3_readInput_64 : decode cX3_readInput 64 = .ok (.iconst 2, 1) := by decide +kernel
theorem dX3_readInput_65 : decode cX3_readInput 65 = .ok (.iload_n 1, 1) := by decide +kernel
theorem dX3_readInput_66 : decode cX3_readInput 66 = .ok (.imul, 1) := by decide +kernel
theorem dX3_readInput_67 : decode cX3_readInput 67 = .ok (.aload_n 0, 1) := by decide +kernel
theorem dX3_readInput_68 : decode cX3_readInput 68 = .ok (.getfield 111, 3) := by decide +kernel
theorem dX3_readInput_71 : decode cX3_readInput 71 = .ok (.lastore, 1) := by decide +kernel
theorem dX3_readInput_72 : decode cX3_readInput 72 = .ok (.aload_n 0, 1) := by decide +kernel
theorem dX3_readInput_73 : decode cX3_readInput 73 = .ok (.getfield 29, 3) := by decide +kernel
theorem dX3_readInput_76 : decode cX3_readInput 76 = .ok (.iconst 2, 1) := by decide +kernel
theorem dX3_readInput_77 : decode cX3_readInput 77 = .ok (.iload_n 1, 1) := by decide +kernel
theorem dX3_readInput_78 : decode cX3_readInput 78 = .ok (.imul, 1) := by decide +kernel
theorem dX3_readInput_79 : decode cX3_readInput 79 = .ok (.iconst 1, 1) := by decide +kernel
theorem dX3_readInput_80 : decode cX3_readInput 80 = .ok (.iadd, 1) := by decide +kernel
theorem dX3_readInput_81 : decode cX3_readInput 81 = .ok (.aload_n 0, 1) := by decide +kernel
theorem dX3_readInput_82 : decode cX3_readInput 82 = .ok (.getfield 114, 3) := by decide +kernel
theorem dX3_readInput_85 : decode cX3_readInput 85 = .ok (.lastore, 1) := by decide +kernel
theorem dX3_readInput_86 : decode cX3_readInput 86 = .ok (.iconst 1, 1) := by decide +kernel
theorem dX3_readInput_87 : decode cX3_readInput 87 = .ok (.ireturn, 1) := by decide +kernel
theorem dX3_noPair_0 : decode cX3_noPair 0 = .ok (.aload_n 0, 1) := by decide +kernel
theorem dX3_noPair_1 : decode cX3_noPair 1 = .ok (.iload_n 1, 1) := by decide +kernel
theorem dX3_noPair_2 : decode cX3_noPair 2 = .ok (.invokevirtual 117, 3) := by decide +kernel
theorem dX3_noPair_5 : decode cX3_noPair 5 = .ok (.ifCond .ne 16, 3) := by decide +kernel
theorem dX3_noPair_8 : decode cX3_noPair 8 = .ok (.aload_n 0, 1) := by decide +kernel
theorem dX3_noPair_9 : decode cX3_noPair 9 = .ok (.iload_n 2, 1) := by decide +kernel
theorem dX3_noPair_10 : decode cX3_noPair 10 = .ok (.invokevirtual 117, 3) := by decide +kernel
theorem dX3_noPair_13 : decode cX3_noPair 13 = .ok (.ifCond .ne 8, 3) := by decide +kernel
theorem dX3_noPair_16 : decode cX3_noPair 16 = .ok (.iload_n 1, 1) := by decide +kernel
theorem dX3_noPair_17 : decode cX3_noPair 17 = .ok (.iload_n 2, 1) := by decide +kernel
theorem dX3_noPair_18 : decode cX3_noPair 18 = .ok (.if_icmp .ne 7, 3) := by decide +kernel
theorem dX3_noPair_21 : decode cX3_noPair 21 = .ok (.iconst 1, 1) := by decide +kernel
theorem dX3_noPair_22 : decode cX3_noPair 22 = .ok (.goto 4, 3) := by decide +kernel
theorem dX3_noPair_25 : decode cX3_noPair 25 = .ok (.iconst 0, 1) := by decide +kernel
theorem dX3_noPair_26 : decode cX3_noPair 26 = .ok (.ireturn, 1) := by decide +kernel
theorem dX3_readLie_0 : decode cX3_readLie 0 = .ok (.aload_n 0, 1) := by decide +kernel
theorem dX3_readLie_1 : decode cX3_readLie 1 = .ok (.iload_n 1, 1) := by decide +kernel
theorem dX3_readLie_2 : decode cX3_readLie 2 = .ok (.iload_n 2, 1) := by decide +kernel
theorem dX3_readLie_3 : decode cX3_readLie 3 = .ok (.invokevirtual 125, 3) := by decide +kernel
theorem dX3_readLie_6 : decode cX3_readLie 6 = .ok (.ifCond .eq 7, 3) := by decide +kernel
theorem dX3_readLie_9 : decode cX3_readLie 9 = .ok (.sipush (-1001), 3) := by decide +kernel
theorem dX3_readLie_12 : decode cX3_readLie 12 = .ok (.ireturn, 1) := by decide +kernel
theorem dX3_readLie_13 : decode cX3_readLie 13 = .ok (.aload_n 0, 1) := by decide +kernel
theorem dX3_readLie_14 : decode cX3_readLie 14 = .ok (.invokevirtual 121, 3) := by decide +kernel
theorem dX3_readLie_17 : decode cX3_readLie 17 = .ok (.istore_n 3, 1) := by decide +kernel
theorem dX3_readLie_18 : decode cX3_readLie 18 = .ok (.iload_n 3, 1) := by decide +kernel
theorem dX3_readLie_19 : decode cX3_readLie 19 = .ok (.ifCond .ge 5, 3) := by decide +kernel
theorem dX3_readLie_22 : decode cX3_readLie 22 = .ok (.iload_n 3, 1) := by decide +kernel
theorem dX3_readLie_23 : decode cX3_readLie 23 = .ok (.ireturn, 1) := by decide +kernel
theorem dX3_readLie_24 : decode cX3_readLie 24 = .ok (.aload_n 0, 1) := by decide +kernel
theorem dX3_readLie_25 : decode cX3_readLie 25 = .ok (.getfield 20, 3) := by decide +kernel
theorem dX3_readLie_28 : decode cX3_readLie 28 = .ok (.bipush 10, 2) := by decide +kernel
theorem dX3_readLie_30 : decode cX3_readLie 30 = .ok (.iload_n 1, 1) := by decide +kernel
theorem dX3_readLie_31 : decode cX3_readLie 31 = .ok (.imul, 1) := by decide +kernel
theorem dX3_readLie_32 : decode cX3_readLie 32 = .ok (.iload_n 2, 1) := by decide +kernel
theorem dX3_readLie_33 : decode cX3_readLie 33 = .ok (.iadd, 1) := by decide +kernel
theorem dX3_readLie_34 : decode cX3_readLie 34 = .ok (.aload_n 0, 1) := by decide +kernel
theorem dX3_readLie_35 : decode cX3_readLie 35 = .ok (.getfield 111, 3) := by decide +kernel
theorem dX3_readLie_38 : decode cX3_readLie 38 = .ok (.lastore, 1) := by decide +kernel
theorem dX3_readLie_39 : decode cX3_readLie 39 = .ok (.aload_n 0, 1) := by decide +kernel
theorem dX3_readLie_40 : decode cX3_readLie 40 = .ok (.getfield 23, 3) := by decide +kernel
theorem dX3_readLie_43 : decode cX3_readLie 43 = .ok (.bipush 10, 2) := by decide +kernel
theorem dX3_readLie_45 : decode cX3_readLie 45 = .ok (.iload_n 1, 1) := by decide +kernel
theorem dX3_readLie_46 : decode cX3_readLie 46 = .ok (.imul, 1) := by decide +kernel
theorem dX3_readLie_47 : decode cX3_readLie 47 = .ok (.iload_n 2, 1) := by decide +kernel
theorem dX3_readLie_48 : decode cX3_readLie 48 = .ok (.iadd, 1) := by decide +kernel
theorem dX3_readLie_49 : decode cX3_readLie 49 = .ok (.aload_n 0, 1) := by decide +kernel
theorem dX3_readLie_50 : decode cX3_readLie 50 = .ok (.getfield 114, 3) := by decide +kernel
theorem dX3_readLie_53 : decode cX3_readLie 53 = .ok (.lastore, 1) := by decide +kernel
theorem dX3_readLie_54 : decode cX3_readLie 54 = .ok (.iconst 1, 1) := by decide +kernel
theorem dX3_readLie_55 : decode cX3_readLie 55 = .ok (.ireturn, 1) := by decide +kernel
theorem dX3_setFaulty_0 : decode cX3_setFaulty 0 = .ok (.aload_n 0, 1) := by decide +kernel
theorem dX3_setFaulty_1 : decode cX3_setFaulty 1 = .ok (.iload_n 1, 1) := by decide +kernel
theorem dX3_setFaulty_2 : decode cX3_setFaulty 2 = .ok (.invokevirtual 117, 3) := by decide +kernel
theorem dX3_setFaulty_5 : decode cX3_setFaulty 5 = .ok (.ifCond .eq 7, 3) := by decide +kernel
theorem dX3_setFaulty_8 : decode cX3_setFaulty 8 = .ok (.sipush (-1001), 3) := by decide +kernel
theorem dX3_setFaulty_11 : decode cX3_setFaulty 11 = .ok (.ireturn, 1) := by decide +kernel
theorem dX3_setFaulty_12 : decode cX3_setFaulty 12 = .ok (.iload_n 2, 1) := by decide +kernel
theorem dX3_setFaulty_13 : decode cX3_setFaulty 13 = .ok (.i2l, 1) := by decide +kernel
theorem dX3_setFaulty_14 : decode cX3_setFaulty 14 = .ok (.lconst 1, 1) := by decide +kernel
theorem dX3_setFaulty_15 : decode cX3_setFaulty 15 = .ok (.ldc2_w 129, 3) := by decide +kernel
theorem dX3_setFaulty_18 : decode cX3_setFaulty 18 = .ok (.invokestatic 71, 3) := by decide +kernel
theorem dX3_setFaulty_21 : decode cX3_setFaulty 21 = .ok (.ifCond .eq 46, 3) := by decide +kernel
theorem dX3_setFaulty_24 : decode cX3_setFaulty 24 = .ok (.iload_n 3, 1) := by decide +kernel
theorem dX3_setFaulty_25 : decode cX3_setFaulty 25 = .ok (.i2l, 1) := by decide +kernel
theorem dX3_setFaulty_26 : decode cX3_setFaulty 26 = .ok (.ldc2_w 105, 3) := by decide +kernel
theorem dX3_setFaulty_29 : decode cX3_setFaulty 29 = .ok (.ldc2_w 103, 3) := by decide +kernel
theorem dX3_setFaulty_32 : decode cX3_setFaulty 32 = .ok (.invokestatic 71, 3) := by decide +kernel
theorem dX3_setFaulty_35 : decode cX3_setFaulty 35 = .ok (.ifCond .eq 32, 3) := by decide +kernel
theorem dX3_setFaulty_38 : decode cX3_setFaulty 38 = .ok (.iload 4, 2) := by decide +kernel
theorem dX3_setFaulty_40 : decode cX3_setFaulty 40 = .ok (.i2l, 1) := by decide +kernel
theorem dX3_setFaulty_41 : decode cX3_setFaulty 41 = .ok (.lconst 1, 1) := by decide +kernel
theorem dX3_setFaulty_42 : decode cX3_setFaulty 42 = .ok (.ldc2_w 103, 3) := by decide +kernel
theorem dX3_setFaulty_45 : decode cX3_setFaulty 45 = .ok (.invokestatic 71, 3) := by decide +kernel
theorem dX3_setFaulty_48 : decode cX3_setFaulty 48 = .ok (.ifCond .eq 19, 3) := by decide +kernel
theorem dX3_setFaulty_51 : decode cX3_setFaulty 51 = .ok (.iload_n 3, 1) := by decide +kernel
theorem dX3_setFaulty_52 : decode cX3_setFaulty 52 = .ok (.i2l, 1) := by decide +kernel
theorem dX3_setFaulty_53 : decode cX3_setFaulty 53 = .ok (.aload_n 0, 1) := by decide +kernel
theorem dX3_setFaulty_54 : decode cX3_setFaulty 54 = .ok (.getfield 57, 3) := by decide +kernel
theorem dX3_setFaulty_57 : decode cX3_setFaulty 57 = .ok (.lmul, 1) := by decide +kernel
theorem dX3_setFaulty_58 : decode cX3_setFaulty 58 = .ok (.iload 4, 2) := by decide +kernel
theorem dX3_setFaulty_60 : decode cX3_setFaulty 60 = .ok (.i2l, 1) := by decide +kernel
theorem dX3_setFaulty_61 : decode cX3_setFaulty 61 = .ok (.lrem, 1) := by decide +kernel
theorem dX3_setFaulty_62 : decode cX3_setFaulty 62 = .ok (.lconst 0, 1) := by decide +kernel
theorem dX3_setFaulty_63 : decode cX3_setFaulty 63 = .ok (.lcmp, 1) := by decide +kernel
theorem dX3_setFaulty_64 : decode cX3_setFaulty 64 = .ok (.ifCond .eq 7, 3) := by decide +kernel
theorem dX3_setFaulty_67 : decode cX3_setFaulty 67 = .ok (.sipush (-1002), 3) := by decide +kernel
theorem dX3_setFaulty_70 : decode cX3_setFaulty 70 = .ok (.ireturn, 1) := by decide +kernel
theorem dX3_setFaulty_71 : decode cX3_setFaulty 71 = .ok (.aload_n 0, 1) := by decide +kernel
theorem dX3_setFaulty_72 : decode cX3_setFaulty 72 = .ok (.getfield 64, 3) := by decide +kernel
theorem dX3_setFaulty_75 : decode cX3_setFaulty 75 = .ok (.ifCond .le 7, 3) := by decide +kernel
theorem dX3_setFaulty_78 : decode cX3_setFaulty 78 = .ok (.sipush (-1003), 3) := by decide +kernel
theorem dX3_setFaulty_81 : decode cX3_setFaulty 81 = .ok (.ireturn, 1) := by decide +kernel
theorem dX3_setFaulty_82 : decode cX3_setFaulty 82 = .ok (.aload_n 0, 1) := by decide +kernel
theorem dX3_setFaulty_83 : decode cX3_setFaulty 83 = .ok (.getfield 13, 3) := by decide +kernel
theorem dX3_setFaulty_86 : decode cX3_setFaulty 86 = .ok (.iload_n 1, 1) := by decide +kernel
theorem dX3_setFaulty_87 : decode cX3_setFaulty 87 = .ok (.iaload, 1) := by decide +kernel
theorem dX3_setFaulty_88 : decode cX3_setFaulty 88 = .ok (.istore 5, 2) := by decide +kernel
theorem dX3_setFaulty_90 : decode cX3_setFaulty 90 = .ok (.aload_n 0, 1) := by decide +kernel
theorem dX3_setFaulty_91 : decode cX3_setFaulty 91 = .ok (.getfield 13, 3) := by decide +kernel
theorem dX3_setFaulty_94 : decode cX3_setFaulty 94 = .ok (.iload_n 1, 1) := by decide +kernel
theorem dX3_setFaulty_95 : decode cX3_setFaulty 95 = .ok (.iload_n 2, 1) := by decide +kernel
theorem dX3_setFaulty_96 : decode cX3_setFaulty 96 = .ok (.iastore, 1) := by decide +kernel
theorem dX3_setFaulty_97 : decode cX3_setFaulty 97 = .ok (.aload_n 0, 1) := by decide +kernel
theorem dX3_setFaulty_98 : decode cX3_setFaulty 98 = .ok (.getfield 17, 3) := by decide +kernel
theorem dX3_setFaulty_101 : decode cX3_setFaulty 101 = .ok (.iload_n 1, 1) := by decide +kernel
theorem dX3_setFaulty_102 : decode cX3_setFaulty 102 = .ok (.iload_n 3, 1) := by decide +kernel
theorem dX3_setFaulty_103 : decode cX3_setFaulty 103 = .ok (.i2l, 1) := by decide +kernel
theorem dX3_setFaulty_104 : decode cX3_setFaulty 104 = .ok (.aload_n 0, 1) := by decide +kernel
theorem dX3_setFaulty_105 : decode cX3_setFaulty 105 = .ok (.getfield 57, 3) := by decide +kernel
theorem dX3_setFaulty_108 : decode cX3_setFaulty 108 = .ok (.lmul, 1) := by decide +kernel
theorem dX3_setFaulty_109 : decode cX3_setFaulty 109 = .ok (.iload 4, 2) := by decide +kernel
theorem dX3_setFaulty_111 : decode cX3_setFaulty 111 = .ok (.i2l, 1) := by decide +kernel
theorem dX3_setFaulty_112 : decode cX3_setFaulty 112 = .ok (.ldiv, 1) := by decide +kernel
theorem dX3_setFaulty_113 : decode cX3_setFaulty 113 = .ok (.lastore, 1) := by decide +kernel
theorem dX3_setFaulty_114 : decode cX3_setFaulty 114 = .ok (.iload 5, 2) := by decide +kernel
theorem dX3_setFaulty_116 : decode cX3_setFaulty 116 = .ok (.ireturn, 1) := by decide +kernel
theorem dX3_setCorrect_0 : decode cX3_setCorrect 0 = .ok (.aload_n 0, 1) := by decide +kernel
theorem dX3_setCorrect_1 : decode cX3_setCorrect 1 = .ok (.iload_n 1, 1) := by decide +kernel
theorem dX3_setCorrect_2 : decode cX3_setCorrect 2 = .ok (.invokevirtual 117, 3) := by decide +kernel
theorem dX3_setCorrect_5 : decode cX3_setCorrect 5 = .ok (.ifCond .eq 7, 3) := by decide +kernel
theorem dX3_setCorrect_8 : decode cX3_setCorrect 8 = .ok (.sipush (-1001), 3) := by decide +kernel
theorem dX3_setCorrect_11 : decode cX3_setCorrect 11 = .ok (.ireturn, 1) := by decide +kernel
theorem dX3_setCorrect_12 : decode cX3_setCorrect 12 = .ok (.aload_n 0, 1) := by decide +kernel
theorem dX3_setCorrect_13 : decode cX3_setCorrect 13 = .ok (.getfield 64, 3) := by decide +kernel
theorem dX3_setCorrect_16 : decode cX3_setCorrect 16 = .ok (.ifCond .le 7, 3) := by decide +kernel
theorem dX3_setCorrect_19 : decode cX3_setCorrect 19 = .ok (.sipush (-1003), 3) := by decide +kernel
theorem dX3_setCorrect_22 : decode cX3_setCorrect 22 = .ok (.ireturn, 1) := by decide +kernel
theorem dX3_setCorrect_23 : decode cX3_setCorrect 23 = .ok (.aload_n 0, 1) := by decide +kernel
theorem dX3_setCorrect_24 : decode cX3_setCorrect 24 = .ok (.getfield 13, 3) := by decide +kernel
theorem dX3_setCorrect_27 : decode cX3_setCorrect 27 = .ok (.iload_n 1, 1) := by decide +kernel
theorem dX3_setCorrect_28 : decode cX3_setCorrect 28 = .ok (.iaload, 1) := by decide +kernel
theorem dX3_setCorrect_29 : decode cX3_setCorrect 29 = .ok (.istore_n 2, 1) := by decide +kernel
theorem dX3_setCorrect_30 : decode cX3_setCorrect 30 = .ok (.aload_n 0, 1) := by decide +kernel
theorem dX3_setCorrect_31 : decode cX3_setCorrect 31 = .ok (.getfield 13, 3) := by decide +kernel
theorem dX3_setCorrect_34 : decode cX3_setCorrect 34 = .ok (.iload_n 1, 1) := by decide +kernel
theorem dX3_setCorrect_35 : decode cX3_setCorrect 35 = .ok (.iconst 0, 1) := by decide +kernel
theorem dX3_setCorrect_36 : decode cX3_setCorrect 36 = .ok (.iastore, 1) := by decide +kernel
theorem dX3_setCorrect_37 : decode cX3_setCorrect 37 = .ok (.iload_n 2, 1) := by decide +kernel
theorem dX3_setCorrect_38 : decode cX3_setCorrect 38 = .ok (.ireturn, 1) := by decide +kernel
theorem dX3_setLink_0 : decode cX3_setLink 0 = .ok (.aload_n 0, 1) := by decide +kernel
theorem dX3_setLink_1 : decode cX3_setLink 1 = .ok (.iload_n 1, 1) := by decide +kernel
theorem dX3_setLink_2 : decode cX3_setLink 2 = .ok (.iload_n 2, 1) := by decide +kernel
theorem dX3_setLink_3 : decode cX3_setLink 3 = .ok (.invokevirtual 125, 3) := by decide +kernel
theorem dX3_setLink_6 : decode cX3_setLink 6 = .ok (.ifCond .eq 7, 3) := by decide +kernel
theorem dX3_setLink_9 : decode cX3_setLink 9 = .ok (.sipush (-1001), 3) := by decide +kernel
theorem dX3_setLink_12 : decode cX3_setLink 12 = .ok (.ireturn, 1) := by decide +kernel
theorem dX3_setLink_13 : decode cX3_setLink 13 = .ok (.iload_n 3, 1) := by decide +kernel
theorem dX3_setLink_14 : decode cX3_setLink 14 = .ok (.i2l, 1) := by decide +kernel
theorem dX3_setLink_15 : decode cX3_setLink 15 = .ok (.ldc2_w 131, 3) := by decide +kernel
theorem dX3_setLink_18 : decode cX3_setLink 18 = .ok (.ldc2_w 75, 3) := by decide +kernel
theorem dX3_setLink_21 : decode cX3_setLink 21 = .ok (.invokestatic 71, 3) := by decide +kernel
theorem dX3_setLink_24 : decode cX3_setLink 24 = .ok (.ifCond .ne 7, 3) := by decide +kernel
theorem dX3_setLink_27 : decode cX3_setLink 27 = .ok (.sipush (-1002), 3) := by decide +kernel
theorem dX3_setLink_30 : decode cX3_setLink 30 = .ok (.ireturn, 1) := by decide +kernel
theorem dX3_setLink_31 : decode cX3_setLink 31 = .ok (.aload_n 0, 1) := by decide +kernel
theorem dX3_setLink_32 : decode cX3_setLink 32 = .ok (.getfield 26, 3) := by decide +kernel
theorem dX3_setLink_35 : decode cX3_setLink 35 = .ok (.bipush 10, 2) := by decide +kernel
theorem dX3_setLink_37 : decode cX3_setLink 37 = .ok (.iload_n 1, 1) := by decide +kernel
theorem dX3_setLink_38 : decode cX3_setLink 38 = .ok (.imul, 1) := by decide +kernel
theorem dX3_setLink_39 : decode cX3_setLink 39 = .ok (.iload_n 2, 1) := by decide +kernel
theorem dX3_setLink_40 : decode cX3_setLink 40 = .ok (.iadd, 1) := by decide +kernel
theorem dX3_setLink_41 : decode cX3_setLink 41 = .ok (.iaload, 1) := by decide +kernel
theorem dX3_setLink_42 : decode cX3_setLink 42 = .ok (.istore 4, 2) := by decide +kernel
theorem dX3_setLink_44 : decode cX3_setLink 44 = .ok (.aload_n 0, 1) := by decide +kernel
theorem dX3_setLink_45 : decode cX3_setLink 45 = .ok (.getfield 26, 3) := by decide +kernel
theorem dX3_setLink_48 : decode cX3_setLink 48 = .ok (.bipush 10, 2) := by decide +kernel
theorem dX3_setLink_50 : decode cX3_setLink 50 = .ok (.iload_n 1, 1) := by decide +kernel
theorem dX3_setLink_51 : decode cX3_setLink 51 = .ok (.imul, 1) := by decide +kernel
theorem dX3_setLink_52 : decode cX3_setLink 52 = .ok (.iload_n 2, 1) := by decide +kernel
theorem dX3_setLink_53 : decode cX3_setLink 53 = .ok (.iadd, 1) := by decide +kernel
theorem dX3_setLink_54 : decode cX3_setLink 54 = .ok (.iload_n 3, 1) := by decide +kernel
theorem dX3_setLink_55 : decode cX3_setLink 55 = .ok (.iastore, 1) := by decide +kernel
theorem dX3_setLink_56 : decode cX3_setLink 56 = .ok (.iload 4, 2) := by decide +kernel
theorem dX3_setLink_58 : decode cX3_setLink 58 = .ok (.ireturn, 1) := by decide +kernel
theorem dX3_setRule_0 : decode cX3_setRule 0 = .ok (.iload_n 1, 1) := by decide +kernel
theorem dX3_setRule_1 : decode cX3_setRule 1 = .ok (.i2l, 1) := by decide +kernel
theorem dX3_setRule_2 : decode cX3_setRule 2 = .ok (.lconst 0, 1) := by decide +kernel
theorem dX3_setRule_3 : decode cX3_setRule 3 = .ok (.ldc2_w 75, 3) := by decide +kernel
theorem dX3_setRule_6 : decode cX3_setRule 6 = .ok (.invokestatic 71, 3) := by decide +kernel
theorem dX3_setRule_9 : decode cX3_setRule 9 = .ok (.ifCond .ne 7, 3) := by decide +kernel
theorem dX3_setRule_12 : decode cX3_setRule 12 = .ok (.sipush (-1002), 3) := by decide +kernel
theorem dX3_setRule_15 : decode cX3_setRule 15 = .ok (.ireturn, 1) := by decide +kernel
theorem dX3_setRule_16 : decode cX3_setRule 16 = .ok (.aload_n 0, 1) := by decide +kernel
theorem dX3_setRule_17 : decode cX3_setRule 17 = .ok (.getfield 61, 3) := by decide +kernel
theorem dX3_setRule_20 : decode cX3_setRule 20 = .ok (.istore_n 2, 1) := by decide +kernel
theorem dX3_setRule_21 : decode cX3_setRule 21 = .ok (.aload_n 0, 1) := by decide +kernel
theorem dX3_setRule_22 : decode cX3_setRule 22 = .ok (.iload_n 1, 1) := by decide +kernel
theorem dX3_setRule_23 : decode cX3_setRule 23 = .ok (.putfield 61, 3) := by decide +kernel
theorem dX3_setRule_26 : decode cX3_setRule 26 = .ok (.iload_n 2, 1) := by decide +kernel
theorem dX3_setRule_27 : decode cX3_setRule 27 = .ok (.ireturn, 1) := by decide +kernel
theorem dX3_faulty_0 : decode cX3_faulty 0 = .ok (.iconst 0, 1) := by decide +kernel
theorem dX3_faulty_1 : decode cX3_faulty 1 = .ok (.istore_n 1, 1) := by decide +kernel
theorem dX3_faulty_2 : decode cX3_faulty 2 = .ok (.iconst 0, 1) := by decide +kernel
theorem dX3_faulty_3 : decode cX3_faulty 3 = .ok (.istore_n 2, 1) := by decide +kernel
theorem dX3_faulty_4 : decode cX3_faulty 4 = .ok (.iload_n 2, 1) := by decide +kernel
theorem dX3_faulty_5 : decode cX3_faulty 5 = .ok (.aload_n 0, 1) := by decide +kernel
theorem dX3_faulty_6 : decode cX3_faulty 6 = .ok (.getfield 50, 3) := by decide +kernel
theorem dX3_faulty_9 : decode cX3_faulty 9 = .ok (.if_icmp .ge 25, 3) := by decide +kernel
theorem dX3_faulty_12 : decode cX3_faulty 12 = .ok (.iload_n 1, 1) := by decide +kernel
theorem dX3_faulty_13 : decode cX3_faulty 13 = .ok (.aload_n 0, 1) := by decide +kernel
theorem dX3_faulty_14 : decode cX3_faulty 14 = .ok (.iload_n 2, 1) := by decide +kernel
theorem dX3_faulty_15 : decode cX3_faulty 15 = .ok (.invokevirtual 133, 3) := by decide +kernel
theorem dX3_faulty_18 : decode cX3_faulty 18 = .ok (.ifCond .eq 7, 3) := by decide +kernel
theorem dX3_faulty_21 : decode cX3_faulty 21 = .ok (.iconst 0, 1) := by decide +kernel
theorem dX3_faulty_22 : decode cX3_faulty 22 = .ok (.goto 4, 3) := by decide +kernel
theorem dX3_faulty_25 : decode cX3_faulty 25 = .ok (.iconst 1, 1) := by decide +kernel
theorem dX3_faulty_26 : decode cX3_faulty 26 = .ok (.iadd, 1) := by decide +kernel
theorem dX3_faulty_27 : decode cX3_faulty 27 = .ok (.istore_n 1, 1) := by decide +kernel
theorem dX3_faulty_28 : decode cX3_faulty 28 = .ok (.iinc 2 1, 3) := by decide +kernel
theorem dX3_faulty_31 : decode cX3_faulty 31 = .ok (.goto (-27), 3) := by decide +kernel
theorem dX3_faulty_34 : decode cX3_faulty 34 = .ok (.iload_n 1, 1) := by decide +kernel
theorem dX3_faulty_35 : decode cX3_faulty 35 = .ok (.ireturn, 1) := by decide +kernel
theorem dX3_links_0 : decode cX3_links 0 = .ok (.iconst 0, 1) := by decide +kernel
theorem dX3_links_1 : decode cX3_links 1 = .ok (.istore_n 1, 1) := by decide +kernel
theorem dX3_links_2 : decode cX3_links 2 = .ok (.iconst 0, 1) := by decide +kernel
theorem dX3_links_3 : decode cX3_links 3 = .ok (.istore_n 2, 1) := by decide +kernel
theorem dX3_links_4 : decode cX3_links 4 = .ok (.iload_n 2, 1) := by decide +kernel
theorem dX3_links_5 : decode cX3_links 5 = .ok (.aload_n 0, 1) := by decide +kernel
theorem dX3_links_6 : decode cX3_links 6 = .ok (.getfield 50, 3) := by decide +kernel
theorem dX3_links_9 : decode cX3_links 9 = .ok (.if_icmp .ge 52, 3) := by decide +kernel
theorem dX3_links_12 : decode cX3_links 12 = .ok (.iconst 0, 1) := by decide +kernel
theorem dX3_links_13 : decode cX3_links 13 = .ok (.istore_n 3, 1) := by decide +kernel
theorem dX3_links_14 : decode cX3_links 14 = .ok (.iload_n 3, 1) := by decide +kernel
theorem dX3_links_15 : decode cX3_links 15 = .ok (.aload_n 0, 1) := by decide +kernel
theorem dX3_links_16 : decode cX3_links 16 = .ok (.getfield 50, 3) := by decide +kernel
theorem dX3_links_19 : decode cX3_links 19 = .ok (.if_icmp .ge 36, 3) := by decide +kernel
theorem dX3_links_22 : decode cX3_links 22 = .ok (.iload_n 1, 1) := by decide +kernel
theorem dX3_links_23 : decode cX3_links 23 = .ok (.iload_n 2, 1) := by decide +kernel
theorem dX3_links_24 : decode cX3_links 24 = .ok (.iload_n 3, 1) := by decide +kernel
theorem dX3_links_25 : decode cX3_links 25 = .ok (.if_icmp .eq 21, 3) := by decide +kernel
theorem dX3_links_28 : decode cX3_links 28 = .ok (.aload_n 0, 1) := by decide +kernel
theorem dX3_links_29 : decode cX3_links 29 = .ok (.getfield 26, 3) := by decide +kernel
theorem dX3_links_32 : decode cX3_links 32 = .ok (.bipush 10, 2) := by decide +kernel
theorem dX3_links_34 : decode cX3_links 34 = .ok (.iload_n 2, 1) := by decide +kernel
theorem dX3_links_35 : decode cX3_links 35 = .ok (.imul, 1) := by decide +kernel
theorem dX3_links_36 : decode cX3_links 36 = .ok (.iload_n 3, 1) := by decide +kernel
theorem dX3_links_37 : decode cX3_links 37 = .ok (.iadd, 1) := by decide +kernel
theorem dX3_links_38 : decode cX3_links 38 = .ok (.iaload, 1) := by decide +kernel
theorem dX3_links_39 : decode cX3_links 39 = .ok (.ifCond .lt 7, 3) := by decide +kernel
theorem dX3_links_42 : decode cX3_links 42 = .ok (.iconst 1, 1) := by decide +kernel
theorem dX3_links_43 : decode cX3_links 43 = .ok (.goto 4, 3) := by decide +kernel
theorem dX3_links_46 : decode cX3_links 46 = .ok (.iconst 0, 1) := by decide +kernel
theorem dX3_links_47 : decode cX3_links 47 = .ok (.iadd, 1) := by decide +kernel
theorem dX3_links_48 : decode cX3_links 48 = .ok (.istore_n 1, 1) := by decide +kernel
theorem dX3_links_49 : decode cX3_links 49 = .ok (.iinc 3 1, 3) := by decide +kernel
theorem dX3_links_52 : decode cX3_links 52 = .ok (.goto (-38), 3) := by decide +kernel
theorem dX3_links_55 : decode cX3_links 55 = .ok (.iinc 2 1, 3) := by decide +kernel
theorem dX3_links_58 : decode cX3_links 58 = .ok (.goto (-54), 3) := by decide +kernel
theorem dX3_links_61 : decode cX3_links 61 = .ok (.iload_n 1, 1) := by decide +kernel
theorem dX3_links_62 : decode cX3_links 62 = .ok (.ireturn, 1) := by decide +kernel
theorem dX3_end_0 : decode cX3_end 0 = .ok (.aload_n 0, 1) := by decide +kernel
theorem dX3_end_1 : decode cX3_end 1 = .ok (.getfield 29, 3) := by decide +kernel
theorem dX3_end_4 : decode cX3_end 4 = .ok (.bipush 20, 2) := by decide +kernel
theorem dX3_end_6 : decode cX3_end 6 = .ok (.iload_n 2, 1) := by decide +kernel
theorem dX3_end_7 : decode cX3_end 7 = .ok (.imul, 1) := by decide +kernel
theorem dX3_end_8 : decode cX3_end 8 = .ok (.iconst 2, 1) := by decide +kernel
theorem dX3_end_9 : decode cX3_end 9 = .ok (.iload_n 1, 1) := by decide +kernel
theorem dX3_end_10 : decode cX3_end 10 = .ok (.imul, 1) := by decide +kernel
theorem dX3_end_11 : decode cX3_end 11 = .ok (.iadd, 1) := by decide +kernel
theorem dX3_end_12 : decode cX3_end 12 = .ok (.iload_n 3, 1) := by decide +kernel
theorem dX3_end_13 : decode cX3_end 13 = .ok (.iadd, 1) := by decide +kernel
theorem dX3_end_14 : decode cX3_end 14 = .ok (.laload, 1) := by decide +kernel
theorem dX3_end_15 : decode cX3_end 15 = .ok (.lreturn, 1) := by decide +kernel
theorem dX3_areSame_0 : decode cX3_areSame 0 = .ok (.aload_n 0, 1) := by decide +kernel
theorem dX3_areSame_1 : decode cX3_areSame 1 = .ok (.iload_n 1, 1) := by decide +kernel
theorem dX3_areSame_2 : decode cX3_areSame 2 = .ok (.aload_n 0, 1) := by decide +kernel
theorem dX3_areSame_3 : decode cX3_areSame 3 = .ok (.getfield 64, 3) := by decide +kernel
theorem dX3_areSame_6 : decode cX3_areSame 6 = .ok (.iconst 0, 1) := by decide +kernel
theorem dX3_areSame_7 : decode cX3_areSame 7 = .ok (.invokevirtual 136, 3) := by decide +kernel
theorem dX3_areSame_10 : decode cX3_areSame 10 = .ok (.aload_n 0, 1) := by decide +kernel
theorem dX3_areSame_11 : decode cX3_areSame 11 = .ok (.iload_n 2, 1) := by decide +kernel
theorem dX3_areSame_12 : decode cX3_areSame 12 = .ok (.aload_n 0, 1) := by decide +kernel
theorem dX3_areSame_13 : decode cX3_areSame 13 = .ok (.getfield 64, 3) := by decide +kernel
theorem dX3_areSame_16 : decode cX3_areSame 16 = .ok (.iconst 0, 1) := by decide +kernel
theorem dX3_areSame_17 : decode cX3_areSame 17 = .ok (.invokevirtual 136, 3) := by decide +kernel
theorem dX3_areSame_20 : decode cX3_areSame 20 = .ok (.lcmp, 1) := by decide +kernel
theorem dX3_areSame_21 : decode cX3_areSame 21 = .ok (.ifCond .ne 31, 3) := by decide +kernel
theorem dX3_areSame_24 : decode cX3_areSame 24 = .ok (.aload_n 0, 1) := by decide +kernel
theorem dX3_areSame_25 : decode cX3_areSame 25 = .ok (.iload_n 1, 1) := by decide +kernel
theorem dX3_areSame_26 : decode cX3_areSame 26 = .ok (.aload_n 0, 1) := by decide +kernel
theorem dX3_areSame_27 : decode cX3_areSame 27 = .ok (.getfield 64, 3) := by decide +kernel
theorem dX3_areSame_30 : decode cX3_areSame 30 = .ok (.iconst 1, 1) := by decide +kernel
theorem dX3_areSame_31 : decode cX3_areSame 31 = .ok (.invokevirtual 136, 3) := by decide +kernel
theorem dX3_areSame_34 : decode cX3_areSame 34 = .ok (.aload_n 0, 1) := by decide +kernel
theorem dX3_areSame_35 : decode cX3_areSame 35 = .ok (.iload_n 2, 1) := by decide +kernel
theorem dX3_areSame_36 : decode cX3_areSame 36 = .ok (.aload_n 0, 1) := by decide +kernel
theorem dX3_areSame_37 : decode cX3_areSame 37 = .ok (.getfield 64, 3) := by decide +kernel
theorem dX3_areSame_40 : decode cX3_areSame 40 = .ok (.iconst 1, 1) := by decide +kernel
theorem dX3_areSame_41 : decode cX3_areSame 41 = .ok (.invokevirtual 136, 3) := by decide +kernel
theorem dX3_areSame_44 : decode cX3_areSame 44 = .ok (.lcmp, 1) := by decide +kernel
theorem dX3_areSame_45 : decode cX3_areSame 45 = .ok (.ifCond .ne 7, 3) := by decide +kernel
theorem dX3_areSame_48 : decode cX3_areSame 48 = .ok (.iconst 1, 1) := by decide +kernel
theorem dX3_areSame_49 : decode cX3_areSame 49 = .ok (.goto 4, 3) := by decide +kernel
theorem dX3_areSame_52 : decode cX3_areSame 52 = .ok (.iconst 0, 1) := by decide +kernel
theorem dX3_areSame_53 : decode cX3_areSame 53 = .ok (.ireturn, 1) := by decide +kernel
theorem dX3_sameBelow_0 : decode cX3_sameBelow 0 = .ok (.iconst 0, 1) := by decide +kernel
theorem dX3_sameBelow_1 : decode cX3_sameBelow 1 = .ok (.istore_n 3, 1) := by decide +kernel
theorem dX3_sameBelow_2 : decode cX3_sameBelow 2 = .ok (.iconst 0, 1) := by decide +kernel
theorem dX3_sameBelow_3 : decode cX3_sameBelow 3 = .ok (.istore 4, 2) := by decide +kernel
theorem dX3_sameBelow_5 : decode cX3_sameBelow 5 = .ok (.iload 4, 2) := by decide +kernel
theorem dX3_sameBelow_7 : decode cX3_sameBelow 7 = .ok (.iload_n 2, 1) := by decide +kernel
theorem dX3_sameBelow_8 : decode cX3_sameBelow 8 = .ok (.if_icmp .ge 36, 3) := by decide +kernel
theorem dX3_sameBelow_11 : decode cX3_sameBelow 11 = .ok (.iload_n 3, 1) := by decide +kernel
theorem dX3_sameBelow_12 : decode cX3_sameBelow 12 = .ok (.aload_n 0, 1) := by decide +kernel
theorem dX3_sameBelow_13 : decode cX3_sameBelow 13 = .ok (.iload 4, 2) := by decide +kernel
theorem dX3_sameBelow_15 : decode cX3_sameBelow 15 = .ok (.invokevirtual 133, 3) := by decide +kernel
theorem dX3_sameBelow_18 : decode cX3_sameBelow 18 = .ok (.ifCond .eq 17, 3) := by decide +kernel
theorem dX3_sameBelow_21 : decode cX3_sameBelow 21 = .ok (.aload_n 0, 1) := by decide +kernel
theorem dX3_sameBelow_22 : decode cX3_sameBelow 22 = .ok (.iload_n 1, 1) := by decide +kernel
theorem dX3_sameBelow_23 : decode cX3_sameBelow 23 = .ok (.iload 4, 2) := by decide +kernel
theorem dX3_sameBelow_25 : decode cX3_sameBelow 25 = .ok (.invokevirtual 140, 3) := by decide +kernel
theorem dX3_sameBelow_28 : decode cX3_sameBelow 28 = .ok (.ifCond .eq 7, 3) := by decide +kernel
theorem dX3_sameBelow_31 : decode cX3_sameBelow 31 = .ok (.iconst 1, 1) := by decide +kernel
theorem dX3_sameBelow_32 : decode cX3_sameBelow 32 = .ok (.goto 4, 3) := by decide +kernel
theorem dX3_sameBelow_35 : decode cX3_sameBelow 35 = .ok (.iconst 0, 1) := by decide +kernel
theorem dX3_sameBelow_36 : decode cX3_sameBelow 36 = .ok (.iadd, 1) := by decide +kernel
theorem dX3_sameBelow_37 : decode cX3_sameBelow 37 = .ok (.istore_n 3, 1) := by decide +kernel
theorem dX3_sameBelow_38 : decode cX3_sameBelow 38 = .ok (.iinc 4 1, 3) := by decide +kernel
theorem dX3_sameBelow_41 : decode cX3_sameBelow 41 = .ok (.goto (-36), 3) := by decide +kernel
theorem dX3_sameBelow_44 : decode cX3_sameBelow 44 = .ok (.iload_n 3, 1) := by decide +kernel
theorem dX3_sameBelow_45 : decode cX3_sameBelow 45 = .ok (.ireturn, 1) := by decide +kernel
theorem dX3_count_0 : decode cX3_count 0 = .ok (.iconst 0, 1) := by decide +kernel
theorem dX3_count_1 : decode cX3_count 1 = .ok (.istore_n 2, 1) := by decide +kernel
theorem dX3_count_2 : decode cX3_count 2 = .ok (.iconst 0, 1) := by decide +kernel
theorem dX3_count_3 : decode cX3_count 3 = .ok (.istore_n 3, 1) := by decide +kernel
theorem dX3_count_4 : decode cX3_count 4 = .ok (.iload_n 3, 1) := by decide +kernel
theorem dX3_count_5 : decode cX3_count 5 = .ok (.aload_n 0, 1) := by decide +kernel
theorem dX3_count_6 : decode cX3_count 6 = .ok (.getfield 50, 3) := by decide +kernel
theorem dX3_count_9 : decode cX3_count 9 = .ok (.if_icmp .ge 34, 3) := by decide +kernel
theorem dX3_count_12 : decode cX3_count 12 = .ok (.iload_n 2, 1) := by decide +kernel
theorem dX3_count_13 : decode cX3_count 13 = .ok (.aload_n 0, 1) := by decide +kernel
theorem dX3_count_14 : decode cX3_count 14 = .ok (.iload_n 3, 1) := by decide +kernel
theorem dX3_count_15 : decode cX3_count 15 = .ok (.invokevirtual 133, 3) := by decide +kernel
theorem dX3_count_18 : decode cX3_count 18 = .ok (.ifCond .eq 16, 3) := by decide +kernel
theorem dX3_count_21 : decode cX3_count 21 = .ok (.aload_n 0, 1) := by decide +kernel
theorem dX3_count_22 : decode cX3_count 22 = .ok (.iload_n 3, 1) := by decide +kernel
theorem dX3_count_23 : decode cX3_count 23 = .ok (.iload_n 3, 1) := by decide +kernel
theorem dX3_count_24 : decode cX3_count 24 = .ok (.invokevirtual 143, 3) := by decide +kernel
theorem dX3_count_27 : decode cX3_count 27 = .ok (.ifCond .ne 7, 3) := by decide +kernel
theorem dX3_count_30 : decode cX3_count 30 = .ok (.iconst 1, 1) := by decide +kernel
theorem dX3_count_31 : decode cX3_count 31 = .ok (.goto 4, 3) := by decide +kernel
theorem dX3_count_34 : decode cX3_count 34 = .ok (.iconst 0, 1) := by decide +kernel
theorem dX3_count_35 : decode cX3_count 35 = .ok (.iadd, 1) := by decide +kernel
theorem dX3_count_36 : decode cX3_count 36 = .ok (.istore_n 2, 1) := by decide +kernel
theorem dX3_count_37 : decode cX3_count 37 = .ok (.iinc 3 1, 3) := by decide +kernel
theorem dX3_count_40 : decode cX3_count 40 = .ok (.goto (-36), 3) := by decide +kernel
theorem dX3_count_43 : decode cX3_count 43 = .ok (.iload_n 1, 1) := by decide +kernel
theorem dX3_count_44 : decode cX3_count 44 = .ok (.tableswitch 86 0 7 #[48, 53, 58, 64, 69, 74, 79, 84], 48) := by decide +kernel
theorem dX3_count_92 : decode cX3_count 92 = .ok (.aload_n 0, 1) := by decide +kernel
theorem dX3_count_93 : decode cX3_count 93 = .ok (.getfield 50, 3) := by decide +kernel
theorem dX3_count_96 : decode cX3_count 96 = .ok (.ireturn, 1) := by decide +kernel
theorem dX3_count_97 : decode cX3_count 97 = .ok (.aload_n 0, 1) := by decide +kernel
theorem dX3_count_98 : decode cX3_count 98 = .ok (.getfield 54, 3) := by decide +kernel
theorem dX3_count_101 : decode cX3_count 101 = .ok (.ireturn, 1) := by decide +kernel
theorem dX3_count_102 : decode cX3_count 102 = .ok (.aload_n 0, 1) := by decide +kernel
theorem dX3_count_103 : decode cX3_count 103 = .ok (.getfield 57, 3) := by decide +kernel
theorem dX3_count_106 : decode cX3_count 106 = .ok (.l2i, 1) := by decide +kernel
theorem dX3_count_107 : decode cX3_count 107 = .ok (.ireturn, 1) := by decide +kernel
theorem dX3_count_108 : decode cX3_count 108 = .ok (.aload_n 0, 1) := by decide +kernel
theorem dX3_count_109 : decode cX3_count 109 = .ok (.getfield 64, 3) := by decide +kernel
theorem dX3_count_112 : decode cX3_count 112 = .ok (.ireturn, 1) := by decide +kernel
theorem dX3_count_113 : decode cX3_count 113 = .ok (.aload_n 0, 1) := by decide +kernel
theorem dX3_count_114 : decode cX3_count 114 = .ok (.invokevirtual 147, 3) := by decide +kernel
theorem dX3_count_117 : decode cX3_count 117 = .ok (.ireturn, 1) := by decide +kernel
theorem dX3_count_118 : decode cX3_count 118 = .ok (.aload_n 0, 1) := by decide +kernel
theorem dX3_count_119 : decode cX3_count 119 = .ok (.getfield 61, 3) := by decide +kernel
theorem dX3_count_122 : decode cX3_count 122 = .ok (.ireturn, 1) := by decide +kernel
theorem dX3_count_123 : decode cX3_count 123 = .ok (.aload_n 0, 1) := by decide +kernel
theorem dX3_count_124 : decode cX3_count 124 = .ok (.invokevirtual 150, 3) := by decide +kernel
theorem dX3_count_127 : decode cX3_count 127 = .ok (.ireturn, 1) := by decide +kernel
theorem dX3_count_128 : decode cX3_count 128 = .ok (.iload_n 2, 1) := by decide +kernel
theorem dX3_count_129 : decode cX3_count 129 = .ok (.ireturn, 1) := by decide +kernel
theorem dX3_count_130 : decode cX3_count 130 = .ok (.sipush (-1002), 3) := by decide +kernel
theorem dX3_count_133 : decode cX3_count 133 = .ok (.ireturn, 1) := by decide +kernel
theorem dX3_strategy_0 : decode cX3_strategy 0 = .ok (.aload_n 0, 1) := by decide +kernel
theorem dX3_strategy_1 : decode cX3_strategy 1 = .ok (.iload_n 1, 1) := by decide +kernel
theorem dX3_strategy_2 : decode cX3_strategy 2 = .ok (.invokevirtual 117, 3) := by decide +kernel
theorem dX3_strategy_5 : decode cX3_strategy 5 = .ok (.ifCond .eq 9, 3) := by decide +kernel
theorem dX3_strategy_8 : decode cX3_strategy 8 = .ok (.sipush (-1001), 3) := by decide +kernel
theorem dX3_strategy_11 : decode cX3_strategy 11 = .ok (.goto 9, 3) := by decide +kernel
theorem dX3_strategy_14 : decode cX3_strategy 14 = .ok (.aload_n 0, 1) := by decide +kernel
theorem dX3_strategy_15 : decode cX3_strategy 15 = .ok (.getfield 13, 3) := by decide +kernel
theorem dX3_strategy_18 : decode cX3_strategy 18 = .ok (.iload_n 1, 1) := by decide +kernel
theorem dX3_strategy_19 : decode cX3_strategy 19 = .ok (.iaload, 1) := by decide +kernel
theorem dX3_strategy_20 : decode cX3_strategy 20 = .ok (.ireturn, 1) := by decide +kernel
theorem dX3_outermost_0 : decode cX3_outermost 0 = .ok (.iconst 0, 1) := by decide +kernel
theorem dX3_outermost_1 : decode cX3_outermost 1 = .ok (.istore_n 3, 1) := by decide +kernel
theorem dX3_outermost_2 : decode cX3_outermost 2 = .ok (.lconst 0, 1) := by decide +kernel
theorem dX3_outermost_3 : decode cX3_outermost 3 = .ok (.lstore 4, 2) := by decide +kernel
theorem dX3_outermost_5 : decode cX3_outermost 5 = .ok (.iconst 0, 1) := by decide +kernel
theorem dX3_outermost_6 : decode cX3_outermost 6 = .ok (.istore 6, 2) := by decide +kernel
theorem dX3_outermost_8 : decode cX3_outermost 8 = .ok (.iload 6, 2) := by decide +kernel
theorem dX3_outermost_10 : decode cX3_outermost 10 = .ok (.aload_n 0, 1) := by decide +kernel
theorem dX3_outermost_11 : decode cX3_outermost 11 = .ok (.getfield 50, 3) := by decide +kernel
theorem dX3_outermost_14 : decode cX3_outermost 14 = .ok (.if_icmp .ge 96, 3) := by decide +kernel
theorem dX3_outermost_17 : decode cX3_outermost 17 = .ok (.aload_n 0, 1) := by decide +kernel
theorem dX3_outermost_18 : decode cX3_outermost 18 = .ok (.iload 6, 2) := by decide +kernel
theorem dX3_outermost_20 : decode cX3_outermost 20 = .ok (.invokevirtual 133, 3) := by decide +kernel
theorem dX3_outermost_23 : decode cX3_outermost 23 = .ok (.ifCond .eq 81, 3) := by decide +kernel
theorem dX3_outermost_26 : decode cX3_outermost 26 = .ok (.iload_n 1, 1) := by decide +kernel
theorem dX3_outermost_27 : decode cX3_outermost 27 = .ok (.ifCond .ge 17, 3) := by decide +kernel
theorem dX3_outermost_30 : decode cX3_outermost 30 = .ok (.aload_n 0, 1) := by decide +kernel
theorem dX3_outermost_31 : decode cX3_outermost 31 = .ok (.getfield 7, 3) := by decide +kernel
theorem dX3_outermost_34 : decode cX3_outermost 34 = .ok (.iconst 2, 1) := by decide +kernel
theorem dX3_outermost_35 : decode cX3_outermost 35 = .ok (.iload 6, 2) := by decide +kernel
theorem dX3_outermost_37 : decode cX3_outermost 37 = .ok (.imul, 1) := by decide +kernel
theorem dX3_outermost_38 : decode cX3_outermost 38 = .ok (.iload_n 2, 1) := by decide +kernel
theorem dX3_outermost_39 : decode cX3_outermost 39 = .ok (.iadd, 1) := by decide +kernel
theorem dX3_outermost_40 : decode cX3_outermost 40 = .ok (.laload, 1) := by decide +kernel
theorem dX3_outermost_41 : decode cX3_outermost 41 = .ok (.goto 11, 3) := by decide +kernel
theorem dX3_outermost_44 : decode cX3_outermost 44 = .ok (.aload_n 0, 1) := by decide +kernel
theorem dX3_outermost_45 : decode cX3_outermost 45 = .ok (.iload 6, 2) := by decide +kernel
theorem dX3_outermost_47 : decode cX3_outermost 47 = .ok (.iload_n 1, 1) := by decide +kernel
theorem dX3_outermost_48 : decode cX3_outermost 48 = .ok (.iload_n 2, 1) := by decide +kernel
theorem dX3_outermost_49 : decode cX3_outermost 49 = .ok (.invokevirtual 136, 3) := by decide +kernel
theorem dX3_outermost_52 : decode cX3_outermost 52 = .ok (.lstore 7, 2) := by decide +kernel
theorem dX3_outermost_54 : decode cX3_outermost 54 = .ok (.iload_n 3, 1) := by decide +kernel
theorem dX3_outermost_55 : decode cX3_outermost 55 = .ok (.ifCond .eq 26, 3) := by decide +kernel
theorem dX3_outermost_58 : decode cX3_outermost 58 = .ok (.iload_n 2, 1) := by decide +kernel
theorem dX3_outermost_59 : decode cX3_outermost 59 = .ok (.ifCond .ne 14, 3) := by decide +kernel
theorem dX3_outermost_62 : decode cX3_outermost 62 = .ok (.lload 7, 2) := by decide +kernel
theorem dX3_outermost_64 : decode cX3_outermost 64 = .ok (.lload 4, 2) := by decide +kernel
theorem dX3_outermost_66 : decode cX3_outermost 66 = .ok (.lcmp, 1) := by decide +kernel
theorem dX3_outermost_67 : decode cX3_outermost 67 = .ok (.ifCond .ge 18, 3) := by decide +kernel
theorem dX3_outermost_70 : decode cX3_outermost 70 = .ok (.goto 11, 3) := by decide +kernel
theorem dX3_outermost_73 : decode cX3_outermost 73 = .ok (.lload 7, 2) := by decide +kernel
theorem dX3_outermost_75 : decode cX3_outermost 75 = .ok (.lload 4, 2) := by decide +kernel
theorem dX3_outermost_77 : decode cX3_outermost 77 = .ok (.lcmp, 1) := by decide +kernel
theorem dX3_outermost_78 : decode cX3_outermost 78 = .ok (.ifCond .le 7, 3) := by decide +kernel
theorem dX3_outermost_81 : decode cX3_outermost 81 = .ok (.iconst 1, 1) := by decide +kernel
theorem dX3_outermost_82 : decode cX3_outermost 82 = .ok (.goto 4, 3) := by decide +kernel
theorem dX3_outermost_85 : decode cX3_outermost 85 = .ok (.iconst 0, 1) := by decide +kernel
theorem dX3_outermost_86 : decode cX3_outermost 86 = .ok (.istore 9, 2) := by decide +kernel
theorem dX3_outermost_88 : decode cX3_outermost 88 = .ok (.iload 9, 2) := by decide +kernel
theorem dX3_outermost_90 : decode cX3_outermost 90 = .ok (.ifCond .eq 8, 3) := by decide +kernel
theorem dX3_outermost_93 : decode cX3_outermost 93 = .ok (.lload 7, 2) := by decide +kernel
theorem dX3_outermost_95 : decode cX3_outermost 95 = .ok (.goto 5, 3) := by decide +kernel
theorem dX3_outermost_98 : decode cX3_outermost 98 = .ok (.lload 4, 2) := by decide +kernel
theorem dX3_outermost_100 : decode cX3_outermost 100 = .ok (.lstore 4, 2) := by decide +kernel
theorem dX3_outermost_102 : decode cX3_outermost 102 = .ok (.iconst 1, 1) := by decide +kernel
theorem dX3_outermost_103 : decode cX3_outermost 103 = .ok (.istore_n 3, 1) := by decide +kernel
theorem dX3_outermost_104 : decode cX3_outermost 104 = .ok (.iinc 6 1, 3) := by decide +kernel
theorem dX3_outermost_107 : decode cX3_outermost 107 = .ok (.goto (-99), 3) := by decide +kernel
theorem dX3_outermost_110 : decode cX3_outermost 110 = .ok (.lload 4, 2) := by decide +kernel
theorem dX3_outermost_112 : decode cX3_outermost 112 = .ok (.lreturn, 1) := by decide +kernel
theorem dX3_isSent_0 : decode cX3_isSent 0 = .ok (.iload_n 1, 1) := by decide +kernel
theorem dX3_isSent_1 : decode cX3_isSent 1 = .ok (.iload_n 2, 1) := by decide +kernel
theorem dX3_isSent_2 : decode cX3_isSent 2 = .ok (.if_icmp .eq 17, 3) := by decide +kernel
theorem dX3_isSent_5 : decode cX3_isSent 5 = .ok (.aload_n 0, 1) := by decide +kernel
theorem dX3_isSent_6 : decode cX3_isSent 6 = .ok (.getfield 26, 3) := by decide +kernel
theorem dX3_isSent_9 : decode cX3_isSent 9 = .ok (.bipush 10, 2) := by decide +kernel
theorem dX3_isSent_11 : decode cX3_isSent 11 = .ok (.iload_n 1, 1) := by decide +kernel
theorem dX3_isSent_12 : decode cX3_isSent 12 = .ok (.imul, 1) := by decide +kernel
theorem dX3_isSent_13 : decode cX3_isSent 13 = .ok (.iload_n 2, 1) := by decide +kernel
theorem dX3_isSent_14 : decode cX3_isSent 14 = .ok (.iadd, 1) := by decide +kernel
theorem dX3_isSent_15 : decode cX3_isSent 15 = .ok (.iaload, 1) := by decide +kernel
theorem dX3_isSent_16 : decode cX3_isSent 16 = .ok (.ifCond .lt 7, 3) := by decide +kernel
theorem dX3_isSent_19 : decode cX3_isSent 19 = .ok (.iconst 1, 1) := by decide +kernel
theorem dX3_isSent_20 : decode cX3_isSent 20 = .ok (.goto 4, 3) := by decide +kernel
theorem dX3_isSent_23 : decode cX3_isSent 23 = .ok (.iconst 0, 1) := by decide +kernel
theorem dX3_isSent_24 : decode cX3_isSent 24 = .ok (.ireturn, 1) := by decide +kernel
theorem dX3_sent_0 : decode cX3_sent 0 = .ok (.iload_n 1, 1) := by decide +kernel
theorem dX3_sent_1 : decode cX3_sent 1 = .ok (.iload_n 2, 1) := by decide +kernel
theorem dX3_sent_2 : decode cX3_sent 2 = .ok (.if_icmp .ne 14, 3) := by decide +kernel
theorem dX3_sent_5 : decode cX3_sent 5 = .ok (.aload_n 0, 1) := by decide +kernel
theorem dX3_sent_6 : decode cX3_sent 6 = .ok (.iload_n 2, 1) := by decide +kernel
theorem dX3_sent_7 : decode cX3_sent 7 = .ok (.aload_n 0, 1) := by decide +kernel
theorem dX3_sent_8 : decode cX3_sent 8 = .ok (.getfield 64, 3) := by decide +kernel
theorem dX3_sent_11 : decode cX3_sent 11 = .ok (.iload_n 3, 1) := by decide +kernel
theorem dX3_sent_12 : decode cX3_sent 12 = .ok (.invokevirtual 136, 3) := by decide +kernel
theorem dX3_sent_15 : decode cX3_sent 15 = .ok (.lreturn, 1) := by decide +kernel
theorem dX3_sent_16 : decode cX3_sent 16 = .ok (.aload_n 0, 1) := by decide +kernel
theorem dX3_sent_17 : decode cX3_sent 17 = .ok (.getfield 26, 3) := by decide +kernel
theorem dX3_sent_20 : decode cX3_sent 20 = .ok (.bipush 10, 2) := by decide +kernel
theorem dX3_sent_22 : decode cX3_sent 22 = .ok (.iload_n 1, 1) := by decide +kernel
theorem dX3_sent_23 : decode cX3_sent 23 = .ok (.imul, 1) := by decide +kernel
theorem dX3_sent_24 : decode cX3_sent 24 = .ok (.iload_n 2, 1) := by decide +kernel
theorem dX3_sent_25 : decode cX3_sent 25 = .ok (.iadd, 1) := by decide +kernel
theorem dX3_sent_26 : decode cX3_sent 26 = .ok (.iaload, 1) := by decide +kernel
theorem dX3_sent_27 : decode cX3_sent 27 = .ok (.istore 4, 2) := by decide +kernel
theorem dX3_sent_29 : decode cX3_sent 29 = .ok (.aload_n 0, 1) := by decide +kernel
theorem dX3_sent_30 : decode cX3_sent 30 = .ok (.getfield 13, 3) := by decide +kernel
theorem dX3_sent_33 : decode cX3_sent 33 = .ok (.iload_n 1, 1) := by decide +kernel
theorem dX3_sent_34 : decode cX3_sent 34 = .ok (.iaload, 1) := by decide +kernel
theorem dX3_sent_35 : decode cX3_sent 35 = .ok (.istore 5, 2) := by decide +kernel
theorem dX3_sent_37 : decode cX3_sent 37 = .ok (.iload 5, 2) := by decide +kernel
theorem dX3_sent_39 : decode cX3_sent 39 = .ok (.ifCond .ne 30, 3) := by decide +kernel
theorem dX3_sent_42 : decode cX3_sent 42 = .ok (.aload_n 0, 1) := by decide +kernel
theorem dX3_sent_43 : decode cX3_sent 43 = .ok (.iload_n 1, 1) := by decide +kernel
theorem dX3_sent_44 : decode cX3_sent 44 = .ok (.aload_n 0, 1) := by decide +kernel
theorem dX3_sent_45 : decode cX3_sent 45 = .ok (.getfield 64, 3) := by decide +kernel
theorem dX3_sent_48 : decode cX3_sent 48 = .ok (.iload 4, 2) := by decide +kernel
theorem dX3_sent_50 : decode cX3_sent 50 = .ok (.if_icmp .le 13, 3) := by decide +kernel
theorem dX3_sent_53 : decode cX3_sent 53 = .ok (.aload_n 0, 1) := by decide +kernel
theorem dX3_sent_54 : decode cX3_sent 54 = .ok (.getfield 64, 3) := by decide +kernel
theorem dX3_sent_57 : decode cX3_sent 57 = .ok (.iload 4, 2) := by decide +kernel
theorem dX3_sent_59 : decode cX3_sent 59 = .ok (.isub, 1) := by decide +kernel
theorem dX3_sent_60 : decode cX3_sent 60 = .ok (.goto 4, 3) := by decide +kernel
theorem dX3_sent_63 : decode cX3_sent 63 = .ok (.iconst 0, 1) := by decide +kernel
theorem dX3_sent_64 : decode cX3_sent 64 = .ok (.iload_n 3, 1) := by decide +kernel
theorem dX3_sent_65 : decode cX3_sent 65 = .ok (.invokevirtual 136, 3) := by decide +kernel
theorem dX3_sent_68 : decode cX3_sent 68 = .ok (.lreturn, 1) := by decide +kernel
theorem dX3_sent_69 : decode cX3_sent 69 = .ok (.aload_n 0, 1) := by decide +kernel
theorem dX3_sent_70 : decode cX3_sent 70 = .ok (.getfield 7, 3) := by decide +kernel
theorem dX3_sent_73 : decode cX3_sent 73 = .ok (.iconst 2, 1) := by decide +kernel
theorem dX3_sent_74 : decode cX3_sent 74 = .ok (.iload_n 1, 1) := by decide +kernel
theorem dX3_sent_75 : decode cX3_sent 75 = .ok (.imul, 1) := by decide +kernel
theorem dX3_sent_76 : decode cX3_sent 76 = .ok (.iload_n 3, 1) := by decide +kernel
theorem dX3_sent_77 : decode cX3_sent 77 = .ok (.iadd, 1) := by decide +kernel
theorem dX3_sent_78 : decode cX3_sent 78 = .ok (.laload, 1) := by decide +kernel
theorem dX3_sent_79 : decode cX3_sent 79 = .ok (.aload_n 0, 1) := by decide +kernel
theorem dX3_sent_80 : decode cX3_sent 80 = .ok (.getfield 64, 3) := by decide +kernel
theorem dX3_sent_83 : decode cX3_sent 83 = .ok (.i2l, 1) := by decide +kernel
theorem dX3_sent_84 : decode cX3_sent 84 = .ok (.aload_n 0, 1) := by decide +kernel
theorem dX3_sent_85 : decode cX3_sent 85 = .ok (.getfield 17, 3) := by decide +kernel
theorem dX3_sent_88 : decode cX3_sent 88 = .ok (.iload_n 1, 1) := by decide +kernel
theorem dX3_sent_89 : decode cX3_sent 89 = .ok (.laload, 1) := by decide +kernel
theorem dX3_sent_90 : decode cX3_sent 90 = .ok (.lmul, 1) := by decide +kernel
theorem dX3_sent_91 : decode cX3_sent 91 = .ok (.ladd, 1) := by decide +kernel
theorem dX3_sent_92 : decode cX3_sent 92 = .ok (.lstore 6, 2) := by decide +kernel
theorem dX3_sent_94 : decode cX3_sent 94 = .ok (.iload 5, 2) := by decide +kernel
theorem dX3_sent_96 : decode cX3_sent 96 = .ok (.iconst 1, 1) := by decide +kernel
theorem dX3_sent_97 : decode cX3_sent 97 = .ok (.if_icmp .ne 37, 3) := by decide +kernel
theorem dX3_sent_100 : decode cX3_sent 100 = .ok (.iload_n 3, 1) := by decide +kernel
theorem dX3_sent_101 : decode cX3_sent 101 = .ok (.ifCond .ne 17, 3) := by decide +kernel
theorem dX3_sent_104 : decode cX3_sent 104 = .ok (.aload_n 0, 1) := by decide +kernel
theorem dX3_sent_105 : decode cX3_sent 105 = .ok (.getfield 20, 3) := by decide +kernel
theorem dX3_sent_108 : decode cX3_sent 108 = .ok (.bipush 10, 2) := by decide +kernel
theorem dX3_sent_110 : decode cX3_sent 110 = .ok (.iload_n 1, 1) := by decide +kernel
theorem dX3_sent_111 : decode cX3_sent 111 = .ok (.imul, 1) := by decide +kernel
theorem dX3_sent_112 : decode cX3_sent 112 = .ok (.iload_n 2, 1) := by decide +kernel
theorem dX3_sent_113 : decode cX3_sent 113 = .ok (.iadd, 1) := by decide +kernel
theorem dX3_sent_114 : decode cX3_sent 114 = .ok (.laload, 1) := by decide +kernel
theorem dX3_sent_115 : decode cX3_sent 115 = .ok (.goto 14, 3) := by decide +kernel
theorem dX3_sent_118 : decode cX3_sent 118 = .ok (.aload_n 0, 1) := by decide +kernel
theorem dX3_sent_119 : decode cX3_sent 119 = .ok (.getfield 23, 3) := by decide +kernel
theorem dX3_sent_122 : decode cX3_sent 122 = .ok (.bipush 10, 2) := by decide +kernel
theorem dX3_sent_124 : decode cX3_sent 124 = .ok (.iload_n 1, 1) := by decide +kernel
theorem dX3_sent_125 : decode cX3_sent 125 = .ok (.imul, 1) := by decide +kernel
theorem dX3_sent_126 : decode cX3_sent 126 = .ok (.iload_n 2, 1) := by decide +kernel
theorem dX3_sent_127 : decode cX3_sent 127 = .ok (.iadd, 1) := by decide +kernel
theorem dX3_sent_128 : decode cX3_sent 128 = .ok (.laload, 1) := by decide +kernel
theorem dX3_sent_129 : decode cX3_sent 129 = .ok (.lstore 6, 2) := by decide +kernel
theorem dX3_sent_131 : decode cX3_sent 131 = .ok (.goto 101, 3) := by decide +kernel
theorem dX3_sent_134 : decode cX3_sent 134 = .ok (.iload 5, 2) := by decide +kernel
theorem dX3_sent_136 : decode cX3_sent 136 = .ok (.iconst 2, 1) := by decide +kernel
theorem dX3_sent_137 : decode cX3_sent 137 = .ok (.if_icmp .ne 49, 3) := by decide +kernel
theorem dX3_sent_140 : decode cX3_sent 140 = .ok (.iload_n 2, 1) := by decide +kernel
theorem dX3_sent_141 : decode cX3_sent 141 = .ok (.iconst 2, 1) := by decide +kernel
theorem dX3_sent_142 : decode cX3_sent 142 = .ok (.irem, 1) := by decide +kernel
theorem dX3_sent_143 : decode cX3_sent 143 = .ok (.ifCond .ne 22, 3) := by decide +kernel
theorem dX3_sent_146 : decode cX3_sent 146 = .ok (.aload_n 0, 1) := by decide +kernel
theorem dX3_sent_147 : decode cX3_sent 147 = .ok (.aload_n 0, 1) := by decide +kernel
theorem dX3_sent_148 : decode cX3_sent 148 = .ok (.getfield 64, 3) := by decide +kernel
theorem dX3_sent_151 : decode cX3_sent 151 = .ok (.iconst 0, 1) := by decide +kernel
theorem dX3_sent_152 : decode cX3_sent 152 = .ok (.invokevirtual 153, 3) := by decide +kernel
theorem dX3_sent_155 : decode cX3_sent 155 = .ok (.aload_n 0, 1) := by decide +kernel
theorem dX3_sent_156 : decode cX3_sent 156 = .ok (.getfield 17, 3) := by decide +kernel
theorem dX3_sent_159 : decode cX3_sent 159 = .ok (.iload_n 1, 1) := by decide +kernel
theorem dX3_sent_160 : decode cX3_sent 160 = .ok (.laload, 1) := by decide +kernel
theorem dX3_sent_161 : decode cX3_sent 161 = .ok (.lsub, 1) := by decide +kernel
theorem dX3_sent_162 : decode cX3_sent 162 = .ok (.goto 19, 3) := by decide +kernel
theorem dX3_sent_165 : decode cX3_sent 165 = .ok (.aload_n 0, 1) := by decide +kernel
theorem dX3_sent_166 : decode cX3_sent 166 = .ok (.aload_n 0, 1) := by decide +kernel
theorem dX3_sent_167 : decode cX3_sent 167 = .ok (.getfield 64, 3) := by decide +kernel
theorem dX3_sent_170 : decode cX3_sent 170 = .ok (.iconst 1, 1) := by decide +kernel
theorem dX3_sent_171 : decode cX3_sent 171 = .ok (.invokevirtual 153, 3) := by decide +kernel
theorem dX3_sent_174 : decode cX3_sent 174 = .ok (.aload_n 0, 1) := by decide +kernel
theorem dX3_sent_175 : decode cX3_sent 175 = .ok (.getfield 17, 3) := by decide +kernel
theorem dX3_sent_178 : decode cX3_sent 178 = .ok (.iload_n 1, 1) := by decide +kernel
theorem dX3_sent_179 : decode cX3_sent 179 = .ok (.laload, 1) := by decide +kernel
theorem dX3_sent_180 : decode cX3_sent 180 = .ok (.ladd, 1) := by decide +kernel
theorem dX3_sent_181 : decode cX3_sent 181 = .ok (.lstore 6, 2) := by decide +kernel
theorem dX3_sent_183 : decode cX3_sent 183 = .ok (.goto 49, 3) := by decide +kernel
theorem dX3_sent_186 : decode cX3_sent 186 = .ok (.iload 5, 2) := by decide +kernel
theorem dX3_sent_188 : decode cX3_sent 188 = .ok (.iconst 3, 1) := by decide +kernel
theorem dX3_sent_189 : decode cX3_sent 189 = .ok (.if_icmp .ne 25, 3) := by decide +kernel
theorem dX3_sent_192 : decode cX3_sent 192 = .ok (.aload_n 0, 1) := by decide +kernel
theorem dX3_sent_193 : decode cX3_sent 193 = .ok (.iload_n 2, 1) := by decide +kernel
theorem dX3_sent_194 : decode cX3_sent 194 = .ok (.aload_n 0, 1) := by decide +kernel
theorem dX3_sent_195 : decode cX3_sent 195 = .ok (.getfield 64, 3) := by decide +kernel
theorem dX3_sent_198 : decode cX3_sent 198 = .ok (.iload_n 3, 1) := by decide +kernel
theorem dX3_sent_199 : decode cX3_sent 199 = .ok (.invokevirtual 136, 3) := by decide +kernel
theorem dX3_sent_202 : decode cX3_sent 202 = .ok (.aload_n 0, 1) := by decide +kernel
theorem dX3_sent_203 : decode cX3_sent 203 = .ok (.getfield 17, 3) := by decide +kernel
theorem dX3_sent_206 : decode cX3_sent 206 = .ok (.iload_n 1, 1) := by decide +kernel
theorem dX3_sent_207 : decode cX3_sent 207 = .ok (.laload, 1) := by decide +kernel
theorem dX3_sent_208 : decode cX3_sent 208 = .ok (.ladd, 1) := by decide +kernel
theorem dX3_sent_209 : decode cX3_sent 209 = .ok (.lstore 6, 2) := by decide +kernel
theorem dX3_sent_211 : decode cX3_sent 211 = .ok (.goto 21, 3) := by decide +kernel
theorem dX3_sent_214 : decode cX3_sent 214 = .ok (.iload 5, 2) := by decide +kernel
theorem dX3_sent_216 : decode cX3_sent 216 = .ok (.iconst 4, 1) := by decide +kernel
theorem dX3_sent_217 : decode cX3_sent 217 = .ok (.if_icmp .ne 15, 3) := by decide +kernel
theorem dX3_sent_220 : decode cX3_sent 220 = .ok (.aload_n 0, 1) := by decide +kernel
theorem dX3_sent_221 : decode cX3_sent 221 = .ok (.iload_n 2, 1) := by decide +kernel
theorem dX3_sent_222 : decode cX3_sent 222 = .ok (.aload_n 0, 1) := by decide +kernel
theorem dX3_sent_223 : decode cX3_sent 223 = .ok (.getfield 64, 3) := by decide +kernel
theorem dX3_sent_226 : decode cX3_sent 226 = .ok (.iload_n 3, 1) := by decide +kernel
theorem dX3_sent_227 : decode cX3_sent 227 = .ok (.invokevirtual 136, 3) := by decide +kernel
theorem dX3_sent_230 : decode cX3_sent 230 = .ok (.lstore 6, 2) := by decide +kernel
theorem dX3_sent_232 : decode cX3_sent 232 = .ok (.ldc2_w 157, 3) := by decide +kernel
theorem dX3_sent_235 : decode cX3_sent 235 = .ok (.aload_n 0, 1) := by decide +kernel
theorem dX3_sent_236 : decode cX3_sent 236 = .ok (.getfield 57, 3) := by decide +kernel
theorem dX3_sent_239 : decode cX3_sent 239 = .ok (.lmul, 1) := by decide +kernel
theorem dX3_sent_240 : decode cX3_sent 240 = .ok (.lstore 8, 2) := by decide +kernel
theorem dX3_sent_242 : decode cX3_sent 242 = .ok (.lload 6, 2) := by decide +kernel
theorem dX3_sent_244 : decode cX3_sent 244 = .ok (.lload 8, 2) := by decide +kernel
theorem dX3_sent_246 : decode cX3_sent 246 = .ok (.lneg, 1) := by decide +kernel
theorem dX3_sent_247 : decode cX3_sent 247 = .ok (.lcmp, 1) := by decide +kernel
theorem dX3_sent_248 : decode cX3_sent 248 = .ok (.ifCond .ge 9, 3) := by decide +kernel
theorem dX3_sent_251 : decode cX3_sent 251 = .ok (.lload 8, 2) := by decide +kernel
theorem dX3_sent_253 : decode cX3_sent 253 = .ok (.lneg, 1) := by decide +kernel
theorem dX3_sent_254 : decode cX3_sent 254 = .ok (.goto 18, 3) := by decide +kernel
theorem dX3_sent_257 : decode cX3_sent 257 = .ok (.lload 6, 2) := by decide +kernel
theorem dX3_sent_259 : decode cX3_sent 259 = .ok (.lload 8, 2) := by decide +kernel
theorem dX3_sent_261 : decode cX3_sent 261 = .ok (.lcmp, 1) := by decide +kernel
theorem dX3_sent_262 : decode cX3_sent 262 = .ok (.ifCond .le 8, 3) := by decide +kernel
theorem dX3_sent_265 : decode cX3_sent 265 = .ok (.lload 8, 2) := by decide +kernel
theorem dX3_sent_267 : decode cX3_sent 267 = .ok (.goto 5, 3) := by decide +kernel
theorem dX3_sent_270 : decode cX3_sent 270 = .ok (.lload 6, 2) := by decide +kernel
theorem dX3_sent_272 : decode cX3_sent 272 = .ok (.lreturn, 1) := by decide +kernel
theorem dX3_gather_0 : decode cX3_gather 0 = .ok (.aload_n 0, 1) := by decide +kernel
theorem dX3_gather_1 : decode cX3_gather 1 = .ok (.iconst 0, 1) := by decide +kernel
theorem dX3_gather_2 : decode cX3_gather 2 = .ok (.putfield 159, 3) := by decide +kernel
theorem dX3_gather_5 : decode cX3_gather 5 = .ok (.iconst 0, 1) := by decide +kernel
theorem dX3_gather_6 : decode cX3_gather 6 = .ok (.istore_n 3, 1) := by decide +kernel
theorem dX3_gather_7 : decode cX3_gather 7 = .ok (.iload_n 3, 1) := by decide +kernel
theorem dX3_gather_8 : decode cX3_gather 8 = .ok (.aload_n 0, 1) := by decide +kernel
theorem dX3_gather_9 : decode cX3_gather 9 = .ok (.getfield 50, 3) := by decide +kernel
theorem dX3_gather_12 : decode cX3_gather 12 = .ok (.if_icmp .ge 94, 3) := by decide +kernel
theorem dX3_gather_15 : decode cX3_gather 15 = .ok (.aload_n 0, 1) := by decide +kernel
theorem dX3_gather_16 : decode cX3_gather 16 = .ok (.iload_n 3, 1) := by decide +kernel
theorem dX3_gather_17 : decode cX3_gather 17 = .ok (.iload_n 1, 1) := by decide +kernel
theorem dX3_gather_18 : decode cX3_gather 18 = .ok (.invokevirtual 162, 3) := by decide +kernel
theorem dX3_gather_21 : decode cX3_gather 21 = .ok (.ifCond .eq 79, 3) := by decide +kernel
theorem dX3_gather_24 : decode cX3_gather 24 = .ok (.aload_n 0, 1) := by decide +kernel
theorem dX3_gather_25 : decode cX3_gather 25 = .ok (.iload_n 3, 1) := by decide +kernel
theorem dX3_gather_26 : decode cX3_gather 26 = .ok (.iload_n 1, 1) := by decide +kernel
theorem dX3_gather_27 : decode cX3_gather 27 = .ok (.iload_n 2, 1) := by decide +kernel
theorem dX3_gather_28 : decode cX3_gather 28 = .ok (.invokevirtual 165, 3) := by decide +kernel
theorem dX3_gather_31 : decode cX3_gather 31 = .ok (.lstore 4, 2) := by decide +kernel
theorem dX3_gather_33 : decode cX3_gather 33 = .ok (.aload_n 0, 1) := by decide +kernel
theorem dX3_gather_34 : decode cX3_gather 34 = .ok (.getfield 159, 3) := by decide +kernel
theorem dX3_gather_37 : decode cX3_gather 37 = .ok (.istore 6, 2) := by decide +kernel
theorem dX3_gather_39 : decode cX3_gather 39 = .ok (.iload 6, 2) := by decide +kernel
theorem dX3_gather_41 : decode cX3_gather 41 = .ok (.ifCond .le 40, 3) := by decide +kernel
theorem dX3_gather_44 : decode cX3_gather 44 = .ok (.aload_n 0, 1) := by decide +kernel
theorem dX3_gather_45 : decode cX3_gather 45 = .ok (.getfield 36, 3) := by decide +kernel
theorem dX3_gather_48 : decode cX3_gather 48 = .ok (.iload 6, 2) := by decide +kernel
theorem dX3_gather_50 : decode cX3_gather 50 = .ok (.iconst 1, 1) := by decide +kernel
theorem dX3_gather_51 : decode cX3_gather 51 = .ok (.isub, 1) := by decide +kernel
theorem dX3_gather_52 : decode cX3_gather 52 = .ok (.laload, 1) := by decide +kernel
theorem dX3_gather_53 : decode cX3_gather 53 = .ok (.lload 4, 2) := by decide +kernel
theorem dX3_gather_55 : decode cX3_gather 55 = .ok (.lcmp, 1) := by decide +kernel
theorem dX3_gather_56 : decode cX3_gather 56 = .ok (.ifCond .le 25, 3) := by decide +kernel
theorem dX3_gather_59 : decode cX3_gather 59 = .ok (.aload_n 0, 1) := by decide +kernel
theorem dX3_gather_60 : decode cX3_gather 60 = .ok (.getfield 36, 3) := by decide +kernel
theorem dX3_gather_63 : decode cX3_gather 63 = .ok (.iload 6, 2) := by decide +kernel
theorem dX3_gather_65 : decode cX3_gather 65 = .ok (.aload_n 0, 1) := by decide +kernel
theorem dX3_gather_66 : decode cX3_gather 66 = .ok (.getfield 36, 3) := by decide +kernel
theorem dX3_gather_69 : decode cX3_gather 69 = .ok (.iload 6, 2) := by decide +kernel
theorem dX3_gather_71 : decode cX3_gather 71 = .ok (.iconst 1, 1) := by decide +kernel
theorem dX3_gather_72 : decode cX3_gather 72 = .ok (.isub, 1) := by decide +kernel
theorem dX3_gather_73 : decode cX3_gather 73 = .ok (.laload, 1) := by decide +kernel
theorem dX3_gather_74 : decode cX3_gather 74 = .ok (.lastore, 1) := by decide +kernel
theorem dX3_gather_75 : decode cX3_gather 75 = .ok (.iinc 6 (-1), 3) := by decide +kernel
theorem dX3_gather_78 : decode cX3_gather 78 = .ok (.goto (-39), 3) := by decide +kernel
theorem dX3_gather_81 : decode cX3_gather 81 = .ok (.aload_n 0, 1) := by decide +kernel
theorem dX3_gather_82 : decode cX3_gather 82 = .ok (.getfield 36, 3) := by decide +kernel
theorem dX3_gather_85 : decode cX3_gather 85 = .ok (.iload 6, 2) := by decide +kernel
theorem dX3_gather_87 : decode cX3_gather 87 = .ok (.lload 4, 2) := by decide +kernel
theorem dX3_gather_89 : decode cX3_gather 89 = .ok (.lastore, 1) := by decide +kernel
theorem dX3_gather_90 : decode cX3_gather 90 = .ok (.aload_n 0, 1) := by decide +kernel
theorem dX3_gather_91 : decode cX3_gather 91 = .ok (.dup, 1) := by decide +kernel
theorem dX3_gather_92 : decode cX3_gather 92 = .ok (.getfield 159, 3) := by decide +kernel
theorem dX3_gather_95 : decode cX3_gather 95 = .ok (.iconst 1, 1) := by decide +kernel
theorem dX3_gather_96 : decode cX3_gather 96 = .ok (.iadd, 1) := by decide +kernel
theorem dX3_gather_97 : decode cX3_gather 97 = .ok (.putfield 159, 3) := by decide +kernel
theorem dX3_gather_100 : decode cX3_gather 100 = .ok (.iinc 3 1, 3) := by decide +kernel
theorem dX3_gather_103 : decode cX3_gather 103 = .ok (.goto (-96), 3) := by decide +kernel
theorem dX3_gather_106 : decode cX3_gather 106 = .ok (.return_, 1) := by decide +kernel
theorem dX3_combined_0 : decode cX3_combined 0 = .ok (.aload_n 0, 1) := by decide +kernel
theorem dX3_combined_1 : decode cX3_combined 1 = .ok (.getfield 54, 3) := by decide +kernel
theorem dX3_combined_4 : decode cX3_combined 4 = .ok (.istore_n 1, 1) := by decide +kernel
theorem dX3_combined_5 : decode cX3_combined 5 = .ok (.aload_n 0, 1) := by decide +kernel
theorem dX3_combined_6 : decode cX3_combined 6 = .ok (.getfield 159, 3) := by decide +kernel
theorem dX3_combined_9 : decode cX3_combined 9 = .ok (.iconst 1, 1) := by decide +kernel
theorem dX3_combined_10 : decode cX3_combined 10 = .ok (.isub, 1) := by decide +kernel
theorem dX3_combined_11 : decode cX3_combined 11 = .ok (.aload_n 0, 1) := by decide +kernel
theorem dX3_combined_12 : decode cX3_combined 12 = .ok (.getfield 54, 3) := by decide +kernel
theorem dX3_combined_15 : decode cX3_combined 15 = .ok (.isub, 1) := by decide +kernel
theorem dX3_combined_16 : decode cX3_combined 16 = .ok (.istore_n 2, 1) := by decide +kernel
theorem dX3_combined_17 : decode cX3_combined 17 = .ok (.iload_n 2, 1) := by decide +kernel
theorem dX3_combined_18 : decode cX3_combined 18 = .ok (.iload_n 1, 1) := by decide +kernel
theorem dX3_combined_19 : decode cX3_combined 19 = .ok (.isub, 1) := by decide +kernel
theorem dX3_combined_20 : decode cX3_combined 20 = .ok (.iconst 1, 1) := by decide +kernel
theorem dX3_combined_21 : decode cX3_combined 21 = .ok (.iadd, 1) := by decide +kernel
theorem dX3_combined_22 : decode cX3_combined 22 = .ok (.istore_n 3, 1) := by decide +kernel
theorem dX3_combined_23 : decode cX3_combined 23 = .ok (.aload_n 0, 1) := by decide +kernel
theorem dX3_combined_24 : decode cX3_combined 24 = .ok (.getfield 61, 3) := by decide +kernel
theorem dX3_combined_27 : decode cX3_combined 27 = .ok (.iconst 1, 1) := by decide +kernel
theorem dX3_combined_28 : decode cX3_combined 28 = .ok (.if_icmp .ne 23, 3) := by decide +kernel
theorem dX3_combined_31 : decode cX3_combined 31 = .ok (.aload_n 0, 1) := by decide +kernel
theorem dX3_combined_32 : decode cX3_combined 32 = .ok (.getfield 36, 3) := by decide +kernel
theorem dX3_combined_35 : decode cX3_combined 35 = .ok (.iload_n 1, 1) := by decide +kernel
theorem dX3_combined_36 : decode cX3_combined 36 = .ok (.laload, 1) := by decide +kernel
theorem dX3_combined_37 : decode cX3_combined 37 = .ok (.aload_n 0, 1) := by decide +kernel
theorem dX3_combined_38 : decode cX3_combined 38 = .ok (.getfield 36, 3) := by decide +kernel
theorem dX3_combined_41 : decode cX3_combined 41 = .ok (.iload_n 2, 1) := by decide +kernel
theorem dX3_combined_42 : decode cX3_combined 42 = .ok (.laload, 1) := by decide +kernel
theorem dX3_combined_43 : decode cX3_combined 43 = .ok (.ladd, 1) := by decide +kernel
theorem dX3_combined_44 : decode cX3_combined 44 = .ok (.ldc2_w 67, 3) := by decide +kernel
theorem dX3_combined_47 : decode cX3_combined 47 = .ok (.invokestatic 168, 3) := by decide +kernel
theorem dX3_combined_50 : decode cX3_combined 50 = .ok (.lreturn, 1) := by decide +kernel
theorem dX3_combined_51 : decode cX3_combined 51 = .ok (.aload_n 0, 1) := by decide +kernel
theorem dX3_combined_52 : decode cX3_combined 52 = .ok (.getfield 61, 3) := by decide +kernel
theorem dX3_combined_55 : decode cX3_combined 55 = .ok (.iconst 2, 1) := by decide +kernel
theorem dX3_combined_56 : decode cX3_combined 56 = .ok (.if_icmp .ne 33, 3) := by decide +kernel
theorem dX3_combined_59 : decode cX3_combined 59 = .ok (.aload_n 0, 1) := by decide +kernel
theorem dX3_combined_60 : decode cX3_combined 60 = .ok (.getfield 36, 3) := by decide +kernel
theorem dX3_combined_63 : decode cX3_combined 63 = .ok (.iload_n 1, 1) := by decide +kernel
theorem dX3_combined_64 : decode cX3_combined 64 = .ok (.iload_n 3, 1) := by decide +kernel
theorem dX3_combined_65 : decode cX3_combined 65 = .ok (.iconst 1, 1) := by decide +kernel
theorem dX3_combined_66 : decode cX3_combined 66 = .ok (.isub, 1) := by decide +kernel
theorem dX3_combined_67 : decode cX3_combined 67 = .ok (.iconst 2, 1) := by decide +kernel
theorem dX3_combined_68 : decode cX3_combined 68 = .ok (.idiv, 1) := by decide +kernel
theorem dX3_combined_69 : decode cX3_combined 69 = .ok (.iadd, 1) := by decide +kernel
theorem dX3_combined_70 : decode cX3_combined 70 = .ok (.laload, 1) := by decide +kernel
theorem dX3_combined_71 : decode cX3_combined 71 = .ok (.aload_n 0, 1) := by decide +kernel
theorem dX3_combined_72 : decode cX3_combined 72 = .ok (.getfield 36, 3) := by decide +kernel
theorem dX3_combined_75 : decode cX3_combined 75 = .ok (.iload_n 1, 1) := by decide +kernel
theorem dX3_combined_76 : decode cX3_combined 76 = .ok (.iload_n 3, 1) := by decide +kernel
theorem dX3_combined_77 : decode cX3_combined 77 = .ok (.iconst 2, 1) := by decide +kernel
theorem dX3_combined_78 : decode cX3_combined 78 = .ok (.idiv, 1) := by decide +kernel
theorem dX3_combined_79 : decode cX3_combined 79 = .ok (.iadd, 1) := by decide +kernel
theorem dX3_combined_80 : decode cX3_combined 80 = .ok (.laload, 1) := by decide +kernel
theorem dX3_combined_81 : decode cX3_combined 81 = .ok (.ladd, 1) := by decide +kernel
theorem dX3_combined_82 : decode cX3_combined 82 = .ok (.ldc2_w 67, 3) := by decide +kernel
theorem dX3_combined_85 : decode cX3_combined 85 = .ok (.invokestatic 168, 3) := by decide +kernel
theorem dX3_combined_88 : decode cX3_combined 88 = .ok (.lreturn, 1) := by decide +kernel
theorem dX3_combined_89 : decode cX3_combined 89 = .ok (.aload_n 0, 1) := by decide +kernel
theorem dX3_combined_90 : decode cX3_combined 90 = .ok (.getfield 61, 3) := by decide +kernel
theorem dX3_combined_93 : decode cX3_combined 93 = .ok (.iconst 3, 1) := by decide +kernel
theorem dX3_combined_94 : decode cX3_combined 94 = .ok (.if_icmp .ne 18, 3) := by decide +kernel
theorem dX3_combined_97 : decode cX3_combined 97 = .ok (.aload_n 0, 1) := by decide +kernel
theorem dX3_combined_98 : decode cX3_combined 98 = .ok (.getfield 54, 3) := by decide +kernel
theorem dX3_combined_101 : decode cX3_combined 101 = .ok (.iconst 1, 1) := by decide +kernel
theorem dX3_combined_102 : decode cX3_combined 102 = .ok (.if_icmp .le 10, 3) := by decide +kernel
theorem dX3_combined_105 : decode cX3_combined 105 = .ok (.aload_n 0, 1) := by decide +kernel
theorem dX3_combined_106 : decode cX3_combined 106 = .ok (.getfield 54, 3) := by decide +kernel
theorem dX3_combined_109 : decode cX3_combined 109 = .ok (.goto 4, 3) := by decide +kernel
theorem dX3_combined_112 : decode cX3_combined 112 = .ok (.iconst 1, 1) := by decide +kernel
theorem dX3_combined_113 : decode cX3_combined 113 = .ok (.istore 4, 2) := by decide +kernel
theorem dX3_combined_115 : decode cX3_combined 115 = .ok (.lconst 0, 1) := by decide +kernel
theorem dX3_combined_116 : decode cX3_combined 116 = .ok (.lstore 5, 2) := by decide +kernel
theorem dX3_combined_118 : decode cX3_combined 118 = .ok (.iconst 0, 1) := by decide +kernel
theorem dX3_combined_119 : decode cX3_combined 119 = .ok (.istore 7, 2) := by decide +kernel
theorem dX3_combined_121 : decode cX3_combined 121 = .ok (.iload_n 1, 1) := by decide +kernel
theorem dX3_combined_122 : decode cX3_combined 122 = .ok (.istore 8, 2) := by decide +kernel
theorem dX3_combined_124 : decode cX3_combined 124 = .ok (.iload 8, 2) := by decide +kernel
theorem dX3_combined_126 : decode cX3_combined 126 = .ok (.iload_n 2, 1) := by decide +kernel
theorem dX3_combined_127 : decode cX3_combined 127 = .ok (.if_icmp .gt 28, 3) := by decide +kernel
theorem dX3_combined_130 : decode cX3_combined 130 = .ok (.lload 5, 2) := by decide +kernel
theorem dX3_combined_132 : decode cX3_combined 132 = .ok (.aload_n 0, 1) := by decide +kernel
theorem dX3_combined_133 : decode cX3_combined 133 = .ok (.getfield 36, 3) := by decide +kernel
theorem dX3_combined_136 : decode cX3_combined 136 = .ok (.iload 8, 2) := by decide +kernel
theorem dX3_combined_138 : decode cX3_combined 138 = .ok (.laload, 1) := by decide +kernel
theorem dX3_combined_139 : decode cX3_combined 139 = .ok (.ladd, 1) := by decide +kernel
theorem dX3_combined_140 : decode cX3_combined 140 = .ok (.lstore 5, 2) := by decide +kernel
theorem dX3_combined_142 : decode cX3_combined 142 = .ok (.iinc 7 1, 3) := by decide +kernel
theorem dX3_combined_145 : decode cX3_combined 145 = .ok (.iload 8, 2) := by decide +kernel
theorem dX3_combined_147 : decode cX3_combined 147 = .ok (.iload 4, 2) := by decide +kernel
theorem dX3_combined_149 : decode cX3_combined 149 = .ok (.iadd, 1) := by decide +kernel
theorem dX3_combined_150 : decode cX3_combined 150 = .ok (.istore 8, 2) := by decide +kernel
theorem dX3_combined_152 : decode cX3_combined 152 = .ok (.goto (-28), 3) := by decide +kernel
theorem dX3_combined_155 : decode cX3_combined 155 = .ok (.lload 5, 2) := by decide +kernel
theorem dX3_combined_157 : decode cX3_combined 157 = .ok (.iload 7, 2) := by decide +kernel
theorem dX3_combined_159 : decode cX3_combined 159 = .ok (.i2l, 1) := by decide +kernel
theorem dX3_combined_160 : decode cX3_combined 160 = .ok (.invokestatic 168, 3) := by decide +kernel
theorem dX3_combined_163 : decode cX3_combined 163 = .ok (.lreturn, 1) := by decide +kernel
theorem dX3_round_0 : decode cX3_round 0 = .ok (.iconst 0, 1) := by decide +kernel
theorem dX3_round_1 : decode cX3_round 1 = .ok (.istore_n 1, 1) := by decide +kernel
theorem dX3_round_2 : decode cX3_round 2 = .ok (.iload_n 1, 1) := by decide +kernel
theorem dX3_round_3 : decode cX3_round 3 = .ok (.aload_n 0, 1) := by decide +kernel
theorem dX3_round_4 : decode cX3_round 4 = .ok (.getfield 50, 3) := by decide +kernel
theorem dX3_round_7 : decode cX3_round 7 = .ok (.if_icmp .ge 97, 3) := by decide +kernel
theorem dX3_round_10 : decode cX3_round 10 = .ok (.iconst 0, 1) := by decide +kernel
theorem dX3_round_11 : decode cX3_round 11 = .ok (.istore_n 2, 1) := by decide +kernel
theorem dX3_round_12 : decode cX3_round 12 = .ok (.iload_n 2, 1) := by decide +kernel
theorem dX3_round_13 : decode cX3_round 13 = .ok (.iconst 2, 1) := by decide +kernel
theorem dX3_round_14 : decode cX3_round 14 = .ok (.if_icmp .ge 84, 3) := by decide +kernel
theorem dX3_round_17 : decode cX3_round 17 = .ok (.aload_n 0, 1) := by decide +kernel
theorem dX3_round_18 : decode cX3_round 18 = .ok (.iload_n 1, 1) := by decide +kernel
theorem dX3_round_19 : decode cX3_round 19 = .ok (.iload_n 2, 1) := by decide +kernel
theorem dX3_round_20 : decode cX3_round 20 = .ok (.invokevirtual 171, 3) := by decide +kernel
theorem dX3_round_23 : decode cX3_round 23 = .ok (.aload_n 0, 1) := by decide +kernel
theorem dX3_round_24 : decode cX3_round 24 = .ok (.getfield 159, 3) := by decide +kernel
theorem dX3_round_27 : decode cX3_round 27 = .ok (.iconst 2, 1) := by decide +kernel
theorem dX3_round_28 : decode cX3_round 28 = .ok (.aload_n 0, 1) := by decide +kernel
theorem dX3_round_29 : decode cX3_round 29 = .ok (.getfield 54, 3) := by decide +kernel
theorem dX3_round_32 : decode cX3_round 32 = .ok (.imul, 1) := by decide +kernel
theorem dX3_round_33 : decode cX3_round 33 = .ok (.if_icmp .le 11, 3) := by decide +kernel
theorem dX3_round_36 : decode cX3_round 36 = .ok (.aload_n 0, 1) := by decide +kernel
theorem dX3_round_37 : decode cX3_round 37 = .ok (.iload_n 1, 1) := by decide +kernel
theorem dX3_round_38 : decode cX3_round 38 = .ok (.invokevirtual 133, 3) := by decide +kernel
theorem dX3_round_41 : decode cX3_round 41 = .ok (.ifCond .ne 7, 3) := by decide +kernel
theorem dX3_round_44 : decode cX3_round 44 = .ok (.iconst 1, 1) := by decide +kernel
theorem dX3_round_45 : decode cX3_round 45 = .ok (.goto 4, 3) := by decide +kernel
theorem dX3_round_48 : decode cX3_round 48 = .ok (.iconst 0, 1) := by decide +kernel
theorem dX3_round_49 : decode cX3_round 49 = .ok (.istore_n 3, 1) := by decide +kernel
theorem dX3_round_50 : decode cX3_round 50 = .ok (.aload_n 0, 1) := by decide +kernel
theorem dX3_round_51 : decode cX3_round 51 = .ok (.getfield 29, 3) := by decide +kernel
theorem dX3_round_54 : decode cX3_round 54 = .ok (.bipush 20, 2) := by decide +kernel
theorem dX3_round_56 : decode cX3_round 56 = .ok (.aload_n 0, 1) := by decide +kernel
theorem dX3_round_57 : decode cX3_round 57 = .ok (.getfield 64, 3) := by decide +kernel
theorem dX3_round_60 : decode cX3_round 60 = .ok (.imul, 1) := by decide +kernel
theorem dX3_round_61 : decode cX3_round 61 = .ok (.bipush 20, 2) := by decide +kernel
theorem dX3_round_63 : decode cX3_round 63 = .ok (.iadd, 1) := by decide +kernel
theorem dX3_round_64 : decode cX3_round 64 = .ok (.iconst 2, 1) := by decide +kernel
theorem dX3_round_65 : decode cX3_round 65 = .ok (.iload_n 1, 1) := by decide +kernel
theorem dX3_round_66 : decode cX3_round 66 = .ok (.imul, 1) := by decide +kernel
theorem dX3_round_67 : decode cX3_round 67 = .ok (.iadd, 1) := by decide +kernel
theorem dX3_round_68 : decode cX3_round 68 = .ok (.iload_n 2, 1) := by decide +kernel
theorem dX3_round_69 : decode cX3_round 69 = .ok (.iadd, 1) := by decide +kernel
theorem dX3_round_70 : decode cX3_round 70 = .ok (.iload_n 3, 1) := by decide +kernel
theorem dX3_round_71 : decode cX3_round 71 = .ok (.ifCond .eq 16, 3) := by decide +kernel
theorem dX3_round_74 : decode cX3_round 74 = .ok (.aload_n 0, 1) := by decide +kernel
theorem dX3_round_75 : decode cX3_round 75 = .ok (.iload_n 1, 1) := by decide +kernel
theorem dX3_round_76 : decode cX3_round 76 = .ok (.aload_n 0, 1) := by decide +kernel
theorem dX3_round_77 : decode cX3_round 77 = .ok (.getfield 64, 3) := by decide +kernel
theorem dX3_round_80 : decode cX3_round 80 = .ok (.iload_n 2, 1) := by decide +kernel
theorem dX3_round_81 : decode cX3_round 81 = .ok (.invokevirtual 136, 3) := by decide +kernel
theorem dX3_round_84 : decode cX3_round 84 = .ok (.goto 7, 3) := by decide +kernel
theorem dX3_round_87 : decode cX3_round 87 = .ok (.aload_n 0, 1) := by decide +kernel
theorem dX3_round_88 : decode cX3_round 88 = .ok (.invokevirtual 175, 3) := by decide +kernel
theorem dX3_round_91 : decode cX3_round 91 = .ok (.lastore, 1) := by decide +kernel
theorem dX3_round_92 : decode cX3_round 92 = .ok (.iinc 2 1, 3) := by decide +kernel
theorem dX3_round_95 : decode cX3_round 95 = .ok (.goto (-83), 3) := by decide +kernel
theorem dX3_round_98 : decode cX3_round 98 = .ok (.iinc 1 1, 3) := by decide +kernel
theorem dX3_round_101 : decode cX3_round 101 = .ok (.goto (-99), 3) := by decide +kernel
theorem dX3_round_104 : decode cX3_round 104 = .ok (.aload_n 0, 1) := by decide +kernel
theorem dX3_round_105 : decode cX3_round 105 = .ok (.dup, 1) := by decide +kernel
theorem dX3_round_106 : decode cX3_round 106 = .ok (.getfield 64, 3) := by decide +kernel
theorem dX3_round_109 : decode cX3_round 109 = .ok (.iconst 1, 1) := by decide +kernel
theorem dX3_round_110 : decode cX3_round 110 = .ok (.iadd, 1) := by decide +kernel
theorem dX3_round_111 : decode cX3_round 111 = .ok (.putfield 64, 3) := by decide +kernel
theorem dX3_round_114 : decode cX3_round 114 = .ok (.return_, 1) := by decide +kernel
theorem dX3_run_0 : decode cX3_run 0 = .ok (.iload_n 1, 1) := by decide +kernel
theorem dX3_run_1 : decode cX3_run 1 = .ok (.i2l, 1) := by decide +kernel
theorem dX3_run_2 : decode cX3_run 2 = .ok (.lconst 1, 1) := by decide +kernel
theorem dX3_run_3 : decode cX3_run 3 = .ok (.ldc2_w 178, 3) := by decide +kernel
theorem dX3_run_6 : decode cX3_run 6 = .ok (.invokestatic 71, 3) := by decide +kernel
theorem dX3_run_9 : decode cX3_run 9 = .ok (.ifCond .ne 7, 3) := by decide +kernel
theorem dX3_run_12 : decode cX3_run 12 = .ok (.sipush (-1002), 3) := by decide +kernel
theorem dX3_run_15 : decode cX3_run 15 = .ok (.ireturn, 1) := by decide +kernel
theorem dX3_run_16 : decode cX3_run 16 = .ok (.aload_n 0, 1) := by decide +kernel
end
section
theorem dX3_run_17 : decode cX3_run 17 = .ok (.getfield 64, 3) := by decide +kernel
theorem dX3_run_20 : decode cX3_run 20 = .ok (.iload_n 1, 1) := by decide +kernel
theorem dX3_run_21 : decode cX3_run 21 = .ok (.iadd, 1) := by decide +kernel
theorem dX3_run_22 : decode cX3_run 22 = .ok (.bipush 60, 2) := by decide +kernel
theorem dX3_run_24 : decode cX3_run 24 = .ok (.if_icmp .le 7, 3) := by decide +kernel
theorem dX3_run_27 : decode cX3_run 27 = .ok (.sipush (-1004), 3) := by decide +kernel
theorem dX3_run_30 : decode cX3_run 30 = .ok (.ireturn, 1) := by decide +kernel
theorem dX3_run_31 : decode cX3_run 31 = .ok (.iconst 0, 1) := by decide +kernel
theorem dX3_run_32 : decode cX3_run 32 = .ok (.istore_n 2, 1) := by decide +kernel
theorem dX3_run_33 : decode cX3_run 33 = .ok (.iload_n 2, 1) := by decide +kernel
theorem dX3_run_34 : decode cX3_run 34 = .ok (.iload_n 1, 1) := by decide +kernel
theorem dX3_run_35 : decode cX3_run 35 = .ok (.if_icmp .ge 13, 3) := by decide +kernel
theorem dX3_run_38 : decode cX3_run 38 = .ok (.aload_n 0, 1) := by decide +kernel
theorem dX3_run_39 : decode cX3_run 39 = .ok (.invokevirtual 180, 3) := by decide +kernel
theorem dX3_run_42 : decode cX3_run 42 = .ok (.iinc 2 1, 3) := by decide +kernel
theorem dX3_run_45 : decode cX3_run 45 = .ok (.goto (-12), 3) := by decide +kernel
theorem dX3_run_48 : decode cX3_run 48 = .ok (.aload_n 0, 1) := by decide +kernel
theorem dX3_run_49 : decode cX3_run 49 = .ok (.getfield 64, 3) := by decide +kernel
theorem dX3_run_52 : decode cX3_run 52 = .ok (.ireturn, 1) := by decide +kernel
theorem dX3_widthOf_0 : decode cX3_widthOf 0 = .ok (.lconst 0, 1) := by decide +kernel
theorem dX3_widthOf_1 : decode cX3_widthOf 1 = .ok (.lstore_n 2, 1) := by decide +kernel
theorem dX3_widthOf_2 : decode cX3_widthOf 2 = .ok (.iconst 0, 1) := by decide +kernel
theorem dX3_widthOf_3 : decode cX3_widthOf 3 = .ok (.istore 4, 2) := by decide +kernel
theorem dX3_widthOf_5 : decode cX3_widthOf 5 = .ok (.iload 4, 2) := by decide +kernel
theorem dX3_widthOf_7 : decode cX3_widthOf 7 = .ok (.iconst 2, 1) := by decide +kernel
theorem dX3_widthOf_8 : decode cX3_widthOf 8 = .ok (.if_icmp .ge 102, 3) := by decide +kernel
theorem dX3_widthOf_11 : decode cX3_widthOf 11 = .ok (.iconst 0, 1) := by decide +kernel
theorem dX3_widthOf_12 : decode cX3_widthOf 12 = .ok (.istore 5, 2) := by decide +kernel
theorem dX3_widthOf_14 : decode cX3_widthOf 14 = .ok (.iload 5, 2) := by decide +kernel
theorem dX3_widthOf_16 : decode cX3_widthOf 16 = .ok (.aload_n 0, 1) := by decide +kernel
theorem dX3_widthOf_17 : decode cX3_widthOf 17 = .ok (.getfield 50, 3) := by decide +kernel
theorem dX3_widthOf_20 : decode cX3_widthOf 20 = .ok (.if_icmp .ge 84, 3) := by decide +kernel
theorem dX3_widthOf_23 : decode cX3_widthOf 23 = .ok (.iconst 0, 1) := by decide +kernel
theorem dX3_widthOf_24 : decode cX3_widthOf 24 = .ok (.istore 6, 2) := by decide +kernel
theorem dX3_widthOf_26 : decode cX3_widthOf 26 = .ok (.iload 6, 2) := by decide +kernel
theorem dX3_widthOf_28 : decode cX3_widthOf 28 = .ok (.aload_n 0, 1) := by decide +kernel
theorem dX3_widthOf_29 : decode cX3_widthOf 29 = .ok (.getfield 50, 3) := by decide +kernel
theorem dX3_widthOf_32 : decode cX3_widthOf 32 = .ok (.if_icmp .ge 66, 3) := by decide +kernel
theorem dX3_widthOf_35 : decode cX3_widthOf 35 = .ok (.aload_n 0, 1) := by decide +kernel
theorem dX3_widthOf_36 : decode cX3_widthOf 36 = .ok (.iload 5, 2) := by decide +kernel
theorem dX3_widthOf_38 : decode cX3_widthOf 38 = .ok (.invokevirtual 133, 3) := by decide +kernel
theorem dX3_widthOf_41 : decode cX3_widthOf 41 = .ok (.ifCond .eq 34, 3) := by decide +kernel
theorem dX3_widthOf_44 : decode cX3_widthOf 44 = .ok (.aload_n 0, 1) := by decide +kernel
theorem dX3_widthOf_45 : decode cX3_widthOf 45 = .ok (.iload 6, 2) := by decide +kernel
theorem dX3_widthOf_47 : decode cX3_widthOf 47 = .ok (.invokevirtual 133, 3) := by decide +kernel
theorem dX3_widthOf_50 : decode cX3_widthOf 50 = .ok (.ifCond .eq 25, 3) := by decide +kernel
theorem dX3_widthOf_53 : decode cX3_widthOf 53 = .ok (.aload_n 0, 1) := by decide +kernel
theorem dX3_widthOf_54 : decode cX3_widthOf 54 = .ok (.iload 5, 2) := by decide +kernel
theorem dX3_widthOf_56 : decode cX3_widthOf 56 = .ok (.iload_n 1, 1) := by decide +kernel
theorem dX3_widthOf_57 : decode cX3_widthOf 57 = .ok (.iload 4, 2) := by decide +kernel
theorem dX3_widthOf_59 : decode cX3_widthOf 59 = .ok (.invokevirtual 136, 3) := by decide +kernel
theorem dX3_widthOf_62 : decode cX3_widthOf 62 = .ok (.aload_n 0, 1) := by decide +kernel
theorem dX3_widthOf_63 : decode cX3_widthOf 63 = .ok (.iload 6, 2) := by decide +kernel
theorem dX3_widthOf_65 : decode cX3_widthOf 65 = .ok (.iload_n 1, 1) := by decide +kernel
theorem dX3_widthOf_66 : decode cX3_widthOf 66 = .ok (.iload 4, 2) := by decide +kernel
theorem dX3_widthOf_68 : decode cX3_widthOf 68 = .ok (.invokevirtual 136, 3) := by decide +kernel
theorem dX3_widthOf_71 : decode cX3_widthOf 71 = .ok (.lsub, 1) := by decide +kernel
theorem dX3_widthOf_72 : decode cX3_widthOf 72 = .ok (.goto 4, 3) := by decide +kernel
theorem dX3_widthOf_75 : decode cX3_widthOf 75 = .ok (.lconst 0, 1) := by decide +kernel
theorem dX3_widthOf_76 : decode cX3_widthOf 76 = .ok (.lstore 7, 2) := by decide +kernel
theorem dX3_widthOf_78 : decode cX3_widthOf 78 = .ok (.lload 7, 2) := by decide +kernel
theorem dX3_widthOf_80 : decode cX3_widthOf 80 = .ok (.lload_n 2, 1) := by decide +kernel
theorem dX3_widthOf_81 : decode cX3_widthOf 81 = .ok (.lcmp, 1) := by decide +kernel
theorem dX3_widthOf_82 : decode cX3_widthOf 82 = .ok (.ifCond .le 8, 3) := by decide +kernel
theorem dX3_widthOf_85 : decode cX3_widthOf 85 = .ok (.lload 7, 2) := by decide +kernel
theorem dX3_widthOf_87 : decode cX3_widthOf 87 = .ok (.goto 4, 3) := by decide +kernel
theorem dX3_widthOf_90 : decode cX3_widthOf 90 = .ok (.lload_n 2, 1) := by decide +kernel
theorem dX3_widthOf_91 : decode cX3_widthOf 91 = .ok (.lstore_n 2, 1) := by decide +kernel
theorem dX3_widthOf_92 : decode cX3_widthOf 92 = .ok (.iinc 6 1, 3) := by decide +kernel
theorem dX3_widthOf_95 : decode cX3_widthOf 95 = .ok (.goto (-69), 3) := by decide +kernel
theorem dX3_widthOf_98 : decode cX3_widthOf 98 = .ok (.iinc 5 1, 3) := by decide +kernel
theorem dX3_widthOf_101 : decode cX3_widthOf 101 = .ok (.goto (-87), 3) := by decide +kernel
theorem dX3_widthOf_104 : decode cX3_widthOf 104 = .ok (.iinc 4 1, 3) := by decide +kernel
theorem dX3_widthOf_107 : decode cX3_widthOf 107 = .ok (.goto (-102), 3) := by decide +kernel
theorem dX3_widthOf_110 : decode cX3_widthOf 110 = .ok (.lload_n 2, 1) := by decide +kernel
theorem dX3_widthOf_111 : decode cX3_widthOf 111 = .ok (.lreturn, 1) := by decide +kernel
theorem dX3_isGoal_0 : decode cX3_isGoal 0 = .ok (.iload_n 0, 1) := by decide +kernel
theorem dX3_isGoal_1 : decode cX3_isGoal 1 = .ok (.i2l, 1) := by decide +kernel
theorem dX3_isGoal_2 : decode cX3_isGoal 2 = .ok (.lconst 0, 1) := by decide +kernel
theorem dX3_isGoal_3 : decode cX3_isGoal 3 = .ok (.ldc2_w 103, 3) := by decide +kernel
theorem dX3_isGoal_6 : decode cX3_isGoal 6 = .ok (.invokestatic 71, 3) := by decide +kernel
theorem dX3_isGoal_9 : decode cX3_isGoal 9 = .ok (.ifCond .eq 31, 3) := by decide +kernel
theorem dX3_isGoal_12 : decode cX3_isGoal 12 = .ok (.iload_n 1, 1) := by decide +kernel
theorem dX3_isGoal_13 : decode cX3_isGoal 13 = .ok (.i2l, 1) := by decide +kernel
theorem dX3_isGoal_14 : decode cX3_isGoal 14 = .ok (.lconst 1, 1) := by decide +kernel
theorem dX3_isGoal_15 : decode cX3_isGoal 15 = .ok (.ldc2_w 103, 3) := by decide +kernel
theorem dX3_isGoal_18 : decode cX3_isGoal 18 = .ok (.invokestatic 71, 3) := by decide +kernel
theorem dX3_isGoal_21 : decode cX3_isGoal 21 = .ok (.ifCond .eq 19, 3) := by decide +kernel
theorem dX3_isGoal_24 : decode cX3_isGoal 24 = .ok (.iload_n 2, 1) := by decide +kernel
theorem dX3_isGoal_25 : decode cX3_isGoal 25 = .ok (.i2l, 1) := by decide +kernel
theorem dX3_isGoal_26 : decode cX3_isGoal 26 = .ok (.lconst 0, 1) := by decide +kernel
theorem dX3_isGoal_27 : decode cX3_isGoal 27 = .ok (.ldc2_w 178, 3) := by decide +kernel
theorem dX3_isGoal_30 : decode cX3_isGoal 30 = .ok (.invokestatic 71, 3) := by decide +kernel
theorem dX3_isGoal_33 : decode cX3_isGoal 33 = .ok (.ifCond .eq 7, 3) := by decide +kernel
theorem dX3_isGoal_36 : decode cX3_isGoal 36 = .ok (.iconst 1, 1) := by decide +kernel
theorem dX3_isGoal_37 : decode cX3_isGoal 37 = .ok (.goto 4, 3) := by decide +kernel
theorem dX3_isGoal_40 : decode cX3_isGoal 40 = .ok (.iconst 0, 1) := by decide +kernel
theorem dX3_isGoal_41 : decode cX3_isGoal 41 = .ok (.ireturn, 1) := by decide +kernel
theorem dX3_goTo_0 : decode cX3_goTo 0 = .ok (.iconst 0, 1) := by decide +kernel
theorem dX3_goTo_1 : decode cX3_goTo 1 = .ok (.istore 4, 2) := by decide +kernel
theorem dX3_goTo_3 : decode cX3_goTo 3 = .ok (.aload_n 0, 1) := by decide +kernel
theorem dX3_goTo_4 : decode cX3_goTo 4 = .ok (.aload_n 0, 1) := by decide +kernel
theorem dX3_goTo_5 : decode cX3_goTo 5 = .ok (.getfield 64, 3) := by decide +kernel
theorem dX3_goTo_8 : decode cX3_goTo 8 = .ok (.invokevirtual 183, 3) := by decide +kernel
theorem dX3_goTo_11 : decode cX3_goTo 11 = .ok (.iload_n 2, 1) := by decide +kernel
theorem dX3_goTo_12 : decode cX3_goTo 12 = .ok (.i2l, 1) := by decide +kernel
theorem dX3_goTo_13 : decode cX3_goTo 13 = .ok (.lmul, 1) := by decide +kernel
theorem dX3_goTo_14 : decode cX3_goTo 14 = .ok (.iload_n 1, 1) := by decide +kernel
theorem dX3_goTo_15 : decode cX3_goTo 15 = .ok (.i2l, 1) := by decide +kernel
theorem dX3_goTo_16 : decode cX3_goTo 16 = .ok (.aload_n 0, 1) := by decide +kernel
theorem dX3_goTo_17 : decode cX3_goTo 17 = .ok (.getfield 57, 3) := by decide +kernel
theorem dX3_goTo_20 : decode cX3_goTo 20 = .ok (.lmul, 1) := by decide +kernel
theorem dX3_goTo_21 : decode cX3_goTo 21 = .ok (.lcmp, 1) := by decide +kernel
theorem dX3_goTo_22 : decode cX3_goTo 22 = .ok (.ifCond .gt 7, 3) := by decide +kernel
theorem dX3_goTo_25 : decode cX3_goTo 25 = .ok (.iconst 1, 1) := by decide +kernel
theorem dX3_goTo_26 : decode cX3_goTo 26 = .ok (.goto 4, 3) := by decide +kernel
theorem dX3_goTo_29 : decode cX3_goTo 29 = .ok (.iconst 0, 1) := by decide +kernel
theorem dX3_goTo_30 : decode cX3_goTo 30 = .ok (.istore 5, 2) := by decide +kernel
theorem dX3_goTo_32 : decode cX3_goTo 32 = .ok (.iload 5, 2) := by decide +kernel
theorem dX3_goTo_34 : decode cX3_goTo 34 = .ok (.ifCond .ne 57, 3) := by decide +kernel
theorem dX3_goTo_37 : decode cX3_goTo 37 = .ok (.iload 4, 2) := by decide +kernel
theorem dX3_goTo_39 : decode cX3_goTo 39 = .ok (.iload_n 3, 1) := by decide +kernel
theorem dX3_goTo_40 : decode cX3_goTo 40 = .ok (.if_icmp .ge 51, 3) := by decide +kernel
theorem dX3_goTo_43 : decode cX3_goTo 43 = .ok (.aload_n 0, 1) := by decide +kernel
theorem dX3_goTo_44 : decode cX3_goTo 44 = .ok (.getfield 64, 3) := by decide +kernel
theorem dX3_goTo_47 : decode cX3_goTo 47 = .ok (.bipush 60, 2) := by decide +kernel
theorem dX3_goTo_49 : decode cX3_goTo 49 = .ok (.if_icmp .ge 42, 3) := by decide +kernel
theorem dX3_goTo_52 : decode cX3_goTo 52 = .ok (.aload_n 0, 1) := by decide +kernel
theorem dX3_goTo_53 : decode cX3_goTo 53 = .ok (.invokevirtual 180, 3) := by decide +kernel
theorem dX3_goTo_56 : decode cX3_goTo 56 = .ok (.iinc 4 1, 3) := by decide +kernel
theorem dX3_goTo_59 : decode cX3_goTo 59 = .ok (.aload_n 0, 1) := by decide +kernel
theorem dX3_goTo_60 : decode cX3_goTo 60 = .ok (.aload_n 0, 1) := by decide +kernel
theorem dX3_goTo_61 : decode cX3_goTo 61 = .ok (.getfield 64, 3) := by decide +kernel
theorem dX3_goTo_64 : decode cX3_goTo 64 = .ok (.invokevirtual 183, 3) := by decide +kernel
theorem dX3_goTo_67 : decode cX3_goTo 67 = .ok (.iload_n 2, 1) := by decide +kernel
theorem dX3_goTo_68 : decode cX3_goTo 68 = .ok (.i2l, 1) := by decide +kernel
theorem dX3_goTo_69 : decode cX3_goTo 69 = .ok (.lmul, 1) := by decide +kernel
theorem dX3_goTo_70 : decode cX3_goTo 70 = .ok (.iload_n 1, 1) := by decide +kernel
theorem dX3_goTo_71 : decode cX3_goTo 71 = .ok (.i2l, 1) := by decide +kernel
theorem dX3_goTo_72 : decode cX3_goTo 72 = .ok (.aload_n 0, 1) := by decide +kernel
theorem dX3_goTo_73 : decode cX3_goTo 73 = .ok (.getfield 57, 3) := by decide +kernel
theorem dX3_goTo_76 : decode cX3_goTo 76 = .ok (.lmul, 1) := by decide +kernel
theorem dX3_goTo_77 : decode cX3_goTo 77 = .ok (.lcmp, 1) := by decide +kernel
theorem dX3_goTo_78 : decode cX3_goTo 78 = .ok (.ifCond .gt 7, 3) := by decide +kernel
theorem dX3_goTo_81 : decode cX3_goTo 81 = .ok (.iconst 1, 1) := by decide +kernel
theorem dX3_goTo_82 : decode cX3_goTo 82 = .ok (.goto 4, 3) := by decide +kernel
theorem dX3_goTo_85 : decode cX3_goTo 85 = .ok (.iconst 0, 1) := by decide +kernel
theorem dX3_goTo_86 : decode cX3_goTo 86 = .ok (.istore 5, 2) := by decide +kernel
theorem dX3_goTo_88 : decode cX3_goTo 88 = .ok (.goto (-56), 3) := by decide +kernel
theorem dX3_goTo_91 : decode cX3_goTo 91 = .ok (.iload 5, 2) := by decide +kernel
theorem dX3_goTo_93 : decode cX3_goTo 93 = .ok (.ifCond .eq 8, 3) := by decide +kernel
theorem dX3_goTo_96 : decode cX3_goTo 96 = .ok (.iload 4, 2) := by decide +kernel
theorem dX3_goTo_98 : decode cX3_goTo 98 = .ok (.goto 4, 3) := by decide +kernel
theorem dX3_goTo_101 : decode cX3_goTo 101 = .ok (.iconst (-1), 1) := by decide +kernel
theorem dX3_goTo_102 : decode cX3_goTo 102 = .ok (.ireturn, 1) := by decide +kernel
theorem dX3_runTo_0 : decode cX3_runTo 0 = .ok (.iload_n 1, 1) := by decide +kernel
theorem dX3_runTo_1 : decode cX3_runTo 1 = .ok (.iload_n 2, 1) := by decide +kernel
theorem dX3_runTo_2 : decode cX3_runTo 2 = .ok (.iload_n 3, 1) := by decide +kernel
theorem dX3_runTo_3 : decode cX3_runTo 3 = .ok (.invokestatic 187, 3) := by decide +kernel
theorem dX3_runTo_6 : decode cX3_runTo 6 = .ok (.ifCond .ne 7, 3) := by decide +kernel
theorem dX3_runTo_9 : decode cX3_runTo 9 = .ok (.sipush (-1002), 3) := by decide +kernel
theorem dX3_runTo_12 : decode cX3_runTo 12 = .ok (.ireturn, 1) := by decide +kernel
theorem dX3_runTo_13 : decode cX3_runTo 13 = .ok (.aload_n 0, 1) := by decide +kernel
theorem dX3_runTo_14 : decode cX3_runTo 14 = .ok (.getfield 64, 3) := by decide +kernel
theorem dX3_runTo_17 : decode cX3_runTo 17 = .ok (.istore 4, 2) := by decide +kernel
theorem dX3_runTo_19 : decode cX3_runTo 19 = .ok (.aload_n 0, 1) := by decide +kernel
theorem dX3_runTo_20 : decode cX3_runTo 20 = .ok (.iload_n 1, 1) := by decide +kernel
theorem dX3_runTo_21 : decode cX3_runTo 21 = .ok (.iload_n 2, 1) := by decide +kernel
theorem dX3_runTo_22 : decode cX3_runTo 22 = .ok (.iload_n 3, 1) := by decide +kernel
theorem dX3_runTo_23 : decode cX3_runTo 23 = .ok (.invokevirtual 191, 3) := by decide +kernel
theorem dX3_runTo_26 : decode cX3_runTo 26 = .ok (.istore 5, 2) := by decide +kernel
theorem dX3_runTo_28 : decode cX3_runTo 28 = .ok (.aload_n 0, 1) := by decide +kernel
theorem dX3_runTo_29 : decode cX3_runTo 29 = .ok (.iload 5, 2) := by decide +kernel
theorem dX3_runTo_31 : decode cX3_runTo 31 = .ok (.ifCond .ge 8, 3) := by decide +kernel
theorem dX3_runTo_34 : decode cX3_runTo 34 = .ok (.iload 4, 2) := by decide +kernel
theorem dX3_runTo_36 : decode cX3_runTo 36 = .ok (.goto 7, 3) := by decide +kernel
theorem dX3_runTo_39 : decode cX3_runTo 39 = .ok (.aload_n 0, 1) := by decide +kernel
theorem dX3_runTo_40 : decode cX3_runTo 40 = .ok (.getfield 64, 3) := by decide +kernel
theorem dX3_runTo_43 : decode cX3_runTo 43 = .ok (.putfield 64, 3) := by decide +kernel
theorem dX3_runTo_46 : decode cX3_runTo 46 = .ok (.iload 5, 2) := by decide +kernel
theorem dX3_runTo_48 : decode cX3_runTo 48 = .ok (.ifCond .ge 9, 3) := by decide +kernel
theorem dX3_runTo_51 : decode cX3_runTo 51 = .ok (.sipush (-1005), 3) := by decide +kernel
theorem dX3_runTo_54 : decode cX3_runTo 54 = .ok (.goto 5, 3) := by decide +kernel
theorem dX3_runTo_57 : decode cX3_runTo 57 = .ok (.iload 5, 2) := by decide +kernel
theorem dX3_runTo_59 : decode cX3_runTo 59 = .ok (.ireturn, 1) := by decide +kernel
theorem dX3_back_0 : decode cX3_back 0 = .ok (.iload_n 1, 1) := by decide +kernel
theorem dX3_back_1 : decode cX3_back 1 = .ok (.i2l, 1) := by decide +kernel
theorem dX3_back_2 : decode cX3_back 2 = .ok (.lconst 0, 1) := by decide +kernel
theorem dX3_back_3 : decode cX3_back 3 = .ok (.aload_n 0, 1) := by decide +kernel
theorem dX3_back_4 : decode cX3_back 4 = .ok (.getfield 64, 3) := by decide +kernel
theorem dX3_back_7 : decode cX3_back 7 = .ok (.i2l, 1) := by decide +kernel
theorem dX3_back_8 : decode cX3_back 8 = .ok (.invokestatic 71, 3) := by decide +kernel
theorem dX3_back_11 : decode cX3_back 11 = .ok (.ifCond .ne 7, 3) := by decide +kernel
theorem dX3_back_14 : decode cX3_back 14 = .ok (.sipush (-1002), 3) := by decide +kernel
theorem dX3_back_17 : decode cX3_back 17 = .ok (.ireturn, 1) := by decide +kernel
theorem dX3_back_18 : decode cX3_back 18 = .ok (.aload_n 0, 1) := by decide +kernel
theorem dX3_back_19 : decode cX3_back 19 = .ok (.dup, 1) := by decide +kernel
theorem dX3_back_20 : decode cX3_back 20 = .ok (.getfield 64, 3) := by decide +kernel
theorem dX3_back_23 : decode cX3_back 23 = .ok (.iload_n 1, 1) := by decide +kernel
theorem dX3_back_24 : decode cX3_back 24 = .ok (.isub, 1) := by decide +kernel
theorem dX3_back_25 : decode cX3_back 25 = .ok (.putfield 64, 3) := by decide +kernel
theorem dX3_back_28 : decode cX3_back 28 = .ok (.aload_n 0, 1) := by decide +kernel
theorem dX3_back_29 : decode cX3_back 29 = .ok (.getfield 64, 3) := by decide +kernel
theorem dX3_back_32 : decode cX3_back 32 = .ok (.ireturn, 1) := by decide +kernel
theorem dX3_value_0 : decode cX3_value 0 = .ok (.aload_n 0, 1) := by decide +kernel
theorem dX3_value_1 : decode cX3_value 1 = .ok (.iload_n 1, 1) := by decide +kernel
theorem dX3_value_2 : decode cX3_value 2 = .ok (.invokevirtual 117, 3) := by decide +kernel
theorem dX3_value_5 : decode cX3_value 5 = .ok (.ifCond .ne 25, 3) := by decide +kernel
theorem dX3_value_8 : decode cX3_value 8 = .ok (.iload_n 2, 1) := by decide +kernel
theorem dX3_value_9 : decode cX3_value 9 = .ok (.i2l, 1) := by decide +kernel
theorem dX3_value_10 : decode cX3_value 10 = .ok (.lconst 0, 1) := by decide +kernel
theorem dX3_value_11 : decode cX3_value 11 = .ok (.aload_n 0, 1) := by decide +kernel
theorem dX3_value_12 : decode cX3_value 12 = .ok (.getfield 64, 3) := by decide +kernel
theorem dX3_value_15 : decode cX3_value 15 = .ok (.i2l, 1) := by decide +kernel
theorem dX3_value_16 : decode cX3_value 16 = .ok (.invokestatic 71, 3) := by decide +kernel
theorem dX3_value_19 : decode cX3_value 19 = .ok (.ifCond .eq 11, 3) := by decide +kernel
theorem dX3_value_22 : decode cX3_value 22 = .ok (.aload_n 0, 1) := by decide +kernel
theorem dX3_value_23 : decode cX3_value 23 = .ok (.iload_n 1, 1) := by decide +kernel
theorem dX3_value_24 : decode cX3_value 24 = .ok (.invokevirtual 133, 3) := by decide +kernel
theorem dX3_value_27 : decode cX3_value 27 = .ok (.ifCond .ne 7, 3) := by decide +kernel
theorem dX3_value_30 : decode cX3_value 30 = .ok (.invokestatic 195, 3) := by decide +kernel
theorem dX3_value_33 : decode cX3_value 33 = .ok (.lreturn, 1) := by decide +kernel
theorem dX3_value_34 : decode cX3_value 34 = .ok (.aload_n 0, 1) := by decide +kernel
theorem dX3_value_35 : decode cX3_value 35 = .ok (.iload_n 1, 1) := by decide +kernel
theorem dX3_value_36 : decode cX3_value 36 = .ok (.iload_n 2, 1) := by decide +kernel
theorem dX3_value_37 : decode cX3_value 37 = .ok (.iload_n 3, 1) := by decide +kernel
theorem dX3_value_38 : decode cX3_value 38 = .ok (.ifCond .eq 7, 3) := by decide +kernel
theorem dX3_value_41 : decode cX3_value 41 = .ok (.iconst 1, 1) := by decide +kernel
theorem dX3_value_42 : decode cX3_value 42 = .ok (.goto 4, 3) := by decide +kernel
theorem dX3_value_45 : decode cX3_value 45 = .ok (.iconst 0, 1) := by decide +kernel
theorem dX3_value_46 : decode cX3_value 46 = .ok (.invokevirtual 136, 3) := by decide +kernel
theorem dX3_value_49 : decode cX3_value 49 = .ok (.aload_n 0, 1) := by decide +kernel
theorem dX3_value_50 : decode cX3_value 50 = .ok (.getfield 57, 3) := by decide +kernel
theorem dX3_value_53 : decode cX3_value 53 = .ok (.iload 4, 2) := by decide +kernel
theorem dX3_value_55 : decode cX3_value 55 = .ok (.invokestatic 198, 3) := by decide +kernel
theorem dX3_value_58 : decode cX3_value 58 = .ok (.lreturn, 1) := by decide +kernel
theorem dX3_input_0 : decode cX3_input 0 = .ok (.aload_n 0, 1) := by decide +kernel
theorem dX3_input_1 : decode cX3_input 1 = .ok (.iload_n 1, 1) := by decide +kernel
theorem dX3_input_2 : decode cX3_input 2 = .ok (.invokevirtual 117, 3) := by decide +kernel
theorem dX3_input_5 : decode cX3_input 5 = .ok (.ifCond .eq 9, 3) := by decide +kernel
theorem dX3_input_8 : decode cX3_input 8 = .ok (.invokestatic 195, 3) := by decide +kernel
theorem dX3_input_11 : decode cX3_input 11 = .ok (.goto 29, 3) := by decide +kernel
theorem dX3_input_14 : decode cX3_input 14 = .ok (.aload_n 0, 1) := by decide +kernel
theorem dX3_input_15 : decode cX3_input 15 = .ok (.getfield 7, 3) := by decide +kernel
theorem dX3_input_18 : decode cX3_input 18 = .ok (.iconst 2, 1) := by decide +kernel
theorem dX3_input_19 : decode cX3_input 19 = .ok (.iload_n 1, 1) := by decide +kernel
theorem dX3_input_20 : decode cX3_input 20 = .ok (.imul, 1) := by decide +kernel
theorem dX3_input_21 : decode cX3_input 21 = .ok (.iload_n 2, 1) := by decide +kernel
theorem dX3_input_22 : decode cX3_input 22 = .ok (.ifCond .eq 7, 3) := by decide +kernel
theorem dX3_input_25 : decode cX3_input 25 = .ok (.iconst 1, 1) := by decide +kernel
theorem dX3_input_26 : decode cX3_input 26 = .ok (.goto 4, 3) := by decide +kernel
theorem dX3_input_29 : decode cX3_input 29 = .ok (.iconst 0, 1) := by decide +kernel
theorem dX3_input_30 : decode cX3_input 30 = .ok (.iadd, 1) := by decide +kernel
theorem dX3_input_31 : decode cX3_input 31 = .ok (.laload, 1) := by decide +kernel
theorem dX3_input_32 : decode cX3_input 32 = .ok (.aload_n 0, 1) := by decide +kernel
theorem dX3_input_33 : decode cX3_input 33 = .ok (.getfield 57, 3) := by decide +kernel
theorem dX3_input_36 : decode cX3_input 36 = .ok (.iload_n 3, 1) := by decide +kernel
theorem dX3_input_37 : decode cX3_input 37 = .ok (.invokestatic 198, 3) := by decide +kernel
theorem dX3_input_40 : decode cX3_input 40 = .ok (.lreturn, 1) := by decide +kernel
theorem dX3_noReceiver_0 : decode cX3_noReceiver 0 = .ok (.aload_n 0, 1) := by decide +kernel
theorem dX3_noReceiver_1 : decode cX3_noReceiver 1 = .ok (.iload_n 1, 1) := by decide +kernel
theorem dX3_noReceiver_2 : decode cX3_noReceiver 2 = .ok (.invokevirtual 117, 3) := by decide +kernel
theorem dX3_noReceiver_5 : decode cX3_noReceiver 5 = .ok (.ifCond .ne 11, 3) := by decide +kernel
theorem dX3_noReceiver_8 : decode cX3_noReceiver 8 = .ok (.aload_n 0, 1) := by decide +kernel
theorem dX3_noReceiver_9 : decode cX3_noReceiver 9 = .ok (.iload_n 1, 1) := by decide +kernel
theorem dX3_noReceiver_10 : decode cX3_noReceiver 10 = .ok (.invokevirtual 133, 3) := by decide +kernel
theorem dX3_noReceiver_13 : decode cX3_noReceiver 13 = .ok (.ifCond .ne 7, 3) := by decide +kernel
theorem dX3_noReceiver_16 : decode cX3_noReceiver 16 = .ok (.iconst 1, 1) := by decide +kernel
theorem dX3_noReceiver_17 : decode cX3_noReceiver 17 = .ok (.goto 4, 3) := by decide +kernel
theorem dX3_noReceiver_20 : decode cX3_noReceiver 20 = .ok (.iconst 0, 1) := by decide +kernel
theorem dX3_noReceiver_21 : decode cX3_noReceiver 21 = .ok (.ireturn, 1) := by decide +kernel
theorem dX3_received_0 : decode cX3_received 0 = .ok (.aload_n 0, 1) := by decide +kernel
theorem dX3_received_1 : decode cX3_received 1 = .ok (.iload_n 1, 1) := by decide +kernel
theorem dX3_received_2 : decode cX3_received 2 = .ok (.invokevirtual 202, 3) := by decide +kernel
theorem dX3_received_5 : decode cX3_received 5 = .ok (.ifCond .ne 20, 3) := by decide +kernel
theorem dX3_received_8 : decode cX3_received 8 = .ok (.aload_n 0, 1) := by decide +kernel
theorem dX3_received_9 : decode cX3_received 9 = .ok (.iload_n 2, 1) := by decide +kernel
theorem dX3_received_10 : decode cX3_received 10 = .ok (.invokevirtual 117, 3) := by decide +kernel
theorem dX3_received_13 : decode cX3_received 13 = .ok (.ifCond .ne 12, 3) := by decide +kernel
theorem dX3_received_16 : decode cX3_received 16 = .ok (.aload_n 0, 1) := by decide +kernel
theorem dX3_received_17 : decode cX3_received 17 = .ok (.iload_n 2, 1) := by decide +kernel
theorem dX3_received_18 : decode cX3_received 18 = .ok (.iload_n 1, 1) := by decide +kernel
theorem dX3_received_19 : decode cX3_received 19 = .ok (.invokevirtual 162, 3) := by decide +kernel
theorem dX3_received_22 : decode cX3_received 22 = .ok (.ifCond .ne 7, 3) := by decide +kernel
theorem dX3_received_25 : decode cX3_received 25 = .ok (.invokestatic 195, 3) := by decide +kernel
theorem dX3_received_28 : decode cX3_received 28 = .ok (.lreturn, 1) := by decide +kernel
theorem dX3_received_29 : decode cX3_received 29 = .ok (.aload_n 0, 1) := by decide +kernel
theorem dX3_received_30 : decode cX3_received 30 = .ok (.iload_n 2, 1) := by decide +kernel
theorem dX3_received_31 : decode cX3_received 31 = .ok (.iload_n 1, 1) := by decide +kernel
theorem dX3_received_32 : decode cX3_received 32 = .ok (.iload_n 3, 1) := by decide +kernel
theorem dX3_received_33 : decode cX3_received 33 = .ok (.ifCond .eq 7, 3) := by decide +kernel
theorem dX3_received_36 : decode cX3_received 36 = .ok (.iconst 1, 1) := by decide +kernel
theorem dX3_received_37 : decode cX3_received 37 = .ok (.goto 4, 3) := by decide +kernel
theorem dX3_received_40 : decode cX3_received 40 = .ok (.iconst 0, 1) := by decide +kernel
theorem dX3_received_41 : decode cX3_received 41 = .ok (.invokevirtual 165, 3) := by decide +kernel
theorem dX3_received_44 : decode cX3_received 44 = .ok (.aload_n 0, 1) := by decide +kernel
theorem dX3_received_45 : decode cX3_received 45 = .ok (.getfield 57, 3) := by decide +kernel
theorem dX3_received_48 : decode cX3_received 48 = .ok (.iload 4, 2) := by decide +kernel
theorem dX3_received_50 : decode cX3_received 50 = .ok (.invokestatic 198, 3) := by decide +kernel
theorem dX3_received_53 : decode cX3_received 53 = .ok (.lreturn, 1) := by decide +kernel
theorem dX3_rest_0 : decode cX3_rest 0 = .ok (.aload_n 0, 1) := by decide +kernel
theorem dX3_rest_1 : decode cX3_rest 1 = .ok (.iload_n 1, 1) := by decide +kernel
theorem dX3_rest_2 : decode cX3_rest 2 = .ok (.invokevirtual 202, 3) := by decide +kernel
theorem dX3_rest_5 : decode cX3_rest 5 = .ok (.ifCond .eq 7, 3) := by decide +kernel
theorem dX3_rest_8 : decode cX3_rest 8 = .ok (.invokestatic 195, 3) := by decide +kernel
theorem dX3_rest_11 : decode cX3_rest 11 = .ok (.lreturn, 1) := by decide +kernel
theorem dX3_rest_12 : decode cX3_rest 12 = .ok (.aload_n 0, 1) := by decide +kernel
theorem dX3_rest_13 : decode cX3_rest 13 = .ok (.iload_n 1, 1) := by decide +kernel
theorem dX3_rest_14 : decode cX3_rest 14 = .ok (.iload_n 3, 1) := by decide +kernel
theorem dX3_rest_15 : decode cX3_rest 15 = .ok (.ifCond .eq 7, 3) := by decide +kernel
theorem dX3_rest_18 : decode cX3_rest 18 = .ok (.iconst 1, 1) := by decide +kernel
theorem dX3_rest_19 : decode cX3_rest 19 = .ok (.goto 4, 3) := by decide +kernel
theorem dX3_rest_22 : decode cX3_rest 22 = .ok (.iconst 0, 1) := by decide +kernel
theorem dX3_rest_23 : decode cX3_rest 23 = .ok (.invokevirtual 171, 3) := by decide +kernel
theorem dX3_rest_26 : decode cX3_rest 26 = .ok (.iload_n 2, 1) := by decide +kernel
theorem dX3_rest_27 : decode cX3_rest 27 = .ok (.i2l, 1) := by decide +kernel
theorem dX3_rest_28 : decode cX3_rest 28 = .ok (.lconst 0, 1) := by decide +kernel
theorem dX3_rest_29 : decode cX3_rest 29 = .ok (.aload_n 0, 1) := by decide +kernel
theorem dX3_rest_30 : decode cX3_rest 30 = .ok (.getfield 159, 3) := by decide +kernel
theorem dX3_rest_33 : decode cX3_rest 33 = .ok (.iconst 2, 1) := by decide +kernel
theorem dX3_rest_34 : decode cX3_rest 34 = .ok (.aload_n 0, 1) := by decide +kernel
theorem dX3_rest_35 : decode cX3_rest 35 = .ok (.getfield 54, 3) := by decide +kernel
theorem dX3_rest_38 : decode cX3_rest 38 = .ok (.imul, 1) := by decide +kernel
theorem dX3_rest_39 : decode cX3_rest 39 = .ok (.isub, 1) := by decide +kernel
theorem dX3_rest_40 : decode cX3_rest 40 = .ok (.iconst 1, 1) := by decide +kernel
theorem dX3_rest_41 : decode cX3_rest 41 = .ok (.isub, 1) := by decide +kernel
theorem dX3_rest_42 : decode cX3_rest 42 = .ok (.i2l, 1) := by decide +kernel
theorem dX3_rest_43 : decode cX3_rest 43 = .ok (.invokestatic 71, 3) := by decide +kernel
theorem dX3_rest_46 : decode cX3_rest 46 = .ok (.ifCond .eq 26, 3) := by decide +kernel
theorem dX3_rest_49 : decode cX3_rest 49 = .ok (.aload_n 0, 1) := by decide +kernel
theorem dX3_rest_50 : decode cX3_rest 50 = .ok (.getfield 36, 3) := by decide +kernel
theorem dX3_rest_53 : decode cX3_rest 53 = .ok (.aload_n 0, 1) := by decide +kernel
theorem dX3_rest_54 : decode cX3_rest 54 = .ok (.getfield 54, 3) := by decide +kernel
theorem dX3_rest_57 : decode cX3_rest 57 = .ok (.iload_n 2, 1) := by decide +kernel
theorem dX3_rest_58 : decode cX3_rest 58 = .ok (.iadd, 1) := by decide +kernel
theorem dX3_rest_59 : decode cX3_rest 59 = .ok (.laload, 1) := by decide +kernel
theorem dX3_rest_60 : decode cX3_rest 60 = .ok (.aload_n 0, 1) := by decide +kernel
theorem dX3_rest_61 : decode cX3_rest 61 = .ok (.getfield 57, 3) := by decide +kernel
theorem dX3_rest_64 : decode cX3_rest 64 = .ok (.iload 4, 2) := by decide +kernel
theorem dX3_rest_66 : decode cX3_rest 66 = .ok (.invokestatic 198, 3) := by decide +kernel
theorem dX3_rest_69 : decode cX3_rest 69 = .ok (.goto 6, 3) := by decide +kernel
theorem dX3_rest_72 : decode cX3_rest 72 = .ok (.invokestatic 195, 3) := by decide +kernel
theorem dX3_rest_75 : decode cX3_rest 75 = .ok (.lreturn, 1) := by decide +kernel
theorem dX3_mostFrequent_0 : decode cX3_mostFrequent 0 = .ok (.iload_n 1, 1) := by decide +kernel
theorem dX3_mostFrequent_1 : decode cX3_mostFrequent 1 = .ok (.i2l, 1) := by decide +kernel
theorem dX3_mostFrequent_2 : decode cX3_mostFrequent 2 = .ok (.lconst 0, 1) := by decide +kernel
theorem dX3_mostFrequent_3 : decode cX3_mostFrequent 3 = .ok (.lconst 1, 1) := by decide +kernel
theorem dX3_mostFrequent_4 : decode cX3_mostFrequent 4 = .ok (.invokestatic 71, 3) := by decide +kernel
theorem dX3_mostFrequent_7 : decode cX3_mostFrequent 7 = .ok (.ifCond .ne 7, 3) := by decide +kernel
theorem dX3_mostFrequent_10 : decode cX3_mostFrequent 10 = .ok (.sipush (-1002), 3) := by decide +kernel
theorem dX3_mostFrequent_13 : decode cX3_mostFrequent 13 = .ok (.ireturn, 1) := by decide +kernel
theorem dX3_mostFrequent_14 : decode cX3_mostFrequent 14 = .ok (.iconst (-1), 1) := by decide +kernel
theorem dX3_mostFrequent_15 : decode cX3_mostFrequent 15 = .ok (.istore_n 2, 1) := by decide +kernel
theorem dX3_mostFrequent_16 : decode cX3_mostFrequent 16 = .ok (.iconst 0, 1) := by decide +kernel
theorem dX3_mostFrequent_17 : decode cX3_mostFrequent 17 = .ok (.istore_n 3, 1) := by decide +kernel
theorem dX3_mostFrequent_18 : decode cX3_mostFrequent 18 = .ok (.iconst 0, 1) := by decide +kernel
theorem dX3_mostFrequent_19 : decode cX3_mostFrequent 19 = .ok (.istore 4, 2) := by decide +kernel
theorem dX3_mostFrequent_21 : decode cX3_mostFrequent 21 = .ok (.iload 4, 2) := by decide +kernel
theorem dX3_mostFrequent_23 : decode cX3_mostFrequent 23 = .ok (.aload_n 0, 1) := by decide +kernel
theorem dX3_mostFrequent_24 : decode cX3_mostFrequent 24 = .ok (.getfield 50, 3) := by decide +kernel
theorem dX3_mostFrequent_27 : decode cX3_mostFrequent 27 = .ok (.if_icmp .ge 60, 3) := by decide +kernel
theorem dX3_mostFrequent_30 : decode cX3_mostFrequent 30 = .ok (.aload_n 0, 1) := by decide +kernel
theorem dX3_mostFrequent_31 : decode cX3_mostFrequent 31 = .ok (.iload 4, 2) := by decide +kernel
theorem dX3_mostFrequent_33 : decode cX3_mostFrequent 33 = .ok (.invokevirtual 133, 3) := by decide +kernel
theorem dX3_mostFrequent_36 : decode cX3_mostFrequent 36 = .ok (.ifCond .eq 16, 3) := by decide +kernel
theorem dX3_mostFrequent_39 : decode cX3_mostFrequent 39 = .ok (.aload_n 0, 1) := by decide +kernel
theorem dX3_mostFrequent_40 : decode cX3_mostFrequent 40 = .ok (.iload 4, 2) := by decide +kernel
theorem dX3_mostFrequent_42 : decode cX3_mostFrequent 42 = .ok (.aload_n 0, 1) := by decide +kernel
theorem dX3_mostFrequent_43 : decode cX3_mostFrequent 43 = .ok (.getfield 50, 3) := by decide +kernel
theorem dX3_mostFrequent_46 : decode cX3_mostFrequent 46 = .ok (.invokevirtual 143, 3) := by decide +kernel
theorem dX3_mostFrequent_49 : decode cX3_mostFrequent 49 = .ok (.goto 4, 3) := by decide +kernel
theorem dX3_mostFrequent_52 : decode cX3_mostFrequent 52 = .ok (.iconst 0, 1) := by decide +kernel
theorem dX3_mostFrequent_53 : decode cX3_mostFrequent 53 = .ok (.istore 5, 2) := by decide +kernel
theorem dX3_mostFrequent_55 : decode cX3_mostFrequent 55 = .ok (.iload 5, 2) := by decide +kernel
theorem dX3_mostFrequent_57 : decode cX3_mostFrequent 57 = .ok (.iload_n 3, 1) := by decide +kernel
theorem dX3_mostFrequent_58 : decode cX3_mostFrequent 58 = .ok (.if_icmp .le 8, 3) := by decide +kernel
theorem dX3_mostFrequent_61 : decode cX3_mostFrequent 61 = .ok (.iload 4, 2) := by decide +kernel
theorem dX3_mostFrequent_63 : decode cX3_mostFrequent 63 = .ok (.goto 4, 3) := by decide +kernel
theorem dX3_mostFrequent_66 : decode cX3_mostFrequent 66 = .ok (.iload_n 2, 1) := by decide +kernel
theorem dX3_mostFrequent_67 : decode cX3_mostFrequent 67 = .ok (.istore_n 2, 1) := by decide +kernel
theorem dX3_mostFrequent_68 : decode cX3_mostFrequent 68 = .ok (.iload 5, 2) := by decide +kernel
theorem dX3_mostFrequent_70 : decode cX3_mostFrequent 70 = .ok (.iload_n 3, 1) := by decide +kernel
theorem dX3_mostFrequent_71 : decode cX3_mostFrequent 71 = .ok (.if_icmp .le 8, 3) := by decide +kernel
theorem dX3_mostFrequent_74 : decode cX3_mostFrequent 74 = .ok (.iload 5, 2) := by decide +kernel
theorem dX3_mostFrequent_76 : decode cX3_mostFrequent 76 = .ok (.goto 4, 3) := by decide +kernel
theorem dX3_mostFrequent_79 : decode cX3_mostFrequent 79 = .ok (.iload_n 3, 1) := by decide +kernel
theorem dX3_mostFrequent_80 : decode cX3_mostFrequent 80 = .ok (.istore_n 3, 1) := by decide +kernel
theorem dX3_mostFrequent_81 : decode cX3_mostFrequent 81 = .ok (.iinc 4 1, 3) := by decide +kernel
theorem dX3_mostFrequent_84 : decode cX3_mostFrequent 84 = .ok (.goto (-63), 3) := by decide +kernel
theorem dX3_mostFrequent_87 : decode cX3_mostFrequent 87 = .ok (.iload_n 2, 1) := by decide +kernel
theorem dX3_mostFrequent_88 : decode cX3_mostFrequent 88 = .ok (.ifCond .ge 9, 3) := by decide +kernel
theorem dX3_mostFrequent_91 : decode cX3_mostFrequent 91 = .ok (.sipush (-1005), 3) := by decide +kernel
theorem dX3_mostFrequent_94 : decode cX3_mostFrequent 94 = .ok (.goto 12, 3) := by decide +kernel
theorem dX3_mostFrequent_97 : decode cX3_mostFrequent 97 = .ok (.iload_n 1, 1) := by decide +kernel
theorem dX3_mostFrequent_98 : decode cX3_mostFrequent 98 = .ok (.ifCond .ne 7, 3) := by decide +kernel
theorem dX3_mostFrequent_101 : decode cX3_mostFrequent 101 = .ok (.iload_n 2, 1) := by decide +kernel
theorem dX3_mostFrequent_102 : decode cX3_mostFrequent 102 = .ok (.goto 4, 3) := by decide +kernel
theorem dX3_mostFrequent_105 : decode cX3_mostFrequent 105 = .ok (.iload_n 3, 1) := by decide +kernel
theorem dX3_mostFrequent_106 : decode cX3_mostFrequent 106 = .ok (.ireturn, 1) := by decide +kernel
theorem dX3_width_0 : decode cX3_width 0 = .ok (.iload_n 1, 1) := by decide +kernel
theorem dX3_width_1 : decode cX3_width 1 = .ok (.i2l, 1) := by decide +kernel
theorem dX3_width_2 : decode cX3_width 2 = .ok (.lconst 0, 1) := by decide +kernel
theorem dX3_width_3 : decode cX3_width 3 = .ok (.aload_n 0, 1) := by decide +kernel
theorem dX3_width_4 : decode cX3_width 4 = .ok (.getfield 64, 3) := by decide +kernel
theorem dX3_width_7 : decode cX3_width 7 = .ok (.i2l, 1) := by decide +kernel
theorem dX3_width_8 : decode cX3_width 8 = .ok (.invokestatic 71, 3) := by decide +kernel
theorem dX3_width_11 : decode cX3_width 11 = .ok (.ifCond .eq 19, 3) := by decide +kernel
theorem dX3_width_14 : decode cX3_width 14 = .ok (.aload_n 0, 1) := by decide +kernel
theorem dX3_width_15 : decode cX3_width 15 = .ok (.iload_n 1, 1) := by decide +kernel
theorem dX3_width_16 : decode cX3_width 16 = .ok (.invokevirtual 183, 3) := by decide +kernel
theorem dX3_width_19 : decode cX3_width 19 = .ok (.aload_n 0, 1) := by decide +kernel
theorem dX3_width_20 : decode cX3_width 20 = .ok (.getfield 57, 3) := by decide +kernel
theorem dX3_width_23 : decode cX3_width 23 = .ok (.iload_n 2, 1) := by decide +kernel
theorem dX3_width_24 : decode cX3_width 24 = .ok (.invokestatic 198, 3) := by decide +kernel
theorem dX3_width_27 : decode cX3_width 27 = .ok (.goto 6, 3) := by decide +kernel
theorem dX3_width_30 : decode cX3_width 30 = .ok (.invokestatic 195, 3) := by decide +kernel
theorem dX3_width_33 : decode cX3_width 33 = .ok (.lreturn, 1) := by decide +kernel
theorem dX3_rate_0 : decode cX3_rate 0 = .ok (.iload_n 1, 1) := by decide +kernel
theorem dX3_rate_1 : decode cX3_rate 1 = .ok (.i2l, 1) := by decide +kernel
theorem dX3_rate_2 : decode cX3_rate 2 = .ok (.lconst 1, 1) := by decide +kernel
theorem dX3_rate_3 : decode cX3_rate 3 = .ok (.aload_n 0, 1) := by decide +kernel
theorem dX3_rate_4 : decode cX3_rate 4 = .ok (.getfield 64, 3) := by decide +kernel
theorem dX3_rate_7 : decode cX3_rate 7 = .ok (.i2l, 1) := by decide +kernel
theorem dX3_rate_8 : decode cX3_rate 8 = .ok (.invokestatic 71, 3) := by decide +kernel
theorem dX3_rate_11 : decode cX3_rate 11 = .ok (.ifCond .eq 15, 3) := by decide +kernel
theorem dX3_rate_14 : decode cX3_rate 14 = .ok (.aload_n 0, 1) := by decide +kernel
theorem dX3_rate_15 : decode cX3_rate 15 = .ok (.iload_n 1, 1) := by decide +kernel
theorem dX3_rate_16 : decode cX3_rate 16 = .ok (.iconst 1, 1) := by decide +kernel
theorem dX3_rate_17 : decode cX3_rate 17 = .ok (.isub, 1) := by decide +kernel
theorem dX3_rate_18 : decode cX3_rate 18 = .ok (.invokevirtual 183, 3) := by decide +kernel
theorem dX3_rate_21 : decode cX3_rate 21 = .ok (.lconst 0, 1) := by decide +kernel
theorem dX3_rate_22 : decode cX3_rate 22 = .ok (.lcmp, 1) := by decide +kernel
theorem dX3_rate_23 : decode cX3_rate 23 = .ok (.ifCond .ne 7, 3) := by decide +kernel
theorem dX3_rate_26 : decode cX3_rate 26 = .ok (.invokestatic 195, 3) := by decide +kernel
theorem dX3_rate_29 : decode cX3_rate 29 = .ok (.lreturn, 1) := by decide +kernel
theorem dX3_rate_30 : decode cX3_rate 30 = .ok (.aload_n 0, 1) := by decide +kernel
theorem dX3_rate_31 : decode cX3_rate 31 = .ok (.iload_n 1, 1) := by decide +kernel
theorem dX3_rate_32 : decode cX3_rate 32 = .ok (.invokevirtual 183, 3) := by decide +kernel
theorem dX3_rate_35 : decode cX3_rate 35 = .ok (.aload_n 0, 1) := by decide +kernel
theorem dX3_rate_36 : decode cX3_rate 36 = .ok (.iload_n 1, 1) := by decide +kernel
theorem dX3_rate_37 : decode cX3_rate 37 = .ok (.iconst 1, 1) := by decide +kernel
theorem dX3_rate_38 : decode cX3_rate 38 = .ok (.isub, 1) := by decide +kernel
theorem dX3_rate_39 : decode cX3_rate 39 = .ok (.invokevirtual 183, 3) := by decide +kernel
theorem dX3_rate_42 : decode cX3_rate 42 = .ok (.iload_n 2, 1) := by decide +kernel
theorem dX3_rate_43 : decode cX3_rate 43 = .ok (.invokestatic 198, 3) := by decide +kernel
theorem dX3_rate_46 : decode cX3_rate 46 = .ok (.lreturn, 1) := by decide +kernel
theorem dX3_guarantee_0 : decode cX3_guarantee 0 = .ok (.aload_n 0, 1) := by decide +kernel
theorem dX3_guarantee_1 : decode cX3_guarantee 1 = .ok (.invokevirtual 147, 3) := by decide +kernel
theorem dX3_guarantee_4 : decode cX3_guarantee 4 = .ok (.aload_n 0, 1) := by decide +kernel
theorem dX3_guarantee_5 : decode cX3_guarantee 5 = .ok (.getfield 54, 3) := by decide +kernel
theorem dX3_guarantee_8 : decode cX3_guarantee 8 = .ok (.if_icmp .gt 28, 3) := by decide +kernel
theorem dX3_guarantee_11 : decode cX3_guarantee 11 = .ok (.aload_n 0, 1) := by decide +kernel
theorem dX3_guarantee_12 : decode cX3_guarantee 12 = .ok (.getfield 50, 3) := by decide +kernel
theorem dX3_guarantee_15 : decode cX3_guarantee 15 = .ok (.iconst 3, 1) := by decide +kernel
theorem dX3_guarantee_16 : decode cX3_guarantee 16 = .ok (.aload_n 0, 1) := by decide +kernel
theorem dX3_guarantee_17 : decode cX3_guarantee 17 = .ok (.getfield 54, 3) := by decide +kernel
theorem dX3_guarantee_20 : decode cX3_guarantee 20 = .ok (.imul, 1) := by decide +kernel
theorem dX3_guarantee_21 : decode cX3_guarantee 21 = .ok (.if_icmp .le 15, 3) := by decide +kernel
theorem dX3_guarantee_24 : decode cX3_guarantee 24 = .ok (.aload_n 0, 1) := by decide +kernel
theorem dX3_guarantee_25 : decode cX3_guarantee 25 = .ok (.getfield 61, 3) := by decide +kernel
theorem dX3_guarantee_28 : decode cX3_guarantee 28 = .ok (.iconst 2, 1) := by decide +kernel
theorem dX3_guarantee_29 : decode cX3_guarantee 29 = .ok (.if_icmp .eq 7, 3) := by decide +kernel
theorem dX3_guarantee_32 : decode cX3_guarantee 32 = .ok (.iconst 1, 1) := by decide +kernel
theorem dX3_guarantee_33 : decode cX3_guarantee 33 = .ok (.goto 4, 3) := by decide +kernel
theorem dX3_guarantee_36 : decode cX3_guarantee 36 = .ok (.iconst 0, 1) := by decide +kernel
theorem dX3_guarantee_37 : decode cX3_guarantee 37 = .ok (.istore_n 2, 1) := by decide +kernel
theorem dX3_guarantee_38 : decode cX3_guarantee 38 = .ok (.iconst 0, 1) := by decide +kernel
theorem dX3_guarantee_39 : decode cX3_guarantee 39 = .ok (.istore_n 3, 1) := by decide +kernel
theorem dX3_guarantee_40 : decode cX3_guarantee 40 = .ok (.iload_n 3, 1) := by decide +kernel
theorem dX3_guarantee_41 : decode cX3_guarantee 41 = .ok (.aload_n 0, 1) := by decide +kernel
theorem dX3_guarantee_42 : decode cX3_guarantee 42 = .ok (.getfield 50, 3) := by decide +kernel
theorem dX3_guarantee_45 : decode cX3_guarantee 45 = .ok (.if_icmp .ge 58, 3) := by decide +kernel
theorem dX3_guarantee_48 : decode cX3_guarantee 48 = .ok (.iconst 0, 1) := by decide +kernel
theorem dX3_guarantee_49 : decode cX3_guarantee 49 = .ok (.istore 4, 2) := by decide +kernel
theorem dX3_guarantee_51 : decode cX3_guarantee 51 = .ok (.iload 4, 2) := by decide +kernel
theorem dX3_guarantee_53 : decode cX3_guarantee 53 = .ok (.aload_n 0, 1) := by decide +kernel
theorem dX3_guarantee_54 : decode cX3_guarantee 54 = .ok (.getfield 50, 3) := by decide +kernel
theorem dX3_guarantee_57 : decode cX3_guarantee 57 = .ok (.if_icmp .ge 40, 3) := by decide +kernel
theorem dX3_guarantee_60 : decode cX3_guarantee 60 = .ok (.iload_n 2, 1) := by decide +kernel
theorem dX3_guarantee_61 : decode cX3_guarantee 61 = .ok (.ifCond .eq 28, 3) := by decide +kernel
theorem dX3_guarantee_64 : decode cX3_guarantee 64 = .ok (.iload_n 3, 1) := by decide +kernel
theorem dX3_guarantee_65 : decode cX3_guarantee 65 = .ok (.iload 4, 2) := by decide +kernel
theorem dX3_guarantee_67 : decode cX3_guarantee 67 = .ok (.if_icmp .eq 18, 3) := by decide +kernel
theorem dX3_guarantee_70 : decode cX3_guarantee 70 = .ok (.aload_n 0, 1) := by decide +kernel
theorem dX3_guarantee_71 : decode cX3_guarantee 71 = .ok (.getfield 26, 3) := by decide +kernel
theorem dX3_guarantee_74 : decode cX3_guarantee 74 = .ok (.bipush 10, 2) := by decide +kernel
theorem dX3_guarantee_76 : decode cX3_guarantee 76 = .ok (.iload_n 3, 1) := by decide +kernel
theorem dX3_guarantee_77 : decode cX3_guarantee 77 = .ok (.imul, 1) := by decide +kernel
theorem dX3_guarantee_78 : decode cX3_guarantee 78 = .ok (.iload 4, 2) := by decide +kernel
theorem dX3_guarantee_80 : decode cX3_guarantee 80 = .ok (.iadd, 1) := by decide +kernel
theorem dX3_guarantee_81 : decode cX3_guarantee 81 = .ok (.iaload, 1) := by decide +kernel
theorem dX3_guarantee_82 : decode cX3_guarantee 82 = .ok (.ifCond .ne 7, 3) := by decide +kernel
theorem dX3_guarantee_85 : decode cX3_guarantee 85 = .ok (.iconst 1, 1) := by decide +kernel
theorem dX3_guarantee_86 : decode cX3_guarantee 86 = .ok (.goto 4, 3) := by decide +kernel
theorem dX3_guarantee_89 : decode cX3_guarantee 89 = .ok (.iconst 0, 1) := by decide +kernel
theorem dX3_guarantee_90 : decode cX3_guarantee 90 = .ok (.istore_n 2, 1) := by decide +kernel
theorem dX3_guarantee_91 : decode cX3_guarantee 91 = .ok (.iinc 4 1, 3) := by decide +kernel
theorem dX3_guarantee_94 : decode cX3_guarantee 94 = .ok (.goto (-43), 3) := by decide +kernel
theorem dX3_guarantee_97 : decode cX3_guarantee 97 = .ok (.iinc 3 1, 3) := by decide +kernel
theorem dX3_guarantee_100 : decode cX3_guarantee 100 = .ok (.goto (-60), 3) := by decide +kernel
theorem dX3_guarantee_103 : decode cX3_guarantee 103 = .ok (.iload_n 2, 1) := by decide +kernel
theorem dX3_guarantee_104 : decode cX3_guarantee 104 = .ok (.ifCond .ne 7, 3) := by decide +kernel
theorem dX3_guarantee_107 : decode cX3_guarantee 107 = .ok (.invokestatic 195, 3) := by decide +kernel
theorem dX3_guarantee_110 : decode cX3_guarantee 110 = .ok (.lreturn, 1) := by decide +kernel
theorem dX3_guarantee_111 : decode cX3_guarantee 111 = .ok (.aload_n 0, 1) := by decide +kernel
theorem dX3_guarantee_112 : decode cX3_guarantee 112 = .ok (.getfield 54, 3) := by decide +kernel
theorem dX3_guarantee_115 : decode cX3_guarantee 115 = .ok (.ifCond .ne 13, 3) := by decide +kernel
theorem dX3_guarantee_118 : decode cX3_guarantee 118 = .ok (.iload_n 1, 1) := by decide +kernel
theorem dX3_guarantee_119 : decode cX3_guarantee 119 = .ok (.ifCond .eq 7, 3) := by decide +kernel
theorem dX3_guarantee_122 : decode cX3_guarantee 122 = .ok (.lconst 1, 1) := by decide +kernel
theorem dX3_guarantee_123 : decode cX3_guarantee 123 = .ok (.goto 4, 3) := by decide +kernel
theorem dX3_guarantee_126 : decode cX3_guarantee 126 = .ok (.lconst 0, 1) := by decide +kernel
theorem dX3_guarantee_127 : decode cX3_guarantee 127 = .ok (.lreturn, 1) := by decide +kernel
theorem dX3_guarantee_128 : decode cX3_guarantee 128 = .ok (.aload_n 0, 1) := by decide +kernel
theorem dX3_guarantee_129 : decode cX3_guarantee 129 = .ok (.getfield 61, 3) := by decide +kernel
theorem dX3_guarantee_132 : decode cX3_guarantee 132 = .ok (.ifCond .ne 25, 3) := by decide +kernel
theorem dX3_guarantee_135 : decode cX3_guarantee 135 = .ok (.aload_n 0, 1) := by decide +kernel
theorem dX3_guarantee_136 : decode cX3_guarantee 136 = .ok (.getfield 54, 3) := by decide +kernel
theorem dX3_guarantee_139 : decode cX3_guarantee 139 = .ok (.i2l, 1) := by decide +kernel
theorem dX3_guarantee_140 : decode cX3_guarantee 140 = .ok (.aload_n 0, 1) := by decide +kernel
theorem dX3_guarantee_141 : decode cX3_guarantee 141 = .ok (.getfield 50, 3) := by decide +kernel
theorem dX3_guarantee_144 : decode cX3_guarantee 144 = .ok (.iconst 2, 1) := by decide +kernel
theorem dX3_guarantee_145 : decode cX3_guarantee 145 = .ok (.aload_n 0, 1) := by decide +kernel
theorem dX3_guarantee_146 : decode cX3_guarantee 146 = .ok (.getfield 54, 3) := by decide +kernel
theorem dX3_guarantee_149 : decode cX3_guarantee 149 = .ok (.imul, 1) := by decide +kernel
theorem dX3_guarantee_150 : decode cX3_guarantee 150 = .ok (.isub, 1) := by decide +kernel
theorem dX3_guarantee_151 : decode cX3_guarantee 151 = .ok (.i2l, 1) := by decide +kernel
theorem dX3_guarantee_152 : decode cX3_guarantee 152 = .ok (.iload_n 1, 1) := by decide +kernel
theorem dX3_guarantee_153 : decode cX3_guarantee 153 = .ok (.invokestatic 198, 3) := by decide +kernel
theorem dX3_guarantee_156 : decode cX3_guarantee 156 = .ok (.lreturn, 1) := by decide +kernel
theorem dX3_guarantee_157 : decode cX3_guarantee 157 = .ok (.iload_n 1, 1) := by decide +kernel
theorem dX3_guarantee_158 : decode cX3_guarantee 158 = .ok (.ifCond .eq 41, 3) := by decide +kernel
theorem dX3_guarantee_161 : decode cX3_guarantee 161 = .ok (.aload_n 0, 1) := by decide +kernel
theorem dX3_guarantee_162 : decode cX3_guarantee 162 = .ok (.getfield 61, 3) := by decide +kernel
theorem dX3_guarantee_165 : decode cX3_guarantee 165 = .ok (.iconst 1, 1) := by decide +kernel
theorem dX3_guarantee_166 : decode cX3_guarantee 166 = .ok (.if_icmp .ne 9, 3) := by decide +kernel
theorem dX3_guarantee_169 : decode cX3_guarantee 169 = .ok (.ldc2_w 67, 3) := by decide +kernel
theorem dX3_guarantee_172 : decode cX3_guarantee 172 = .ok (.goto 28, 3) := by decide +kernel
theorem dX3_guarantee_175 : decode cX3_guarantee 175 = .ok (.aload_n 0, 1) := by decide +kernel
theorem dX3_guarantee_176 : decode cX3_guarantee 176 = .ok (.getfield 50, 3) := by decide +kernel
theorem dX3_guarantee_179 : decode cX3_guarantee 179 = .ok (.iconst 2, 1) := by decide +kernel
theorem dX3_guarantee_180 : decode cX3_guarantee 180 = .ok (.aload_n 0, 1) := by decide +kernel
theorem dX3_guarantee_181 : decode cX3_guarantee 181 = .ok (.getfield 54, 3) := by decide +kernel
theorem dX3_guarantee_184 : decode cX3_guarantee 184 = .ok (.imul, 1) := by decide +kernel
theorem dX3_guarantee_185 : decode cX3_guarantee 185 = .ok (.isub, 1) := by decide +kernel
theorem dX3_guarantee_186 : decode cX3_guarantee 186 = .ok (.iconst 1, 1) := by decide +kernel
theorem dX3_guarantee_187 : decode cX3_guarantee 187 = .ok (.isub, 1) := by decide +kernel
theorem dX3_guarantee_188 : decode cX3_guarantee 188 = .ok (.aload_n 0, 1) := by decide +kernel
theorem dX3_guarantee_189 : decode cX3_guarantee 189 = .ok (.getfield 54, 3) := by decide +kernel
theorem dX3_guarantee_192 : decode cX3_guarantee 192 = .ok (.idiv, 1) := by decide +kernel
theorem dX3_guarantee_193 : decode cX3_guarantee 193 = .ok (.iconst 1, 1) := by decide +kernel
theorem dX3_guarantee_194 : decode cX3_guarantee 194 = .ok (.iadd, 1) := by decide +kernel
theorem dX3_guarantee_195 : decode cX3_guarantee 195 = .ok (.i2l, 1) := by decide +kernel
theorem dX3_guarantee_196 : decode cX3_guarantee 196 = .ok (.goto 4, 3) := by decide +kernel
theorem dX3_guarantee_199 : decode cX3_guarantee 199 = .ok (.lconst 1, 1) := by decide +kernel
theorem dX3_guarantee_200 : decode cX3_guarantee 200 = .ok (.lreturn, 1) := by decide +kernel
theorem dX3_hull_0 : decode cX3_hull 0 = .ok (.aload_n 0, 1) := by decide +kernel
theorem dX3_hull_1 : decode cX3_hull 1 = .ok (.invokevirtual 147, 3) := by decide +kernel
theorem dX3_hull_4 : decode cX3_hull 4 = .ok (.aload_n 0, 1) := by decide +kernel
theorem dX3_hull_5 : decode cX3_hull 5 = .ok (.getfield 50, 3) := by decide +kernel
theorem dX3_hull_8 : decode cX3_hull 8 = .ok (.if_icmp .ne 9, 3) := by decide +kernel
theorem dX3_hull_11 : decode cX3_hull 11 = .ok (.invokestatic 195, 3) := by decide +kernel
theorem dX3_hull_14 : decode cX3_hull 14 = .ok (.goto 25, 3) := by decide +kernel
theorem dX3_hull_17 : decode cX3_hull 17 = .ok (.aload_n 0, 1) := by decide +kernel
theorem dX3_hull_18 : decode cX3_hull 18 = .ok (.iconst (-1), 1) := by decide +kernel
theorem dX3_hull_19 : decode cX3_hull 19 = .ok (.iload_n 1, 1) := by decide +kernel
theorem dX3_hull_20 : decode cX3_hull 20 = .ok (.ifCond .eq 7, 3) := by decide +kernel
theorem dX3_hull_23 : decode cX3_hull 23 = .ok (.iconst 1, 1) := by decide +kernel
theorem dX3_hull_24 : decode cX3_hull 24 = .ok (.goto 4, 3) := by decide +kernel
theorem dX3_hull_27 : decode cX3_hull 27 = .ok (.iconst 0, 1) := by decide +kernel
theorem dX3_hull_28 : decode cX3_hull 28 = .ok (.invokevirtual 153, 3) := by decide +kernel
theorem dX3_hull_31 : decode cX3_hull 31 = .ok (.aload_n 0, 1) := by decide +kernel
theorem dX3_hull_32 : decode cX3_hull 32 = .ok (.getfield 57, 3) := by decide +kernel
theorem dX3_hull_35 : decode cX3_hull 35 = .ok (.iload_n 2, 1) := by decide +kernel
theorem dX3_hull_36 : decode cX3_hull 36 = .ok (.invokestatic 198, 3) := by decide +kernel
theorem dX3_hull_39 : decode cX3_hull 39 = .ok (.lreturn, 1) := by decide +kernel
theorem dX3_outside_0 : decode cX3_outside 0 = .ok (.iconst 0, 1) := by decide +kernel
theorem dX3_outside_1 : decode cX3_outside 1 = .ok (.istore_n 1, 1) := by decide +kernel
theorem dX3_outside_2 : decode cX3_outside 2 = .ok (.aload_n 0, 1) := by decide +kernel
theorem dX3_outside_3 : decode cX3_outside 3 = .ok (.iconst (-1), 1) := by decide +kernel
theorem dX3_outside_4 : decode cX3_outside 4 = .ok (.iconst 0, 1) := by decide +kernel
theorem dX3_outside_5 : decode cX3_outside 5 = .ok (.invokevirtual 153, 3) := by decide +kernel
theorem dX3_outside_8 : decode cX3_outside 8 = .ok (.lstore_n 2, 1) := by decide +kernel
theorem dX3_outside_9 : decode cX3_outside 9 = .ok (.aload_n 0, 1) := by decide +kernel
theorem dX3_outside_10 : decode cX3_outside 10 = .ok (.iconst (-1), 1) := by decide +kernel
theorem dX3_outside_11 : decode cX3_outside 11 = .ok (.iconst 1, 1) := by decide +kernel
theorem dX3_outside_12 : decode cX3_outside 12 = .ok (.invokevirtual 153, 3) := by decide +kernel
theorem dX3_outside_15 : decode cX3_outside 15 = .ok (.lstore 4, 2) := by decide +kernel
theorem dX3_outside_17 : decode cX3_outside 17 = .ok (.iconst 0, 1) := by decide +kernel
theorem dX3_outside_18 : decode cX3_outside 18 = .ok (.istore 6, 2) := by decide +kernel
theorem dX3_outside_20 : decode cX3_outside 20 = .ok (.iload 6, 2) := by decide +kernel
theorem dX3_outside_22 : decode cX3_outside 22 = .ok (.aload_n 0, 1) := by decide +kernel
theorem dX3_outside_23 : decode cX3_outside 23 = .ok (.getfield 50, 3) := by decide +kernel
theorem dX3_outside_26 : decode cX3_outside 26 = .ok (.if_icmp .ge 62, 3) := by decide +kernel
theorem dX3_outside_29 : decode cX3_outside 29 = .ok (.iload_n 1, 1) := by decide +kernel
theorem dX3_outside_30 : decode cX3_outside 30 = .ok (.aload_n 0, 1) := by decide +kernel
theorem dX3_outside_31 : decode cX3_outside 31 = .ok (.iload 6, 2) := by decide +kernel
theorem dX3_outside_33 : decode cX3_outside 33 = .ok (.invokevirtual 133, 3) := by decide +kernel
theorem dX3_outside_36 : decode cX3_outside 36 = .ok (.ifCond .eq 43, 3) := by decide +kernel
theorem dX3_outside_39 : decode cX3_outside 39 = .ok (.aload_n 0, 1) := by decide +kernel
theorem dX3_outside_40 : decode cX3_outside 40 = .ok (.iload 6, 2) := by decide +kernel
theorem dX3_outside_42 : decode cX3_outside 42 = .ok (.aload_n 0, 1) := by decide +kernel
theorem dX3_outside_43 : decode cX3_outside 43 = .ok (.getfield 64, 3) := by decide +kernel
theorem dX3_outside_46 : decode cX3_outside 46 = .ok (.iconst 0, 1) := by decide +kernel
theorem dX3_outside_47 : decode cX3_outside 47 = .ok (.invokevirtual 136, 3) := by decide +kernel
theorem dX3_outside_50 : decode cX3_outside 50 = .ok (.lload_n 2, 1) := by decide +kernel
theorem dX3_outside_51 : decode cX3_outside 51 = .ok (.lcmp, 1) := by decide +kernel
theorem dX3_outside_52 : decode cX3_outside 52 = .ok (.ifCond .lt 20, 3) := by decide +kernel
theorem dX3_outside_55 : decode cX3_outside 55 = .ok (.aload_n 0, 1) := by decide +kernel
theorem dX3_outside_56 : decode cX3_outside 56 = .ok (.iload 6, 2) := by decide +kernel
theorem dX3_outside_58 : decode cX3_outside 58 = .ok (.aload_n 0, 1) := by decide +kernel
theorem dX3_outside_59 : decode cX3_outside 59 = .ok (.getfield 64, 3) := by decide +kernel
theorem dX3_outside_62 : decode cX3_outside 62 = .ok (.iconst 1, 1) := by decide +kernel
theorem dX3_outside_63 : decode cX3_outside 63 = .ok (.invokevirtual 136, 3) := by decide +kernel
theorem dX3_outside_66 : decode cX3_outside 66 = .ok (.lload 4, 2) := by decide +kernel
theorem dX3_outside_68 : decode cX3_outside 68 = .ok (.lcmp, 1) := by decide +kernel
theorem dX3_outside_69 : decode cX3_outside 69 = .ok (.ifCond .le 10, 3) := by decide +kernel
theorem dX3_outside_72 : decode cX3_outside 72 = .ok (.iconst 1, 1) := by decide +kernel
theorem dX3_outside_73 : decode cX3_outside 73 = .ok (.iload 6, 2) := by decide +kernel
theorem dX3_outside_75 : decode cX3_outside 75 = .ok (.ishl, 1) := by decide +kernel
theorem dX3_outside_76 : decode cX3_outside 76 = .ok (.goto 4, 3) := by decide +kernel
theorem dX3_outside_79 : decode cX3_outside 79 = .ok (.iconst 0, 1) := by decide +kernel
theorem dX3_outside_80 : decode cX3_outside 80 = .ok (.ior, 1) := by decide +kernel
theorem dX3_outside_81 : decode cX3_outside 81 = .ok (.istore_n 1, 1) := by decide +kernel
theorem dX3_outside_82 : decode cX3_outside 82 = .ok (.iinc 6 1, 3) := by decide +kernel
theorem dX3_outside_85 : decode cX3_outside 85 = .ok (.goto (-65), 3) := by decide +kernel
theorem dX3_outside_88 : decode cX3_outside 88 = .ok (.iload_n 1, 1) := by decide +kernel
theorem dX3_outside_89 : decode cX3_outside 89 = .ok (.ireturn, 1) := by decide +kernel
theorem dX3_roundsTo_0 : decode cX3_roundsTo 0 = .ok (.iload_n 1, 1) := by decide +kernel
theorem dX3_roundsTo_1 : decode cX3_roundsTo 1 = .ok (.iload_n 2, 1) := by decide +kernel
theorem dX3_roundsTo_2 : decode cX3_roundsTo 2 = .ok (.iload_n 3, 1) := by decide +kernel
theorem dX3_roundsTo_3 : decode cX3_roundsTo 3 = .ok (.invokestatic 187, 3) := by decide +kernel
theorem dX3_roundsTo_6 : decode cX3_roundsTo 6 = .ok (.ifCond .ne 7, 3) := by decide +kernel
theorem dX3_roundsTo_9 : decode cX3_roundsTo 9 = .ok (.sipush (-1002), 3) := by decide +kernel
theorem dX3_roundsTo_12 : decode cX3_roundsTo 12 = .ok (.ireturn, 1) := by decide +kernel
theorem dX3_roundsTo_13 : decode cX3_roundsTo 13 = .ok (.aload_n 0, 1) := by decide +kernel
theorem dX3_roundsTo_14 : decode cX3_roundsTo 14 = .ok (.getfield 64, 3) := by decide +kernel
theorem dX3_roundsTo_17 : decode cX3_roundsTo 17 = .ok (.istore 4, 2) := by decide +kernel
theorem dX3_roundsTo_19 : decode cX3_roundsTo 19 = .ok (.aload_n 0, 1) := by decide +kernel
theorem dX3_roundsTo_20 : decode cX3_roundsTo 20 = .ok (.iload_n 1, 1) := by decide +kernel
theorem dX3_roundsTo_21 : decode cX3_roundsTo 21 = .ok (.iload_n 2, 1) := by decide +kernel
theorem dX3_roundsTo_22 : decode cX3_roundsTo 22 = .ok (.iload_n 3, 1) := by decide +kernel
theorem dX3_roundsTo_23 : decode cX3_roundsTo 23 = .ok (.invokevirtual 191, 3) := by decide +kernel
theorem dX3_roundsTo_26 : decode cX3_roundsTo 26 = .ok (.istore 5, 2) := by decide +kernel
theorem dX3_roundsTo_28 : decode cX3_roundsTo 28 = .ok (.aload_n 0, 1) := by decide +kernel
theorem dX3_roundsTo_29 : decode cX3_roundsTo 29 = .ok (.iload 4, 2) := by decide +kernel
theorem dX3_roundsTo_31 : decode cX3_roundsTo 31 = .ok (.putfield 64, 3) := by decide +kernel
theorem dX3_roundsTo_34 : decode cX3_roundsTo 34 = .ok (.iload 5, 2) := by decide +kernel
theorem dX3_roundsTo_36 : decode cX3_roundsTo 36 = .ok (.ifCond .ge 9, 3) := by decide +kernel
theorem dX3_roundsTo_39 : decode cX3_roundsTo 39 = .ok (.sipush (-1005), 3) := by decide +kernel
theorem dX3_roundsTo_42 : decode cX3_roundsTo 42 = .ok (.goto 5, 3) := by decide +kernel
theorem dX3_roundsTo_45 : decode cX3_roundsTo 45 = .ok (.iload 5, 2) := by decide +kernel
theorem dX3_roundsTo_47 : decode cX3_roundsTo 47 = .ok (.ireturn, 1) := by decide +kernel
theorem dX3_widthAfter_0 : decode cX3_widthAfter 0 = .ok (.aload_n 0, 1) := by decide +kernel
theorem dX3_widthAfter_1 : decode cX3_widthAfter 1 = .ok (.getfield 64, 3) := by decide +kernel
theorem dX3_widthAfter_4 : decode cX3_widthAfter 4 = .ok (.istore_n 2, 1) := by decide +kernel
theorem dX3_widthAfter_5 : decode cX3_widthAfter 5 = .ok (.iconst 0, 1) := by decide +kernel
theorem dX3_widthAfter_6 : decode cX3_widthAfter 6 = .ok (.istore_n 3, 1) := by decide +kernel
theorem dX3_widthAfter_7 : decode cX3_widthAfter 7 = .ok (.iload_n 3, 1) := by decide +kernel
theorem dX3_widthAfter_8 : decode cX3_widthAfter 8 = .ok (.iload_n 1, 1) := by decide +kernel
theorem dX3_widthAfter_9 : decode cX3_widthAfter 9 = .ok (.if_icmp .ge 13, 3) := by decide +kernel
theorem dX3_widthAfter_12 : decode cX3_widthAfter 12 = .ok (.aload_n 0, 1) := by decide +kernel
theorem dX3_widthAfter_13 : decode cX3_widthAfter 13 = .ok (.invokevirtual 180, 3) := by decide +kernel
theorem dX3_widthAfter_16 : decode cX3_widthAfter 16 = .ok (.iinc 3 1, 3) := by decide +kernel
theorem dX3_widthAfter_19 : decode cX3_widthAfter 19 = .ok (.goto (-12), 3) := by decide +kernel
theorem dX3_widthAfter_22 : decode cX3_widthAfter 22 = .ok (.aload_n 0, 1) := by decide +kernel
theorem dX3_widthAfter_23 : decode cX3_widthAfter 23 = .ok (.aload_n 0, 1) := by decide +kernel
theorem dX3_widthAfter_24 : decode cX3_widthAfter 24 = .ok (.getfield 64, 3) := by decide +kernel
theorem dX3_widthAfter_27 : decode cX3_widthAfter 27 = .ok (.invokevirtual 183, 3) := by decide +kernel
theorem dX3_widthAfter_30 : decode cX3_widthAfter 30 = .ok (.lstore_n 3, 1) := by decide +kernel
theorem dX3_widthAfter_31 : decode cX3_widthAfter 31 = .ok (.aload_n 0, 1) := by decide +kernel
theorem dX3_widthAfter_32 : decode cX3_widthAfter 32 = .ok (.iload_n 2, 1) := by decide +kernel
theorem dX3_widthAfter_33 : decode cX3_widthAfter 33 = .ok (.putfield 64, 3) := by decide +kernel
theorem dX3_widthAfter_36 : decode cX3_widthAfter 36 = .ok (.lload_n 3, 1) := by decide +kernel
theorem dX3_widthAfter_37 : decode cX3_widthAfter 37 = .ok (.lreturn, 1) := by decide +kernel
theorem dX3_worstStrategy_0 : decode cX3_worstStrategy 0 = .ok (.aload_n 0, 1) := by decide +kernel
theorem dX3_worstStrategy_1 : decode cX3_worstStrategy 1 = .ok (.iload_n 1, 1) := by decide +kernel
theorem dX3_worstStrategy_2 : decode cX3_worstStrategy 2 = .ok (.invokevirtual 117, 3) := by decide +kernel
theorem dX3_worstStrategy_5 : decode cX3_worstStrategy 5 = .ok (.ifCond .eq 7, 3) := by decide +kernel
theorem dX3_worstStrategy_8 : decode cX3_worstStrategy 8 = .ok (.sipush (-1001), 3) := by decide +kernel
theorem dX3_worstStrategy_11 : decode cX3_worstStrategy 11 = .ok (.ireturn, 1) := by decide +kernel
theorem dX3_worstStrategy_12 : decode cX3_worstStrategy 12 = .ok (.iload_n 2, 1) := by decide +kernel
theorem dX3_worstStrategy_13 : decode cX3_worstStrategy 13 = .ok (.i2l, 1) := by decide +kernel
theorem dX3_worstStrategy_14 : decode cX3_worstStrategy 14 = .ok (.lconst 1, 1) := by decide +kernel
theorem dX3_worstStrategy_15 : decode cX3_worstStrategy 15 = .ok (.ldc2_w 69, 3) := by decide +kernel
theorem dX3_worstStrategy_18 : decode cX3_worstStrategy 18 = .ok (.invokestatic 71, 3) := by decide +kernel
theorem dX3_worstStrategy_21 : decode cX3_worstStrategy 21 = .ok (.ifCond .ne 7, 3) := by decide +kernel
theorem dX3_worstStrategy_24 : decode cX3_worstStrategy 24 = .ok (.sipush (-1002), 3) := by decide +kernel
theorem dX3_worstStrategy_27 : decode cX3_worstStrategy 27 = .ok (.ireturn, 1) := by decide +kernel
theorem dX3_worstStrategy_28 : decode cX3_worstStrategy 28 = .ok (.aload_n 0, 1) := by decide +kernel
theorem dX3_worstStrategy_29 : decode cX3_worstStrategy 29 = .ok (.iload_n 1, 1) := by decide +kernel
theorem dX3_worstStrategy_30 : decode cX3_worstStrategy 30 = .ok (.invokevirtual 133, 3) := by decide +kernel
theorem dX3_worstStrategy_33 : decode cX3_worstStrategy 33 = .ok (.ifCond .eq 7, 3) := by decide +kernel
theorem dX3_worstStrategy_36 : decode cX3_worstStrategy 36 = .ok (.sipush (-1003), 3) := by decide +kernel
theorem dX3_worstStrategy_39 : decode cX3_worstStrategy 39 = .ok (.ireturn, 1) := by decide +kernel
theorem dX3_worstStrategy_40 : decode cX3_worstStrategy 40 = .ok (.aload_n 0, 1) := by decide +kernel
theorem dX3_worstStrategy_41 : decode cX3_worstStrategy 41 = .ok (.getfield 64, 3) := by decide +kernel
theorem dX3_worstStrategy_44 : decode cX3_worstStrategy 44 = .ok (.iload_n 2, 1) := by decide +kernel
theorem dX3_worstStrategy_45 : decode cX3_worstStrategy 45 = .ok (.iadd, 1) := by decide +kernel
theorem dX3_worstStrategy_46 : decode cX3_worstStrategy 46 = .ok (.bipush 60, 2) := by decide +kernel
theorem dX3_worstStrategy_48 : decode cX3_worstStrategy 48 = .ok (.if_icmp .le 7, 3) := by decide +kernel
theorem dX3_worstStrategy_51 : decode cX3_worstStrategy 51 = .ok (.sipush (-1004), 3) := by decide +kernel
theorem dX3_worstStrategy_54 : decode cX3_worstStrategy 54 = .ok (.ireturn, 1) := by decide +kernel
theorem dX3_worstStrategy_55 : decode cX3_worstStrategy 55 = .ok (.aload_n 0, 1) := by decide +kernel
theorem dX3_worstStrategy_56 : decode cX3_worstStrategy 56 = .ok (.getfield 13, 3) := by decide +kernel
theorem dX3_worstStrategy_59 : decode cX3_worstStrategy 59 = .ok (.iload_n 1, 1) := by decide +kernel
theorem dX3_worstStrategy_60 : decode cX3_worstStrategy 60 = .ok (.iaload, 1) := by decide +kernel
theorem dX3_worstStrategy_61 : decode cX3_worstStrategy 61 = .ok (.istore_n 3, 1) := by decide +kernel
theorem dX3_worstStrategy_62 : decode cX3_worstStrategy 62 = .ok (.iconst 0, 1) := by decide +kernel
theorem dX3_worstStrategy_63 : decode cX3_worstStrategy 63 = .ok (.istore 4, 2) := by decide +kernel
theorem dX3_worstStrategy_65 : decode cX3_worstStrategy 65 = .ok (.ldc2_w 131, 3) := by decide +kernel
theorem dX3_worstStrategy_68 : decode cX3_worstStrategy 68 = .ok (.lstore 5, 2) := by decide +kernel
theorem dX3_worstStrategy_70 : decode cX3_worstStrategy 70 = .ok (.iconst 1, 1) := by decide +kernel
theorem dX3_worstStrategy_71 : decode cX3_worstStrategy 71 = .ok (.istore 7, 2) := by decide +kernel
theorem dX3_worstStrategy_73 : decode cX3_worstStrategy 73 = .ok (.iload 7, 2) := by decide +kernel
theorem dX3_worstStrategy_75 : decode cX3_worstStrategy 75 = .ok (.bipush 6, 2) := by decide +kernel
theorem dX3_worstStrategy_77 : decode cX3_worstStrategy 77 = .ok (.if_icmp .ge 58, 3) := by decide +kernel
theorem dX3_worstStrategy_80 : decode cX3_worstStrategy 80 = .ok (.aload_n 0, 1) := by decide +kernel
theorem dX3_worstStrategy_81 : decode cX3_worstStrategy 81 = .ok (.getfield 13, 3) := by decide +kernel
theorem dX3_worstStrategy_84 : decode cX3_worstStrategy 84 = .ok (.iload_n 1, 1) := by decide +kernel
theorem dX3_worstStrategy_85 : decode cX3_worstStrategy 85 = .ok (.iload 7, 2) := by decide +kernel
theorem dX3_worstStrategy_87 : decode cX3_worstStrategy 87 = .ok (.iastore, 1) := by decide +kernel
theorem dX3_worstStrategy_88 : decode cX3_worstStrategy 88 = .ok (.aload_n 0, 1) := by decide +kernel
theorem dX3_worstStrategy_89 : decode cX3_worstStrategy 89 = .ok (.iload_n 2, 1) := by decide +kernel
theorem dX3_worstStrategy_90 : decode cX3_worstStrategy 90 = .ok (.invokevirtual 205, 3) := by decide +kernel
theorem dX3_worstStrategy_93 : decode cX3_worstStrategy 93 = .ok (.lstore 8, 2) := by decide +kernel
theorem dX3_worstStrategy_95 : decode cX3_worstStrategy 95 = .ok (.lload 8, 2) := by decide +kernel
theorem dX3_worstStrategy_97 : decode cX3_worstStrategy 97 = .ok (.lload 5, 2) := by decide +kernel
theorem dX3_worstStrategy_99 : decode cX3_worstStrategy 99 = .ok (.lcmp, 1) := by decide +kernel
theorem dX3_worstStrategy_100 : decode cX3_worstStrategy 100 = .ok (.ifCond .le 8, 3) := by decide +kernel
theorem dX3_worstStrategy_103 : decode cX3_worstStrategy 103 = .ok (.iload 7, 2) := by decide +kernel
theorem dX3_worstStrategy_105 : decode cX3_worstStrategy 105 = .ok (.goto 5, 3) := by decide +kernel
theorem dX3_worstStrategy_108 : decode cX3_worstStrategy 108 = .ok (.iload 4, 2) := by decide +kernel
theorem dX3_worstStrategy_110 : decode cX3_worstStrategy 110 = .ok (.istore 4, 2) := by decide +kernel
theorem dX3_worstStrategy_112 : decode cX3_worstStrategy 112 = .ok (.lload 8, 2) := by decide +kernel
theorem dX3_worstStrategy_114 : decode cX3_worstStrategy 114 = .ok (.lload 5, 2) := by decide +kernel
theorem dX3_worstStrategy_116 : decode cX3_worstStrategy 116 = .ok (.lcmp, 1) := by decide +kernel
theorem dX3_worstStrategy_117 : decode cX3_worstStrategy 117 = .ok (.ifCond .le 8, 3) := by decide +kernel
theorem dX3_worstStrategy_120 : decode cX3_worstStrategy 120 = .ok (.lload 8, 2) := by decide +kernel
theorem dX3_worstStrategy_122 : decode cX3_worstStrategy 122 = .ok (.goto 5, 3) := by decide +kernel
theorem dX3_worstStrategy_125 : decode cX3_worstStrategy 125 = .ok (.lload 5, 2) := by decide +kernel
theorem dX3_worstStrategy_127 : decode cX3_worstStrategy 127 = .ok (.lstore 5, 2) := by decide +kernel
theorem dX3_worstStrategy_129 : decode cX3_worstStrategy 129 = .ok (.iinc 7 1, 3) := by decide +kernel
theorem dX3_worstStrategy_132 : decode cX3_worstStrategy 132 = .ok (.goto (-59), 3) := by decide +kernel
theorem dX3_worstStrategy_135 : decode cX3_worstStrategy 135 = .ok (.aload_n 0, 1) := by decide +kernel
theorem dX3_worstStrategy_136 : decode cX3_worstStrategy 136 = .ok (.getfield 13, 3) := by decide +kernel
theorem dX3_worstStrategy_139 : decode cX3_worstStrategy 139 = .ok (.iload_n 1, 1) := by decide +kernel
theorem dX3_worstStrategy_140 : decode cX3_worstStrategy 140 = .ok (.iload_n 3, 1) := by decide +kernel
theorem dX3_worstStrategy_141 : decode cX3_worstStrategy 141 = .ok (.iastore, 1) := by decide +kernel
theorem dX3_worstStrategy_142 : decode cX3_worstStrategy 142 = .ok (.iload 4, 2) := by decide +kernel
theorem dX3_worstStrategy_144 : decode cX3_worstStrategy 144 = .ok (.ireturn, 1) := by decide +kernel
theorem dX3_bestRule_0 : decode cX3_bestRule 0 = .ok (.iload_n 1, 1) := by decide +kernel
theorem dX3_bestRule_1 : decode cX3_bestRule 1 = .ok (.i2l, 1) := by decide +kernel
theorem dX3_bestRule_2 : decode cX3_bestRule 2 = .ok (.lconst 1, 1) := by decide +kernel
theorem dX3_bestRule_3 : decode cX3_bestRule 3 = .ok (.ldc2_w 69, 3) := by decide +kernel
theorem dX3_bestRule_6 : decode cX3_bestRule 6 = .ok (.invokestatic 71, 3) := by decide +kernel
theorem dX3_bestRule_9 : decode cX3_bestRule 9 = .ok (.ifCond .ne 7, 3) := by decide +kernel
theorem dX3_bestRule_12 : decode cX3_bestRule 12 = .ok (.sipush (-1002), 3) := by decide +kernel
theorem dX3_bestRule_15 : decode cX3_bestRule 15 = .ok (.ireturn, 1) := by decide +kernel
theorem dX3_bestRule_16 : decode cX3_bestRule 16 = .ok (.aload_n 0, 1) := by decide +kernel
theorem dX3_bestRule_17 : decode cX3_bestRule 17 = .ok (.getfield 64, 3) := by decide +kernel
theorem dX3_bestRule_20 : decode cX3_bestRule 20 = .ok (.iload_n 1, 1) := by decide +kernel
theorem dX3_bestRule_21 : decode cX3_bestRule 21 = .ok (.iadd, 1) := by decide +kernel
theorem dX3_bestRule_22 : decode cX3_bestRule 22 = .ok (.bipush 60, 2) := by decide +kernel
theorem dX3_bestRule_24 : decode cX3_bestRule 24 = .ok (.if_icmp .le 7, 3) := by decide +kernel
theorem dX3_bestRule_27 : decode cX3_bestRule 27 = .ok (.sipush (-1004), 3) := by decide +kernel
theorem dX3_bestRule_30 : decode cX3_bestRule 30 = .ok (.ireturn, 1) := by decide +kernel
theorem dX3_bestRule_31 : decode cX3_bestRule 31 = .ok (.aload_n 0, 1) := by decide +kernel
theorem dX3_bestRule_32 : decode cX3_bestRule 32 = .ok (.getfield 61, 3) := by decide +kernel
theorem dX3_bestRule_35 : decode cX3_bestRule 35 = .ok (.istore_n 2, 1) := by decide +kernel
theorem dX3_bestRule_36 : decode cX3_bestRule 36 = .ok (.iconst 0, 1) := by decide +kernel
theorem dX3_bestRule_37 : decode cX3_bestRule 37 = .ok (.istore_n 3, 1) := by decide +kernel
theorem dX3_bestRule_38 : decode cX3_bestRule 38 = .ok (.lconst 0, 1) := by decide +kernel
theorem dX3_bestRule_39 : decode cX3_bestRule 39 = .ok (.lstore 4, 2) := by decide +kernel
theorem dX3_bestRule_41 : decode cX3_bestRule 41 = .ok (.iconst 0, 1) := by decide +kernel
theorem dX3_bestRule_42 : decode cX3_bestRule 42 = .ok (.istore 6, 2) := by decide +kernel
theorem dX3_bestRule_44 : decode cX3_bestRule 44 = .ok (.iload 6, 2) := by decide +kernel
theorem dX3_bestRule_46 : decode cX3_bestRule 46 = .ok (.iconst 4, 1) := by decide +kernel
theorem dX3_bestRule_47 : decode cX3_bestRule 47 = .ok (.if_icmp .ge 64, 3) := by decide +kernel
theorem dX3_bestRule_50 : decode cX3_bestRule 50 = .ok (.aload_n 0, 1) := by decide +kernel
theorem dX3_bestRule_51 : decode cX3_bestRule 51 = .ok (.iload 6, 2) := by decide +kernel
theorem dX3_bestRule_53 : decode cX3_bestRule 53 = .ok (.putfield 61, 3) := by decide +kernel
theorem dX3_bestRule_56 : decode cX3_bestRule 56 = .ok (.aload_n 0, 1) := by decide +kernel
theorem dX3_bestRule_57 : decode cX3_bestRule 57 = .ok (.iload_n 1, 1) := by decide +kernel
theorem dX3_bestRule_58 : decode cX3_bestRule 58 = .ok (.invokevirtual 205, 3) := by decide +kernel
theorem dX3_bestRule_61 : decode cX3_bestRule 61 = .ok (.lstore 7, 2) := by decide +kernel
theorem dX3_bestRule_63 : decode cX3_bestRule 63 = .ok (.iload 6, 2) := by decide +kernel
theorem dX3_bestRule_65 : decode cX3_bestRule 65 = .ok (.ifCond .eq 11, 3) := by decide +kernel
theorem dX3_bestRule_68 : decode cX3_bestRule 68 = .ok (.lload 7, 2) := by decide +kernel
theorem dX3_bestRule_70 : decode cX3_bestRule 70 = .ok (.lload 4, 2) := by decide +kernel
theorem dX3_bestRule_72 : decode cX3_bestRule 72 = .ok (.lcmp, 1) := by decide +kernel
theorem dX3_bestRule_73 : decode cX3_bestRule 73 = .ok (.ifCond .ge 8, 3) := by decide +kernel
theorem dX3_bestRule_76 : decode cX3_bestRule 76 = .ok (.iload 6, 2) := by decide +kernel
theorem dX3_bestRule_78 : decode cX3_bestRule 78 = .ok (.goto 4, 3) := by decide +kernel
theorem dX3_bestRule_81 : decode cX3_bestRule 81 = .ok (.iload_n 3, 1) := by decide +kernel
theorem dX3_bestRule_82 : decode cX3_bestRule 82 = .ok (.istore_n 3, 1) := by decide +kernel
theorem dX3_bestRule_83 : decode cX3_bestRule 83 = .ok (.iload 6, 2) := by decide +kernel
theorem dX3_bestRule_85 : decode cX3_bestRule 85 = .ok (.ifCond .eq 11, 3) := by decide +kernel
theorem dX3_bestRule_88 : decode cX3_bestRule 88 = .ok (.lload 7, 2) := by decide +kernel
theorem dX3_bestRule_90 : decode cX3_bestRule 90 = .ok (.lload 4, 2) := by decide +kernel
theorem dX3_bestRule_92 : decode cX3_bestRule 92 = .ok (.lcmp, 1) := by decide +kernel
theorem dX3_bestRule_93 : decode cX3_bestRule 93 = .ok (.ifCond .ge 8, 3) := by decide +kernel
theorem dX3_bestRule_96 : decode cX3_bestRule 96 = .ok (.lload 7, 2) := by decide +kernel
theorem dX3_bestRule_98 : decode cX3_bestRule 98 = .ok (.goto 5, 3) := by decide +kernel
theorem dX3_bestRule_101 : decode cX3_bestRule 101 = .ok (.lload 4, 2) := by decide +kernel
theorem dX3_bestRule_103 : decode cX3_bestRule 103 = .ok (.lstore 4, 2) := by decide +kernel
theorem dX3_bestRule_105 : decode cX3_bestRule 105 = .ok (.iinc 6 1, 3) := by decide +kernel
theorem dX3_bestRule_108 : decode cX3_bestRule 108 = .ok (.goto (-64), 3) := by decide +kernel
theorem dX3_bestRule_111 : decode cX3_bestRule 111 = .ok (.aload_n 0, 1) := by decide +kernel
theorem dX3_bestRule_112 : decode cX3_bestRule 112 = .ok (.iload_n 2, 1) := by decide +kernel
theorem dX3_bestRule_113 : decode cX3_bestRule 113 = .ok (.putfield 61, 3) := by decide +kernel
theorem dX3_bestRule_116 : decode cX3_bestRule 116 = .ok (.iload_n 3, 1) := by decide +kernel
theorem dX3_bestRule_117 : decode cX3_bestRule 117 = .ok (.ireturn, 1) := by decide +kernel
theorem dJ6_bitCount_0f7a4_0 : decode cJ6_bitCount_0f7a4 0 = .ok (.iload_n 0, 1) := by decide +kernel
theorem dJ6_bitCount_0f7a4_1 : decode cJ6_bitCount_0f7a4 1 = .ok (.iload_n 0, 1) := by decide +kernel
theorem dJ6_bitCount_0f7a4_2 : decode cJ6_bitCount_0f7a4 2 = .ok (.iconst 1, 1) := by decide +kernel
theorem dJ6_bitCount_0f7a4_3 : decode cJ6_bitCount_0f7a4 3 = .ok (.iushr, 1) := by decide +kernel
theorem dJ6_bitCount_0f7a4_4 : decode cJ6_bitCount_0f7a4 4 = .ok (.ldc_w 265, 3) := by decide +kernel
theorem dJ6_bitCount_0f7a4_7 : decode cJ6_bitCount_0f7a4 7 = .ok (.iand, 1) := by decide +kernel
theorem dJ6_bitCount_0f7a4_8 : decode cJ6_bitCount_0f7a4 8 = .ok (.isub, 1) := by decide +kernel
theorem dJ6_bitCount_0f7a4_9 : decode cJ6_bitCount_0f7a4 9 = .ok (.istore_n 0, 1) := by decide +kernel
theorem dJ6_bitCount_0f7a4_10 : decode cJ6_bitCount_0f7a4 10 = .ok (.iload_n 0, 1) := by decide +kernel
theorem dJ6_bitCount_0f7a4_11 : decode cJ6_bitCount_0f7a4 11 = .ok (.ldc_w 266, 3) := by decide +kernel
theorem dJ6_bitCount_0f7a4_14 : decode cJ6_bitCount_0f7a4 14 = .ok (.iand, 1) := by decide +kernel
theorem dJ6_bitCount_0f7a4_15 : decode cJ6_bitCount_0f7a4 15 = .ok (.iload_n 0, 1) := by decide +kernel
theorem dJ6_bitCount_0f7a4_16 : decode cJ6_bitCount_0f7a4 16 = .ok (.iconst 2, 1) := by decide +kernel
theorem dJ6_bitCount_0f7a4_17 : decode cJ6_bitCount_0f7a4 17 = .ok (.iushr, 1) := by decide +kernel
theorem dJ6_bitCount_0f7a4_18 : decode cJ6_bitCount_0f7a4 18 = .ok (.ldc_w 266, 3) := by decide +kernel
theorem dJ6_bitCount_0f7a4_21 : decode cJ6_bitCount_0f7a4 21 = .ok (.iand, 1) := by decide +kernel
theorem dJ6_bitCount_0f7a4_22 : decode cJ6_bitCount_0f7a4 22 = .ok (.iadd, 1) := by decide +kernel
theorem dJ6_bitCount_0f7a4_23 : decode cJ6_bitCount_0f7a4 23 = .ok (.istore_n 0, 1) := by decide +kernel
theorem dJ6_bitCount_0f7a4_24 : decode cJ6_bitCount_0f7a4 24 = .ok (.iload_n 0, 1) := by decide +kernel
theorem dJ6_bitCount_0f7a4_25 : decode cJ6_bitCount_0f7a4 25 = .ok (.iload_n 0, 1) := by decide +kernel
theorem dJ6_bitCount_0f7a4_26 : decode cJ6_bitCount_0f7a4 26 = .ok (.iconst 4, 1) := by decide +kernel
theorem dJ6_bitCount_0f7a4_27 : decode cJ6_bitCount_0f7a4 27 = .ok (.iushr, 1) := by decide +kernel
theorem dJ6_bitCount_0f7a4_28 : decode cJ6_bitCount_0f7a4 28 = .ok (.iadd, 1) := by decide +kernel
theorem dJ6_bitCount_0f7a4_29 : decode cJ6_bitCount_0f7a4 29 = .ok (.ldc_w 267, 3) := by decide +kernel
theorem dJ6_bitCount_0f7a4_32 : decode cJ6_bitCount_0f7a4 32 = .ok (.iand, 1) := by decide +kernel
theorem dJ6_bitCount_0f7a4_33 : decode cJ6_bitCount_0f7a4 33 = .ok (.istore_n 0, 1) := by decide +kernel
theorem dJ6_bitCount_0f7a4_34 : decode cJ6_bitCount_0f7a4 34 = .ok (.iload_n 0, 1) := by decide +kernel
theorem dJ6_bitCount_0f7a4_35 : decode cJ6_bitCount_0f7a4 35 = .ok (.iload_n 0, 1) := by decide +kernel
theorem dJ6_bitCount_0f7a4_36 : decode cJ6_bitCount_0f7a4 36 = .ok (.bipush 8, 2) := by decide +kernel
theorem dJ6_bitCount_0f7a4_38 : decode cJ6_bitCount_0f7a4 38 = .ok (.iushr, 1) := by decide +kernel
theorem dJ6_bitCount_0f7a4_39 : decode cJ6_bitCount_0f7a4 39 = .ok (.iadd, 1) := by decide +kernel
theorem dJ6_bitCount_0f7a4_40 : decode cJ6_bitCount_0f7a4 40 = .ok (.istore_n 0, 1) := by decide +kernel
theorem dJ6_bitCount_0f7a4_41 : decode cJ6_bitCount_0f7a4 41 = .ok (.iload_n 0, 1) := by decide +kernel
theorem dJ6_bitCount_0f7a4_42 : decode cJ6_bitCount_0f7a4 42 = .ok (.iload_n 0, 1) := by decide +kernel
theorem dJ6_bitCount_0f7a4_43 : decode cJ6_bitCount_0f7a4 43 = .ok (.bipush 16, 2) := by decide +kernel
theorem dJ6_bitCount_0f7a4_45 : decode cJ6_bitCount_0f7a4 45 = .ok (.iushr, 1) := by decide +kernel
theorem dJ6_bitCount_0f7a4_46 : decode cJ6_bitCount_0f7a4 46 = .ok (.iadd, 1) := by decide +kernel
theorem dJ6_bitCount_0f7a4_47 : decode cJ6_bitCount_0f7a4 47 = .ok (.istore_n 0, 1) := by decide +kernel
theorem dJ6_bitCount_0f7a4_48 : decode cJ6_bitCount_0f7a4 48 = .ok (.iload_n 0, 1) := by decide +kernel
theorem dJ6_bitCount_0f7a4_49 : decode cJ6_bitCount_0f7a4 49 = .ok (.bipush 63, 2) := by decide +kernel
theorem dJ6_bitCount_0f7a4_51 : decode cJ6_bitCount_0f7a4 51 = .ok (.iand, 1) := by decide +kernel
theorem dJ6_bitCount_0f7a4_52 : decode cJ6_bitCount_0f7a4 52 = .ok (.ireturn, 1) := by decide +kernel
theorem dJ9_floorDiv_f86c9_0 : decode cJ9_floorDiv_f86c9 0 = .ok (.lload_n 0, 1) := by decide +kernel
theorem dJ9_floorDiv_f86c9_1 : decode cJ9_floorDiv_f86c9 1 = .ok (.lload_n 2, 1) := by decide +kernel
theorem dJ9_floorDiv_f86c9_2 : decode cJ9_floorDiv_f86c9 2 = .ok (.ldiv, 1) := by decide +kernel
theorem dJ9_floorDiv_f86c9_3 : decode cJ9_floorDiv_f86c9 3 = .ok (.lstore 4, 2) := by decide +kernel
theorem dJ9_floorDiv_f86c9_5 : decode cJ9_floorDiv_f86c9 5 = .ok (.lload_n 0, 1) := by decide +kernel
theorem dJ9_floorDiv_f86c9_6 : decode cJ9_floorDiv_f86c9 6 = .ok (.lload_n 2, 1) := by decide +kernel
theorem dJ9_floorDiv_f86c9_7 : decode cJ9_floorDiv_f86c9 7 = .ok (.lxor, 1) := by decide +kernel
theorem dJ9_floorDiv_f86c9_8 : decode cJ9_floorDiv_f86c9 8 = .ok (.lconst 0, 1) := by decide +kernel
theorem dJ9_floorDiv_f86c9_9 : decode cJ9_floorDiv_f86c9 9 = .ok (.lcmp, 1) := by decide +kernel
theorem dJ9_floorDiv_f86c9_10 : decode cJ9_floorDiv_f86c9 10 = .ok (.ifCond .ge 17, 3) := by decide +kernel
theorem dJ9_floorDiv_f86c9_13 : decode cJ9_floorDiv_f86c9 13 = .ok (.lload 4, 2) := by decide +kernel
theorem dJ9_floorDiv_f86c9_15 : decode cJ9_floorDiv_f86c9 15 = .ok (.lload_n 2, 1) := by decide +kernel
theorem dJ9_floorDiv_f86c9_16 : decode cJ9_floorDiv_f86c9 16 = .ok (.lmul, 1) := by decide +kernel
theorem dJ9_floorDiv_f86c9_17 : decode cJ9_floorDiv_f86c9 17 = .ok (.lload_n 0, 1) := by decide +kernel
theorem dJ9_floorDiv_f86c9_18 : decode cJ9_floorDiv_f86c9 18 = .ok (.lcmp, 1) := by decide +kernel
theorem dJ9_floorDiv_f86c9_19 : decode cJ9_floorDiv_f86c9 19 = .ok (.ifCond .eq 8, 3) := by decide +kernel
theorem dJ9_floorDiv_f86c9_22 : decode cJ9_floorDiv_f86c9 22 = .ok (.lload 4, 2) := by decide +kernel
theorem dJ9_floorDiv_f86c9_24 : decode cJ9_floorDiv_f86c9 24 = .ok (.lconst 1, 1) := by decide +kernel
theorem dJ9_floorDiv_f86c9_25 : decode cJ9_floorDiv_f86c9 25 = .ok (.lsub, 1) := by decide +kernel
theorem dJ9_floorDiv_f86c9_26 : decode cJ9_floorDiv_f86c9 26 = .ok (.lreturn, 1) := by decide +kernel
theorem dJ9_floorDiv_f86c9_27 : decode cJ9_floorDiv_f86c9 27 = .ok (.lload 4, 2) := by decide +kernel
theorem dJ9_floorDiv_f86c9_29 : decode cJ9_floorDiv_f86c9 29 = .ok (.lreturn, 1) := by decide +kernel
theorem dJ9_abs_067f4_0 : decode cJ9_abs_067f4 0 = .ok (.lload_n 0, 1) := by decide +kernel
theorem dJ9_abs_067f4_1 : decode cJ9_abs_067f4 1 = .ok (.lconst 0, 1) := by decide +kernel
theorem dJ9_abs_067f4_2 : decode cJ9_abs_067f4 2 = .ok (.lcmp, 1) := by decide +kernel
theorem dJ9_abs_067f4_3 : decode cJ9_abs_067f4 3 = .ok (.ifCond .ge 8, 3) := by decide +kernel
theorem dJ9_abs_067f4_6 : decode cJ9_abs_067f4 6 = .ok (.lload_n 0, 1) := by decide +kernel
theorem dJ9_abs_067f4_7 : decode cJ9_abs_067f4 7 = .ok (.lneg, 1) := by decide +kernel
theorem dJ9_abs_067f4_8 : decode cJ9_abs_067f4 8 = .ok (.goto 4, 3) := by decide +kernel
theorem dJ9_abs_067f4_11 : decode cJ9_abs_067f4 11 = .ok (.lload_n 0, 1) := by decide +kernel
theorem dJ9_abs_067f4_12 : decode cJ9_abs_067f4 12 = .ok (.lreturn, 1) := by decide +kernel
theorem dJ9_max_7cf53_0 : decode cJ9_max_7cf53 0 = .ok (.iload_n 0, 1) := by decide +kernel
theorem dJ9_max_7cf53_1 : decode cJ9_max_7cf53 1 = .ok (.iload_n 1, 1) := by decide +kernel
theorem dJ9_max_7cf53_2 : decode cJ9_max_7cf53 2 = .ok (.if_icmp .lt 7, 3) := by decide +kernel
theorem dJ9_max_7cf53_5 : decode cJ9_max_7cf53 5 = .ok (.iload_n 0, 1) := by decide +kernel
theorem dJ9_max_7cf53_6 : decode cJ9_max_7cf53 6 = .ok (.goto 4, 3) := by decide +kernel
theorem dJ9_max_7cf53_9 : decode cJ9_max_7cf53 9 = .ok (.iload_n 1, 1) := by decide +kernel
theorem dJ9_max_7cf53_10 : decode cJ9_max_7cf53 10 = .ok (.ireturn, 1) := by decide +kernel
theorem dJ9_max_f86c9_0 : decode cJ9_max_f86c9 0 = .ok (.lload_n 0, 1) := by decide +kernel
theorem dJ9_max_f86c9_1 : decode cJ9_max_f86c9 1 = .ok (.lload_n 2, 1) := by decide +kernel
theorem dJ9_max_f86c9_2 : decode cJ9_max_f86c9 2 = .ok (.lcmp, 1) := by decide +kernel
theorem dJ9_max_f86c9_3 : decode cJ9_max_f86c9 3 = .ok (.ifCond .lt 7, 3) := by decide +kernel
theorem dJ9_max_f86c9_6 : decode cJ9_max_f86c9 6 = .ok (.lload_n 0, 1) := by decide +kernel
theorem dJ9_max_f86c9_7 : decode cJ9_max_f86c9 7 = .ok (.goto 4, 3) := by decide +kernel
theorem dJ9_max_f86c9_10 : decode cJ9_max_f86c9 10 = .ok (.lload_n 2, 1) := by decide +kernel
end
section
theorem dJ9_max_f86c9_11 : decode cJ9_max_f86c9 11 = .ok (.lreturn, 1) := by decide +kernel
theorem dJ9_min_f86c9_0 : decode cJ9_min_f86c9 0 = .ok (.lload_n 0, 1) := by decide +kernel
theorem dJ9_min_f86c9_1 : decode cJ9_min_f86c9 1 = .ok (.lload_n 2, 1) := by decide +kernel
theorem dJ9_min_f86c9_2 : decode cJ9_min_f86c9 2 = .ok (.lcmp, 1) := by decide +kernel
theorem dJ9_min_f86c9_3 : decode cJ9_min_f86c9 3 = .ok (.ifCond .gt 7, 3) := by decide +kernel
theorem dJ9_min_f86c9_6 : decode cJ9_min_f86c9 6 = .ok (.lload_n 0, 1) := by decide +kernel
theorem dJ9_min_f86c9_7 : decode cJ9_min_f86c9 7 = .ok (.goto 4, 3) := by decide +kernel
theorem dJ9_min_f86c9_10 : decode cJ9_min_f86c9 10 = .ok (.lload_n 2, 1) := by decide +kernel
theorem dJ9_min_f86c9_11 : decode cJ9_min_f86c9 11 = .ok (.lreturn, 1) := by decide +kernel
theorem dL_law_0 : decode cL_law 0 = .ok (.new 7, 3) := by decide +kernel
theorem dL_law_3 : decode cL_law 3 = .ok (.dup, 1) := by decide +kernel
theorem dL_law_4 : decode cL_law 4 = .ok (.invokespecial 9, 3) := by decide +kernel
theorem dL_law_7 : decode cL_law 7 = .ok (.astore_n 1, 1) := by decide +kernel
theorem dL_law_8 : decode cL_law 8 = .ok (.new 10, 3) := by decide +kernel
theorem dL_law_11 : decode cL_law 11 = .ok (.dup, 1) := by decide +kernel
theorem dL_law_12 : decode cL_law 12 = .ok (.invokespecial 12, 3) := by decide +kernel
theorem dL_law_15 : decode cL_law 15 = .ok (.astore_n 2, 1) := by decide +kernel
theorem dL_law_16 : decode cL_law 16 = .ok (.iconst 0, 1) := by decide +kernel
theorem dL_law_17 : decode cL_law 17 = .ok (.istore_n 3, 1) := by decide +kernel
theorem dL_law_18 : decode cL_law 18 = .ok (.iload_n 3, 1) := by decide +kernel
theorem dL_law_19 : decode cL_law 19 = .ok (.aload_n 0, 1) := by decide +kernel
theorem dL_law_20 : decode cL_law 20 = .ok (.arraylength, 1) := by decide +kernel
theorem dL_law_21 : decode cL_law 21 = .ok (.iconst 5, 1) := by decide +kernel
theorem dL_law_22 : decode cL_law 22 = .ok (.isub, 1) := by decide +kernel
theorem dL_law_23 : decode cL_law 23 = .ok (.if_icmp .gt 1228, 3) := by decide +kernel
theorem dL_law_26 : decode cL_law 26 = .ok (.aload_n 0, 1) := by decide +kernel
theorem dL_law_27 : decode cL_law 27 = .ok (.iload_n 3, 1) := by decide +kernel
theorem dL_law_28 : decode cL_law 28 = .ok (.iaload, 1) := by decide +kernel
theorem dL_law_29 : decode cL_law 29 = .ok (.bipush 31, 2) := by decide +kernel
theorem dL_law_31 : decode cL_law 31 = .ok (.iand, 1) := by decide +kernel
theorem dL_law_32 : decode cL_law 32 = .ok (.tableswitch 1213 0 26 #[124, 167, 192, 205, 228, 261, 314, 337, 380, 403, 426, 449, 472, 515, 538, 624, 700, 786, 872, 895, 945, 995, 1035, 1101, 1114, 1157, 1190], 124) := by decide +kernel
theorem dL_law_156 : decode cL_law 156 = .ok (.aload_n 1, 1) := by decide +kernel
theorem dL_law_157 : decode cL_law 157 = .ok (.aload_n 0, 1) := by decide +kernel
theorem dL_law_158 : decode cL_law 158 = .ok (.iload_n 3, 1) := by decide +kernel
theorem dL_law_159 : decode cL_law 159 = .ok (.iconst 1, 1) := by decide +kernel
theorem dL_law_160 : decode cL_law 160 = .ok (.iadd, 1) := by decide +kernel
theorem dL_law_161 : decode cL_law 161 = .ok (.iaload, 1) := by decide +kernel
theorem dL_law_162 : decode cL_law 162 = .ok (.aload_n 0, 1) := by decide +kernel
theorem dL_law_163 : decode cL_law 163 = .ok (.iload_n 3, 1) := by decide +kernel
theorem dL_law_164 : decode cL_law 164 = .ok (.iconst 2, 1) := by decide +kernel
theorem dL_law_165 : decode cL_law 165 = .ok (.iadd, 1) := by decide +kernel
theorem dL_law_166 : decode cL_law 166 = .ok (.iaload, 1) := by decide +kernel
theorem dL_law_167 : decode cL_law 167 = .ok (.aload_n 0, 1) := by decide +kernel
theorem dL_law_168 : decode cL_law 168 = .ok (.iload_n 3, 1) := by decide +kernel
theorem dL_law_169 : decode cL_law 169 = .ok (.iconst 3, 1) := by decide +kernel
theorem dL_law_170 : decode cL_law 170 = .ok (.iadd, 1) := by decide +kernel
theorem dL_law_171 : decode cL_law 171 = .ok (.iaload, 1) := by decide +kernel
theorem dL_law_172 : decode cL_law 172 = .ok (.invokevirtual 13, 3) := by decide +kernel
theorem dL_law_175 : decode cL_law 175 = .ok (.aload_n 2, 1) := by decide +kernel
theorem dL_law_176 : decode cL_law 176 = .ok (.aload_n 0, 1) := by decide +kernel
theorem dL_law_177 : decode cL_law 177 = .ok (.iload_n 3, 1) := by decide +kernel
theorem dL_law_178 : decode cL_law 178 = .ok (.iconst 1, 1) := by decide +kernel
theorem dL_law_179 : decode cL_law 179 = .ok (.iadd, 1) := by decide +kernel
theorem dL_law_180 : decode cL_law 180 = .ok (.iaload, 1) := by decide +kernel
theorem dL_law_181 : decode cL_law 181 = .ok (.aload_n 0, 1) := by decide +kernel
theorem dL_law_182 : decode cL_law 182 = .ok (.iload_n 3, 1) := by decide +kernel
theorem dL_law_183 : decode cL_law 183 = .ok (.iconst 2, 1) := by decide +kernel
theorem dL_law_184 : decode cL_law 184 = .ok (.iadd, 1) := by decide +kernel
theorem dL_law_185 : decode cL_law 185 = .ok (.iaload, 1) := by decide +kernel
theorem dL_law_186 : decode cL_law 186 = .ok (.aload_n 0, 1) := by decide +kernel
theorem dL_law_187 : decode cL_law 187 = .ok (.iload_n 3, 1) := by decide +kernel
theorem dL_law_188 : decode cL_law 188 = .ok (.iconst 3, 1) := by decide +kernel
theorem dL_law_189 : decode cL_law 189 = .ok (.iadd, 1) := by decide +kernel
theorem dL_law_190 : decode cL_law 190 = .ok (.iaload, 1) := by decide +kernel
theorem dL_law_191 : decode cL_law 191 = .ok (.invokevirtual 17, 3) := by decide +kernel
theorem dL_law_194 : decode cL_law 194 = .ok (.if_icmp .eq 1051, 3) := by decide +kernel
theorem dL_law_197 : decode cL_law 197 = .ok (.iconst 0, 1) := by decide +kernel
theorem dL_law_198 : decode cL_law 198 = .ok (.ireturn, 1) := by decide +kernel
theorem dL_law_199 : decode cL_law 199 = .ok (.aload_n 1, 1) := by decide +kernel
theorem dL_law_200 : decode cL_law 200 = .ok (.aload_n 0, 1) := by decide +kernel
theorem dL_law_201 : decode cL_law 201 = .ok (.iload_n 3, 1) := by decide +kernel
theorem dL_law_202 : decode cL_law 202 = .ok (.iconst 1, 1) := by decide +kernel
theorem dL_law_203 : decode cL_law 203 = .ok (.iadd, 1) := by decide +kernel
theorem dL_law_204 : decode cL_law 204 = .ok (.iaload, 1) := by decide +kernel
theorem dL_law_205 : decode cL_law 205 = .ok (.i2c, 1) := by decide +kernel
theorem dL_law_206 : decode cL_law 206 = .ok (.invokevirtual 18, 3) := by decide +kernel
theorem dL_law_209 : decode cL_law 209 = .ok (.aload_n 2, 1) := by decide +kernel
theorem dL_law_210 : decode cL_law 210 = .ok (.aload_n 0, 1) := by decide +kernel
theorem dL_law_211 : decode cL_law 211 = .ok (.iload_n 3, 1) := by decide +kernel
theorem dL_law_212 : decode cL_law 212 = .ok (.iconst 1, 1) := by decide +kernel
theorem dL_law_213 : decode cL_law 213 = .ok (.iadd, 1) := by decide +kernel
theorem dL_law_214 : decode cL_law 214 = .ok (.iaload, 1) := by decide +kernel
theorem dL_law_215 : decode cL_law 215 = .ok (.i2c, 1) := by decide +kernel
theorem dL_law_216 : decode cL_law 216 = .ok (.invokevirtual 22, 3) := by decide +kernel
theorem dL_law_219 : decode cL_law 219 = .ok (.if_icmp .eq 1026, 3) := by decide +kernel
theorem dL_law_222 : decode cL_law 222 = .ok (.iconst 0, 1) := by decide +kernel
theorem dL_law_223 : decode cL_law 223 = .ok (.ireturn, 1) := by decide +kernel
theorem dL_law_224 : decode cL_law 224 = .ok (.aload_n 1, 1) := by decide +kernel
theorem dL_law_225 : decode cL_law 225 = .ok (.invokevirtual 23, 3) := by decide +kernel
theorem dL_law_228 : decode cL_law 228 = .ok (.aload_n 2, 1) := by decide +kernel
theorem dL_law_229 : decode cL_law 229 = .ok (.invokevirtual 27, 3) := by decide +kernel
theorem dL_law_232 : decode cL_law 232 = .ok (.if_icmp .eq 1013, 3) := by decide +kernel
theorem dL_law_235 : decode cL_law 235 = .ok (.iconst 0, 1) := by decide +kernel
theorem dL_law_236 : decode cL_law 236 = .ok (.ireturn, 1) := by decide +kernel
theorem dL_law_237 : decode cL_law 237 = .ok (.aload_n 1, 1) := by decide +kernel
theorem dL_law_238 : decode cL_law 238 = .ok (.aload_n 0, 1) := by decide +kernel
theorem dL_law_239 : decode cL_law 239 = .ok (.iload_n 3, 1) := by decide +kernel
theorem dL_law_240 : decode cL_law 240 = .ok (.iconst 1, 1) := by decide +kernel
theorem dL_law_241 : decode cL_law 241 = .ok (.iadd, 1) := by decide +kernel
theorem dL_law_242 : decode cL_law 242 = .ok (.iaload, 1) := by decide +kernel
theorem dL_law_243 : decode cL_law 243 = .ok (.invokevirtual 28, 3) := by decide +kernel
theorem dL_law_246 : decode cL_law 246 = .ok (.aload_n 2, 1) := by decide +kernel
theorem dL_law_247 : decode cL_law 247 = .ok (.aload_n 0, 1) := by decide +kernel
theorem dL_law_248 : decode cL_law 248 = .ok (.iload_n 3, 1) := by decide +kernel
theorem dL_law_249 : decode cL_law 249 = .ok (.iconst 1, 1) := by decide +kernel
theorem dL_law_250 : decode cL_law 250 = .ok (.iadd, 1) := by decide +kernel
theorem dL_law_251 : decode cL_law 251 = .ok (.iaload, 1) := by decide +kernel
theorem dL_law_252 : decode cL_law 252 = .ok (.invokevirtual 32, 3) := by decide +kernel
theorem dL_law_255 : decode cL_law 255 = .ok (.if_icmp .eq 990, 3) := by decide +kernel
theorem dL_law_258 : decode cL_law 258 = .ok (.iconst 0, 1) := by decide +kernel
theorem dL_law_259 : decode cL_law 259 = .ok (.ireturn, 1) := by decide +kernel
theorem dL_law_260 : decode cL_law 260 = .ok (.aload_n 1, 1) := by decide +kernel
theorem dL_law_261 : decode cL_law 261 = .ok (.aload_n 0, 1) := by decide +kernel
theorem dL_law_262 : decode cL_law 262 = .ok (.iload_n 3, 1) := by decide +kernel
theorem dL_law_263 : decode cL_law 263 = .ok (.iconst 1, 1) := by decide +kernel
theorem dL_law_264 : decode cL_law 264 = .ok (.iadd, 1) := by decide +kernel
theorem dL_law_265 : decode cL_law 265 = .ok (.iaload, 1) := by decide +kernel
theorem dL_law_266 : decode cL_law 266 = .ok (.aload_n 0, 1) := by decide +kernel
theorem dL_law_267 : decode cL_law 267 = .ok (.iload_n 3, 1) := by decide +kernel
theorem dL_law_268 : decode cL_law 268 = .ok (.iconst 2, 1) := by decide +kernel
theorem dL_law_269 : decode cL_law 269 = .ok (.iadd, 1) := by decide +kernel
theorem dL_law_270 : decode cL_law 270 = .ok (.iaload, 1) := by decide +kernel
theorem dL_law_271 : decode cL_law 271 = .ok (.invokevirtual 33, 3) := by decide +kernel
theorem dL_law_274 : decode cL_law 274 = .ok (.aload_n 2, 1) := by decide +kernel
theorem dL_law_275 : decode cL_law 275 = .ok (.aload_n 0, 1) := by decide +kernel
theorem dL_law_276 : decode cL_law 276 = .ok (.iload_n 3, 1) := by decide +kernel
theorem dL_law_277 : decode cL_law 277 = .ok (.iconst 1, 1) := by decide +kernel
theorem dL_law_278 : decode cL_law 278 = .ok (.iadd, 1) := by decide +kernel
theorem dL_law_279 : decode cL_law 279 = .ok (.iaload, 1) := by decide +kernel
theorem dL_law_280 : decode cL_law 280 = .ok (.aload_n 0, 1) := by decide +kernel
theorem dL_law_281 : decode cL_law 281 = .ok (.iload_n 3, 1) := by decide +kernel
theorem dL_law_282 : decode cL_law 282 = .ok (.iconst 2, 1) := by decide +kernel
theorem dL_law_283 : decode cL_law 283 = .ok (.iadd, 1) := by decide +kernel
theorem dL_law_284 : decode cL_law 284 = .ok (.iaload, 1) := by decide +kernel
theorem dL_law_285 : decode cL_law 285 = .ok (.invokevirtual 37, 3) := by decide +kernel
theorem dL_law_288 : decode cL_law 288 = .ok (.if_icmp .eq 957, 3) := by decide +kernel
theorem dL_law_291 : decode cL_law 291 = .ok (.iconst 0, 1) := by decide +kernel
theorem dL_law_292 : decode cL_law 292 = .ok (.ireturn, 1) := by decide +kernel
theorem dL_law_293 : decode cL_law 293 = .ok (.aload_n 1, 1) := by decide +kernel
theorem dL_law_294 : decode cL_law 294 = .ok (.aload_n 0, 1) := by decide +kernel
theorem dL_law_295 : decode cL_law 295 = .ok (.iload_n 3, 1) := by decide +kernel
theorem dL_law_296 : decode cL_law 296 = .ok (.iconst 1, 1) := by decide +kernel
theorem dL_law_297 : decode cL_law 297 = .ok (.iadd, 1) := by decide +kernel
theorem dL_law_298 : decode cL_law 298 = .ok (.iaload, 1) := by decide +kernel
theorem dL_law_299 : decode cL_law 299 = .ok (.aload_n 0, 1) := by decide +kernel
theorem dL_law_300 : decode cL_law 300 = .ok (.iload_n 3, 1) := by decide +kernel
theorem dL_law_301 : decode cL_law 301 = .ok (.iconst 2, 1) := by decide +kernel
theorem dL_law_302 : decode cL_law 302 = .ok (.iadd, 1) := by decide +kernel
theorem dL_law_303 : decode cL_law 303 = .ok (.iaload, 1) := by decide +kernel
theorem dL_law_304 : decode cL_law 304 = .ok (.aload_n 0, 1) := by decide +kernel
theorem dL_law_305 : decode cL_law 305 = .ok (.iload_n 3, 1) := by decide +kernel
theorem dL_law_306 : decode cL_law 306 = .ok (.iconst 3, 1) := by decide +kernel
theorem dL_law_307 : decode cL_law 307 = .ok (.iadd, 1) := by decide +kernel
theorem dL_law_308 : decode cL_law 308 = .ok (.iaload, 1) := by decide +kernel
theorem dL_law_309 : decode cL_law 309 = .ok (.aload_n 0, 1) := by decide +kernel
theorem dL_law_310 : decode cL_law 310 = .ok (.iload_n 3, 1) := by decide +kernel
theorem dL_law_311 : decode cL_law 311 = .ok (.iconst 4, 1) := by decide +kernel
theorem dL_law_312 : decode cL_law 312 = .ok (.iadd, 1) := by decide +kernel
theorem dL_law_313 : decode cL_law 313 = .ok (.iaload, 1) := by decide +kernel
theorem dL_law_314 : decode cL_law 314 = .ok (.invokevirtual 38, 3) := by decide +kernel
theorem dL_law_317 : decode cL_law 317 = .ok (.aload_n 2, 1) := by decide +kernel
theorem dL_law_318 : decode cL_law 318 = .ok (.aload_n 0, 1) := by decide +kernel
theorem dL_law_319 : decode cL_law 319 = .ok (.iload_n 3, 1) := by decide +kernel
theorem dL_law_320 : decode cL_law 320 = .ok (.iconst 1, 1) := by decide +kernel
theorem dL_law_321 : decode cL_law 321 = .ok (.iadd, 1) := by decide +kernel
theorem dL_law_322 : decode cL_law 322 = .ok (.iaload, 1) := by decide +kernel
theorem dL_law_323 : decode cL_law 323 = .ok (.aload_n 0, 1) := by decide +kernel
theorem dL_law_324 : decode cL_law 324 = .ok (.iload_n 3, 1) := by decide +kernel
theorem dL_law_325 : decode cL_law 325 = .ok (.iconst 2, 1) := by decide +kernel
theorem dL_law_326 : decode cL_law 326 = .ok (.iadd, 1) := by decide +kernel
theorem dL_law_327 : decode cL_law 327 = .ok (.iaload, 1) := by decide +kernel
theorem dL_law_328 : decode cL_law 328 = .ok (.aload_n 0, 1) := by decide +kernel
theorem dL_law_329 : decode cL_law 329 = .ok (.iload_n 3, 1) := by decide +kernel
theorem dL_law_330 : decode cL_law 330 = .ok (.iconst 3, 1) := by decide +kernel
theorem dL_law_331 : decode cL_law 331 = .ok (.iadd, 1) := by decide +kernel
theorem dL_law_332 : decode cL_law 332 = .ok (.iaload, 1) := by decide +kernel
theorem dL_law_333 : decode cL_law 333 = .ok (.aload_n 0, 1) := by decide +kernel
theorem dL_law_334 : decode cL_law 334 = .ok (.iload_n 3, 1) := by decide +kernel
theorem dL_law_335 : decode cL_law 335 = .ok (.iconst 4, 1) := by decide +kernel
theorem dL_law_336 : decode cL_law 336 = .ok (.iadd, 1) := by decide +kernel
theorem dL_law_337 : decode cL_law 337 = .ok (.iaload, 1) := by decide +kernel
theorem dL_law_338 : decode cL_law 338 = .ok (.invokevirtual 42, 3) := by decide +kernel
theorem dL_law_341 : decode cL_law 341 = .ok (.if_icmp .eq 904, 3) := by decide +kernel
theorem dL_law_344 : decode cL_law 344 = .ok (.iconst 0, 1) := by decide +kernel
theorem dL_law_345 : decode cL_law 345 = .ok (.ireturn, 1) := by decide +kernel
theorem dL_law_346 : decode cL_law 346 = .ok (.aload_n 1, 1) := by decide +kernel
theorem dL_law_347 : decode cL_law 347 = .ok (.aload_n 0, 1) := by decide +kernel
theorem dL_law_348 : decode cL_law 348 = .ok (.iload_n 3, 1) := by decide +kernel
theorem dL_law_349 : decode cL_law 349 = .ok (.iconst 1, 1) := by decide +kernel
theorem dL_law_350 : decode cL_law 350 = .ok (.iadd, 1) := by decide +kernel
theorem dL_law_351 : decode cL_law 351 = .ok (.iaload, 1) := by decide +kernel
theorem dL_law_352 : decode cL_law 352 = .ok (.invokevirtual 43, 3) := by decide +kernel
theorem dL_law_355 : decode cL_law 355 = .ok (.aload_n 2, 1) := by decide +kernel
theorem dL_law_356 : decode cL_law 356 = .ok (.aload_n 0, 1) := by decide +kernel
theorem dL_law_357 : decode cL_law 357 = .ok (.iload_n 3, 1) := by decide +kernel
theorem dL_law_358 : decode cL_law 358 = .ok (.iconst 1, 1) := by decide +kernel
theorem dL_law_359 : decode cL_law 359 = .ok (.iadd, 1) := by decide +kernel
theorem dL_law_360 : decode cL_law 360 = .ok (.iaload, 1) := by decide +kernel
theorem dL_law_361 : decode cL_law 361 = .ok (.invokevirtual 46, 3) := by decide +kernel
theorem dL_law_364 : decode cL_law 364 = .ok (.if_icmp .eq 881, 3) := by decide +kernel
theorem dL_law_367 : decode cL_law 367 = .ok (.iconst 0, 1) := by decide +kernel
theorem dL_law_368 : decode cL_law 368 = .ok (.ireturn, 1) := by decide +kernel
theorem dL_law_369 : decode cL_law 369 = .ok (.aload_n 1, 1) := by decide +kernel
theorem dL_law_370 : decode cL_law 370 = .ok (.aload_n 0, 1) := by decide +kernel
theorem dL_law_371 : decode cL_law 371 = .ok (.iload_n 3, 1) := by decide +kernel
theorem dL_law_372 : decode cL_law 372 = .ok (.iconst 1, 1) := by decide +kernel
theorem dL_law_373 : decode cL_law 373 = .ok (.iadd, 1) := by decide +kernel
theorem dL_law_374 : decode cL_law 374 = .ok (.iaload, 1) := by decide +kernel
theorem dL_law_375 : decode cL_law 375 = .ok (.aload_n 0, 1) := by decide +kernel
theorem dL_law_376 : decode cL_law 376 = .ok (.iload_n 3, 1) := by decide +kernel
theorem dL_law_377 : decode cL_law 377 = .ok (.iconst 2, 1) := by decide +kernel
theorem dL_law_378 : decode cL_law 378 = .ok (.iadd, 1) := by decide +kernel
theorem dL_law_379 : decode cL_law 379 = .ok (.iaload, 1) := by decide +kernel
theorem dL_law_380 : decode cL_law 380 = .ok (.aload_n 0, 1) := by decide +kernel
theorem dL_law_381 : decode cL_law 381 = .ok (.iload_n 3, 1) := by decide +kernel
theorem dL_law_382 : decode cL_law 382 = .ok (.iconst 3, 1) := by decide +kernel
theorem dL_law_383 : decode cL_law 383 = .ok (.iadd, 1) := by decide +kernel
theorem dL_law_384 : decode cL_law 384 = .ok (.iaload, 1) := by decide +kernel
theorem dL_law_385 : decode cL_law 385 = .ok (.invokevirtual 47, 3) := by decide +kernel
theorem dL_law_388 : decode cL_law 388 = .ok (.aload_n 2, 1) := by decide +kernel
theorem dL_law_389 : decode cL_law 389 = .ok (.aload_n 0, 1) := by decide +kernel
theorem dL_law_390 : decode cL_law 390 = .ok (.iload_n 3, 1) := by decide +kernel
theorem dL_law_391 : decode cL_law 391 = .ok (.iconst 1, 1) := by decide +kernel
theorem dL_law_392 : decode cL_law 392 = .ok (.iadd, 1) := by decide +kernel
theorem dL_law_393 : decode cL_law 393 = .ok (.iaload, 1) := by decide +kernel
theorem dL_law_394 : decode cL_law 394 = .ok (.aload_n 0, 1) := by decide +kernel
theorem dL_law_395 : decode cL_law 395 = .ok (.iload_n 3, 1) := by decide +kernel
theorem dL_law_396 : decode cL_law 396 = .ok (.iconst 2, 1) := by decide +kernel
theorem dL_law_397 : decode cL_law 397 = .ok (.iadd, 1) := by decide +kernel
theorem dL_law_398 : decode cL_law 398 = .ok (.iaload, 1) := by decide +kernel
theorem dL_law_399 : decode cL_law 399 = .ok (.aload_n 0, 1) := by decide +kernel
theorem dL_law_400 : decode cL_law 400 = .ok (.iload_n 3, 1) := by decide +kernel
theorem dL_law_401 : decode cL_law 401 = .ok (.iconst 3, 1) := by decide +kernel
theorem dL_law_402 : decode cL_law 402 = .ok (.iadd, 1) := by decide +kernel
theorem dL_law_403 : decode cL_law 403 = .ok (.iaload, 1) := by decide +kernel
theorem dL_law_404 : decode cL_law 404 = .ok (.invokevirtual 50, 3) := by decide +kernel
theorem dL_law_407 : decode cL_law 407 = .ok (.if_icmp .eq 838, 3) := by decide +kernel
theorem dL_law_410 : decode cL_law 410 = .ok (.iconst 0, 1) := by decide +kernel
theorem dL_law_411 : decode cL_law 411 = .ok (.ireturn, 1) := by decide +kernel
theorem dL_law_412 : decode cL_law 412 = .ok (.aload_n 1, 1) := by decide +kernel
theorem dL_law_413 : decode cL_law 413 = .ok (.aload_n 0, 1) := by decide +kernel
theorem dL_law_414 : decode cL_law 414 = .ok (.iload_n 3, 1) := by decide +kernel
theorem dL_law_415 : decode cL_law 415 = .ok (.iconst 1, 1) := by decide +kernel
theorem dL_law_416 : decode cL_law 416 = .ok (.iadd, 1) := by decide +kernel
theorem dL_law_417 : decode cL_law 417 = .ok (.iaload, 1) := by decide +kernel
theorem dL_law_418 : decode cL_law 418 = .ok (.invokevirtual 51, 3) := by decide +kernel
theorem dL_law_421 : decode cL_law 421 = .ok (.aload_n 2, 1) := by decide +kernel
theorem dL_law_422 : decode cL_law 422 = .ok (.aload_n 0, 1) := by decide +kernel
theorem dL_law_423 : decode cL_law 423 = .ok (.iload_n 3, 1) := by decide +kernel
theorem dL_law_424 : decode cL_law 424 = .ok (.iconst 1, 1) := by decide +kernel
theorem dL_law_425 : decode cL_law 425 = .ok (.iadd, 1) := by decide +kernel
theorem dL_law_426 : decode cL_law 426 = .ok (.iaload, 1) := by decide +kernel
theorem dL_law_427 : decode cL_law 427 = .ok (.invokevirtual 54, 3) := by decide +kernel
theorem dL_law_430 : decode cL_law 430 = .ok (.if_icmp .eq 815, 3) := by decide +kernel
theorem dL_law_433 : decode cL_law 433 = .ok (.iconst 0, 1) := by decide +kernel
theorem dL_law_434 : decode cL_law 434 = .ok (.ireturn, 1) := by decide +kernel
theorem dL_law_435 : decode cL_law 435 = .ok (.aload_n 1, 1) := by decide +kernel
theorem dL_law_436 : decode cL_law 436 = .ok (.aload_n 0, 1) := by decide +kernel
theorem dL_law_437 : decode cL_law 437 = .ok (.iload_n 3, 1) := by decide +kernel
theorem dL_law_438 : decode cL_law 438 = .ok (.iconst 1, 1) := by decide +kernel
theorem dL_law_439 : decode cL_law 439 = .ok (.iadd, 1) := by decide +kernel
theorem dL_law_440 : decode cL_law 440 = .ok (.iaload, 1) := by decide +kernel
theorem dL_law_441 : decode cL_law 441 = .ok (.invokevirtual 55, 3) := by decide +kernel
theorem dL_law_444 : decode cL_law 444 = .ok (.aload_n 2, 1) := by decide +kernel
theorem dL_law_445 : decode cL_law 445 = .ok (.aload_n 0, 1) := by decide +kernel
theorem dL_law_446 : decode cL_law 446 = .ok (.iload_n 3, 1) := by decide +kernel
theorem dL_law_447 : decode cL_law 447 = .ok (.iconst 1, 1) := by decide +kernel
theorem dL_law_448 : decode cL_law 448 = .ok (.iadd, 1) := by decide +kernel
theorem dL_law_449 : decode cL_law 449 = .ok (.iaload, 1) := by decide +kernel
theorem dL_law_450 : decode cL_law 450 = .ok (.invokevirtual 58, 3) := by decide +kernel
theorem dL_law_453 : decode cL_law 453 = .ok (.if_icmp .eq 792, 3) := by decide +kernel
theorem dL_law_456 : decode cL_law 456 = .ok (.iconst 0, 1) := by decide +kernel
theorem dL_law_457 : decode cL_law 457 = .ok (.ireturn, 1) := by decide +kernel
theorem dL_law_458 : decode cL_law 458 = .ok (.aload_n 1, 1) := by decide +kernel
theorem dL_law_459 : decode cL_law 459 = .ok (.aload_n 0, 1) := by decide +kernel
theorem dL_law_460 : decode cL_law 460 = .ok (.iload_n 3, 1) := by decide +kernel
theorem dL_law_461 : decode cL_law 461 = .ok (.iconst 1, 1) := by decide +kernel
theorem dL_law_462 : decode cL_law 462 = .ok (.iadd, 1) := by decide +kernel
theorem dL_law_463 : decode cL_law 463 = .ok (.iaload, 1) := by decide +kernel
theorem dL_law_464 : decode cL_law 464 = .ok (.invokevirtual 59, 3) := by decide +kernel
theorem dL_law_467 : decode cL_law 467 = .ok (.aload_n 2, 1) := by decide +kernel
theorem dL_law_468 : decode cL_law 468 = .ok (.aload_n 0, 1) := by decide +kernel
theorem dL_law_469 : decode cL_law 469 = .ok (.iload_n 3, 1) := by decide +kernel
theorem dL_law_470 : decode cL_law 470 = .ok (.iconst 1, 1) := by decide +kernel
theorem dL_law_471 : decode cL_law 471 = .ok (.iadd, 1) := by decide +kernel
theorem dL_law_472 : decode cL_law 472 = .ok (.iaload, 1) := by decide +kernel
theorem dL_law_473 : decode cL_law 473 = .ok (.invokevirtual 62, 3) := by decide +kernel
theorem dL_law_476 : decode cL_law 476 = .ok (.if_icmp .eq 769, 3) := by decide +kernel
theorem dL_law_479 : decode cL_law 479 = .ok (.iconst 0, 1) := by decide +kernel
theorem dL_law_480 : decode cL_law 480 = .ok (.ireturn, 1) := by decide +kernel
theorem dL_law_481 : decode cL_law 481 = .ok (.aload_n 1, 1) := by decide +kernel
theorem dL_law_482 : decode cL_law 482 = .ok (.aload_n 0, 1) := by decide +kernel
theorem dL_law_483 : decode cL_law 483 = .ok (.iload_n 3, 1) := by decide +kernel
theorem dL_law_484 : decode cL_law 484 = .ok (.iconst 1, 1) := by decide +kernel
theorem dL_law_485 : decode cL_law 485 = .ok (.iadd, 1) := by decide +kernel
theorem dL_law_486 : decode cL_law 486 = .ok (.iaload, 1) := by decide +kernel
theorem dL_law_487 : decode cL_law 487 = .ok (.invokevirtual 63, 3) := by decide +kernel
theorem dL_law_490 : decode cL_law 490 = .ok (.aload_n 2, 1) := by decide +kernel
theorem dL_law_491 : decode cL_law 491 = .ok (.aload_n 0, 1) := by decide +kernel
theorem dL_law_492 : decode cL_law 492 = .ok (.iload_n 3, 1) := by decide +kernel
theorem dL_law_493 : decode cL_law 493 = .ok (.iconst 1, 1) := by decide +kernel
theorem dL_law_494 : decode cL_law 494 = .ok (.iadd, 1) := by decide +kernel
theorem dL_law_495 : decode cL_law 495 = .ok (.iaload, 1) := by decide +kernel
theorem dL_law_496 : decode cL_law 496 = .ok (.invokevirtual 66, 3) := by decide +kernel
theorem dL_law_499 : decode cL_law 499 = .ok (.if_icmp .eq 746, 3) := by decide +kernel
theorem dL_law_502 : decode cL_law 502 = .ok (.iconst 0, 1) := by decide +kernel
theorem dL_law_503 : decode cL_law 503 = .ok (.ireturn, 1) := by decide +kernel
theorem dL_law_504 : decode cL_law 504 = .ok (.aload_n 1, 1) := by decide +kernel
theorem dL_law_505 : decode cL_law 505 = .ok (.aload_n 0, 1) := by decide +kernel
theorem dL_law_506 : decode cL_law 506 = .ok (.iload_n 3, 1) := by decide +kernel
theorem dL_law_507 : decode cL_law 507 = .ok (.iconst 1, 1) := by decide +kernel
theorem dL_law_508 : decode cL_law 508 = .ok (.iadd, 1) := by decide +kernel
theorem dL_law_509 : decode cL_law 509 = .ok (.iaload, 1) := by decide +kernel
theorem dL_law_510 : decode cL_law 510 = .ok (.aload_n 0, 1) := by decide +kernel
theorem dL_law_511 : decode cL_law 511 = .ok (.iload_n 3, 1) := by decide +kernel
theorem dL_law_512 : decode cL_law 512 = .ok (.iconst 2, 1) := by decide +kernel
theorem dL_law_513 : decode cL_law 513 = .ok (.iadd, 1) := by decide +kernel
theorem dL_law_514 : decode cL_law 514 = .ok (.iaload, 1) := by decide +kernel
theorem dL_law_515 : decode cL_law 515 = .ok (.aload_n 0, 1) := by decide +kernel
theorem dL_law_516 : decode cL_law 516 = .ok (.iload_n 3, 1) := by decide +kernel
theorem dL_law_517 : decode cL_law 517 = .ok (.iconst 3, 1) := by decide +kernel
theorem dL_law_518 : decode cL_law 518 = .ok (.iadd, 1) := by decide +kernel
theorem dL_law_519 : decode cL_law 519 = .ok (.iaload, 1) := by decide +kernel
theorem dL_law_520 : decode cL_law 520 = .ok (.invokevirtual 67, 3) := by decide +kernel
theorem dL_law_523 : decode cL_law 523 = .ok (.aload_n 2, 1) := by decide +kernel
theorem dL_law_524 : decode cL_law 524 = .ok (.aload_n 0, 1) := by decide +kernel
theorem dL_law_525 : decode cL_law 525 = .ok (.iload_n 3, 1) := by decide +kernel
theorem dL_law_526 : decode cL_law 526 = .ok (.iconst 1, 1) := by decide +kernel
theorem dL_law_527 : decode cL_law 527 = .ok (.iadd, 1) := by decide +kernel
theorem dL_law_528 : decode cL_law 528 = .ok (.iaload, 1) := by decide +kernel
theorem dL_law_529 : decode cL_law 529 = .ok (.aload_n 0, 1) := by decide +kernel
theorem dL_law_530 : decode cL_law 530 = .ok (.iload_n 3, 1) := by decide +kernel
theorem dL_law_531 : decode cL_law 531 = .ok (.iconst 2, 1) := by decide +kernel
theorem dL_law_532 : decode cL_law 532 = .ok (.iadd, 1) := by decide +kernel
theorem dL_law_533 : decode cL_law 533 = .ok (.iaload, 1) := by decide +kernel
theorem dL_law_534 : decode cL_law 534 = .ok (.aload_n 0, 1) := by decide +kernel
theorem dL_law_535 : decode cL_law 535 = .ok (.iload_n 3, 1) := by decide +kernel
theorem dL_law_536 : decode cL_law 536 = .ok (.iconst 3, 1) := by decide +kernel
theorem dL_law_537 : decode cL_law 537 = .ok (.iadd, 1) := by decide +kernel
theorem dL_law_538 : decode cL_law 538 = .ok (.iaload, 1) := by decide +kernel
theorem dL_law_539 : decode cL_law 539 = .ok (.invokevirtual 70, 3) := by decide +kernel
theorem dL_law_542 : decode cL_law 542 = .ok (.if_icmp .eq 703, 3) := by decide +kernel
theorem dL_law_545 : decode cL_law 545 = .ok (.iconst 0, 1) := by decide +kernel
theorem dL_law_546 : decode cL_law 546 = .ok (.ireturn, 1) := by decide +kernel
theorem dL_law_547 : decode cL_law 547 = .ok (.aload_n 1, 1) := by decide +kernel
theorem dL_law_548 : decode cL_law 548 = .ok (.aload_n 0, 1) := by decide +kernel
theorem dL_law_549 : decode cL_law 549 = .ok (.iload_n 3, 1) := by decide +kernel
theorem dL_law_550 : decode cL_law 550 = .ok (.iconst 1, 1) := by decide +kernel
theorem dL_law_551 : decode cL_law 551 = .ok (.iadd, 1) := by decide +kernel
theorem dL_law_552 : decode cL_law 552 = .ok (.iaload, 1) := by decide +kernel
theorem dL_law_553 : decode cL_law 553 = .ok (.invokevirtual 71, 3) := by decide +kernel
theorem dL_law_556 : decode cL_law 556 = .ok (.aload_n 2, 1) := by decide +kernel
theorem dL_law_557 : decode cL_law 557 = .ok (.aload_n 0, 1) := by decide +kernel
theorem dL_law_558 : decode cL_law 558 = .ok (.iload_n 3, 1) := by decide +kernel
theorem dL_law_559 : decode cL_law 559 = .ok (.iconst 1, 1) := by decide +kernel
theorem dL_law_560 : decode cL_law 560 = .ok (.iadd, 1) := by decide +kernel
theorem dL_law_561 : decode cL_law 561 = .ok (.iaload, 1) := by decide +kernel
theorem dL_law_562 : decode cL_law 562 = .ok (.invokevirtual 74, 3) := by decide +kernel
theorem dL_law_565 : decode cL_law 565 = .ok (.if_icmp .eq 680, 3) := by decide +kernel
theorem dL_law_568 : decode cL_law 568 = .ok (.iconst 0, 1) := by decide +kernel
theorem dL_law_569 : decode cL_law 569 = .ok (.ireturn, 1) := by decide +kernel
theorem dL_law_570 : decode cL_law 570 = .ok (.aload_n 1, 1) := by decide +kernel
theorem dL_law_571 : decode cL_law 571 = .ok (.aload_n 0, 1) := by decide +kernel
theorem dL_law_572 : decode cL_law 572 = .ok (.iload_n 3, 1) := by decide +kernel
theorem dL_law_573 : decode cL_law 573 = .ok (.iconst 1, 1) := by decide +kernel
theorem dL_law_574 : decode cL_law 574 = .ok (.iadd, 1) := by decide +kernel
theorem dL_law_575 : decode cL_law 575 = .ok (.iaload, 1) := by decide +kernel
theorem dL_law_576 : decode cL_law 576 = .ok (.aload_n 0, 1) := by decide +kernel
theorem dL_law_577 : decode cL_law 577 = .ok (.iload_n 3, 1) := by decide +kernel
theorem dL_law_578 : decode cL_law 578 = .ok (.iconst 2, 1) := by decide +kernel
theorem dL_law_579 : decode cL_law 579 = .ok (.iadd, 1) := by decide +kernel
theorem dL_law_580 : decode cL_law 580 = .ok (.iaload, 1) := by decide +kernel
theorem dL_law_581 : decode cL_law 581 = .ok (.aload_n 0, 1) := by decide +kernel
theorem dL_law_582 : decode cL_law 582 = .ok (.iload_n 3, 1) := by decide +kernel
theorem dL_law_583 : decode cL_law 583 = .ok (.iconst 3, 1) := by decide +kernel
theorem dL_law_584 : decode cL_law 584 = .ok (.iadd, 1) := by decide +kernel
theorem dL_law_585 : decode cL_law 585 = .ok (.iaload, 1) := by decide +kernel
theorem dL_law_586 : decode cL_law 586 = .ok (.ifCond .eq 7, 3) := by decide +kernel
theorem dL_law_589 : decode cL_law 589 = .ok (.iconst 1, 1) := by decide +kernel
theorem dL_law_590 : decode cL_law 590 = .ok (.goto 4, 3) := by decide +kernel
theorem dL_law_593 : decode cL_law 593 = .ok (.iconst 0, 1) := by decide +kernel
theorem dL_law_594 : decode cL_law 594 = .ok (.aload_n 0, 1) := by decide +kernel
theorem dL_law_595 : decode cL_law 595 = .ok (.iload_n 3, 1) := by decide +kernel
theorem dL_law_596 : decode cL_law 596 = .ok (.iconst 4, 1) := by decide +kernel
theorem dL_law_597 : decode cL_law 597 = .ok (.iadd, 1) := by decide +kernel
theorem dL_law_598 : decode cL_law 598 = .ok (.iaload, 1) := by decide +kernel
theorem dL_law_599 : decode cL_law 599 = .ok (.ifCond .eq 7, 3) := by decide +kernel
theorem dL_law_602 : decode cL_law 602 = .ok (.iconst 1, 1) := by decide +kernel
theorem dL_law_603 : decode cL_law 603 = .ok (.goto 4, 3) := by decide +kernel
theorem dL_law_606 : decode cL_law 606 = .ok (.iconst 0, 1) := by decide +kernel
theorem dL_law_607 : decode cL_law 607 = .ok (.invokevirtual 75, 3) := by decide +kernel
theorem dL_law_610 : decode cL_law 610 = .ok (.aload_n 2, 1) := by decide +kernel
theorem dL_law_611 : decode cL_law 611 = .ok (.aload_n 0, 1) := by decide +kernel
theorem dL_law_612 : decode cL_law 612 = .ok (.iload_n 3, 1) := by decide +kernel
theorem dL_law_613 : decode cL_law 613 = .ok (.iconst 1, 1) := by decide +kernel
theorem dL_law_614 : decode cL_law 614 = .ok (.iadd, 1) := by decide +kernel
theorem dL_law_615 : decode cL_law 615 = .ok (.iaload, 1) := by decide +kernel
theorem dL_law_616 : decode cL_law 616 = .ok (.aload_n 0, 1) := by decide +kernel
theorem dL_law_617 : decode cL_law 617 = .ok (.iload_n 3, 1) := by decide +kernel
theorem dL_law_618 : decode cL_law 618 = .ok (.iconst 2, 1) := by decide +kernel
theorem dL_law_619 : decode cL_law 619 = .ok (.iadd, 1) := by decide +kernel
theorem dL_law_620 : decode cL_law 620 = .ok (.iaload, 1) := by decide +kernel
theorem dL_law_621 : decode cL_law 621 = .ok (.aload_n 0, 1) := by decide +kernel
theorem dL_law_622 : decode cL_law 622 = .ok (.iload_n 3, 1) := by decide +kernel
theorem dL_law_623 : decode cL_law 623 = .ok (.iconst 3, 1) := by decide +kernel
theorem dL_law_624 : decode cL_law 624 = .ok (.iadd, 1) := by decide +kernel
theorem dL_law_625 : decode cL_law 625 = .ok (.iaload, 1) := by decide +kernel
theorem dL_law_626 : decode cL_law 626 = .ok (.ifCond .eq 7, 3) := by decide +kernel
theorem dL_law_629 : decode cL_law 629 = .ok (.iconst 1, 1) := by decide +kernel
theorem dL_law_630 : decode cL_law 630 = .ok (.goto 4, 3) := by decide +kernel
theorem dL_law_633 : decode cL_law 633 = .ok (.iconst 0, 1) := by decide +kernel
theorem dL_law_634 : decode cL_law 634 = .ok (.aload_n 0, 1) := by decide +kernel
theorem dL_law_635 : decode cL_law 635 = .ok (.iload_n 3, 1) := by decide +kernel
theorem dL_law_636 : decode cL_law 636 = .ok (.iconst 4, 1) := by decide +kernel
theorem dL_law_637 : decode cL_law 637 = .ok (.iadd, 1) := by decide +kernel
theorem dL_law_638 : decode cL_law 638 = .ok (.iaload, 1) := by decide +kernel
theorem dL_law_639 : decode cL_law 639 = .ok (.ifCond .eq 7, 3) := by decide +kernel
theorem dL_law_642 : decode cL_law 642 = .ok (.iconst 1, 1) := by decide +kernel
theorem dL_law_643 : decode cL_law 643 = .ok (.goto 4, 3) := by decide +kernel
theorem dL_law_646 : decode cL_law 646 = .ok (.iconst 0, 1) := by decide +kernel
theorem dL_law_647 : decode cL_law 647 = .ok (.invokevirtual 79, 3) := by decide +kernel
theorem dL_law_650 : decode cL_law 650 = .ok (.lcmp, 1) := by decide +kernel
theorem dL_law_651 : decode cL_law 651 = .ok (.ifCond .eq 594, 3) := by decide +kernel
theorem dL_law_654 : decode cL_law 654 = .ok (.iconst 0, 1) := by decide +kernel
theorem dL_law_655 : decode cL_law 655 = .ok (.ireturn, 1) := by decide +kernel
theorem dL_law_656 : decode cL_law 656 = .ok (.aload_n 1, 1) := by decide +kernel
theorem dL_law_657 : decode cL_law 657 = .ok (.aload_n 0, 1) := by decide +kernel
theorem dL_law_658 : decode cL_law 658 = .ok (.iload_n 3, 1) := by decide +kernel
theorem dL_law_659 : decode cL_law 659 = .ok (.iconst 1, 1) := by decide +kernel
theorem dL_law_660 : decode cL_law 660 = .ok (.iadd, 1) := by decide +kernel
theorem dL_law_661 : decode cL_law 661 = .ok (.iaload, 1) := by decide +kernel
theorem dL_law_662 : decode cL_law 662 = .ok (.aload_n 0, 1) := by decide +kernel
theorem dL_law_663 : decode cL_law 663 = .ok (.iload_n 3, 1) := by decide +kernel
theorem dL_law_664 : decode cL_law 664 = .ok (.iconst 2, 1) := by decide +kernel
theorem dL_law_665 : decode cL_law 665 = .ok (.iadd, 1) := by decide +kernel
theorem dL_law_666 : decode cL_law 666 = .ok (.iaload, 1) := by decide +kernel
theorem dL_law_667 : decode cL_law 667 = .ok (.ifCond .eq 7, 3) := by decide +kernel
theorem dL_law_670 : decode cL_law 670 = .ok (.iconst 1, 1) := by decide +kernel
theorem dL_law_671 : decode cL_law 671 = .ok (.goto 4, 3) := by decide +kernel
theorem dL_law_674 : decode cL_law 674 = .ok (.iconst 0, 1) := by decide +kernel
theorem dL_law_675 : decode cL_law 675 = .ok (.aload_n 0, 1) := by decide +kernel
theorem dL_law_676 : decode cL_law 676 = .ok (.iload_n 3, 1) := by decide +kernel
theorem dL_law_677 : decode cL_law 677 = .ok (.iconst 3, 1) := by decide +kernel
theorem dL_law_678 : decode cL_law 678 = .ok (.iadd, 1) := by decide +kernel
theorem dL_law_679 : decode cL_law 679 = .ok (.iaload, 1) := by decide +kernel
theorem dL_law_680 : decode cL_law 680 = .ok (.ifCond .eq 7, 3) := by decide +kernel
theorem dL_law_683 : decode cL_law 683 = .ok (.iconst 1, 1) := by decide +kernel
theorem dL_law_684 : decode cL_law 684 = .ok (.goto 4, 3) := by decide +kernel
theorem dL_law_687 : decode cL_law 687 = .ok (.iconst 0, 1) := by decide +kernel
theorem dL_law_688 : decode cL_law 688 = .ok (.invokevirtual 80, 3) := by decide +kernel
theorem dL_law_691 : decode cL_law 691 = .ok (.aload_n 2, 1) := by decide +kernel
theorem dL_law_692 : decode cL_law 692 = .ok (.aload_n 0, 1) := by decide +kernel
theorem dL_law_693 : decode cL_law 693 = .ok (.iload_n 3, 1) := by decide +kernel
theorem dL_law_694 : decode cL_law 694 = .ok (.iconst 1, 1) := by decide +kernel
theorem dL_law_695 : decode cL_law 695 = .ok (.iadd, 1) := by decide +kernel
theorem dL_law_696 : decode cL_law 696 = .ok (.iaload, 1) := by decide +kernel
theorem dL_law_697 : decode cL_law 697 = .ok (.aload_n 0, 1) := by decide +kernel
theorem dL_law_698 : decode cL_law 698 = .ok (.iload_n 3, 1) := by decide +kernel
theorem dL_law_699 : decode cL_law 699 = .ok (.iconst 2, 1) := by decide +kernel
theorem dL_law_700 : decode cL_law 700 = .ok (.iadd, 1) := by decide +kernel
theorem dL_law_701 : decode cL_law 701 = .ok (.iaload, 1) := by decide +kernel
theorem dL_law_702 : decode cL_law 702 = .ok (.ifCond .eq 7, 3) := by decide +kernel
theorem dL_law_705 : decode cL_law 705 = .ok (.iconst 1, 1) := by decide +kernel
theorem dL_law_706 : decode cL_law 706 = .ok (.goto 4, 3) := by decide +kernel
theorem dL_law_709 : decode cL_law 709 = .ok (.iconst 0, 1) := by decide +kernel
theorem dL_law_710 : decode cL_law 710 = .ok (.aload_n 0, 1) := by decide +kernel
theorem dL_law_711 : decode cL_law 711 = .ok (.iload_n 3, 1) := by decide +kernel
theorem dL_law_712 : decode cL_law 712 = .ok (.iconst 3, 1) := by decide +kernel
theorem dL_law_713 : decode cL_law 713 = .ok (.iadd, 1) := by decide +kernel
theorem dL_law_714 : decode cL_law 714 = .ok (.iaload, 1) := by decide +kernel
theorem dL_law_715 : decode cL_law 715 = .ok (.ifCond .eq 7, 3) := by decide +kernel
theorem dL_law_718 : decode cL_law 718 = .ok (.iconst 1, 1) := by decide +kernel
theorem dL_law_719 : decode cL_law 719 = .ok (.goto 4, 3) := by decide +kernel
theorem dL_law_722 : decode cL_law 722 = .ok (.iconst 0, 1) := by decide +kernel
theorem dL_law_723 : decode cL_law 723 = .ok (.invokevirtual 84, 3) := by decide +kernel
theorem dL_law_726 : decode cL_law 726 = .ok (.lcmp, 1) := by decide +kernel
theorem dL_law_727 : decode cL_law 727 = .ok (.ifCond .eq 518, 3) := by decide +kernel
theorem dL_law_730 : decode cL_law 730 = .ok (.iconst 0, 1) := by decide +kernel
theorem dL_law_731 : decode cL_law 731 = .ok (.ireturn, 1) := by decide +kernel
theorem dL_law_732 : decode cL_law 732 = .ok (.aload_n 1, 1) := by decide +kernel
theorem dL_law_733 : decode cL_law 733 = .ok (.aload_n 0, 1) := by decide +kernel
theorem dL_law_734 : decode cL_law 734 = .ok (.iload_n 3, 1) := by decide +kernel
theorem dL_law_735 : decode cL_law 735 = .ok (.iconst 1, 1) := by decide +kernel
theorem dL_law_736 : decode cL_law 736 = .ok (.iadd, 1) := by decide +kernel
theorem dL_law_737 : decode cL_law 737 = .ok (.iaload, 1) := by decide +kernel
theorem dL_law_738 : decode cL_law 738 = .ok (.aload_n 0, 1) := by decide +kernel
theorem dL_law_739 : decode cL_law 739 = .ok (.iload_n 3, 1) := by decide +kernel
theorem dL_law_740 : decode cL_law 740 = .ok (.iconst 2, 1) := by decide +kernel
theorem dL_law_741 : decode cL_law 741 = .ok (.iadd, 1) := by decide +kernel
theorem dL_law_742 : decode cL_law 742 = .ok (.iaload, 1) := by decide +kernel
theorem dL_law_743 : decode cL_law 743 = .ok (.aload_n 0, 1) := by decide +kernel
theorem dL_law_744 : decode cL_law 744 = .ok (.iload_n 3, 1) := by decide +kernel
theorem dL_law_745 : decode cL_law 745 = .ok (.iconst 3, 1) := by decide +kernel
theorem dL_law_746 : decode cL_law 746 = .ok (.iadd, 1) := by decide +kernel
theorem dL_law_747 : decode cL_law 747 = .ok (.iaload, 1) := by decide +kernel
theorem dL_law_748 : decode cL_law 748 = .ok (.ifCond .eq 7, 3) := by decide +kernel
theorem dL_law_751 : decode cL_law 751 = .ok (.iconst 1, 1) := by decide +kernel
theorem dL_law_752 : decode cL_law 752 = .ok (.goto 4, 3) := by decide +kernel
theorem dL_law_755 : decode cL_law 755 = .ok (.iconst 0, 1) := by decide +kernel
theorem dL_law_756 : decode cL_law 756 = .ok (.aload_n 0, 1) := by decide +kernel
theorem dL_law_757 : decode cL_law 757 = .ok (.iload_n 3, 1) := by decide +kernel
theorem dL_law_758 : decode cL_law 758 = .ok (.iconst 4, 1) := by decide +kernel
theorem dL_law_759 : decode cL_law 759 = .ok (.iadd, 1) := by decide +kernel
theorem dL_law_760 : decode cL_law 760 = .ok (.iaload, 1) := by decide +kernel
theorem dL_law_761 : decode cL_law 761 = .ok (.ifCond .eq 7, 3) := by decide +kernel
theorem dL_law_764 : decode cL_law 764 = .ok (.iconst 1, 1) := by decide +kernel
theorem dL_law_765 : decode cL_law 765 = .ok (.goto 4, 3) := by decide +kernel
theorem dL_law_768 : decode cL_law 768 = .ok (.iconst 0, 1) := by decide +kernel
theorem dL_law_769 : decode cL_law 769 = .ok (.invokevirtual 85, 3) := by decide +kernel
theorem dL_law_772 : decode cL_law 772 = .ok (.aload_n 2, 1) := by decide +kernel
theorem dL_law_773 : decode cL_law 773 = .ok (.aload_n 0, 1) := by decide +kernel
theorem dL_law_774 : decode cL_law 774 = .ok (.iload_n 3, 1) := by decide +kernel
theorem dL_law_775 : decode cL_law 775 = .ok (.iconst 1, 1) := by decide +kernel
theorem dL_law_776 : decode cL_law 776 = .ok (.iadd, 1) := by decide +kernel
theorem dL_law_777 : decode cL_law 777 = .ok (.iaload, 1) := by decide +kernel
theorem dL_law_778 : decode cL_law 778 = .ok (.aload_n 0, 1) := by decide +kernel
theorem dL_law_779 : decode cL_law 779 = .ok (.iload_n 3, 1) := by decide +kernel
theorem dL_law_780 : decode cL_law 780 = .ok (.iconst 2, 1) := by decide +kernel
theorem dL_law_781 : decode cL_law 781 = .ok (.iadd, 1) := by decide +kernel
theorem dL_law_782 : decode cL_law 782 = .ok (.iaload, 1) := by decide +kernel
theorem dL_law_783 : decode cL_law 783 = .ok (.aload_n 0, 1) := by decide +kernel
theorem dL_law_784 : decode cL_law 784 = .ok (.iload_n 3, 1) := by decide +kernel
theorem dL_law_785 : decode cL_law 785 = .ok (.iconst 3, 1) := by decide +kernel
theorem dL_law_786 : decode cL_law 786 = .ok (.iadd, 1) := by decide +kernel
theorem dL_law_787 : decode cL_law 787 = .ok (.iaload, 1) := by decide +kernel
theorem dL_law_788 : decode cL_law 788 = .ok (.ifCond .eq 7, 3) := by decide +kernel
theorem dL_law_791 : decode cL_law 791 = .ok (.iconst 1, 1) := by decide +kernel
theorem dL_law_792 : decode cL_law 792 = .ok (.goto 4, 3) := by decide +kernel
theorem dL_law_795 : decode cL_law 795 = .ok (.iconst 0, 1) := by decide +kernel
theorem dL_law_796 : decode cL_law 796 = .ok (.aload_n 0, 1) := by decide +kernel
theorem dL_law_797 : decode cL_law 797 = .ok (.iload_n 3, 1) := by decide +kernel
theorem dL_law_798 : decode cL_law 798 = .ok (.iconst 4, 1) := by decide +kernel
theorem dL_law_799 : decode cL_law 799 = .ok (.iadd, 1) := by decide +kernel
theorem dL_law_800 : decode cL_law 800 = .ok (.iaload, 1) := by decide +kernel
theorem dL_law_801 : decode cL_law 801 = .ok (.ifCond .eq 7, 3) := by decide +kernel
theorem dL_law_804 : decode cL_law 804 = .ok (.iconst 1, 1) := by decide +kernel
theorem dL_law_805 : decode cL_law 805 = .ok (.goto 4, 3) := by decide +kernel
theorem dL_law_808 : decode cL_law 808 = .ok (.iconst 0, 1) := by decide +kernel
theorem dL_law_809 : decode cL_law 809 = .ok (.invokevirtual 88, 3) := by decide +kernel
theorem dL_law_812 : decode cL_law 812 = .ok (.lcmp, 1) := by decide +kernel
theorem dL_law_813 : decode cL_law 813 = .ok (.ifCond .eq 432, 3) := by decide +kernel
theorem dL_law_816 : decode cL_law 816 = .ok (.iconst 0, 1) := by decide +kernel
theorem dL_law_817 : decode cL_law 817 = .ok (.ireturn, 1) := by decide +kernel
theorem dL_law_818 : decode cL_law 818 = .ok (.aload_n 1, 1) := by decide +kernel
theorem dL_law_819 : decode cL_law 819 = .ok (.aload_n 0, 1) := by decide +kernel
theorem dL_law_820 : decode cL_law 820 = .ok (.iload_n 3, 1) := by decide +kernel
theorem dL_law_821 : decode cL_law 821 = .ok (.iconst 1, 1) := by decide +kernel
theorem dL_law_822 : decode cL_law 822 = .ok (.iadd, 1) := by decide +kernel
theorem dL_law_823 : decode cL_law 823 = .ok (.iaload, 1) := by decide +kernel
theorem dL_law_824 : decode cL_law 824 = .ok (.aload_n 0, 1) := by decide +kernel
theorem dL_law_825 : decode cL_law 825 = .ok (.iload_n 3, 1) := by decide +kernel
theorem dL_law_826 : decode cL_law 826 = .ok (.iconst 2, 1) := by decide +kernel
theorem dL_law_827 : decode cL_law 827 = .ok (.iadd, 1) := by decide +kernel
theorem dL_law_828 : decode cL_law 828 = .ok (.iaload, 1) := by decide +kernel
theorem dL_law_829 : decode cL_law 829 = .ok (.aload_n 0, 1) := by decide +kernel
theorem dL_law_830 : decode cL_law 830 = .ok (.iload_n 3, 1) := by decide +kernel
theorem dL_law_831 : decode cL_law 831 = .ok (.iconst 3, 1) := by decide +kernel
theorem dL_law_832 : decode cL_law 832 = .ok (.iadd, 1) := by decide +kernel
theorem dL_law_833 : decode cL_law 833 = .ok (.iaload, 1) := by decide +kernel
theorem dL_law_834 : decode cL_law 834 = .ok (.ifCond .eq 7, 3) := by decide +kernel
theorem dL_law_837 : decode cL_law 837 = .ok (.iconst 1, 1) := by decide +kernel
theorem dL_law_838 : decode cL_law 838 = .ok (.goto 4, 3) := by decide +kernel
theorem dL_law_841 : decode cL_law 841 = .ok (.iconst 0, 1) := by decide +kernel
theorem dL_law_842 : decode cL_law 842 = .ok (.aload_n 0, 1) := by decide +kernel
theorem dL_law_843 : decode cL_law 843 = .ok (.iload_n 3, 1) := by decide +kernel
theorem dL_law_844 : decode cL_law 844 = .ok (.iconst 4, 1) := by decide +kernel
theorem dL_law_845 : decode cL_law 845 = .ok (.iadd, 1) := by decide +kernel
theorem dL_law_846 : decode cL_law 846 = .ok (.iaload, 1) := by decide +kernel
theorem dL_law_847 : decode cL_law 847 = .ok (.ifCond .eq 7, 3) := by decide +kernel
theorem dL_law_850 : decode cL_law 850 = .ok (.iconst 1, 1) := by decide +kernel
theorem dL_law_851 : decode cL_law 851 = .ok (.goto 4, 3) := by decide +kernel
theorem dL_law_854 : decode cL_law 854 = .ok (.iconst 0, 1) := by decide +kernel
theorem dL_law_855 : decode cL_law 855 = .ok (.invokevirtual 89, 3) := by decide +kernel
theorem dL_law_858 : decode cL_law 858 = .ok (.aload_n 2, 1) := by decide +kernel
theorem dL_law_859 : decode cL_law 859 = .ok (.aload_n 0, 1) := by decide +kernel
theorem dL_law_860 : decode cL_law 860 = .ok (.iload_n 3, 1) := by decide +kernel
theorem dL_law_861 : decode cL_law 861 = .ok (.iconst 1, 1) := by decide +kernel
theorem dL_law_862 : decode cL_law 862 = .ok (.iadd, 1) := by decide +kernel
theorem dL_law_863 : decode cL_law 863 = .ok (.iaload, 1) := by decide +kernel
theorem dL_law_864 : decode cL_law 864 = .ok (.aload_n 0, 1) := by decide +kernel
theorem dL_law_865 : decode cL_law 865 = .ok (.iload_n 3, 1) := by decide +kernel
theorem dL_law_866 : decode cL_law 866 = .ok (.iconst 2, 1) := by decide +kernel
theorem dL_law_867 : decode cL_law 867 = .ok (.iadd, 1) := by decide +kernel
theorem dL_law_868 : decode cL_law 868 = .ok (.iaload, 1) := by decide +kernel
theorem dL_law_869 : decode cL_law 869 = .ok (.aload_n 0, 1) := by decide +kernel
theorem dL_law_870 : decode cL_law 870 = .ok (.iload_n 3, 1) := by decide +kernel
theorem dL_law_871 : decode cL_law 871 = .ok (.iconst 3, 1) := by decide +kernel
theorem dL_law_872 : decode cL_law 872 = .ok (.iadd, 1) := by decide +kernel
theorem dL_law_873 : decode cL_law 873 = .ok (.iaload, 1) := by decide +kernel
theorem dL_law_874 : decode cL_law 874 = .ok (.ifCond .eq 7, 3) := by decide +kernel
theorem dL_law_877 : decode cL_law 877 = .ok (.iconst 1, 1) := by decide +kernel
theorem dL_law_878 : decode cL_law 878 = .ok (.goto 4, 3) := by decide +kernel
theorem dL_law_881 : decode cL_law 881 = .ok (.iconst 0, 1) := by decide +kernel
theorem dL_law_882 : decode cL_law 882 = .ok (.aload_n 0, 1) := by decide +kernel
theorem dL_law_883 : decode cL_law 883 = .ok (.iload_n 3, 1) := by decide +kernel
theorem dL_law_884 : decode cL_law 884 = .ok (.iconst 4, 1) := by decide +kernel
theorem dL_law_885 : decode cL_law 885 = .ok (.iadd, 1) := by decide +kernel
theorem dL_law_886 : decode cL_law 886 = .ok (.iaload, 1) := by decide +kernel
theorem dL_law_887 : decode cL_law 887 = .ok (.ifCond .eq 7, 3) := by decide +kernel
theorem dL_law_890 : decode cL_law 890 = .ok (.iconst 1, 1) := by decide +kernel
theorem dL_law_891 : decode cL_law 891 = .ok (.goto 4, 3) := by decide +kernel
theorem dL_law_894 : decode cL_law 894 = .ok (.iconst 0, 1) := by decide +kernel
theorem dL_law_895 : decode cL_law 895 = .ok (.invokevirtual 92, 3) := by decide +kernel
theorem dL_law_898 : decode cL_law 898 = .ok (.lcmp, 1) := by decide +kernel
theorem dL_law_899 : decode cL_law 899 = .ok (.ifCond .eq 346, 3) := by decide +kernel
theorem dL_law_902 : decode cL_law 902 = .ok (.iconst 0, 1) := by decide +kernel
theorem dL_law_903 : decode cL_law 903 = .ok (.ireturn, 1) := by decide +kernel
theorem dL_law_904 : decode cL_law 904 = .ok (.aload_n 1, 1) := by decide +kernel
theorem dL_law_905 : decode cL_law 905 = .ok (.aload_n 0, 1) := by decide +kernel
theorem dL_law_906 : decode cL_law 906 = .ok (.iload_n 3, 1) := by decide +kernel
theorem dL_law_907 : decode cL_law 907 = .ok (.iconst 1, 1) := by decide +kernel
theorem dL_law_908 : decode cL_law 908 = .ok (.iadd, 1) := by decide +kernel
theorem dL_law_909 : decode cL_law 909 = .ok (.iaload, 1) := by decide +kernel
theorem dL_law_910 : decode cL_law 910 = .ok (.invokevirtual 93, 3) := by decide +kernel
theorem dL_law_913 : decode cL_law 913 = .ok (.aload_n 2, 1) := by decide +kernel
theorem dL_law_914 : decode cL_law 914 = .ok (.aload_n 0, 1) := by decide +kernel
theorem dL_law_915 : decode cL_law 915 = .ok (.iload_n 3, 1) := by decide +kernel
theorem dL_law_916 : decode cL_law 916 = .ok (.iconst 1, 1) := by decide +kernel
theorem dL_law_917 : decode cL_law 917 = .ok (.iadd, 1) := by decide +kernel
theorem dL_law_918 : decode cL_law 918 = .ok (.iaload, 1) := by decide +kernel
theorem dL_law_919 : decode cL_law 919 = .ok (.invokevirtual 96, 3) := by decide +kernel
theorem dL_law_922 : decode cL_law 922 = .ok (.if_icmp .eq 323, 3) := by decide +kernel
theorem dL_law_925 : decode cL_law 925 = .ok (.iconst 0, 1) := by decide +kernel
theorem dL_law_926 : decode cL_law 926 = .ok (.ireturn, 1) := by decide +kernel
theorem dL_law_927 : decode cL_law 927 = .ok (.aload_n 1, 1) := by decide +kernel
theorem dL_law_928 : decode cL_law 928 = .ok (.aload_n 0, 1) := by decide +kernel
theorem dL_law_929 : decode cL_law 929 = .ok (.iload_n 3, 1) := by decide +kernel
theorem dL_law_930 : decode cL_law 930 = .ok (.iconst 1, 1) := by decide +kernel
theorem dL_law_931 : decode cL_law 931 = .ok (.iadd, 1) := by decide +kernel
theorem dL_law_932 : decode cL_law 932 = .ok (.iaload, 1) := by decide +kernel
theorem dL_law_933 : decode cL_law 933 = .ok (.aload_n 0, 1) := by decide +kernel
theorem dL_law_934 : decode cL_law 934 = .ok (.iload_n 3, 1) := by decide +kernel
theorem dL_law_935 : decode cL_law 935 = .ok (.iconst 2, 1) := by decide +kernel
theorem dL_law_936 : decode cL_law 936 = .ok (.iadd, 1) := by decide +kernel
theorem dL_law_937 : decode cL_law 937 = .ok (.iaload, 1) := by decide +kernel
theorem dL_law_938 : decode cL_law 938 = .ok (.ifCond .eq 7, 3) := by decide +kernel
theorem dL_law_941 : decode cL_law 941 = .ok (.iconst 1, 1) := by decide +kernel
theorem dL_law_942 : decode cL_law 942 = .ok (.goto 4, 3) := by decide +kernel
theorem dL_law_945 : decode cL_law 945 = .ok (.iconst 0, 1) := by decide +kernel
theorem dL_law_946 : decode cL_law 946 = .ok (.invokevirtual 97, 3) := by decide +kernel
theorem dL_law_949 : decode cL_law 949 = .ok (.aload_n 2, 1) := by decide +kernel
theorem dL_law_950 : decode cL_law 950 = .ok (.aload_n 0, 1) := by decide +kernel
theorem dL_law_951 : decode cL_law 951 = .ok (.iload_n 3, 1) := by decide +kernel
theorem dL_law_952 : decode cL_law 952 = .ok (.iconst 1, 1) := by decide +kernel
theorem dL_law_953 : decode cL_law 953 = .ok (.iadd, 1) := by decide +kernel
theorem dL_law_954 : decode cL_law 954 = .ok (.iaload, 1) := by decide +kernel
theorem dL_law_955 : decode cL_law 955 = .ok (.aload_n 0, 1) := by decide +kernel
theorem dL_law_956 : decode cL_law 956 = .ok (.iload_n 3, 1) := by decide +kernel
theorem dL_law_957 : decode cL_law 957 = .ok (.iconst 2, 1) := by decide +kernel
theorem dL_law_958 : decode cL_law 958 = .ok (.iadd, 1) := by decide +kernel
theorem dL_law_959 : decode cL_law 959 = .ok (.iaload, 1) := by decide +kernel
theorem dL_law_960 : decode cL_law 960 = .ok (.ifCond .eq 7, 3) := by decide +kernel
theorem dL_law_963 : decode cL_law 963 = .ok (.iconst 1, 1) := by decide +kernel
theorem dL_law_964 : decode cL_law 964 = .ok (.goto 4, 3) := by decide +kernel
theorem dL_law_967 : decode cL_law 967 = .ok (.iconst 0, 1) := by decide +kernel
theorem dL_law_968 : decode cL_law 968 = .ok (.invokevirtual 101, 3) := by decide +kernel
theorem dL_law_971 : decode cL_law 971 = .ok (.lcmp, 1) := by decide +kernel
theorem dL_law_972 : decode cL_law 972 = .ok (.ifCond .eq 273, 3) := by decide +kernel
theorem dL_law_975 : decode cL_law 975 = .ok (.iconst 0, 1) := by decide +kernel
theorem dL_law_976 : decode cL_law 976 = .ok (.ireturn, 1) := by decide +kernel
theorem dL_law_977 : decode cL_law 977 = .ok (.aload_n 1, 1) := by decide +kernel
theorem dL_law_978 : decode cL_law 978 = .ok (.aload_n 0, 1) := by decide +kernel
theorem dL_law_979 : decode cL_law 979 = .ok (.iload_n 3, 1) := by decide +kernel
theorem dL_law_980 : decode cL_law 980 = .ok (.iconst 1, 1) := by decide +kernel
theorem dL_law_981 : decode cL_law 981 = .ok (.iadd, 1) := by decide +kernel
theorem dL_law_982 : decode cL_law 982 = .ok (.iaload, 1) := by decide +kernel
theorem dL_law_983 : decode cL_law 983 = .ok (.aload_n 0, 1) := by decide +kernel
theorem dL_law_984 : decode cL_law 984 = .ok (.iload_n 3, 1) := by decide +kernel
theorem dL_law_985 : decode cL_law 985 = .ok (.iconst 2, 1) := by decide +kernel
theorem dL_law_986 : decode cL_law 986 = .ok (.iadd, 1) := by decide +kernel
theorem dL_law_987 : decode cL_law 987 = .ok (.iaload, 1) := by decide +kernel
theorem dL_law_988 : decode cL_law 988 = .ok (.ifCond .eq 7, 3) := by decide +kernel
theorem dL_law_991 : decode cL_law 991 = .ok (.iconst 1, 1) := by decide +kernel
theorem dL_law_992 : decode cL_law 992 = .ok (.goto 4, 3) := by decide +kernel
theorem dL_law_995 : decode cL_law 995 = .ok (.iconst 0, 1) := by decide +kernel
theorem dL_law_996 : decode cL_law 996 = .ok (.invokevirtual 102, 3) := by decide +kernel
theorem dL_law_999 : decode cL_law 999 = .ok (.aload_n 2, 1) := by decide +kernel
theorem dL_law_1000 : decode cL_law 1000 = .ok (.aload_n 0, 1) := by decide +kernel
theorem dL_law_1001 : decode cL_law 1001 = .ok (.iload_n 3, 1) := by decide +kernel
theorem dL_law_1002 : decode cL_law 1002 = .ok (.iconst 1, 1) := by decide +kernel
theorem dL_law_1003 : decode cL_law 1003 = .ok (.iadd, 1) := by decide +kernel
theorem dL_law_1004 : decode cL_law 1004 = .ok (.iaload, 1) := by decide +kernel
theorem dL_law_1005 : decode cL_law 1005 = .ok (.aload_n 0, 1) := by decide +kernel
theorem dL_law_1006 : decode cL_law 1006 = .ok (.iload_n 3, 1) := by decide +kernel
theorem dL_law_1007 : decode cL_law 1007 = .ok (.iconst 2, 1) := by decide +kernel
theorem dL_law_1008 : decode cL_law 1008 = .ok (.iadd, 1) := by decide +kernel
theorem dL_law_1009 : decode cL_law 1009 = .ok (.iaload, 1) := by decide +kernel
theorem dL_law_1010 : decode cL_law 1010 = .ok (.ifCond .eq 7, 3) := by decide +kernel
theorem dL_law_1013 : decode cL_law 1013 = .ok (.iconst 1, 1) := by decide +kernel
theorem dL_law_1014 : decode cL_law 1014 = .ok (.goto 4, 3) := by decide +kernel
theorem dL_law_1017 : decode cL_law 1017 = .ok (.iconst 0, 1) := by decide +kernel
theorem dL_law_1018 : decode cL_law 1018 = .ok (.invokevirtual 105, 3) := by decide +kernel
theorem dL_law_1021 : decode cL_law 1021 = .ok (.lcmp, 1) := by decide +kernel
theorem dL_law_1022 : decode cL_law 1022 = .ok (.ifCond .eq 223, 3) := by decide +kernel
theorem dL_law_1025 : decode cL_law 1025 = .ok (.iconst 0, 1) := by decide +kernel
theorem dL_law_1026 : decode cL_law 1026 = .ok (.ireturn, 1) := by decide +kernel
theorem dL_law_1027 : decode cL_law 1027 = .ok (.aload_n 1, 1) := by decide +kernel
theorem dL_law_1028 : decode cL_law 1028 = .ok (.aload_n 0, 1) := by decide +kernel
theorem dL_law_1029 : decode cL_law 1029 = .ok (.iload_n 3, 1) := by decide +kernel
theorem dL_law_1030 : decode cL_law 1030 = .ok (.iconst 1, 1) := by decide +kernel
theorem dL_law_1031 : decode cL_law 1031 = .ok (.iadd, 1) := by decide +kernel
theorem dL_law_1032 : decode cL_law 1032 = .ok (.iaload, 1) := by decide +kernel
theorem dL_law_1033 : decode cL_law 1033 = .ok (.ifCond .eq 7, 3) := by decide +kernel
theorem dL_law_1036 : decode cL_law 1036 = .ok (.iconst 1, 1) := by decide +kernel
theorem dL_law_1037 : decode cL_law 1037 = .ok (.goto 4, 3) := by decide +kernel
theorem dL_law_1040 : decode cL_law 1040 = .ok (.iconst 0, 1) := by decide +kernel
theorem dL_law_1041 : decode cL_law 1041 = .ok (.invokevirtual 106, 3) := by decide +kernel
theorem dL_law_1044 : decode cL_law 1044 = .ok (.aload_n 2, 1) := by decide +kernel
theorem dL_law_1045 : decode cL_law 1045 = .ok (.aload_n 0, 1) := by decide +kernel
theorem dL_law_1046 : decode cL_law 1046 = .ok (.iload_n 3, 1) := by decide +kernel
theorem dL_law_1047 : decode cL_law 1047 = .ok (.iconst 1, 1) := by decide +kernel
theorem dL_law_1048 : decode cL_law 1048 = .ok (.iadd, 1) := by decide +kernel
theorem dL_law_1049 : decode cL_law 1049 = .ok (.iaload, 1) := by decide +kernel
theorem dL_law_1050 : decode cL_law 1050 = .ok (.ifCond .eq 7, 3) := by decide +kernel
theorem dL_law_1053 : decode cL_law 1053 = .ok (.iconst 1, 1) := by decide +kernel
theorem dL_law_1054 : decode cL_law 1054 = .ok (.goto 4, 3) := by decide +kernel
theorem dL_law_1057 : decode cL_law 1057 = .ok (.iconst 0, 1) := by decide +kernel
theorem dL_law_1058 : decode cL_law 1058 = .ok (.invokevirtual 110, 3) := by decide +kernel
theorem dL_law_1061 : decode cL_law 1061 = .ok (.lcmp, 1) := by decide +kernel
theorem dL_law_1062 : decode cL_law 1062 = .ok (.ifCond .eq 183, 3) := by decide +kernel
theorem dL_law_1065 : decode cL_law 1065 = .ok (.iconst 0, 1) := by decide +kernel
theorem dL_law_1066 : decode cL_law 1066 = .ok (.ireturn, 1) := by decide +kernel
theorem dL_law_1067 : decode cL_law 1067 = .ok (.aload_n 1, 1) := by decide +kernel
theorem dL_law_1068 : decode cL_law 1068 = .ok (.aload_n 0, 1) := by decide +kernel
theorem dL_law_1069 : decode cL_law 1069 = .ok (.iload_n 3, 1) := by decide +kernel
theorem dL_law_1070 : decode cL_law 1070 = .ok (.iconst 1, 1) := by decide +kernel
theorem dL_law_1071 : decode cL_law 1071 = .ok (.iadd, 1) := by decide +kernel
theorem dL_law_1072 : decode cL_law 1072 = .ok (.iaload, 1) := by decide +kernel
theorem dL_law_1073 : decode cL_law 1073 = .ok (.ifCond .eq 7, 3) := by decide +kernel
theorem dL_law_1076 : decode cL_law 1076 = .ok (.iconst 1, 1) := by decide +kernel
theorem dL_law_1077 : decode cL_law 1077 = .ok (.goto 4, 3) := by decide +kernel
theorem dL_law_1080 : decode cL_law 1080 = .ok (.iconst 0, 1) := by decide +kernel
theorem dL_law_1081 : decode cL_law 1081 = .ok (.aload_n 0, 1) := by decide +kernel
theorem dL_law_1082 : decode cL_law 1082 = .ok (.iload_n 3, 1) := by decide +kernel
theorem dL_law_1083 : decode cL_law 1083 = .ok (.iconst 2, 1) := by decide +kernel
theorem dL_law_1084 : decode cL_law 1084 = .ok (.iadd, 1) := by decide +kernel
theorem dL_law_1085 : decode cL_law 1085 = .ok (.iaload, 1) := by decide +kernel
theorem dL_law_1086 : decode cL_law 1086 = .ok (.ifCond .eq 7, 3) := by decide +kernel
theorem dL_law_1089 : decode cL_law 1089 = .ok (.iconst 1, 1) := by decide +kernel
theorem dL_law_1090 : decode cL_law 1090 = .ok (.goto 4, 3) := by decide +kernel
theorem dL_law_1093 : decode cL_law 1093 = .ok (.iconst 0, 1) := by decide +kernel
theorem dL_law_1094 : decode cL_law 1094 = .ok (.invokevirtual 111, 3) := by decide +kernel
theorem dL_law_1097 : decode cL_law 1097 = .ok (.aload_n 2, 1) := by decide +kernel
theorem dL_law_1098 : decode cL_law 1098 = .ok (.aload_n 0, 1) := by decide +kernel
theorem dL_law_1099 : decode cL_law 1099 = .ok (.iload_n 3, 1) := by decide +kernel
theorem dL_law_1100 : decode cL_law 1100 = .ok (.iconst 1, 1) := by decide +kernel
theorem dL_law_1101 : decode cL_law 1101 = .ok (.iadd, 1) := by decide +kernel
theorem dL_law_1102 : decode cL_law 1102 = .ok (.iaload, 1) := by decide +kernel
theorem dL_law_1103 : decode cL_law 1103 = .ok (.ifCond .eq 7, 3) := by decide +kernel
theorem dL_law_1106 : decode cL_law 1106 = .ok (.iconst 1, 1) := by decide +kernel
theorem dL_law_1107 : decode cL_law 1107 = .ok (.goto 4, 3) := by decide +kernel
theorem dL_law_1110 : decode cL_law 1110 = .ok (.iconst 0, 1) := by decide +kernel
theorem dL_law_1111 : decode cL_law 1111 = .ok (.aload_n 0, 1) := by decide +kernel
theorem dL_law_1112 : decode cL_law 1112 = .ok (.iload_n 3, 1) := by decide +kernel
theorem dL_law_1113 : decode cL_law 1113 = .ok (.iconst 2, 1) := by decide +kernel
theorem dL_law_1114 : decode cL_law 1114 = .ok (.iadd, 1) := by decide +kernel
theorem dL_law_1115 : decode cL_law 1115 = .ok (.iaload, 1) := by decide +kernel
theorem dL_law_1116 : decode cL_law 1116 = .ok (.ifCond .eq 7, 3) := by decide +kernel
theorem dL_law_1119 : decode cL_law 1119 = .ok (.iconst 1, 1) := by decide +kernel
theorem dL_law_1120 : decode cL_law 1120 = .ok (.goto 4, 3) := by decide +kernel
theorem dL_law_1123 : decode cL_law 1123 = .ok (.iconst 0, 1) := by decide +kernel
theorem dL_law_1124 : decode cL_law 1124 = .ok (.invokevirtual 115, 3) := by decide +kernel
theorem dL_law_1127 : decode cL_law 1127 = .ok (.lcmp, 1) := by decide +kernel
theorem dL_law_1128 : decode cL_law 1128 = .ok (.ifCond .eq 117, 3) := by decide +kernel
theorem dL_law_1131 : decode cL_law 1131 = .ok (.iconst 0, 1) := by decide +kernel
theorem dL_law_1132 : decode cL_law 1132 = .ok (.ireturn, 1) := by decide +kernel
theorem dL_law_1133 : decode cL_law 1133 = .ok (.aload_n 1, 1) := by decide +kernel
theorem dL_law_1134 : decode cL_law 1134 = .ok (.invokevirtual 116, 3) := by decide +kernel
theorem dL_law_1137 : decode cL_law 1137 = .ok (.aload_n 2, 1) := by decide +kernel
theorem dL_law_1138 : decode cL_law 1138 = .ok (.invokevirtual 119, 3) := by decide +kernel
theorem dL_law_1141 : decode cL_law 1141 = .ok (.if_icmp .eq 104, 3) := by decide +kernel
theorem dL_law_1144 : decode cL_law 1144 = .ok (.iconst 0, 1) := by decide +kernel
theorem dL_law_1145 : decode cL_law 1145 = .ok (.ireturn, 1) := by decide +kernel
theorem dL_law_1146 : decode cL_law 1146 = .ok (.aload_n 1, 1) := by decide +kernel
theorem dL_law_1147 : decode cL_law 1147 = .ok (.aload_n 0, 1) := by decide +kernel
theorem dL_law_1148 : decode cL_law 1148 = .ok (.iload_n 3, 1) := by decide +kernel
theorem dL_law_1149 : decode cL_law 1149 = .ok (.iconst 1, 1) := by decide +kernel
theorem dL_law_1150 : decode cL_law 1150 = .ok (.iadd, 1) := by decide +kernel
theorem dL_law_1151 : decode cL_law 1151 = .ok (.iaload, 1) := by decide +kernel
theorem dL_law_1152 : decode cL_law 1152 = .ok (.aload_n 0, 1) := by decide +kernel
theorem dL_law_1153 : decode cL_law 1153 = .ok (.iload_n 3, 1) := by decide +kernel
theorem dL_law_1154 : decode cL_law 1154 = .ok (.iconst 2, 1) := by decide +kernel
theorem dL_law_1155 : decode cL_law 1155 = .ok (.iadd, 1) := by decide +kernel
theorem dL_law_1156 : decode cL_law 1156 = .ok (.iaload, 1) := by decide +kernel
theorem dL_law_1157 : decode cL_law 1157 = .ok (.aload_n 0, 1) := by decide +kernel
theorem dL_law_1158 : decode cL_law 1158 = .ok (.iload_n 3, 1) := by decide +kernel
theorem dL_law_1159 : decode cL_law 1159 = .ok (.iconst 3, 1) := by decide +kernel
theorem dL_law_1160 : decode cL_law 1160 = .ok (.iadd, 1) := by decide +kernel
theorem dL_law_1161 : decode cL_law 1161 = .ok (.iaload, 1) := by decide +kernel
theorem dL_law_1162 : decode cL_law 1162 = .ok (.invokevirtual 120, 3) := by decide +kernel
theorem dL_law_1165 : decode cL_law 1165 = .ok (.aload_n 2, 1) := by decide +kernel
theorem dL_law_1166 : decode cL_law 1166 = .ok (.aload_n 0, 1) := by decide +kernel
theorem dL_law_1167 : decode cL_law 1167 = .ok (.iload_n 3, 1) := by decide +kernel
theorem dL_law_1168 : decode cL_law 1168 = .ok (.iconst 1, 1) := by decide +kernel
theorem dL_law_1169 : decode cL_law 1169 = .ok (.iadd, 1) := by decide +kernel
theorem dL_law_1170 : decode cL_law 1170 = .ok (.iaload, 1) := by decide +kernel
theorem dL_law_1171 : decode cL_law 1171 = .ok (.aload_n 0, 1) := by decide +kernel
theorem dL_law_1172 : decode cL_law 1172 = .ok (.iload_n 3, 1) := by decide +kernel
theorem dL_law_1173 : decode cL_law 1173 = .ok (.iconst 2, 1) := by decide +kernel
theorem dL_law_1174 : decode cL_law 1174 = .ok (.iadd, 1) := by decide +kernel
theorem dL_law_1175 : decode cL_law 1175 = .ok (.iaload, 1) := by decide +kernel
theorem dL_law_1176 : decode cL_law 1176 = .ok (.aload_n 0, 1) := by decide +kernel
theorem dL_law_1177 : decode cL_law 1177 = .ok (.iload_n 3, 1) := by decide +kernel
theorem dL_law_1178 : decode cL_law 1178 = .ok (.iconst 3, 1) := by decide +kernel
theorem dL_law_1179 : decode cL_law 1179 = .ok (.iadd, 1) := by decide +kernel
theorem dL_law_1180 : decode cL_law 1180 = .ok (.iaload, 1) := by decide +kernel
theorem dL_law_1181 : decode cL_law 1181 = .ok (.invokevirtual 123, 3) := by decide +kernel
theorem dL_law_1184 : decode cL_law 1184 = .ok (.if_icmp .eq 61, 3) := by decide +kernel
theorem dL_law_1187 : decode cL_law 1187 = .ok (.iconst 0, 1) := by decide +kernel
theorem dL_law_1188 : decode cL_law 1188 = .ok (.ireturn, 1) := by decide +kernel
theorem dL_law_1189 : decode cL_law 1189 = .ok (.aload_n 1, 1) := by decide +kernel
theorem dL_law_1190 : decode cL_law 1190 = .ok (.aload_n 0, 1) := by decide +kernel
theorem dL_law_1191 : decode cL_law 1191 = .ok (.iload_n 3, 1) := by decide +kernel
theorem dL_law_1192 : decode cL_law 1192 = .ok (.iconst 1, 1) := by decide +kernel
theorem dL_law_1193 : decode cL_law 1193 = .ok (.iadd, 1) := by decide +kernel
theorem dL_law_1194 : decode cL_law 1194 = .ok (.iaload, 1) := by decide +kernel
theorem dL_law_1195 : decode cL_law 1195 = .ok (.aload_n 0, 1) := by decide +kernel
theorem dL_law_1196 : decode cL_law 1196 = .ok (.iload_n 3, 1) := by decide +kernel
theorem dL_law_1197 : decode cL_law 1197 = .ok (.iconst 2, 1) := by decide +kernel
theorem dL_law_1198 : decode cL_law 1198 = .ok (.iadd, 1) := by decide +kernel
theorem dL_law_1199 : decode cL_law 1199 = .ok (.iaload, 1) := by decide +kernel
theorem dL_law_1200 : decode cL_law 1200 = .ok (.invokevirtual 124, 3) := by decide +kernel
theorem dL_law_1203 : decode cL_law 1203 = .ok (.aload_n 2, 1) := by decide +kernel
theorem dL_law_1204 : decode cL_law 1204 = .ok (.aload_n 0, 1) := by decide +kernel
theorem dL_law_1205 : decode cL_law 1205 = .ok (.iload_n 3, 1) := by decide +kernel
theorem dL_law_1206 : decode cL_law 1206 = .ok (.iconst 1, 1) := by decide +kernel
theorem dL_law_1207 : decode cL_law 1207 = .ok (.iadd, 1) := by decide +kernel
theorem dL_law_1208 : decode cL_law 1208 = .ok (.iaload, 1) := by decide +kernel
theorem dL_law_1209 : decode cL_law 1209 = .ok (.aload_n 0, 1) := by decide +kernel
theorem dL_law_1210 : decode cL_law 1210 = .ok (.iload_n 3, 1) := by decide +kernel
theorem dL_law_1211 : decode cL_law 1211 = .ok (.iconst 2, 1) := by decide +kernel
theorem dL_law_1212 : decode cL_law 1212 = .ok (.iadd, 1) := by decide +kernel
theorem dL_law_1213 : decode cL_law 1213 = .ok (.iaload, 1) := by decide +kernel
theorem dL_law_1214 : decode cL_law 1214 = .ok (.invokevirtual 127, 3) := by decide +kernel
theorem dL_law_1217 : decode cL_law 1217 = .ok (.if_icmp .eq 28, 3) := by decide +kernel
theorem dL_law_1220 : decode cL_law 1220 = .ok (.iconst 0, 1) := by decide +kernel
theorem dL_law_1221 : decode cL_law 1221 = .ok (.ireturn, 1) := by decide +kernel
theorem dL_law_1222 : decode cL_law 1222 = .ok (.aload_n 1, 1) := by decide +kernel
theorem dL_law_1223 : decode cL_law 1223 = .ok (.aload_n 0, 1) := by decide +kernel
theorem dL_law_1224 : decode cL_law 1224 = .ok (.iload_n 3, 1) := by decide +kernel
theorem dL_law_1225 : decode cL_law 1225 = .ok (.iconst 1, 1) := by decide +kernel
theorem dL_law_1226 : decode cL_law 1226 = .ok (.iadd, 1) := by decide +kernel
theorem dL_law_1227 : decode cL_law 1227 = .ok (.iaload, 1) := by decide +kernel
theorem dL_law_1228 : decode cL_law 1228 = .ok (.invokevirtual 128, 3) := by decide +kernel
theorem dL_law_1231 : decode cL_law 1231 = .ok (.aload_n 2, 1) := by decide +kernel
theorem dL_law_1232 : decode cL_law 1232 = .ok (.aload_n 0, 1) := by decide +kernel
theorem dL_law_1233 : decode cL_law 1233 = .ok (.iload_n 3, 1) := by decide +kernel
theorem dL_law_1234 : decode cL_law 1234 = .ok (.iconst 1, 1) := by decide +kernel
theorem dL_law_1235 : decode cL_law 1235 = .ok (.iadd, 1) := by decide +kernel
theorem dL_law_1236 : decode cL_law 1236 = .ok (.iaload, 1) := by decide +kernel
theorem dL_law_1237 : decode cL_law 1237 = .ok (.invokevirtual 131, 3) := by decide +kernel
theorem dL_law_1240 : decode cL_law 1240 = .ok (.if_icmp .eq 5, 3) := by decide +kernel
theorem dL_law_1243 : decode cL_law 1243 = .ok (.iconst 0, 1) := by decide +kernel
theorem dL_law_1244 : decode cL_law 1244 = .ok (.ireturn, 1) := by decide +kernel
theorem dL_law_1245 : decode cL_law 1245 = .ok (.iinc 3 5, 3) := by decide +kernel
theorem dL_law_1248 : decode cL_law 1248 = .ok (.goto (-1230), 3) := by decide +kernel
theorem dL_law_1251 : decode cL_law 1251 = .ok (.iconst 1, 1) := by decide +kernel
theorem dL_law_1252 : decode cL_law 1252 = .ok (.ireturn, 1) := by decide +kernel
end
section
/-! the state of class or reference, as pure functions: ints, longs, int arrays, long arrays -/
abbrev St : Type := (Nat → Int32) × (Nat → Int64) × (Nat → Nat → Int32) × (Nat → Nat → Int64)
def gI (σ : St) (k : Nat) : Int32 := σ.1 k
def gJ (σ : St) (k : Nat) : Int64 := σ.2.1 k
def gF (σ : St) (a : Nat) : Nat → Int32 := σ.2.2.1 a
def gG (σ : St) (a : Nat) : Nat → Int64 := σ.2.2.2 a
def sI (σ : St) (k : Nat) (v : Int32) : St := (fun j => if j = k then v else σ.1 j, σ.2)
def sJ (σ : St) (k : Nat) (v : Int64) : St := (σ.1, fun j => if j = k then v else σ.2.1 j, σ.2.2)
def sF (σ : St) (a : Nat) (f : Nat → Int32) : St := (σ.1, σ.2.1, fun b => if b = a then f else σ.2.2.1 b, σ.2.2.2)
def sG (σ : St) (a : Nat) (f : Nat → Int64) : St := (σ.1, σ.2.1, σ.2.2.1, fun b => if b = a then f else σ.2.2.2 b)
def st0 : St := (fun _ => 0, fun _ => 0, fun _ _ => 0, fun _ _ => 0)
/-! programs that may fail: their steps, and what follows from an answer -/
def bd0 {α γ : Type} (x : Option α) (k : α → Option γ) : Option γ := match x with
  | none => none
  | some a => k a
def bd2 {α β γ : Type} (x : Option (α × β)) (k : α → β → Option γ) : Option γ := match x with
  | none => none
  | some (a, b) => k a b
theorem bd0_inv {α γ : Type} {x : Option α} {k : α → Option γ} {y : γ} (h : bd0 x k = some y) : ∃ a, x = some a ∧ k a = some y := by
  cases x with
  | none => cases h
  | some a => exact ⟨a, rfl, h⟩
theorem bd2_inv {α β γ : Type} {x : Option (α × β)} {k : α → β → Option γ} {y : γ} (h : bd2 x k = some y) : ∃ a b, x = some (a, b) ∧ k a b = some y := by
  cases x with
  | none => cases h
  | some q => exact ⟨q.1, q.2, rfl, h⟩
theorem ipos {α : Type} {c : Prop} {_i : Decidable c} {a b r : α} (h : (if c then a else b) = r) (hc : c) : a = r := by
  rw [if_pos hc] at h; exact h
theorem ineg {α : Type} {c : Prop} {_i : Decidable c} {a b r : α} (h : (if c then a else b) = r) (hc : ¬ c) : b = r := by
  rw [if_neg hc] at h; exact h
theorem gdn {α : Type} {c : Prop} {_i : Decidable c} {a : Option α} {r : α} (h : (if c then none else a) = some r) : ¬ c ∧ a = some r := by
  by_cases hc : c
  · rw [if_pos hc] at h; cases h
  · rw [if_neg hc] at h; exact ⟨hc, h⟩
theorem nn {α : Type} {r : α} {P : Prop} (h : (none : Option α) = some r) : P := by cases h
theorem so1 {α : Type} {a b : α} (h : some a = some b) : a = b := Option.some.inj h
theorem so2 {α β : Type} {a c : α} {b d : β} (h : some (a, b) = some (c, d)) : a = c ∧ b = d := by
  have h1 := Option.some.inj h
  exact ⟨congrArg Prod.fst h1, congrArg Prod.snd h1⟩
/-! the tables' words -/
def TB : List Cond := lw_tbl.filter goodWord
theorem TB_all : TB.all goodWord = true := List.all_eq_true.mpr (fun _ h => (List.mem_filter.mp h).2)
theorem TB_of {args : Array Value} {s : State} (h : ∀ w ∈ lw_tbl, w.before args s = true) : ∀ w ∈ TB, w.before args s = true := fun w hw => h w (List.mem_filter.mp hw).1
theorem TB_i {w : Cond} (i : Nat) (h : lw_tbl[i]? = some w) (hg : goodWord w = true) : w ∈ TB := List.mem_filter.mpr ⟨List.mem_of_getElem? h, hg⟩
theorem TB_good : GoodIn TB TB := fun w hw => ⟨hw, good_of_word (List.all_eq_true.mp TB_all w hw)⟩
theorem TB_cons {y : MethodName} {cc : ByteArray} {n : Nat} {ret : Option FieldType} (h : Cond.code y cc n ret ∈ TB) : GoodIn TB (Cond.code y cc n ret :: TB) := by
  intro w hw
  rcases List.mem_cons.mp hw with rfl | hw
  · exact TB_good _ h
  · exact TB_good _ hw
abbrev cls : List vw_C := [(RX0, TX0, 3), (RX1, TX1, 6), (RX2, TX2, 12), (RX3, TX3, 20)]
/-! a long compare and the branch behind it -/
theorem lgc_3 (x y : Int64) : (lg_cmp x y = 1 ∧ y < x ∧ ¬ x = y ∧ ¬ x < y ∧ y ≤ x ∧ ¬ x ≤ y) ∨ (lg_cmp x y = 0 ∧ ¬ y < x ∧ x = y ∧ ¬ x < y ∧ y ≤ x ∧ x ≤ y) ∨ (lg_cmp x y = -1 ∧ ¬ y < x ∧ ¬ x = y ∧ x < y ∧ ¬ y ≤ x ∧ x ≤ y) := by
  by_cases h1 : y < x
  · refine Or.inl ⟨by simp [lg_cmp, h1], h1, ?_, ?_, ?_, ?_⟩
    · intro h; subst h; exact absurd h1 (Int64.lt_irrefl)
    · intro h; rw [Int64.lt_iff_toInt_lt] at h h1; omega
    · rw [Int64.le_iff_toInt_le]; rw [Int64.lt_iff_toInt_lt] at h1; omega
    · intro h; rw [Int64.le_iff_toInt_le] at h; rw [Int64.lt_iff_toInt_lt] at h1; omega
  · by_cases h2 : x = y
    · subst h2
      exact Or.inr (Or.inl ⟨by simp [lg_cmp], h1, rfl, h1, by rw [Int64.le_iff_toInt_le]; exact Int.le_refl _, by rw [Int64.le_iff_toInt_le]; exact Int.le_refl _⟩)
    · have h3 : ¬ x.toInt = y.toInt := fun h => h2 (Int64.toInt_inj.mp h)
      have h4 : ¬ y.toInt < x.toInt := by rw [← Int64.lt_iff_toInt_lt]; exact h1
      refine Or.inr (Or.inr ⟨by simp [lg_cmp, h1, h2], h1, h2, ?_, ?_, ?_⟩)
      · rw [Int64.lt_iff_toInt_lt]; omega
      · rw [Int64.le_iff_toInt_le]; omega
      · rw [Int64.le_iff_toInt_le]; omega
theorem lgc_eq {x y : Int64} : lg_cmp x y = 0 ↔ x = y := by rcases lgc_3 x y with ⟨e, h1, h2, h3, h4, h5⟩ | ⟨e, h1, h2, h3, h4, h5⟩ | ⟨e, h1, h2, h3, h4, h5⟩ <;> rw [e] <;> simp [h1, h2, h3, h4, h5]
theorem lgn_eq {x y : Int64} : ¬ lg_cmp x y = 0 ↔ ¬ x = y := not_congr lgc_eq
theorem lgc_ne {x y : Int64} : ¬ lg_cmp x y = 0 ↔ ¬ x = y := by rcases lgc_3 x y with ⟨e, h1, h2, h3, h4, h5⟩ | ⟨e, h1, h2, h3, h4, h5⟩ | ⟨e, h1, h2, h3, h4, h5⟩ <;> rw [e] <;> simp [h1, h2, h3, h4, h5]
theorem lgn_ne {x y : Int64} : lg_cmp x y = 0 ↔ x = y := lgc_eq
theorem lgc_lt {x y : Int64} : lg_cmp x y < 0 ↔ x < y := by rcases lgc_3 x y with ⟨e, h1, h2, h3, h4, h5⟩ | ⟨e, h1, h2, h3, h4, h5⟩ | ⟨e, h1, h2, h3, h4, h5⟩ <;> rw [e] <;> simp [h1, h2, h3, h4, h5]
theorem lgn_lt {x y : Int64} : ¬ lg_cmp x y < 0 ↔ ¬ x < y := not_congr lgc_lt
theorem lgc_ge {x y : Int64} : 0 ≤ lg_cmp x y ↔ y ≤ x := by rcases lgc_3 x y with ⟨e, h1, h2, h3, h4, h5⟩ | ⟨e, h1, h2, h3, h4, h5⟩ | ⟨e, h1, h2, h3, h4, h5⟩ <;> rw [e] <;> simp [h1, h2, h3, h4, h5]
theorem lgn_ge {x y : Int64} : ¬ 0 ≤ lg_cmp x y ↔ ¬ y ≤ x := not_congr lgc_ge
theorem lgc_gt {x y : Int64} : 0 < lg_cmp x y ↔ y < x := by rcases lgc_3 x y with ⟨e, h1, h2, h3, h4, h5⟩ | ⟨e, h1, h2, h3, h4, h5⟩ | ⟨e, h1, h2, h3, h4, h5⟩ <;> rw [e] <;> simp [h1, h2, h3, h4, h5]
theorem lgn_gt {x y : Int64} : ¬ 0 < lg_cmp x y ↔ ¬ y < x := not_congr lgc_gt
theorem lgc_le {x y : Int64} : lg_cmp x y ≤ 0 ↔ x ≤ y := by rcases lgc_3 x y with ⟨e, h1, h2, h3, h4, h5⟩ | ⟨e, h1, h2, h3, h4, h5⟩ | ⟨e, h1, h2, h3, h4, h5⟩ <;> rw [e] <;> simp [h1, h2, h3, h4, h5]
theorem lgn_le {x y : Int64} : ¬ lg_cmp x y ≤ 0 ↔ ¬ x ≤ y := not_congr lgc_le
/-! worlds -/
abbrev TyL : Type := List (ClassId × FieldType)
/-- the same addresses -/
theorem vD_same {A : Nat → Prop} : ∀ {w w' : va_W}, w.map Prod.fst = w'.map Prod.fst → va_D A w → va_D A w' := by
  intro w w' h hD
  have key : ∀ (k : Nat) (q : Nat × va_E), w'[k]? = some q → ∃ q0, w[k]? = some q0 ∧ q0.1 = q.1 := by
    intro k q hk
    have h1 : (w'.map Prod.fst)[k]? = some q.1 := by rw [List.getElem?_map, hk]; rfl
    rw [← h, List.getElem?_map] at h1
    cases hq : w[k]? with
    | none => rw [hq] at h1; cases h1
    | some q0 => rw [hq] at h1; exact ⟨q0, rfl, Option.some.inj h1⟩
  refine ⟨fun i j p q hi hj hpq => ?_, fun k q hk => ?_⟩
  · obtain ⟨p0, h1, h2⟩ := key i p hi
    obtain ⟨q0, h3, h4⟩ := key j q hj
    exact hD.1 i j p0 q0 h1 h3 (h2.trans (hpq.trans h4.symm))
  · obtain ⟨q0, h1, h2⟩ := key k q hk
    rw [← h2]; exact hD.2 k q0 h1
theorem vA_same {sz : Nat} : ∀ {w w' : va_W}, w.map Prod.fst = w'.map Prod.fst → ∀ q, va_A w sz q → va_A w' sz q := by
  intro w w' h q hq
  rcases hq with ⟨k, e, hk⟩ | hq
  · have h1 : (w.map Prod.fst)[k]? = some q := by rw [List.getElem?_map, hk]; rfl
    rw [h, List.getElem?_map] at h1
    cases hq2 : w'[k]? with
    | none => rw [hq2] at h1; cases h1
    | some q0 =>
      rw [hq2] at h1
      have h3 : q0.1 = q := Option.some.inj h1
      exact Or.inl ⟨k, q0.2, by rw [hq2, ← h3]⟩
  · exact Or.inr hq
def aA (w : St → va_W) (sz : Nat) : Nat → Prop := va_A (w st0) sz
/-- what stands fixed through a method's body: the machine, the code, the tables' words -/
def Cb (p : Program) (s : State) (m : MethodId) (args : Array Value) (meth : Method) (c : Code) (own : String) (cc : ByteArray) (nL : Nat) : Prop :=
  p.tables.exec = Jvm.exec ∧ c.code = cc ∧ c.maxLocals = nL ∧ s.vm.findClass own = some m.cls ∧ (∀ x ∈ TB, x.before args s = true) ∧ meth.locks = false
/-- the words of nest mates -/
def nw1 : Cond := .methodLinkNest "IntervalAgreement" 11 ⟨"IntervalAgreement$IntervalText", "<init>", "()V"⟩ "IntervalAgreement"
def nw2 : Cond := .methodLinkNest "IntervalAgreement$IntervalText" 48 ⟨"IntervalAgreement", "isOnGrid", "(JJJ)Z"⟩ "IntervalAgreement"
def nw3 : Cond := .methodLinkNest "IntervalAgreement$IntervalText" 52 ⟨"IntervalAgreement", "inUnits", "(JJJ)J"⟩ "IntervalAgreement"
/-- classes, arrays' classes, nest mates -/
def Kx (D : va_G) (tys : TyL) (U : State) : Prop := va_K D cls tys U ∧ va_Nw nw1 U ∧ va_Nw nw2 U ∧ va_Nw nw3 U
/-- what stands fixed of the world: classes, addresses apart -/
def Cx (s : State) (D : va_G) (A : Nat → Prop) (w : St → va_W) (tys : TyL) : Prop := Kx D tys s ∧ (∀ σ, va_D A (w σ)) ∧ (∀ q, s.heap.size ≤ q → A q)
/-- the world holds a state, and nothing else was written -/
def wd (D : va_G) (A : Nat → Prop) (w : St → va_W) (s : State) (σ : St) : Heap → List Loc → Prop := fun H locs => va_P D cls (w σ) H ∧ va_S A s.heap H locs
/-- nothing was written at all -/
def wn (s : State) : Heap → List Loc → Prop := fun H locs => H = s.heap ∧ locs = []
section
variable {p : Program} {l : Launch} {e : Env} {R : Room} {s : State} {m : MethodId} {args : Array Value} {below : List Frame} {meth : Method} {c : Code} {cells slots : Nat} {Q : State → Prop}
variable {D : va_G} {A : Nat → Prop} {w : St → va_W} {tys : TyL} {own : String} {cc : ByteArray} {nL : Nat} {Wd : Heap → List Loc → Prop} {σ : St} {pc : Nat} {lv : List (Nat × Value)} {rest : List Value}
def bW (p : Program) (l : Launch) (e : Env) (R : Room) (s : State) (m : MethodId) (args : Array Value) (below : List Frame) (meth : Method) (c : Code) (cells slots : Nat) (Q : State → Prop) (nL : Nat) (Wd : Heap → List Loc → Prop) (pc : Nat) (lv : List (Nat × Value)) (stk : List Value) : Prop :=
  ∀ (H : Heap) (locs : List Loc) (ls : Array Slot), Wd H locs → lv_has ls nL lv → W p l e R s m args below meth c H locs cells slots Q (F0 m pc ls stk)
/-- fewer locals -/
theorem b_sub {lv' : List (Nat × Value)} (ks : List Nat) (h : lv_pick lv ks = lv') (k : bW p l e R s m args below meth c cells slots Q nL Wd pc lv' rest) : bW p l e R s m args below meth c cells slots Q nL Wd pc lv rest := fun H locs ls hW hl => k H locs ls hW (lv_sub hl ks h)
theorem b_iconst (C : Cb p s m args meth c own cc nL) {n : Int} {v : Int32} (d : decode cc pc = .ok (.iconst n, 1)) (hv : Int32.ofInt n = v) (k : bW p l e R s m args below meth c cells slots Q nL Wd (pc + 1) lv (.int v :: rest)) : bW p l e R s m args below meth c cells slots Q nL Wd pc lv rest := fun H locs ls hW hl => lv_iconst C.1 C.2.1 d hv (k H locs ls hW hl)
theorem b_bipush (C : Cb p s m args meth c own cc nL) {n : Int} {v : Int32} (d : decode cc pc = .ok (.bipush n, 2)) (hv : (Int8.ofInt n).toInt32 = v) (k : bW p l e R s m args below meth c cells slots Q nL Wd (pc + 2) lv (.int v :: rest)) : bW p l e R s m args below meth c cells slots Q nL Wd pc lv rest := fun H locs ls hW hl => lv_bipush C.1 C.2.1 d hv (k H locs ls hW hl)
theorem b_sipush (C : Cb p s m args meth c own cc nL) {n : Int} {v : Int32} (d : decode cc pc = .ok (.sipush n, 3)) (hv : (Int16.ofInt n).toInt32 = v) (k : bW p l e R s m args below meth c cells slots Q nL Wd (pc + 3) lv (.int v :: rest)) : bW p l e R s m args below meth c cells slots Q nL Wd pc lv rest := fun H locs ls hW hl => lv_sipush C.1 C.2.1 d hv (k H locs ls hW hl)
theorem b_lconst (C : Cb p s m args meth c own cc nL) {n : Fin 2} {v : Int64} (d : decode cc pc = .ok (.lconst n, 1)) (hv : Int64.ofNat (n : Nat) = v) (k : bW p l e R s m args below meth c cells slots Q nL Wd (pc + 1) lv (.long v :: rest)) : bW p l e R s m args below meth c cells slots Q nL Wd pc lv rest := fun H locs ls hW hl => lv_lconst C.1 C.2.1 d hv (k H locs ls hW hl)
theorem b_ldc (C : Cb p s m args meth c own cc nL) {i : Nat} {v : Int32} (d : decode cc pc = .ok (.ldc i, 2)) (hw : Cond.constant own i v ∈ TB) (k : bW p l e R s m args below meth c cells slots Q nL Wd (pc + 2) lv (.int v :: rest)) : bW p l e R s m args below meth c cells slots Q nL Wd pc lv rest := fun H locs ls hW hl => lv_ldc C.1 C.2.1 C.2.2.2.1 (C.2.2.2.2.1 _ hw) d (k H locs ls hW hl)
theorem b_ldcw (C : Cb p s m args meth c own cc nL) {i : Nat} {v : Int32} (d : decode cc pc = .ok (.ldc_w i, 3)) (hw : Cond.constant own i v ∈ TB) (k : bW p l e R s m args below meth c cells slots Q nL Wd (pc + 3) lv (.int v :: rest)) : bW p l e R s m args below meth c cells slots Q nL Wd pc lv rest := fun H locs ls hW hl => lv_ldcw C.1 C.2.1 C.2.2.2.1 (C.2.2.2.2.1 _ hw) d (k H locs ls hW hl)
theorem b_ldc2 (C : Cb p s m args meth c own cc nL) {i : Nat} {v : Int64} (d : decode cc pc = .ok (.ldc2_w i, 3)) (hw : Cond.constantLong own i v ∈ TB) (k : bW p l e R s m args below meth c cells slots Q nL Wd (pc + 3) lv (.long v :: rest)) : bW p l e R s m args below meth c cells slots Q nL Wd pc lv rest := fun H locs ls hW hl => lv_ldc2 C.1 C.2.1 C.2.2.2.1 (C.2.2.2.2.1 _ hw) d (k H locs ls hW hl)
theorem b_iload_n (C : Cb p s m args meth c own cc nL) {k : Fin 4} {x : Int32} (j : Nat) (d : decode cc pc = .ok (.iload_n k, 1)) {i : Nat} (hi : (k : Nat) = i) (hj : lv[j]? = some (i, .int x)) (kk : bW p l e R s m args below meth c cells slots Q nL Wd (pc + 1) lv (.int x :: rest)) : bW p l e R s m args below meth c cells slots Q nL Wd pc lv rest := fun H locs ls hW hl => lv_iload_n C.1 C.2.1 d hi (lv_at hl j hj) (kk H locs ls hW hl)
theorem b_iload (C : Cb p s m args meth c own cc nL) {i : Nat} {x : Int32} (j : Nat) (d : decode cc pc = .ok (.iload i, 2)) (hj : lv[j]? = some (i, .int x)) (kk : bW p l e R s m args below meth c cells slots Q nL Wd (pc + 2) lv (.int x :: rest)) : bW p l e R s m args below meth c cells slots Q nL Wd pc lv rest := fun H locs ls hW hl => lv_iload C.1 C.2.1 d (lv_at hl j hj) (kk H locs ls hW hl)
theorem b_lload_n (C : Cb p s m args meth c own cc nL) {k : Fin 4} {x : Int64} (j : Nat) (d : decode cc pc = .ok (.lload_n k, 1)) {i : Nat} (hi : (k : Nat) = i) (hj : lv[j]? = some (i, .long x)) (kk : bW p l e R s m args below meth c cells slots Q nL Wd (pc + 1) lv (.long x :: rest)) : bW p l e R s m args below meth c cells slots Q nL Wd pc lv rest := fun H locs ls hW hl => lv_lload_n C.1 C.2.1 d hi (lv_at hl j hj) (kk H locs ls hW hl)
theorem b_lload (C : Cb p s m args meth c own cc nL) {i : Nat} {x : Int64} (j : Nat) (d : decode cc pc = .ok (.lload i, 2)) (hj : lv[j]? = some (i, .long x)) (kk : bW p l e R s m args below meth c cells slots Q nL Wd (pc + 2) lv (.long x :: rest)) : bW p l e R s m args below meth c cells slots Q nL Wd pc lv rest := fun H locs ls hW hl => lv_lload C.1 C.2.1 d (lv_at hl j hj) (kk H locs ls hW hl)
theorem b_aload_n (C : Cb p s m args meth c own cc nL) {k : Fin 4} {x : Nat} (j : Nat) (d : decode cc pc = .ok (.aload_n k, 1)) {i : Nat} (hi : (k : Nat) = i) (hj : lv[j]? = some (i, .ref x)) (kk : bW p l e R s m args below meth c cells slots Q nL Wd (pc + 1) lv (.ref x :: rest)) : bW p l e R s m args below meth c cells slots Q nL Wd pc lv rest := fun H locs ls hW hl => lv_aload_n C.1 C.2.1 d hi (lv_at hl j hj) (kk H locs ls hW hl)
theorem b_aload (C : Cb p s m args meth c own cc nL) {i : Nat} {x : Nat} (j : Nat) (d : decode cc pc = .ok (.aload i, 2)) (hj : lv[j]? = some (i, .ref x)) (kk : bW p l e R s m args below meth c cells slots Q nL Wd (pc + 2) lv (.ref x :: rest)) : bW p l e R s m args below meth c cells slots Q nL Wd pc lv rest := fun H locs ls hW hl => lv_aload C.1 C.2.1 d (lv_at hl j hj) (kk H locs ls hW hl)
theorem b_istore_n (C : Cb p s m args meth c own cc nL) {k : Fin 4} {x : Int32} {lv' : List (Nat × Value)} (d : decode cc pc = .ok (.istore_n k, 1)) {i : Nat} (hi : (k : Nat) = i) (hn : i < nL) (hv : (i, Value.int x) :: lv.filter (fun q => !(q.1 == i) && !(q.1 + 1 == i && q.2.category == 2)) = lv') (kk : bW p l e R s m args below meth c cells slots Q nL Wd (pc + 1) lv' rest) : bW p l e R s m args below meth c cells slots Q nL Wd pc lv (.int x :: rest) := fun H locs ls hW hl => lv_istore_n C.1 C.2.1 d hi hl hn hv (fun ls2 h2 => kk H locs ls2 hW h2)
theorem b_istore (C : Cb p s m args meth c own cc nL) {i : Nat} {x : Int32} {lv' : List (Nat × Value)} (d : decode cc pc = .ok (.istore i, 2)) (hn : i < nL) (hv : (i, Value.int x) :: lv.filter (fun q => !(q.1 == i) && !(q.1 + 1 == i && q.2.category == 2)) = lv') (kk : bW p l e R s m args below meth c cells slots Q nL Wd (pc + 2) lv' rest) : bW p l e R s m args below meth c cells slots Q nL Wd pc lv (.int x :: rest) := fun H locs ls hW hl => lv_istore C.1 C.2.1 d hl hn hv (fun ls2 h2 => kk H locs ls2 hW h2)
theorem b_lstore_n (C : Cb p s m args meth c own cc nL) {k : Fin 4} {x : Int64} {lv' : List (Nat × Value)} (d : decode cc pc = .ok (.lstore_n k, 1)) {i : Nat} (hi : (k : Nat) = i) (hn : i + 1 < nL) (hv : (i, Value.long x) :: lv.filter (fun q => !(q.1 == i) && (!(q.1 == i + 1) && !(q.1 + 1 == i && q.2.category == 2))) = lv') (kk : bW p l e R s m args below meth c cells slots Q nL Wd (pc + 1) lv' rest) : bW p l e R s m args below meth c cells slots Q nL Wd pc lv (.long x :: rest) := fun H locs ls hW hl => lv_lstore_n C.1 C.2.1 d hi hl hn hv (fun ls2 h2 => kk H locs ls2 hW h2)
theorem b_lstore (C : Cb p s m args meth c own cc nL) {i : Nat} {x : Int64} {lv' : List (Nat × Value)} (d : decode cc pc = .ok (.lstore i, 2)) (hn : i + 1 < nL) (hv : (i, Value.long x) :: lv.filter (fun q => !(q.1 == i) && (!(q.1 == i + 1) && !(q.1 + 1 == i && q.2.category == 2))) = lv') (kk : bW p l e R s m args below meth c cells slots Q nL Wd (pc + 2) lv' rest) : bW p l e R s m args below meth c cells slots Q nL Wd pc lv (.long x :: rest) := fun H locs ls hW hl => lv_lstore C.1 C.2.1 d hl hn hv (fun ls2 h2 => kk H locs ls2 hW h2)
theorem b_astore_n (C : Cb p s m args meth c own cc nL) {k : Fin 4} {x : Nat} {lv' : List (Nat × Value)} (d : decode cc pc = .ok (.astore_n k, 1)) {i : Nat} (hi : (k : Nat) = i) (hn : i < nL) (hv : (i, Value.ref x) :: lv.filter (fun q => !(q.1 == i) && !(q.1 + 1 == i && q.2.category == 2)) = lv') (kk : bW p l e R s m args below meth c cells slots Q nL Wd (pc + 1) lv' rest) : bW p l e R s m args below meth c cells slots Q nL Wd pc lv (.ref x :: rest) := fun H locs ls hW hl => lv_astore_n C.1 C.2.1 d hi hl hn hv (fun ls2 h2 => kk H locs ls2 hW h2)
theorem b_astore (C : Cb p s m args meth c own cc nL) {i : Nat} {x : Nat} {lv' : List (Nat × Value)} (d : decode cc pc = .ok (.astore i, 2)) (hn : i < nL) (hv : (i, Value.ref x) :: lv.filter (fun q => !(q.1 == i) && !(q.1 + 1 == i && q.2.category == 2)) = lv') (kk : bW p l e R s m args below meth c cells slots Q nL Wd (pc + 2) lv' rest) : bW p l e R s m args below meth c cells slots Q nL Wd pc lv (.ref x :: rest) := fun H locs ls hW hl => lv_astore C.1 C.2.1 d hl hn hv (fun ls2 h2 => kk H locs ls2 hW h2)
theorem b_iinc (C : Cb p s m args meth c own cc nL) {i : Nat} {n : Int} {x v : Int32} {lv' : List (Nat × Value)} (j : Nat) (d : decode cc pc = .ok (.iinc i n, 3)) (hj : lv[j]? = some (i, .int x)) (hx : x + Int32.ofInt n = v) (hn : i < nL) (hv : (i, Value.int v) :: lv.filter (fun q => !(q.1 == i) && !(q.1 + 1 == i && q.2.category == 2)) = lv') (kk : bW p l e R s m args below meth c cells slots Q nL Wd (pc + 3) lv' rest) : bW p l e R s m args below meth c cells slots Q nL Wd pc lv rest := fun H locs ls hW hl => lv_iinc C.1 C.2.1 d hl hj hx hn hv (fun ls2 h2 => kk H locs ls2 hW h2)
theorem b_iadd (C : Cb p s m args meth c own cc nL) {x : Int32} {y : Int32} (d : decode cc pc = .ok (.iadd, 1))  (k : bW p l e R s m args below meth c cells slots Q nL Wd (pc + 1) lv (.int (x + y) :: rest)) : bW p l e R s m args below meth c cells slots Q nL Wd pc lv (.int y :: .int x :: rest) := fun H locs ls hW hl => lv_iadd C.1 C.2.1 d  (k H locs ls hW hl)
theorem b_isub (C : Cb p s m args meth c own cc nL) {x : Int32} {y : Int32} (d : decode cc pc = .ok (.isub, 1))  (k : bW p l e R s m args below meth c cells slots Q nL Wd (pc + 1) lv (.int (x - y) :: rest)) : bW p l e R s m args below meth c cells slots Q nL Wd pc lv (.int y :: .int x :: rest) := fun H locs ls hW hl => lv_isub C.1 C.2.1 d  (k H locs ls hW hl)
theorem b_imul (C : Cb p s m args meth c own cc nL) {x : Int32} {y : Int32} (d : decode cc pc = .ok (.imul, 1))  (k : bW p l e R s m args below meth c cells slots Q nL Wd (pc + 1) lv (.int (x * y) :: rest)) : bW p l e R s m args below meth c cells slots Q nL Wd pc lv (.int y :: .int x :: rest) := fun H locs ls hW hl => lv_imul C.1 C.2.1 d  (k H locs ls hW hl)
theorem b_idiv (C : Cb p s m args meth c own cc nL) {x : Int32} {y : Int32} (d : decode cc pc = .ok (.idiv, 1)) (hne : ¬ y = 0) (k : bW p l e R s m args below meth c cells slots Q nL Wd (pc + 1) lv (.int (x / y) :: rest)) : bW p l e R s m args below meth c cells slots Q nL Wd pc lv (.int y :: .int x :: rest) := fun H locs ls hW hl => lv_idiv C.1 C.2.1 d hne (k H locs ls hW hl)
theorem b_irem (C : Cb p s m args meth c own cc nL) {x : Int32} {y : Int32} (d : decode cc pc = .ok (.irem, 1)) (hne : ¬ y = 0) (k : bW p l e R s m args below meth c cells slots Q nL Wd (pc + 1) lv (.int (x - x / y * y) :: rest)) : bW p l e R s m args below meth c cells slots Q nL Wd pc lv (.int y :: .int x :: rest) := fun H locs ls hW hl => lv_irem C.1 C.2.1 d hne (k H locs ls hW hl)
theorem b_ladd (C : Cb p s m args meth c own cc nL) {x : Int64} {y : Int64} (d : decode cc pc = .ok (.ladd, 1))  (k : bW p l e R s m args below meth c cells slots Q nL Wd (pc + 1) lv (.long (x + y) :: rest)) : bW p l e R s m args below meth c cells slots Q nL Wd pc lv (.long y :: .long x :: rest) := fun H locs ls hW hl => lv_ladd C.1 C.2.1 d  (k H locs ls hW hl)
theorem b_lsub (C : Cb p s m args meth c own cc nL) {x : Int64} {y : Int64} (d : decode cc pc = .ok (.lsub, 1))  (k : bW p l e R s m args below meth c cells slots Q nL Wd (pc + 1) lv (.long (x - y) :: rest)) : bW p l e R s m args below meth c cells slots Q nL Wd pc lv (.long y :: .long x :: rest) := fun H locs ls hW hl => lv_lsub C.1 C.2.1 d  (k H locs ls hW hl)
theorem b_lmul (C : Cb p s m args meth c own cc nL) {x : Int64} {y : Int64} (d : decode cc pc = .ok (.lmul, 1))  (k : bW p l e R s m args below meth c cells slots Q nL Wd (pc + 1) lv (.long (x * y) :: rest)) : bW p l e R s m args below meth c cells slots Q nL Wd pc lv (.long y :: .long x :: rest) := fun H locs ls hW hl => lv_lmul C.1 C.2.1 d  (k H locs ls hW hl)
theorem b_ldiv (C : Cb p s m args meth c own cc nL) {x : Int64} {y : Int64} (d : decode cc pc = .ok (.ldiv, 1)) (hne : ¬ y = 0) (k : bW p l e R s m args below meth c cells slots Q nL Wd (pc + 1) lv (.long (x / y) :: rest)) : bW p l e R s m args below meth c cells slots Q nL Wd pc lv (.long y :: .long x :: rest) := fun H locs ls hW hl => lv_ldiv C.1 C.2.1 d hne (k H locs ls hW hl)
theorem b_lrem (C : Cb p s m args meth c own cc nL) {x : Int64} {y : Int64} (d : decode cc pc = .ok (.lrem, 1)) (hne : ¬ y = 0) (k : bW p l e R s m args below meth c cells slots Q nL Wd (pc + 1) lv (.long (x - x / y * y) :: rest)) : bW p l e R s m args below meth c cells slots Q nL Wd pc lv (.long y :: .long x :: rest) := fun H locs ls hW hl => lv_lrem C.1 C.2.1 d hne (k H locs ls hW hl)
theorem b_iand (C : Cb p s m args meth c own cc nL) {x : Int32} {y : Int32} (d : decode cc pc = .ok (.iand, 1))  (k : bW p l e R s m args below meth c cells slots Q nL Wd (pc + 1) lv (.int (x &&& y) :: rest)) : bW p l e R s m args below meth c cells slots Q nL Wd pc lv (.int y :: .int x :: rest) := fun H locs ls hW hl => lv_iand C.1 C.2.1 d  (k H locs ls hW hl)
theorem b_ior (C : Cb p s m args meth c own cc nL) {x : Int32} {y : Int32} (d : decode cc pc = .ok (.ior, 1))  (k : bW p l e R s m args below meth c cells slots Q nL Wd (pc + 1) lv (.int (x ||| y) :: rest)) : bW p l e R s m args below meth c cells slots Q nL Wd pc lv (.int y :: .int x :: rest) := fun H locs ls hW hl => lv_ior C.1 C.2.1 d  (k H locs ls hW hl)
theorem b_lxor (C : Cb p s m args meth c own cc nL) {x : Int64} {y : Int64} (d : decode cc pc = .ok (.lxor, 1))  (k : bW p l e R s m args below meth c cells slots Q nL Wd (pc + 1) lv (.long (x ^^^ y) :: rest)) : bW p l e R s m args below meth c cells slots Q nL Wd pc lv (.long y :: .long x :: rest) := fun H locs ls hW hl => lv_lxor C.1 C.2.1 d  (k H locs ls hW hl)
theorem b_lneg (C : Cb p s m args meth c own cc nL) {x : Int64} (d : decode cc pc = .ok (.lneg, 1))  (k : bW p l e R s m args below meth c cells slots Q nL Wd (pc + 1) lv (.long (-x) :: rest)) : bW p l e R s m args below meth c cells slots Q nL Wd pc lv (.long x :: rest) := fun H locs ls hW hl => lv_lneg C.1 C.2.1 d  (k H locs ls hW hl)
theorem b_ishl (C : Cb p s m args meth c own cc nL) {x : Int32} {y : Int32} (d : decode cc pc = .ok (.ishl, 1))  (k : bW p l e R s m args below meth c cells slots Q nL Wd (pc + 1) lv (.int (x <<< (y &&& 31)) :: rest)) : bW p l e R s m args below meth c cells slots Q nL Wd pc lv (.int y :: .int x :: rest) := fun H locs ls hW hl => lv_ishl C.1 C.2.1 d  (k H locs ls hW hl)
theorem b_ishr (C : Cb p s m args meth c own cc nL) {x : Int32} {y : Int32} (d : decode cc pc = .ok (.ishr, 1))  (k : bW p l e R s m args below meth c cells slots Q nL Wd (pc + 1) lv (.int (x >>> (y &&& 31)) :: rest)) : bW p l e R s m args below meth c cells slots Q nL Wd pc lv (.int y :: .int x :: rest) := fun H locs ls hW hl => lv_ishr C.1 C.2.1 d  (k H locs ls hW hl)
theorem b_iushr (C : Cb p s m args meth c own cc nL) {x : Int32} {y : Int32} (d : decode cc pc = .ok (.iushr, 1))  (k : bW p l e R s m args below meth c cells slots Q nL Wd (pc + 1) lv (.int ((x.toUInt32 >>> (y.toUInt32 &&& Int32.toUInt32 31)).toInt32) :: rest)) : bW p l e R s m args below meth c cells slots Q nL Wd pc lv (.int y :: .int x :: rest) := fun H locs ls hW hl => lv_iushr C.1 C.2.1 d rfl (k H locs ls hW hl)
theorem b_i2l (C : Cb p s m args meth c own cc nL) {x : Int32} (d : decode cc pc = .ok (.i2l, 1))  (k : bW p l e R s m args below meth c cells slots Q nL Wd (pc + 1) lv (.long (x.toInt64) :: rest)) : bW p l e R s m args below meth c cells slots Q nL Wd pc lv (.int x :: rest) := fun H locs ls hW hl => lv_i2l C.1 C.2.1 d rfl (k H locs ls hW hl)
theorem b_l2i (C : Cb p s m args meth c own cc nL) {x : Int64} (d : decode cc pc = .ok (.l2i, 1))  (k : bW p l e R s m args below meth c cells slots Q nL Wd (pc + 1) lv (.int (x.toInt32) :: rest)) : bW p l e R s m args below meth c cells slots Q nL Wd pc lv (.long x :: rest) := fun H locs ls hW hl => lv_l2i C.1 C.2.1 d rfl (k H locs ls hW hl)
theorem b_i2c (C : Cb p s m args meth c own cc nL) {x : Int32} (d : decode cc pc = .ok (.i2c, 1))  (k : bW p l e R s m args below meth c cells slots Q nL Wd (pc + 1) lv (.int ((x.toUInt32 % 65536).toInt32) :: rest)) : bW p l e R s m args below meth c cells slots Q nL Wd pc lv (.int x :: rest) := fun H locs ls hW hl => lv_i2c C.1 C.2.1 d rfl (k H locs ls hW hl)
theorem b_dup (C : Cb p s m args meth c own cc nL) {va : Value} (d : decode cc pc = .ok (.dup, 1)) (hva : va.category = 1) (k : bW p l e R s m args below meth c cells slots Q nL Wd (pc + 1) lv (va :: va :: rest)) : bW p l e R s m args below meth c cells slots Q nL Wd pc lv (va :: rest) := fun H locs ls hW hl => lv_dup C.1 C.2.1 d hva (k H locs ls hW hl)
theorem b_goto (C : Cb p s m args meth c own cc nL) {off : Int} {tgt : Nat} (d : decode cc pc = .ok (.goto off, 3)) (ht : (pc : Int) + off = (tgt : Int)) (k : bW p l e R s m args below meth c cells slots Q nL Wd tgt lv rest) : bW p l e R s m args below meth c cells slots Q nL Wd pc lv rest := fun H locs ls hW hl => lv_goto C.1 C.2.1 d ht (k H locs ls hW hl)
theorem b_if_eq (C : Cb p s m args meth c own cc nL) {x : Int32} {off : Int} {tgt : Nat} (d : decode cc pc = .ok (.ifCond .eq off, 3)) (ht : (pc : Int) + off = (tgt : Int)) (kt : x = 0 → bW p l e R s m args below meth c cells slots Q nL Wd tgt lv rest) (kf : ¬ x = 0 → bW p l e R s m args below meth c cells slots Q nL Wd (pc + 3) lv rest) : bW p l e R s m args below meth c cells slots Q nL Wd pc lv (.int x :: rest) := fun H locs ls hW hl => lv_if_eq C.1 C.2.1 d ht (fun h => kt h H locs ls hW hl) (fun h => kf h H locs ls hW hl)
theorem b_icmp_eq (C : Cb p s m args meth c own cc nL) {x y : Int32} {off : Int} {tgt : Nat} (d : decode cc pc = .ok (.if_icmp .eq off, 3)) (ht : (pc : Int) + off = (tgt : Int)) (kt : x = y → bW p l e R s m args below meth c cells slots Q nL Wd tgt lv rest) (kf : ¬ x = y → bW p l e R s m args below meth c cells slots Q nL Wd (pc + 3) lv rest) : bW p l e R s m args below meth c cells slots Q nL Wd pc lv (.int y :: .int x :: rest) := fun H locs ls hW hl => lv_icmp_eq C.1 C.2.1 d ht (fun h => kt h H locs ls hW hl) (fun h => kf h H locs ls hW hl)
theorem b_lc_eq (C : Cb p s m args meth c own cc nL) {x y : Int64} {off : Int} {tgt : Nat} (d : decode cc pc = .ok (.lcmp, 1)) (d2 : decode cc (pc + 1) = .ok (.ifCond .eq off, 3)) (ht : ((pc + 1 : Nat) : Int) + off = (tgt : Int)) (kt : x = y → bW p l e R s m args below meth c cells slots Q nL Wd tgt lv rest) (kf : ¬ x = y → bW p l e R s m args below meth c cells slots Q nL Wd (pc + 4) lv rest) : bW p l e R s m args below meth c cells slots Q nL Wd pc lv (.long y :: .long x :: rest) := fun H locs ls hW hl => W.lcmp C.1 C.2.1 d (lv_if_eq C.1 C.2.1 d2 ht (fun h => kt (lgc_eq.mp h) H locs ls hW hl) (fun h => kf (lgn_eq.mp h) H locs ls hW hl))
theorem b_if_ne (C : Cb p s m args meth c own cc nL) {x : Int32} {off : Int} {tgt : Nat} (d : decode cc pc = .ok (.ifCond .ne off, 3)) (ht : (pc : Int) + off = (tgt : Int)) (kt : ¬ x = 0 → bW p l e R s m args below meth c cells slots Q nL Wd tgt lv rest) (kf : x = 0 → bW p l e R s m args below meth c cells slots Q nL Wd (pc + 3) lv rest) : bW p l e R s m args below meth c cells slots Q nL Wd pc lv (.int x :: rest) := fun H locs ls hW hl => lv_if_ne C.1 C.2.1 d ht (fun h => kt h H locs ls hW hl) (fun h => kf h H locs ls hW hl)
theorem b_icmp_ne (C : Cb p s m args meth c own cc nL) {x y : Int32} {off : Int} {tgt : Nat} (d : decode cc pc = .ok (.if_icmp .ne off, 3)) (ht : (pc : Int) + off = (tgt : Int)) (kt : ¬ x = y → bW p l e R s m args below meth c cells slots Q nL Wd tgt lv rest) (kf : x = y → bW p l e R s m args below meth c cells slots Q nL Wd (pc + 3) lv rest) : bW p l e R s m args below meth c cells slots Q nL Wd pc lv (.int y :: .int x :: rest) := fun H locs ls hW hl => lv_icmp_ne C.1 C.2.1 d ht (fun h => kt h H locs ls hW hl) (fun h => kf h H locs ls hW hl)
theorem b_lc_ne (C : Cb p s m args meth c own cc nL) {x y : Int64} {off : Int} {tgt : Nat} (d : decode cc pc = .ok (.lcmp, 1)) (d2 : decode cc (pc + 1) = .ok (.ifCond .ne off, 3)) (ht : ((pc + 1 : Nat) : Int) + off = (tgt : Int)) (kt : ¬ x = y → bW p l e R s m args below meth c cells slots Q nL Wd tgt lv rest) (kf : x = y → bW p l e R s m args below meth c cells slots Q nL Wd (pc + 4) lv rest) : bW p l e R s m args below meth c cells slots Q nL Wd pc lv (.long y :: .long x :: rest) := fun H locs ls hW hl => W.lcmp C.1 C.2.1 d (lv_if_ne C.1 C.2.1 d2 ht (fun h => kt (lgc_ne.mp h) H locs ls hW hl) (fun h => kf (lgn_ne.mp h) H locs ls hW hl))
theorem b_if_lt (C : Cb p s m args meth c own cc nL) {x : Int32} {off : Int} {tgt : Nat} (d : decode cc pc = .ok (.ifCond .lt off, 3)) (ht : (pc : Int) + off = (tgt : Int)) (kt : x < 0 → bW p l e R s m args below meth c cells slots Q nL Wd tgt lv rest) (kf : ¬ x < 0 → bW p l e R s m args below meth c cells slots Q nL Wd (pc + 3) lv rest) : bW p l e R s m args below meth c cells slots Q nL Wd pc lv (.int x :: rest) := fun H locs ls hW hl => lv_if_lt C.1 C.2.1 d ht (fun h => kt h H locs ls hW hl) (fun h => kf h H locs ls hW hl)
theorem b_icmp_lt (C : Cb p s m args meth c own cc nL) {x y : Int32} {off : Int} {tgt : Nat} (d : decode cc pc = .ok (.if_icmp .lt off, 3)) (ht : (pc : Int) + off = (tgt : Int)) (kt : x < y → bW p l e R s m args below meth c cells slots Q nL Wd tgt lv rest) (kf : ¬ x < y → bW p l e R s m args below meth c cells slots Q nL Wd (pc + 3) lv rest) : bW p l e R s m args below meth c cells slots Q nL Wd pc lv (.int y :: .int x :: rest) := fun H locs ls hW hl => lv_icmp_lt C.1 C.2.1 d ht (fun h => kt h H locs ls hW hl) (fun h => kf h H locs ls hW hl)
theorem b_lc_lt (C : Cb p s m args meth c own cc nL) {x y : Int64} {off : Int} {tgt : Nat} (d : decode cc pc = .ok (.lcmp, 1)) (d2 : decode cc (pc + 1) = .ok (.ifCond .lt off, 3)) (ht : ((pc + 1 : Nat) : Int) + off = (tgt : Int)) (kt : x < y → bW p l e R s m args below meth c cells slots Q nL Wd tgt lv rest) (kf : ¬ x < y → bW p l e R s m args below meth c cells slots Q nL Wd (pc + 4) lv rest) : bW p l e R s m args below meth c cells slots Q nL Wd pc lv (.long y :: .long x :: rest) := fun H locs ls hW hl => W.lcmp C.1 C.2.1 d (lv_if_lt C.1 C.2.1 d2 ht (fun h => kt (lgc_lt.mp h) H locs ls hW hl) (fun h => kf (lgn_lt.mp h) H locs ls hW hl))
theorem b_if_ge (C : Cb p s m args meth c own cc nL) {x : Int32} {off : Int} {tgt : Nat} (d : decode cc pc = .ok (.ifCond .ge off, 3)) (ht : (pc : Int) + off = (tgt : Int)) (kt : 0 ≤ x → bW p l e R s m args below meth c cells slots Q nL Wd tgt lv rest) (kf : ¬ 0 ≤ x → bW p l e R s m args below meth c cells slots Q nL Wd (pc + 3) lv rest) : bW p l e R s m args below meth c cells slots Q nL Wd pc lv (.int x :: rest) := fun H locs ls hW hl => lv_if_ge C.1 C.2.1 d ht (fun h => kt h H locs ls hW hl) (fun h => kf h H locs ls hW hl)
theorem b_icmp_ge (C : Cb p s m args meth c own cc nL) {x y : Int32} {off : Int} {tgt : Nat} (d : decode cc pc = .ok (.if_icmp .ge off, 3)) (ht : (pc : Int) + off = (tgt : Int)) (kt : y ≤ x → bW p l e R s m args below meth c cells slots Q nL Wd tgt lv rest) (kf : ¬ y ≤ x → bW p l e R s m args below meth c cells slots Q nL Wd (pc + 3) lv rest) : bW p l e R s m args below meth c cells slots Q nL Wd pc lv (.int y :: .int x :: rest) := fun H locs ls hW hl => lv_icmp_ge C.1 C.2.1 d ht (fun h => kt h H locs ls hW hl) (fun h => kf h H locs ls hW hl)
theorem b_lc_ge (C : Cb p s m args meth c own cc nL) {x y : Int64} {off : Int} {tgt : Nat} (d : decode cc pc = .ok (.lcmp, 1)) (d2 : decode cc (pc + 1) = .ok (.ifCond .ge off, 3)) (ht : ((pc + 1 : Nat) : Int) + off = (tgt : Int)) (kt : y ≤ x → bW p l e R s m args below meth c cells slots Q nL Wd tgt lv rest) (kf : ¬ y ≤ x → bW p l e R s m args below meth c cells slots Q nL Wd (pc + 4) lv rest) : bW p l e R s m args below meth c cells slots Q nL Wd pc lv (.long y :: .long x :: rest) := fun H locs ls hW hl => W.lcmp C.1 C.2.1 d (lv_if_ge C.1 C.2.1 d2 ht (fun h => kt (lgc_ge.mp h) H locs ls hW hl) (fun h => kf (lgn_ge.mp h) H locs ls hW hl))
theorem b_if_gt (C : Cb p s m args meth c own cc nL) {x : Int32} {off : Int} {tgt : Nat} (d : decode cc pc = .ok (.ifCond .gt off, 3)) (ht : (pc : Int) + off = (tgt : Int)) (kt : 0 < x → bW p l e R s m args below meth c cells slots Q nL Wd tgt lv rest) (kf : ¬ 0 < x → bW p l e R s m args below meth c cells slots Q nL Wd (pc + 3) lv rest) : bW p l e R s m args below meth c cells slots Q nL Wd pc lv (.int x :: rest) := fun H locs ls hW hl => lv_if_gt C.1 C.2.1 d ht (fun h => kt h H locs ls hW hl) (fun h => kf h H locs ls hW hl)
theorem b_icmp_gt (C : Cb p s m args meth c own cc nL) {x y : Int32} {off : Int} {tgt : Nat} (d : decode cc pc = .ok (.if_icmp .gt off, 3)) (ht : (pc : Int) + off = (tgt : Int)) (kt : y < x → bW p l e R s m args below meth c cells slots Q nL Wd tgt lv rest) (kf : ¬ y < x → bW p l e R s m args below meth c cells slots Q nL Wd (pc + 3) lv rest) : bW p l e R s m args below meth c cells slots Q nL Wd pc lv (.int y :: .int x :: rest) := fun H locs ls hW hl => lv_icmp_gt C.1 C.2.1 d ht (fun h => kt h H locs ls hW hl) (fun h => kf h H locs ls hW hl)
theorem b_lc_gt (C : Cb p s m args meth c own cc nL) {x y : Int64} {off : Int} {tgt : Nat} (d : decode cc pc = .ok (.lcmp, 1)) (d2 : decode cc (pc + 1) = .ok (.ifCond .gt off, 3)) (ht : ((pc + 1 : Nat) : Int) + off = (tgt : Int)) (kt : y < x → bW p l e R s m args below meth c cells slots Q nL Wd tgt lv rest) (kf : ¬ y < x → bW p l e R s m args below meth c cells slots Q nL Wd (pc + 4) lv rest) : bW p l e R s m args below meth c cells slots Q nL Wd pc lv (.long y :: .long x :: rest) := fun H locs ls hW hl => W.lcmp C.1 C.2.1 d (lv_if_gt C.1 C.2.1 d2 ht (fun h => kt (lgc_gt.mp h) H locs ls hW hl) (fun h => kf (lgn_gt.mp h) H locs ls hW hl))
theorem b_if_le (C : Cb p s m args meth c own cc nL) {x : Int32} {off : Int} {tgt : Nat} (d : decode cc pc = .ok (.ifCond .le off, 3)) (ht : (pc : Int) + off = (tgt : Int)) (kt : x ≤ 0 → bW p l e R s m args below meth c cells slots Q nL Wd tgt lv rest) (kf : ¬ x ≤ 0 → bW p l e R s m args below meth c cells slots Q nL Wd (pc + 3) lv rest) : bW p l e R s m args below meth c cells slots Q nL Wd pc lv (.int x :: rest) := fun H locs ls hW hl => lv_if_le C.1 C.2.1 d ht (fun h => kt h H locs ls hW hl) (fun h => kf h H locs ls hW hl)
theorem b_icmp_le (C : Cb p s m args meth c own cc nL) {x y : Int32} {off : Int} {tgt : Nat} (d : decode cc pc = .ok (.if_icmp .le off, 3)) (ht : (pc : Int) + off = (tgt : Int)) (kt : x ≤ y → bW p l e R s m args below meth c cells slots Q nL Wd tgt lv rest) (kf : ¬ x ≤ y → bW p l e R s m args below meth c cells slots Q nL Wd (pc + 3) lv rest) : bW p l e R s m args below meth c cells slots Q nL Wd pc lv (.int y :: .int x :: rest) := fun H locs ls hW hl => lv_icmp_le C.1 C.2.1 d ht (fun h => kt h H locs ls hW hl) (fun h => kf h H locs ls hW hl)
theorem b_lc_le (C : Cb p s m args meth c own cc nL) {x y : Int64} {off : Int} {tgt : Nat} (d : decode cc pc = .ok (.lcmp, 1)) (d2 : decode cc (pc + 1) = .ok (.ifCond .le off, 3)) (ht : ((pc + 1 : Nat) : Int) + off = (tgt : Int)) (kt : x ≤ y → bW p l e R s m args below meth c cells slots Q nL Wd tgt lv rest) (kf : ¬ x ≤ y → bW p l e R s m args below meth c cells slots Q nL Wd (pc + 4) lv rest) : bW p l e R s m args below meth c cells slots Q nL Wd pc lv (.long y :: .long x :: rest) := fun H locs ls hW hl => W.lcmp C.1 C.2.1 d (lv_if_le C.1 C.2.1 d2 ht (fun h => kt (lgc_le.mp h) H locs ls hW hl) (fun h => kf (lgn_le.mp h) H locs ls hW hl))
end
end
section
/-! contracts -/
/-- what a method with a world answers, and what it leaves -/
def Qw (D : va_G) (w : St → va_W) (σ' : St) (v : Option Value) (A : Nat → Prop) : Array Value → State → Outcome → State → Prop := fun _ st oc t => (oc = .returned v ∧ va_P D cls (w σ') t.heap) ∧ va_F A st t
/-- what a method without one answers -/
def Qs (v : Option Value) : Array Value → State → Outcome → State → Prop := fun _ st oc t => oc = .returned v ∧ t.heap = st.heap
def Pw (D : va_G) (w : St → va_W) (tys : TyL) (σ : St) (sz : Nat) : State → Prop := fun U => U.heap.size = sz ∧ va_P D cls (w σ) U.heap ∧ Kx D tys U ∧ ∀ σ, va_D (fun _ => True) (w σ)
/-- the contract of a method with a world: from σ it answers v and leaves σ' -/
def Cw (l : Launch) (y : MethodName) (bytes : ByteArray) (maxL : Nat) (ret : Option FieldType) (rm : Room) (av : List Value) (w : St → va_W) (tys : TyL) (σ : St) (v : Option Value) (σ' : St) : Prop :=
  ∀ (D : va_G) (sz : Nat), Met l y (.code y bytes maxL ret :: TB) rm (va_Pc av (Pw D w tys σ sz)) (Qw D w σ' v (aA w sz)) 0 0 (aA w sz)
/-- the contract of a method without a world -/
def Cs (l : Launch) (y : MethodName) (bytes : ByteArray) (maxL : Nat) (ret : Option FieldType) (rm : Room) (av : List Value) (v : Option Value) : Prop :=
  Met l y (.code y bytes maxL ret :: TB) rm (va_Pc av (fun _ => True)) (Qs v) 0 0 (fun _ => False)
/-- what the tables say of a method -/
def MF (y : MethodName) (bytes : ByteArray) (maxL : Nat) (ret : Option FieldType) (n : Nat) : Prop :=
  Cond.code y bytes maxL ret ∈ TB ∧ Cond.initialized y.cls ∈ TB ∧ (y.cls ≠ "java/lang/invoke/MethodHandle" ∧ y.cls ≠ "java/lang/invoke/VarHandle" ∧ (parseMethodDescriptor y.desc).map (fun d => d.parameters.length) = some n)
def MI (y : MethodName) : Prop := Cond.instanceMethod y ∈ TB ∧ Cond.selects y.cls y y ∈ TB
def sameW (w : St → va_W) : Prop := ∀ σ σ', (w σ).map Prod.fst = (w σ').map Prod.fst
theorem Kx.moved {D : va_G} {tys : TyL} {s U : State} (hW : s.WarmedH U.vm) (h : Kx D tys s) : Kx D tys U := ⟨va_K.moved hW.alike h.1, va_Nw.warmM hW h.2.1, va_Nw.warmM hW h.2.2.1, va_Nw.warmM hW h.2.2.2⟩
theorem Kx.calling {D : va_G} {tys : TyL} {U : State} {g : JFrame} {mk : MethodId} {a : Array Value} (h : Kx D tys U) : Kx D tys (U.calling g mk a) := ⟨va_K.moved (u := U) (U := U.calling g mk a) (Vm.Alike.refl U.vm) h.1, va_Nw.same rfl rfl h.2.1, va_Nw.same rfl rfl h.2.2.1, va_Nw.same rfl rfl h.2.2.2⟩
theorem Pw.blind {D : va_G} {w : St → va_W} {tys : TyL} {σ : St} {sz : Nat} {av : List Value} : FrameBlind (va_Pc av (Pw D w tys σ sz)) := fun _ _ _ _ q => ⟨q.1, q.2.1, q.2.2.1, q.2.2.2.1.calling, q.2.2.2.2⟩
theorem aA_in {w : St → va_W} {sz : Nat} (hw : sameW w) {σ : St} {k : Nat} {q : Nat × va_E} (h : (w σ)[k]? = some q) : aA w sz q.1 := vA_same (hw σ st0) _ (va_A.in h)
section
variable {p : Program} {l : Launch} {e : Env} {R : Room} {s : State} {m : MethodId} {args : Array Value} {below : List Frame} {meth : Method} {c : Code} {cells slots : Nat} {Q : State → Prop}
variable {D : va_G} {A : Nat → Prop} {w : St → va_W} {tys : TyL} {own : String} {cc : ByteArray} {nL : Nat} {Wd : Heap → List Loc → Prop} {σ : St} {pc : Nat} {lv : List (Nat × Value)} {rest : List Value}
/-- a method with a world, from its entry -/
theorem Cw_of {y : MethodName} {bytes : ByteArray} {maxL : Nat} {ret : Option FieldType} {rm : Room} {av : List Value} {σ' : St} {v : Option Value} (hy : plainName y.cls = true) (hw : sameW w) (hlen : (lg_sl av).length ≤ maxL)
    (body : ∀ (p : Program) (e : Env) (s : State) (m : MethodId) (args : Array Value) (below : List Frame) (meth : Method) (c : Code) (D : va_G) (A : Nat → Prop), Cb p s m args meth c y.cls bytes maxL → Cx s D A w tys → meth.sig.returnType = ret → bW p l e rm s m args below meth c 0 0 (MQ below (Qw D w σ' v A) args s 0 0 A) maxL (wd D A w s σ) 0 (lv_args 0 av) []) : Cw l y bytes maxL ret rm av w tys σ v σ' := by
  intro D sz
  refine Met.ofW (cc := bytes) (maxL := maxL) (ret := ret) hy rfl ?_
  intro p e s m args below meth c s₁ B hml hv
  obtain ⟨rfl, hsz, hP, hK, hD0⟩ := hv
  have hts := atoms_spec (ws := .code y bytes maxL ret :: TB) B.pre
  have hown : s.vm.findClass y.cls = some m.cls := findClass_of_methodNamed B.named
  have C : Cb p s m av.toArray meth c y.cls bytes maxL := ⟨B.exec, B.bytes, hml, hown, fun x hx => hts x (List.mem_cons_of_mem _ hx), B.notSynchronized⟩
  subst hsz
  have X : Cx s D (aA w s.heap.size) w tys := ⟨hK, fun σ => ⟨(hD0 σ).1, fun k q h => aA_in hw h⟩, fun q h => Or.inr h⟩
  have h := body p e s m av.toArray below meth c D (aA w s.heap.size) C X B.returns s.heap [] _ ⟨hP, va_S.rf⟩ (lv_entry av hlen)
  rw [lg_entry_eq]
  exact h
/-- a method without a world, from its entry -/
theorem Cs_of {y : MethodName} {bytes : ByteArray} {maxL : Nat} {ret : Option FieldType} {rm : Room} {av : List Value} {v : Option Value} (hy : plainName y.cls = true) (hlen : (lg_sl av).length ≤ maxL)
    (body : ∀ (p : Program) (e : Env) (s : State) (m : MethodId) (args : Array Value) (below : List Frame) (meth : Method) (c : Code), Cb p s m args meth c y.cls bytes maxL → meth.sig.returnType = ret → bW p l e rm s m args below meth c 0 0 (MQ below (Qs v) args s 0 0 (fun _ => False)) maxL (wn s) 0 (lv_args 0 av) []) : Cs l y bytes maxL ret rm av v := by
  refine Met.ofW (cc := bytes) (maxL := maxL) (ret := ret) hy rfl ?_
  intro p e s m args below meth c s₁ B hml hv
  obtain ⟨rfl, -⟩ := hv
  have hts := atoms_spec (ws := .code y bytes maxL ret :: TB) B.pre
  have hown : s.vm.findClass y.cls = some m.cls := findClass_of_methodNamed B.named
  have C : Cb p s m av.toArray meth c y.cls bytes maxL := ⟨B.exec, B.bytes, hml, hown, fun x hx => hts x (List.mem_cons_of_mem _ hx), B.notSynchronized⟩
  have h := body p e s m av.toArray below meth c C B.returns s.heap [] _ ⟨rfl, rfl⟩ (lv_entry av hlen)
  rw [lg_entry_eq]
  exact h
/-! ends -/
theorem b_iret (C : Cb p s m args meth c own cc nL) {x : Int32} (d : decode cc pc = .ok (.ireturn, 1)) (hr : meth.sig.returnType = some .int) : bW p l e R s m args below meth c 0 0 (MQ below (Qw D w σ (some (.int x)) A) args s 0 0 A) nL (wd D A w s σ) pc lv [.int x] := fun H locs ls hW hl => W.iret C.1 C.2.1 hr (fun t ht hWm => ⟨⟨rfl, by rw [ht]; exact hW.1⟩, hW.2.F ht⟩) hW.2.2.2 d C.2.2.2.2.2
theorem b_zret (C : Cb p s m args meth c own cc nL) {x : Int32} {ty : FieldType} (d : decode cc pc = .ok (.ireturn, 1)) (hr : meth.sig.returnType = some ty) (hn : narrow ty (.int x) = .int x) : bW p l e R s m args below meth c 0 0 (MQ below (Qw D w σ (some (.int x)) A) args s 0 0 A) nL (wd D A w s σ) pc lv [.int x] := fun H locs ls hW hl => W.zret C.1 C.2.1 hr hn (fun t ht hWm => ⟨⟨rfl, by rw [ht]; exact hW.1⟩, hW.2.F ht⟩) hW.2.2.2 d C.2.2.2.2.2
theorem b_lret (C : Cb p s m args meth c own cc nL) {x : Int64} (d : decode cc pc = .ok (.lreturn, 1)) (hr : meth.sig.returnType = some .long) : bW p l e R s m args below meth c 0 0 (MQ below (Qw D w σ (some (.long x)) A) args s 0 0 A) nL (wd D A w s σ) pc lv [.long x] := fun H locs ls hW hl => W.lret C.1 C.2.1 hr (fun t ht hWm => ⟨⟨rfl, by rw [ht]; exact hW.1⟩, hW.2.F ht⟩) hW.2.2.2 d C.2.2.2.2.2
theorem b_vret (C : Cb p s m args meth c own cc nL) (d : decode cc pc = .ok (.return_, 1)) (hr : meth.sig.returnType = none) : bW p l e R s m args below meth c 0 0 (MQ below (Qw D w σ none A) args s 0 0 A) nL (wd D A w s σ) pc lv [] := fun H locs ls hW hl => W.vret C.1 C.2.1 hr (fun t ht hWm => ⟨⟨rfl, by rw [ht]; exact hW.1⟩, hW.2.F ht⟩) hW.2.2.2 d C.2.2.2.2.2
theorem wn_free {H : Heap} {locs : List Loc} (h : wn s H locs) : ∀ q ∈ locs, (fun _ : Addr => False) q.base := fun q hq => by rw [h.2] at hq; cases hq
theorem s_iret (C : Cb p s m args meth c own cc nL) {x : Int32} (d : decode cc pc = .ok (.ireturn, 1)) (hr : meth.sig.returnType = some .int) : bW p l e R s m args below meth c 0 0 (MQ below (Qs (some (.int x))) args s 0 0 (fun _ => False)) nL (wn s) pc lv [.int x] := fun H locs ls hW hl => W.iret C.1 C.2.1 hr (fun t ht hWm => ⟨rfl, by rw [ht]; exact hW.1⟩) (wn_free hW) d C.2.2.2.2.2
theorem s_zret (C : Cb p s m args meth c own cc nL) {x : Int32} {ty : FieldType} (d : decode cc pc = .ok (.ireturn, 1)) (hr : meth.sig.returnType = some ty) (hn : narrow ty (.int x) = .int x) : bW p l e R s m args below meth c 0 0 (MQ below (Qs (some (.int x))) args s 0 0 (fun _ => False)) nL (wn s) pc lv [.int x] := fun H locs ls hW hl => W.zret C.1 C.2.1 hr hn (fun t ht hWm => ⟨rfl, by rw [ht]; exact hW.1⟩) (wn_free hW) d C.2.2.2.2.2
theorem s_lret (C : Cb p s m args meth c own cc nL) {x : Int64} (d : decode cc pc = .ok (.lreturn, 1)) (hr : meth.sig.returnType = some .long) : bW p l e R s m args below meth c 0 0 (MQ below (Qs (some (.long x))) args s 0 0 (fun _ => False)) nL (wn s) pc lv [.long x] := fun H locs ls hW hl => W.lret C.1 C.2.1 hr (fun t ht hWm => ⟨rfl, by rw [ht]; exact hW.1⟩) (wn_free hW) d C.2.2.2.2.2
/-! calls -/
theorem cb_of {y : MethodName} {bytes : ByteArray} {maxL : Nat} {ret : Option FieldType} {rm : Room} {index n : Nat} (C : Cb p s m args meth c own cc nL) (hmf : MF y bytes maxL ret n) (hl : Cond.methodLink own index y ∈ TB) (h0 : rm.cells = 0 ∧ rm.slots = 0) (hR : rm.frames + 1 ≤ R.frames ∧ 8 + (maxL + 11) + rm.locals ≤ R.locals) : CallB R s args own index y bytes maxL ret (.code y bytes maxL ret :: TB) rm 0 0 n :=
  callB_of n C.2.2.2.2.1 (TB_cons hmf.1) rfl h0.1 h0.2 (C.2.2.2.2.1 _ hmf.2.1) (C.2.2.2.2.1 _ hl) hmf.2.2 hR
/-- behind a call of a method with the world -/
theorem b_after {st0 stk : List Value} {v : Option Value} {σ' : St} {H : Heap} {locs : List Loc} {ls : Array Slot} {a : Array Value} (hw : sameW w) (X : Cx s D A w tys) (hr : va_Run p l e R s m args below meth c H locs cells slots 0 0 (F0 m pc ls st0) rest (Qw D w σ' v (aA w H.size) a) (aA w H.size)) (hW : wd D A w s σ H locs) (hl : lv_has ls nL lv)
    (k : bW p l e R s m args below meth c cells slots Q nL (wd D A w s σ') (pc + 3) lv (v.toList ++ rest)) : W p l e R s m args below meth c H locs cells slots Q (F0 m pc ls st0) := by
  have hA : ∀ q, aA w H.size q → A q := fun q hq => by
    rcases hq with ⟨k, e, h⟩ | h
    · exact (X.2.1 _).2 k (q, e) h
    · exact X.2.2 q (Nat.le_trans hW.2.1 h)
  intro T hT XS
  obtain ⟨v', st₀, t, T', L, h0, X', hL, e1, e2, ⟨⟨hv, hp⟩, hz, hk⟩, st⟩ := hr T hT XS
  cases hv
  rw [h0] at hz hk
  have hS := hW.2
  obtain ⟨t2, a1, b1⟩ := k T'.heap (locs ++ L) ls ⟨by rw [e1]; exact hp, Nat.le_trans hS.1 (by rw [e1]; exact hz), fun q h1 h2 => by rw [e1, hk q (Nat.lt_of_lt_of_le h1 hS.1) (fun z => h2 (hA q z))]; exact hS.2.1 q h1 h2, fun q hq => by
      rcases List.mem_append.mp hq with h | h
      · exact hS.2.2 q h
      · exact hA _ (hL q h)⟩ hl T' rfl X'
  exact ⟨t2, st t2 a1, b1⟩
theorem b_callW (C : Cb p s m args meth c own cc nL) (hw : sameW w) (X : Cx s D A w tys) {y : MethodName} {bytes : ByteArray} {maxL : Nat} {ret : Option FieldType} {rm : Room} {As : List Value} {b : Addr} {v : Option Value} {σ' : St} {index n : Nat} {stk : List Value}
    (d : decode cc pc = .ok (.invokevirtual index, 3)) (hM : Cw l y bytes maxL ret rm (.ref b :: As) w tys σ v σ') (hmf : MF y bytes maxL ret n) (hmi : MI y) (hlk : Cond.methodLink own index y ∈ TB)
    (q0 : Nat) {ci : Nat} {fs : List Value} {q : vw_C} (he : (w σ)[q0]? = some (b, .inr (ci, fs))) (hc : cls[ci]? = some q) (hcn : q.1 = y.cls)
    (hn : As.length = n) (h0 : rm.cells = 0 ∧ rm.slots = 0) (hR : rm.frames + 1 ≤ R.frames ∧ 8 + (maxL + 11) + rm.locals ≤ R.locals) (hcs : cells ≤ R.cells ∧ slots ≤ R.slots) (hst : stk = As.reverse ++ .ref b :: rest) (hcat : (rest.map fun v => v.category).sum ≤ 8)
    (k : bW p l e R s m args below meth c cells slots Q nL (wd D A w s σ') (pc + 3) lv (v.toList ++ rest)) : bW p l e R s m args below meth c cells slots Q nL (wd D A w s σ) pc lv stk := by
  intro H locs ls hW hl
  subst hst
  refine b_after (st0 := As.reverse ++ .ref b :: rest) (stk := []) (a := (Value.ref b :: As).toArray) hw X (va_runV (Ts := TB) (As := As) (rest := rest) ⟨C.1, C.2.1, C.2.2.1, C.2.2.2.1, C.2.2.2.2.1⟩ (hM D H.size) (C := y.cls) ⟨cb_of C hmf hlk h0 hR, C.2.2.2.2.1 _ hmi.1, C.2.2.2.2.1 _ hmi.2⟩ ⟨Pw.blind, ?_, fun U hU hWm => ⟨rfl, by rw [hU], by rw [hU]; exact hW.1, X.1.moved hWm, fun σ => (X.2.1 σ).weaken (fun _ _ _ _ => trivial)⟩⟩ rfl hn hl.1 rfl (lv_room hcat) d hcs) hW hl k
  have h := va_recv X.1.1 hW.1 hc he
  rw [hcn] at h
  exact h
/-- behind a call of a method without a world -/
theorem b_afterS {st0 : List Value} {v : Option Value} {H : Heap} {locs : List Loc} {ls : Array Slot} {a : Array Value} (hr : va_Run p l e R s m args below meth c H locs cells slots 0 0 (F0 m pc ls st0) rest (Qs v a) (fun _ => False)) (hW : Wd H locs) (hl : lv_has ls nL lv)
    (k : bW p l e R s m args below meth c cells slots Q nL Wd (pc + 3) lv (v.toList ++ rest)) : W p l e R s m args below meth c H locs cells slots Q (F0 m pc ls st0) := by
  intro T hT XS
  obtain ⟨v', st₀, t, T', L, h0, X', hL, e1, e2, ⟨hv, hh⟩, st⟩ := hr T hT XS
  cases hv
  have hL0 : L = [] := List.eq_nil_iff_forall_not_mem.mpr (fun q hq => hL q hq)
  subst hL0
  rw [List.append_nil] at X'
  obtain ⟨t2, a1, b1⟩ := k T'.heap locs ls (by rw [e1, hh, h0]; exact hW) hl T' rfl X'
  exact ⟨t2, st t2 a1, b1⟩
theorem b_callS (C : Cb p s m args meth c own cc nL) {y : MethodName} {bytes : ByteArray} {maxL : Nat} {ret : Option FieldType} {rm : Room} {As : List Value} {v : Option Value} {index n : Nat} {stk : List Value}
    (d : decode cc pc = .ok (.invokestatic index, 3)) (hM : Cs l y bytes maxL ret rm As v) (hmf : MF y bytes maxL ret n) (hms : Cond.static y ∈ TB) (hlk : Cond.methodLink own index y ∈ TB)
    (hn : As.length = n) (h0 : rm.cells = 0 ∧ rm.slots = 0) (hR : rm.frames + 1 ≤ R.frames ∧ 8 + (maxL + 11) + rm.locals ≤ R.locals) (hcs : cells ≤ R.cells ∧ slots ≤ R.slots) (hst : stk = As.reverse ++ rest) (hcat : (rest.map fun v => v.category).sum ≤ 8)
    (k : bW p l e R s m args below meth c cells slots Q nL Wd (pc + 3) lv (v.toList ++ rest)) : bW p l e R s m args below meth c cells slots Q nL Wd pc lv stk := by
  intro H locs ls hW hl
  subst hst
  exact b_afterS (a := As.toArray) (va_runS (Ts := TB) (As := As) (rest := rest) ⟨C.1, C.2.1, C.2.2.1, C.2.2.2.1, C.2.2.2.2.1⟩ hM ⟨cb_of C hmf hlk h0 hR, C.2.2.2.2.1 _ hms⟩ ⟨fun _ _ _ _ q => q, fun U hU hWm => ⟨rfl, trivial⟩⟩ rfl hn hl.1 rfl (lv_room hcat) d hcs) hW hl k
theorem b_callSN (C : Cb p s m args meth c own cc nL) {y : MethodName} {bytes : ByteArray} {maxL : Nat} {ret : Option FieldType} {rm : Room} {As : List Value} {v : Option Value} {index n : Nat} {stk : List Value} {host : String}
    (d : decode cc pc = .ok (.invokestatic index, 3)) (hM : Cs l y bytes maxL ret rm As v) (hmf : MF y bytes maxL ret n) (hms : Cond.static y ∈ TB) (hlk : va_Nw (.methodLinkNest own index y host) s)
    (hn : As.length = n) (h0 : rm.cells = 0 ∧ rm.slots = 0) (hR : rm.frames + 1 ≤ R.frames ∧ 8 + (maxL + 11) + rm.locals ≤ R.locals) (hcs : cells ≤ R.cells ∧ slots ≤ R.slots) (hst : stk = As.reverse ++ rest) (hcat : (rest.map fun v => v.category).sum ≤ 8)
    (k : bW p l e R s m args below meth c cells slots Q nL Wd (pc + 3) lv (v.toList ++ rest)) : bW p l e R s m args below meth c cells slots Q nL Wd pc lv stk := by
  intro H locs ls hW hl
  subst hst
  exact b_afterS (a := As.toArray) (va_runSN (Ts := TB) (As := As) (rest := rest) ⟨C.1, C.2.1, C.2.2.1, C.2.2.2.1, C.2.2.2.2.1⟩ hM ⟨va_cnB n C.2.2.2.2.1 (TB_cons hmf.1) rfl h0.1 h0.2 hlk (C.2.2.2.2.1 _ hmf.2.1) hmf.2.2 hR, C.2.2.2.2.1 _ hms, trivial⟩ ⟨fun _ _ _ _ q => q, fun U hU hWm => ⟨rfl, trivial⟩⟩ rfl hn hl.1 rfl (lv_room hcat) d hcs) hW hl k
end
end
