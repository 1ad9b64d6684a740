section
-- ===== PART A: goes FIRST, ahead of the names: the tables' words, and 'selects' of the private methods out of them =====
/-- a private method of a class that the tables say can be made, by its rows of tables_1 -/
def lw_okq (q : MethodName × Nat) : Prop := (q.1.cls ≠ "java/lang/invoke/MethodHandle" ∧ q.1.cls ≠ "java/lang/invoke/VarHandle") ∧ Cond.instantiable q.1.cls q.2 ∈ tables_1 ∧ Cond.privateMethod q.1 ∈ tables_1 ∧ Cond.instanceMethod q.1 ∈ tables_1
theorem lw_p0 : lw_okq (⟨"YieldLines", "bad", "()I"⟩, 10) := ⟨⟨by decide +kernel, by decide +kernel⟩, List.mem_of_getElem? (i := 11) (by decide +kernel), List.mem_of_getElem? (i := 259) (by decide +kernel), List.mem_of_getElem? (i := 260) (by decide +kernel)⟩
theorem lw_p1 : lw_okq (⟨"YieldLines$Reader", "takes", "(I)Z"⟩, 11) := ⟨⟨by decide +kernel, by decide +kernel⟩, List.mem_of_getElem? (i := 85) (by decide +kernel), List.mem_of_getElem? (i := 277) (by decide +kernel), List.mem_of_getElem? (i := 278) (by decide +kernel)⟩
theorem lw_p2 : lw_okq (⟨"YieldLines$Reader", "takesMoreOfNumber", "(I)Z"⟩, 11) := ⟨⟨by decide +kernel, by decide +kernel⟩, List.mem_of_getElem? (i := 85) (by decide +kernel), List.mem_of_getElem? (i := 284) (by decide +kernel), List.mem_of_getElem? (i := 285) (by decide +kernel)⟩
theorem lw_p3 : lw_okq (⟨"YieldLines$Reader", "beginsLine", "(Z)Z"⟩, 11) := ⟨⟨by decide +kernel, by decide +kernel⟩, List.mem_of_getElem? (i := 85) (by decide +kernel), List.mem_of_getElem? (i := 291) (by decide +kernel), List.mem_of_getElem? (i := 292) (by decide +kernel)⟩
theorem lw_p4 : lw_okq (⟨"YieldLines$Reader", "takesUnit", "(I)Z"⟩, 11) := ⟨⟨by decide +kernel, by decide +kernel⟩, List.mem_of_getElem? (i := 85) (by decide +kernel), List.mem_of_getElem? (i := 298) (by decide +kernel), List.mem_of_getElem? (i := 299) (by decide +kernel)⟩
theorem lw_p5 : lw_okq (⟨"YieldLines$Reader", "takesLeaf", "(II)Z"⟩, 11) := ⟨⟨by decide +kernel, by decide +kernel⟩, List.mem_of_getElem? (i := 85) (by decide +kernel), List.mem_of_getElem? (i := 302) (by decide +kernel), List.mem_of_getElem? (i := 303) (by decide +kernel)⟩
theorem lw_p6 : lw_okq (⟨"YieldLines$Reader", "hasRoom", "()Z"⟩, 11) := ⟨⟨by decide +kernel, by decide +kernel⟩, List.mem_of_getElem? (i := 85) (by decide +kernel), List.mem_of_getElem? (i := 306) (by decide +kernel), List.mem_of_getElem? (i := 307) (by decide +kernel)⟩
theorem lw_p7 : lw_okq (⟨"YieldLines$Reader", "newNode", "(II)I"⟩, 11) := ⟨⟨by decide +kernel, by decide +kernel⟩, List.mem_of_getElem? (i := 85) (by decide +kernel), List.mem_of_getElem? (i := 310) (by decide +kernel), List.mem_of_getElem? (i := 311) (by decide +kernel)⟩
theorem lw_p8 : lw_okq (⟨"YieldLines$Reader", "noteName", "([II)V"⟩, 11) := ⟨⟨by decide +kernel, by decide +kernel⟩, List.mem_of_getElem? (i := 85) (by decide +kernel), List.mem_of_getElem? (i := 314) (by decide +kernel), List.mem_of_getElem? (i := 315) (by decide +kernel)⟩
theorem lw_p9 : lw_okq (⟨"YieldLines$Reader", "join", "(II)V"⟩, 11) := ⟨⟨by decide +kernel, by decide +kernel⟩, List.mem_of_getElem? (i := 85) (by decide +kernel), List.mem_of_getElem? (i := 318) (by decide +kernel), List.mem_of_getElem? (i := 319) (by decide +kernel)⟩
theorem lw_p10 : lw_okq (⟨"YieldLines$Reader", "piles", "(II)Z"⟩, 11) := ⟨⟨by decide +kernel, by decide +kernel⟩, List.mem_of_getElem? (i := 85) (by decide +kernel), List.mem_of_getElem? (i := 325) (by decide +kernel), List.mem_of_getElem? (i := 326) (by decide +kernel)⟩
theorem lw_p11 : lw_okq (⟨"YieldLines$Reader", "takesFigure", "(I)Z"⟩, 11) := ⟨⟨by decide +kernel, by decide +kernel⟩, List.mem_of_getElem? (i := 85) (by decide +kernel), List.mem_of_getElem? (i := 329) (by decide +kernel), List.mem_of_getElem? (i := 330) (by decide +kernel)⟩
theorem lw_p12 : lw_okq (⟨"YieldLines$Reader", "takesRest", "(I)Z"⟩, 11) := ⟨⟨by decide +kernel, by decide +kernel⟩, List.mem_of_getElem? (i := 85) (by decide +kernel), List.mem_of_getElem? (i := 333) (by decide +kernel), List.mem_of_getElem? (i := 334) (by decide +kernel)⟩
theorem lw_p13 : lw_okq (⟨"YieldLines$Reader", "endsLine", "()Z"⟩, 11) := ⟨⟨by decide +kernel, by decide +kernel⟩, List.mem_of_getElem? (i := 85) (by decide +kernel), List.mem_of_getElem? (i := 337) (by decide +kernel), List.mem_of_getElem? (i := 338) (by decide +kernel)⟩
theorem lw_p14 : lw_okq (⟨"YieldLines$Reader", "closes", "()Z"⟩, 11) := ⟨⟨by decide +kernel, by decide +kernel⟩, List.mem_of_getElem? (i := 85) (by decide +kernel), List.mem_of_getElem? (i := 341) (by decide +kernel), List.mem_of_getElem? (i := 342) (by decide +kernel)⟩
theorem lw_p15 : lw_okq (⟨"YieldLines$Reader", "takesFirst", "()Z"⟩, 11) := ⟨⟨by decide +kernel, by decide +kernel⟩, List.mem_of_getElem? (i := 85) (by decide +kernel), List.mem_of_getElem? (i := 348) (by decide +kernel), List.mem_of_getElem? (i := 349) (by decide +kernel)⟩
def lw_privs_1 : List (MethodName × Nat) := [(⟨"YieldLines", "bad", "()I"⟩, 10), (⟨"YieldLines$Reader", "takes", "(I)Z"⟩, 11), (⟨"YieldLines$Reader", "takesMoreOfNumber", "(I)Z"⟩, 11), (⟨"YieldLines$Reader", "beginsLine", "(Z)Z"⟩, 11), (⟨"YieldLines$Reader", "takesUnit", "(I)Z"⟩, 11), (⟨"YieldLines$Reader", "takesLeaf", "(II)Z"⟩, 11), (⟨"YieldLines$Reader", "hasRoom", "()Z"⟩, 11), (⟨"YieldLines$Reader", "newNode", "(II)I"⟩, 11), (⟨"YieldLines$Reader", "noteName", "([II)V"⟩, 11), (⟨"YieldLines$Reader", "join", "(II)V"⟩, 11), (⟨"YieldLines$Reader", "piles", "(II)Z"⟩, 11), (⟨"YieldLines$Reader", "takesFigure", "(I)Z"⟩, 11), (⟨"YieldLines$Reader", "takesRest", "(I)Z"⟩, 11), (⟨"YieldLines$Reader", "endsLine", "()Z"⟩, 11), (⟨"YieldLines$Reader", "closes", "()Z"⟩, 11), (⟨"YieldLines$Reader", "takesFirst", "()Z"⟩, 11)]
theorem lw_r1 : ∀ q ∈ lw_privs_1, lw_okq q := List.forall_mem_cons.mpr ⟨lw_p0, List.forall_mem_cons.mpr ⟨lw_p1, List.forall_mem_cons.mpr ⟨lw_p2, List.forall_mem_cons.mpr ⟨lw_p3, List.forall_mem_cons.mpr ⟨lw_p4, List.forall_mem_cons.mpr ⟨lw_p5, List.forall_mem_cons.mpr ⟨lw_p6, List.forall_mem_cons.mpr ⟨lw_p7, List.forall_mem_cons.mpr ⟨lw_p8, List.forall_mem_cons.mpr ⟨lw_p9, List.forall_mem_cons.mpr ⟨lw_p10, List.forall_mem_cons.mpr ⟨lw_p11, List.forall_mem_cons.mpr ⟨lw_p12, List.forall_mem_cons.mpr ⟨lw_p13, List.forall_mem_cons.mpr ⟨lw_p14, List.forall_mem_cons.mpr ⟨lw_p15, fun _ h => absurd h List.not_mem_nil⟩⟩⟩⟩⟩⟩⟩⟩⟩⟩⟩⟩⟩⟩⟩⟩
theorem lw_p16 : lw_okq (⟨"YieldLines$Reader", "takesTarget", "(I)Z"⟩, 11) := ⟨⟨by decide +kernel, by decide +kernel⟩, List.mem_of_getElem? (i := 85) (by decide +kernel), List.mem_of_getElem? (i := 352) (by decide +kernel), List.mem_of_getElem? (i := 353) (by decide +kernel)⟩
theorem lw_p17 : lw_okq (⟨"YieldLines$Reader", "isFirstOfExpression", "()Z"⟩, 11) := ⟨⟨by decide +kernel, by decide +kernel⟩, List.mem_of_getElem? (i := 85) (by decide +kernel), List.mem_of_getElem? (i := 356) (by decide +kernel), List.mem_of_getElem? (i := 357) (by decide +kernel)⟩
theorem lw_p18 : lw_okq (⟨"YieldLines$Reader", "takesBetween", "(I)Z"⟩, 11) := ⟨⟨by decide +kernel, by decide +kernel⟩, List.mem_of_getElem? (i := 85) (by decide +kernel), List.mem_of_getElem? (i := 360) (by decide +kernel), List.mem_of_getElem? (i := 361) (by decide +kernel)⟩
theorem lw_p19 : lw_okq (⟨"YieldLines", "leaveState", "()V"⟩, 10) := ⟨⟨by decide +kernel, by decide +kernel⟩, List.mem_of_getElem? (i := 11) (by decide +kernel), List.mem_of_getElem? (i := 367) (by decide +kernel), List.mem_of_getElem? (i := 368) (by decide +kernel)⟩
theorem lw_p20 : lw_okq (⟨"YieldLines", "isLine", "(I)Z"⟩, 10) := ⟨⟨by decide +kernel, by decide +kernel⟩, List.mem_of_getElem? (i := 11) (by decide +kernel), List.mem_of_getElem? (i := 404) (by decide +kernel), List.mem_of_getElem? (i := 405) (by decide +kernel)⟩
theorem lw_p21 : lw_okq (⟨"YieldLines", "ofLine", "(II)I"⟩, 10) := ⟨⟨by decide +kernel, by decide +kernel⟩, List.mem_of_getElem? (i := 11) (by decide +kernel), List.mem_of_getElem? (i := 418) (by decide +kernel), List.mem_of_getElem? (i := 419) (by decide +kernel)⟩
theorem lw_p22 : lw_okq (⟨"YieldLines$Outcome", "makeLine", "(ILYieldLines$Machine;LYieldLines$State;)V"⟩, 8) := ⟨⟨by decide +kernel, by decide +kernel⟩, List.mem_of_getElem? (i := 186) (by decide +kernel), List.mem_of_getElem? (i := 435) (by decide +kernel), List.mem_of_getElem? (i := 436) (by decide +kernel)⟩
theorem lw_p23 : lw_okq (⟨"YieldLines$Machine", "renew", "(I)V"⟩, 9) := ⟨⟨by decide +kernel, by decide +kernel⟩, List.mem_of_getElem? (i := 148) (by decide +kernel), List.mem_of_getElem? (i := 444) (by decide +kernel), List.mem_of_getElem? (i := 445) (by decide +kernel)⟩
theorem lw_p24 : lw_okq (⟨"YieldLines$Machine", "ask", "(II)Z"⟩, 9) := ⟨⟨by decide +kernel, by decide +kernel⟩, List.mem_of_getElem? (i := 148) (by decide +kernel), List.mem_of_getElem? (i := 449) (by decide +kernel), List.mem_of_getElem? (i := 450) (by decide +kernel)⟩
theorem lw_p25 : lw_okq (⟨"YieldLines$Machine", "askLeaf", "(I)Z"⟩, 9) := ⟨⟨by decide +kernel, by decide +kernel⟩, List.mem_of_getElem? (i := 148) (by decide +kernel), List.mem_of_getElem? (i := 453) (by decide +kernel), List.mem_of_getElem? (i := 454) (by decide +kernel)⟩
theorem lw_p26 : lw_okq (⟨"YieldLines$Machine", "yields", "(I)Z"⟩, 9) := ⟨⟨by decide +kernel, by decide +kernel⟩, List.mem_of_getElem? (i := 148) (by decide +kernel), List.mem_of_getElem? (i := 457) (by decide +kernel), List.mem_of_getElem? (i := 458) (by decide +kernel)⟩
theorem lw_p27 : lw_okq (⟨"YieldLines$Machine", "askEither", "(II)Z"⟩, 9) := ⟨⟨by decide +kernel, by decide +kernel⟩, List.mem_of_getElem? (i := 148) (by decide +kernel), List.mem_of_getElem? (i := 462) (by decide +kernel), List.mem_of_getElem? (i := 463) (by decide +kernel)⟩
theorem lw_p28 : lw_okq (⟨"YieldLines$Machine", "askFirst", "(II)Z"⟩, 9) := ⟨⟨by decide +kernel, by decide +kernel⟩, List.mem_of_getElem? (i := 148) (by decide +kernel), List.mem_of_getElem? (i := 467) (by decide +kernel), List.mem_of_getElem? (i := 468) (by decide +kernel)⟩
theorem lw_p29 : lw_okq (⟨"YieldLines$Machine", "askWhetherNone", "(II)Z"⟩, 9) := ⟨⟨by decide +kernel, by decide +kernel⟩, List.mem_of_getElem? (i := 148) (by decide +kernel), List.mem_of_getElem? (i := 471) (by decide +kernel), List.mem_of_getElem? (i := 472) (by decide +kernel)⟩
theorem lw_p30 : lw_okq (⟨"YieldLines$Machine", "askTarget", "(II)Z"⟩, 9) := ⟨⟨by decide +kernel, by decide +kernel⟩, List.mem_of_getElem? (i := 148) (by decide +kernel), List.mem_of_getElem? (i := 475) (by decide +kernel), List.mem_of_getElem? (i := 476) (by decide +kernel)⟩
theorem lw_p31 : lw_okq (⟨"YieldLines$Machine", "askPair", "(II)Z"⟩, 9) := ⟨⟨by decide +kernel, by decide +kernel⟩, List.mem_of_getElem? (i := 148) (by decide +kernel), List.mem_of_getElem? (i := 479) (by decide +kernel), List.mem_of_getElem? (i := 480) (by decide +kernel)⟩
def lw_privs_2 : List (MethodName × Nat) := [(⟨"YieldLines$Reader", "takesTarget", "(I)Z"⟩, 11), (⟨"YieldLines$Reader", "isFirstOfExpression", "()Z"⟩, 11), (⟨"YieldLines$Reader", "takesBetween", "(I)Z"⟩, 11), (⟨"YieldLines", "leaveState", "()V"⟩, 10), (⟨"YieldLines", "isLine", "(I)Z"⟩, 10), (⟨"YieldLines", "ofLine", "(II)I"⟩, 10), (⟨"YieldLines$Outcome", "makeLine", "(ILYieldLines$Machine;LYieldLines$State;)V"⟩, 8), (⟨"YieldLines$Machine", "renew", "(I)V"⟩, 9), (⟨"YieldLines$Machine", "ask", "(II)Z"⟩, 9), (⟨"YieldLines$Machine", "askLeaf", "(I)Z"⟩, 9), (⟨"YieldLines$Machine", "yields", "(I)Z"⟩, 9), (⟨"YieldLines$Machine", "askEither", "(II)Z"⟩, 9), (⟨"YieldLines$Machine", "askFirst", "(II)Z"⟩, 9), (⟨"YieldLines$Machine", "askWhetherNone", "(II)Z"⟩, 9), (⟨"YieldLines$Machine", "askTarget", "(II)Z"⟩, 9), (⟨"YieldLines$Machine", "askPair", "(II)Z"⟩, 9)]
theorem lw_r2 : ∀ q ∈ lw_privs_2, lw_okq q := List.forall_mem_cons.mpr ⟨lw_p16, List.forall_mem_cons.mpr ⟨lw_p17, List.forall_mem_cons.mpr ⟨lw_p18, List.forall_mem_cons.mpr ⟨lw_p19, List.forall_mem_cons.mpr ⟨lw_p20, List.forall_mem_cons.mpr ⟨lw_p21, List.forall_mem_cons.mpr ⟨lw_p22, List.forall_mem_cons.mpr ⟨lw_p23, List.forall_mem_cons.mpr ⟨lw_p24, List.forall_mem_cons.mpr ⟨lw_p25, List.forall_mem_cons.mpr ⟨lw_p26, List.forall_mem_cons.mpr ⟨lw_p27, List.forall_mem_cons.mpr ⟨lw_p28, List.forall_mem_cons.mpr ⟨lw_p29, List.forall_mem_cons.mpr ⟨lw_p30, List.forall_mem_cons.mpr ⟨lw_p31, fun _ h => absurd h List.not_mem_nil⟩⟩⟩⟩⟩⟩⟩⟩⟩⟩⟩⟩⟩⟩⟩⟩
theorem lw_p32 : lw_okq (⟨"YieldLines$Machine", "hasResult", "(III)Z"⟩, 9) := ⟨⟨by decide +kernel, by decide +kernel⟩, List.mem_of_getElem? (i := 148) (by decide +kernel), List.mem_of_getElem? (i := 483) (by decide +kernel), List.mem_of_getElem? (i := 484) (by decide +kernel)⟩
theorem lw_p33 : lw_okq (⟨"YieldLines$Machine", "yieldsOfPair", "(III)Z"⟩, 9) := ⟨⟨by decide +kernel, by decide +kernel⟩, List.mem_of_getElem? (i := 148) (by decide +kernel), List.mem_of_getElem? (i := 491) (by decide +kernel), List.mem_of_getElem? (i := 492) (by decide +kernel)⟩
theorem lw_p34 : lw_okq (⟨"YieldLines$Outcome", "say", "(I)V"⟩, 8) := ⟨⟨by decide +kernel, by decide +kernel⟩, List.mem_of_getElem? (i := 186) (by decide +kernel), List.mem_of_getElem? (i := 495) (by decide +kernel), List.mem_of_getElem? (i := 496) (by decide +kernel)⟩
theorem lw_p35 : lw_okq (⟨"YieldLines", "ofRun", "(I)I"⟩, 10) := ⟨⟨by decide +kernel, by decide +kernel⟩, List.mem_of_getElem? (i := 11) (by decide +kernel), List.mem_of_getElem? (i := 507) (by decide +kernel), List.mem_of_getElem? (i := 508) (by decide +kernel)⟩
theorem lw_p36 : lw_okq (⟨"YieldLines", "sumOfLines", "([I)I"⟩, 10) := ⟨⟨by decide +kernel, by decide +kernel⟩, List.mem_of_getElem? (i := 11) (by decide +kernel), List.mem_of_getElem? (i := 515) (by decide +kernel), List.mem_of_getElem? (i := 516) (by decide +kernel)⟩
theorem lw_p37 : lw_okq (⟨"YieldLines", "ofDone", "(II)I"⟩, 10) := ⟨⟨by decide +kernel, by decide +kernel⟩, List.mem_of_getElem? (i := 11) (by decide +kernel), List.mem_of_getElem? (i := 531) (by decide +kernel), List.mem_of_getElem? (i := 532) (by decide +kernel)⟩
theorem lw_p38 : lw_okq (⟨"YieldLines", "ofAll", "(I)I"⟩, 10) := ⟨⟨by decide +kernel, by decide +kernel⟩, List.mem_of_getElem? (i := 11) (by decide +kernel), List.mem_of_getElem? (i := 560) (by decide +kernel), List.mem_of_getElem? (i := 561) (by decide +kernel)⟩
theorem lw_p39 : lw_okq (⟨"YieldLines", "withLine", "(JI)J"⟩, 10) := ⟨⟨by decide +kernel, by decide +kernel⟩, List.mem_of_getElem? (i := 11) (by decide +kernel), List.mem_of_getElem? (i := 570) (by decide +kernel), List.mem_of_getElem? (i := 571) (by decide +kernel)⟩
theorem lw_p40 : lw_okq (⟨"YieldLinesModel", "refuses", "(I)I"⟩, 38) := ⟨⟨by decide +kernel, by decide +kernel⟩, List.mem_of_getElem? (i := 574) (by decide +kernel), List.mem_of_getElem? (i := 701) (by decide +kernel), List.mem_of_getElem? (i := 702) (by decide +kernel)⟩
theorem lw_p41 : lw_okq (⟨"YieldLinesModel", "here", "()I"⟩, 38) := ⟨⟨by decide +kernel, by decide +kernel⟩, List.mem_of_getElem? (i := 574) (by decide +kernel), List.mem_of_getElem? (i := 723) (by decide +kernel), List.mem_of_getElem? (i := 724) (by decide +kernel)⟩
theorem lw_p42 : lw_okq (⟨"YieldLinesModel", "readLine", "()V"⟩, 38) := ⟨⟨by decide +kernel, by decide +kernel⟩, List.mem_of_getElem? (i := 574) (by decide +kernel), List.mem_of_getElem? (i := 727) (by decide +kernel), List.mem_of_getElem? (i := 728) (by decide +kernel)⟩
theorem lw_p43 : lw_okq (⟨"YieldLinesModel", "must", "(Z)V"⟩, 38) := ⟨⟨by decide +kernel, by decide +kernel⟩, List.mem_of_getElem? (i := 574) (by decide +kernel), List.mem_of_getElem? (i := 731) (by decide +kernel), List.mem_of_getElem? (i := 732) (by decide +kernel)⟩
theorem lw_p44 : lw_okq (⟨"YieldLinesModel", "isUnit", "()Z"⟩, 38) := ⟨⟨by decide +kernel, by decide +kernel⟩, List.mem_of_getElem? (i := 574) (by decide +kernel), List.mem_of_getElem? (i := 735) (by decide +kernel), List.mem_of_getElem? (i := 736) (by decide +kernel)⟩
theorem lw_p45 : lw_okq (⟨"YieldLinesModel", "pushSign", "(II)V"⟩, 38) := ⟨⟨by decide +kernel, by decide +kernel⟩, List.mem_of_getElem? (i := 574) (by decide +kernel), List.mem_of_getElem? (i := 739) (by decide +kernel), List.mem_of_getElem? (i := 740) (by decide +kernel)⟩
theorem lw_p46 : lw_okq (⟨"YieldLinesModel", "add", "(I)I"⟩, 38) := ⟨⟨by decide +kernel, by decide +kernel⟩, List.mem_of_getElem? (i := 574) (by decide +kernel), List.mem_of_getElem? (i := 743) (by decide +kernel), List.mem_of_getElem? (i := 744) (by decide +kernel)⟩
theorem lw_p47 : lw_okq (⟨"YieldLinesModel", "readNumber", "()V"⟩, 38) := ⟨⟨by decide +kernel, by decide +kernel⟩, List.mem_of_getElem? (i := 574) (by decide +kernel), List.mem_of_getElem? (i := 747) (by decide +kernel), List.mem_of_getElem? (i := 748) (by decide +kernel)⟩
def lw_privs_3 : List (MethodName × Nat) := [(⟨"YieldLines$Machine", "hasResult", "(III)Z"⟩, 9), (⟨"YieldLines$Machine", "yieldsOfPair", "(III)Z"⟩, 9), (⟨"YieldLines$Outcome", "say", "(I)V"⟩, 8), (⟨"YieldLines", "ofRun", "(I)I"⟩, 10), (⟨"YieldLines", "sumOfLines", "([I)I"⟩, 10), (⟨"YieldLines", "ofDone", "(II)I"⟩, 10), (⟨"YieldLines", "ofAll", "(I)I"⟩, 10), (⟨"YieldLines", "withLine", "(JI)J"⟩, 10), (⟨"YieldLinesModel", "refuses", "(I)I"⟩, 38), (⟨"YieldLinesModel", "here", "()I"⟩, 38), (⟨"YieldLinesModel", "readLine", "()V"⟩, 38), (⟨"YieldLinesModel", "must", "(Z)V"⟩, 38), (⟨"YieldLinesModel", "isUnit", "()Z"⟩, 38), (⟨"YieldLinesModel", "pushSign", "(II)V"⟩, 38), (⟨"YieldLinesModel", "add", "(I)I"⟩, 38), (⟨"YieldLinesModel", "readNumber", "()V"⟩, 38)]
theorem lw_r3 : ∀ q ∈ lw_privs_3, lw_okq q := List.forall_mem_cons.mpr ⟨lw_p32, List.forall_mem_cons.mpr ⟨lw_p33, List.forall_mem_cons.mpr ⟨lw_p34, List.forall_mem_cons.mpr ⟨lw_p35, List.forall_mem_cons.mpr ⟨lw_p36, List.forall_mem_cons.mpr ⟨lw_p37, List.forall_mem_cons.mpr ⟨lw_p38, List.forall_mem_cons.mpr ⟨lw_p39, List.forall_mem_cons.mpr ⟨lw_p40, List.forall_mem_cons.mpr ⟨lw_p41, List.forall_mem_cons.mpr ⟨lw_p42, List.forall_mem_cons.mpr ⟨lw_p43, List.forall_mem_cons.mpr ⟨lw_p44, List.forall_mem_cons.mpr ⟨lw_p45, List.forall_mem_cons.mpr ⟨lw_p46, List.forall_mem_cons.mpr ⟨lw_p47, fun _ h => absurd h List.not_mem_nil⟩⟩⟩⟩⟩⟩⟩⟩⟩⟩⟩⟩⟩⟩⟩⟩
theorem lw_p48 : lw_okq (⟨"YieldLinesModel", "isFigure", "()Z"⟩, 38) := ⟨⟨by decide +kernel, by decide +kernel⟩, List.mem_of_getElem? (i := 574) (by decide +kernel), List.mem_of_getElem? (i := 751) (by decide +kernel), List.mem_of_getElem? (i := 752) (by decide +kernel)⟩
theorem lw_p49 : lw_okq (⟨"YieldLinesModel", "pushPart", "(IZ)V"⟩, 38) := ⟨⟨by decide +kernel, by decide +kernel⟩, List.mem_of_getElem? (i := 574) (by decide +kernel), List.mem_of_getElem? (i := 758) (by decide +kernel), List.mem_of_getElem? (i := 759) (by decide +kernel)⟩
theorem lw_p50 : lw_okq (⟨"YieldLinesModel", "closeNots", "()V"⟩, 38) := ⟨⟨by decide +kernel, by decide +kernel⟩, List.mem_of_getElem? (i := 574) (by decide +kernel), List.mem_of_getElem? (i := 762) (by decide +kernel), List.mem_of_getElem? (i := 763) (by decide +kernel)⟩
theorem lw_p51 : lw_okq (⟨"YieldLinesModel", "topSign", "()I"⟩, 38) := ⟨⟨by decide +kernel, by decide +kernel⟩, List.mem_of_getElem? (i := 574) (by decide +kernel), List.mem_of_getElem? (i := 766) (by decide +kernel), List.mem_of_getElem? (i := 767) (by decide +kernel)⟩
theorem lw_p52 : lw_okq (⟨"YieldLinesModel", "close", "()V"⟩, 38) := ⟨⟨by decide +kernel, by decide +kernel⟩, List.mem_of_getElem? (i := 574) (by decide +kernel), List.mem_of_getElem? (i := 770) (by decide +kernel), List.mem_of_getElem? (i := 771) (by decide +kernel)⟩
theorem lw_p53 : lw_okq (⟨"YieldLinesModel", "isDue", "()Z"⟩, 38) := ⟨⟨by decide +kernel, by decide +kernel⟩, List.mem_of_getElem? (i := 574) (by decide +kernel), List.mem_of_getElem? (i := 780) (by decide +kernel), List.mem_of_getElem? (i := 781) (by decide +kernel)⟩
theorem lw_p54 : lw_okq (⟨"YieldLinesModel", "readFirst", "()V"⟩, 38) := ⟨⟨by decide +kernel, by decide +kernel⟩, List.mem_of_getElem? (i := 574) (by decide +kernel), List.mem_of_getElem? (i := 784) (by decide +kernel), List.mem_of_getElem? (i := 785) (by decide +kernel)⟩
theorem lw_p55 : lw_okq (⟨"YieldLinesModel", "closeAll", "()V"⟩, 38) := ⟨⟨by decide +kernel, by decide +kernel⟩, List.mem_of_getElem? (i := 574) (by decide +kernel), List.mem_of_getElem? (i := 788) (by decide +kernel), List.mem_of_getElem? (i := 789) (by decide +kernel)⟩
theorem lw_p56 : lw_okq (⟨"YieldLinesModel", "readSet", "(I)V"⟩, 38) := ⟨⟨by decide +kernel, by decide +kernel⟩, List.mem_of_getElem? (i := 574) (by decide +kernel), List.mem_of_getElem? (i := 792) (by decide +kernel), List.mem_of_getElem? (i := 793) (by decide +kernel)⟩
theorem lw_p57 : lw_okq (⟨"YieldLinesModel", "hold", "()V"⟩, 38) := ⟨⟨by decide +kernel, by decide +kernel⟩, List.mem_of_getElem? (i := 574) (by decide +kernel), List.mem_of_getElem? (i := 802) (by decide +kernel), List.mem_of_getElem? (i := 803) (by decide +kernel)⟩
theorem lw_p58 : lw_okq (⟨"YieldLinesModel", "push", "()V"⟩, 38) := ⟨⟨by decide +kernel, by decide +kernel⟩, List.mem_of_getElem? (i := 574) (by decide +kernel), List.mem_of_getElem? (i := 806) (by decide +kernel), List.mem_of_getElem? (i := 807) (by decide +kernel)⟩
theorem lw_p59 : lw_okq (⟨"YieldLinesModel", "isLine", "(I)Z"⟩, 38) := ⟨⟨by decide +kernel, by decide +kernel⟩, List.mem_of_getElem? (i := 574) (by decide +kernel), List.mem_of_getElem? (i := 820) (by decide +kernel), List.mem_of_getElem? (i := 821) (by decide +kernel)⟩
theorem lw_p60 : lw_okq (⟨"YieldLinesModel", "begin", "(I)I"⟩, 38) := ⟨⟨by decide +kernel, by decide +kernel⟩, List.mem_of_getElem? (i := 574) (by decide +kernel), List.mem_of_getElem? (i := 824) (by decide +kernel), List.mem_of_getElem? (i := 825) (by decide +kernel)⟩
theorem lw_p61 : lw_okq (⟨"YieldLinesModel", "ofLine", "(II)I"⟩, 38) := ⟨⟨by decide +kernel, by decide +kernel⟩, List.mem_of_getElem? (i := 574) (by decide +kernel), List.mem_of_getElem? (i := 832) (by decide +kernel), List.mem_of_getElem? (i := 833) (by decide +kernel)⟩
theorem lw_p62 : lw_okq (⟨"YieldLinesModel", "go", "()V"⟩, 38) := ⟨⟨by decide +kernel, by decide +kernel⟩, List.mem_of_getElem? (i := 574) (by decide +kernel), List.mem_of_getElem? (i := 843) (by decide +kernel), List.mem_of_getElem? (i := 844) (by decide +kernel)⟩
theorem lw_p63 : lw_okq (⟨"YieldLinesModel", "takeValues", "()V"⟩, 38) := ⟨⟨by decide +kernel, by decide +kernel⟩, List.mem_of_getElem? (i := 574) (by decide +kernel), List.mem_of_getElem? (i := 847) (by decide +kernel), List.mem_of_getElem? (i := 848) (by decide +kernel)⟩
def lw_privs_4 : List (MethodName × Nat) := [(⟨"YieldLinesModel", "isFigure", "()Z"⟩, 38), (⟨"YieldLinesModel", "pushPart", "(IZ)V"⟩, 38), (⟨"YieldLinesModel", "closeNots", "()V"⟩, 38), (⟨"YieldLinesModel", "topSign", "()I"⟩, 38), (⟨"YieldLinesModel", "close", "()V"⟩, 38), (⟨"YieldLinesModel", "isDue", "()Z"⟩, 38), (⟨"YieldLinesModel", "readFirst", "()V"⟩, 38), (⟨"YieldLinesModel", "closeAll", "()V"⟩, 38), (⟨"YieldLinesModel", "readSet", "(I)V"⟩, 38), (⟨"YieldLinesModel", "hold", "()V"⟩, 38), (⟨"YieldLinesModel", "push", "()V"⟩, 38), (⟨"YieldLinesModel", "isLine", "(I)Z"⟩, 38), (⟨"YieldLinesModel", "begin", "(I)I"⟩, 38), (⟨"YieldLinesModel", "ofLine", "(II)I"⟩, 38), (⟨"YieldLinesModel", "go", "()V"⟩, 38), (⟨"YieldLinesModel", "takeValues", "()V"⟩, 38)]
theorem lw_r4 : ∀ q ∈ lw_privs_4, lw_okq q := List.forall_mem_cons.mpr ⟨lw_p48, List.forall_mem_cons.mpr ⟨lw_p49, List.forall_mem_cons.mpr ⟨lw_p50, List.forall_mem_cons.mpr ⟨lw_p51, List.forall_mem_cons.mpr ⟨lw_p52, List.forall_mem_cons.mpr ⟨lw_p53, List.forall_mem_cons.mpr ⟨lw_p54, List.forall_mem_cons.mpr ⟨lw_p55, List.forall_mem_cons.mpr ⟨lw_p56, List.forall_mem_cons.mpr ⟨lw_p57, List.forall_mem_cons.mpr ⟨lw_p58, List.forall_mem_cons.mpr ⟨lw_p59, List.forall_mem_cons.mpr ⟨lw_p60, List.forall_mem_cons.mpr ⟨lw_p61, List.forall_mem_cons.mpr ⟨lw_p62, List.forall_mem_cons.mpr ⟨lw_p63, fun _ h => absurd h List.not_mem_nil⟩⟩⟩⟩⟩⟩⟩⟩⟩⟩⟩⟩⟩⟩⟩⟩
theorem lw_p64 : lw_okq (⟨"YieldLinesModel", "goLine", "(IZ)V"⟩, 38) := ⟨⟨by decide +kernel, by decide +kernel⟩, List.mem_of_getElem? (i := 574) (by decide +kernel), List.mem_of_getElem? (i := 851) (by decide +kernel), List.mem_of_getElem? (i := 852) (by decide +kernel)⟩
theorem lw_p65 : lw_okq (⟨"YieldLinesModel", "beginLine", "(I)V"⟩, 38) := ⟨⟨by decide +kernel, by decide +kernel⟩, List.mem_of_getElem? (i := 574) (by decide +kernel), List.mem_of_getElem? (i := 855) (by decide +kernel), List.mem_of_getElem? (i := 856) (by decide +kernel)⟩
theorem lw_p66 : lw_okq (⟨"YieldLinesModel", "node", "(I)I"⟩, 38) := ⟨⟨by decide +kernel, by decide +kernel⟩, List.mem_of_getElem? (i := 574) (by decide +kernel), List.mem_of_getElem? (i := 859) (by decide +kernel), List.mem_of_getElem? (i := 860) (by decide +kernel)⟩
theorem lw_p67 : lw_okq (⟨"YieldLinesModel", "isNext", "(I)Z"⟩, 38) := ⟨⟨by decide +kernel, by decide +kernel⟩, List.mem_of_getElem? (i := 574) (by decide +kernel), List.mem_of_getElem? (i := 869) (by decide +kernel), List.mem_of_getElem? (i := 870) (by decide +kernel)⟩
theorem lw_p68 : lw_okq (⟨"YieldLinesModel", "asked", "(I)V"⟩, 38) := ⟨⟨by decide +kernel, by decide +kernel⟩, List.mem_of_getElem? (i := 574) (by decide +kernel), List.mem_of_getElem? (i := 873) (by decide +kernel), List.mem_of_getElem? (i := 874) (by decide +kernel)⟩
theorem lw_p69 : lw_okq (⟨"YieldLinesModel", "yields", "(I)V"⟩, 38) := ⟨⟨by decide +kernel, by decide +kernel⟩, List.mem_of_getElem? (i := 574) (by decide +kernel), List.mem_of_getElem? (i := 877) (by decide +kernel), List.mem_of_getElem? (i := 878) (by decide +kernel)⟩
theorem lw_p70 : lw_okq (⟨"YieldLinesModel", "hasNone", "()V"⟩, 38) := ⟨⟨by decide +kernel, by decide +kernel⟩, List.mem_of_getElem? (i := 574) (by decide +kernel), List.mem_of_getElem? (i := 881) (by decide +kernel), List.mem_of_getElem? (i := 882) (by decide +kernel)⟩
theorem lw_p71 : lw_okq (⟨"YieldLinesModel", "askedFirst", "(II)V"⟩, 38) := ⟨⟨by decide +kernel, by decide +kernel⟩, List.mem_of_getElem? (i := 574) (by decide +kernel), List.mem_of_getElem? (i := 885) (by decide +kernel), List.mem_of_getElem? (i := 886) (by decide +kernel)⟩
theorem lw_p72 : lw_okq (⟨"YieldLinesModel", "ask", "(IZ)V"⟩, 38) := ⟨⟨by decide +kernel, by decide +kernel⟩, List.mem_of_getElem? (i := 574) (by decide +kernel), List.mem_of_getElem? (i := 889) (by decide +kernel), List.mem_of_getElem? (i := 890) (by decide +kernel)⟩
theorem lw_p73 : lw_okq (⟨"YieldLinesModel", "askedRange", "(II)V"⟩, 38) := ⟨⟨by decide +kernel, by decide +kernel⟩, List.mem_of_getElem? (i := 574) (by decide +kernel), List.mem_of_getElem? (i := 893) (by decide +kernel), List.mem_of_getElem? (i := 894) (by decide +kernel)⟩
theorem lw_p74 : lw_okq (⟨"YieldLinesModel", "toldTo", "(II)V"⟩, 38) := ⟨⟨by decide +kernel, by decide +kernel⟩, List.mem_of_getElem? (i := 574) (by decide +kernel), List.mem_of_getElem? (i := 897) (by decide +kernel), List.mem_of_getElem? (i := 898) (by decide +kernel)⟩
theorem lw_p75 : lw_okq (⟨"YieldLinesModel", "toldSecond", "(III)V"⟩, 38) := ⟨⟨by decide +kernel, by decide +kernel⟩, List.mem_of_getElem? (i := 574) (by decide +kernel), List.mem_of_getElem? (i := 901) (by decide +kernel), List.mem_of_getElem? (i := 902) (by decide +kernel)⟩
theorem lw_p76 : lw_okq (⟨"YieldLinesModel", "endedTo", "(I)V"⟩, 38) := ⟨⟨by decide +kernel, by decide +kernel⟩, List.mem_of_getElem? (i := 574) (by decide +kernel), List.mem_of_getElem? (i := 913) (by decide +kernel), List.mem_of_getElem? (i := 914) (by decide +kernel)⟩
theorem lw_p77 : lw_okq (⟨"YieldLinesModel", "ran", "(I)I"⟩, 38) := ⟨⟨by decide +kernel, by decide +kernel⟩, List.mem_of_getElem? (i := 574) (by decide +kernel), List.mem_of_getElem? (i := 917) (by decide +kernel), List.mem_of_getElem? (i := 918) (by decide +kernel)⟩
theorem lw_p78 : lw_okq (⟨"YieldLinesModel", "didOf", "(II)I"⟩, 38) := ⟨⟨by decide +kernel, by decide +kernel⟩, List.mem_of_getElem? (i := 574) (by decide +kernel), List.mem_of_getElem? (i := 929) (by decide +kernel), List.mem_of_getElem? (i := 930) (by decide +kernel)⟩
theorem lw_p79 : lw_okq (⟨"YieldLinesModel", "toldOf", "(I)I"⟩, 38) := ⟨⟨by decide +kernel, by decide +kernel⟩, List.mem_of_getElem? (i := 574) (by decide +kernel), List.mem_of_getElem? (i := 945) (by decide +kernel), List.mem_of_getElem? (i := 946) (by decide +kernel)⟩
def lw_privs_5 : List (MethodName × Nat) := [(⟨"YieldLinesModel", "goLine", "(IZ)V"⟩, 38), (⟨"YieldLinesModel", "beginLine", "(I)V"⟩, 38), (⟨"YieldLinesModel", "node", "(I)I"⟩, 38), (⟨"YieldLinesModel", "isNext", "(I)Z"⟩, 38), (⟨"YieldLinesModel", "asked", "(I)V"⟩, 38), (⟨"YieldLinesModel", "yields", "(I)V"⟩, 38), (⟨"YieldLinesModel", "hasNone", "()V"⟩, 38), (⟨"YieldLinesModel", "askedFirst", "(II)V"⟩, 38), (⟨"YieldLinesModel", "ask", "(IZ)V"⟩, 38), (⟨"YieldLinesModel", "askedRange", "(II)V"⟩, 38), (⟨"YieldLinesModel", "toldTo", "(II)V"⟩, 38), (⟨"YieldLinesModel", "toldSecond", "(III)V"⟩, 38), (⟨"YieldLinesModel", "endedTo", "(I)V"⟩, 38), (⟨"YieldLinesModel", "ran", "(I)I"⟩, 38), (⟨"YieldLinesModel", "didOf", "(II)I"⟩, 38), (⟨"YieldLinesModel", "toldOf", "(I)I"⟩, 38)]
theorem lw_r5 : ∀ q ∈ lw_privs_5, lw_okq q := List.forall_mem_cons.mpr ⟨lw_p64, List.forall_mem_cons.mpr ⟨lw_p65, List.forall_mem_cons.mpr ⟨lw_p66, List.forall_mem_cons.mpr ⟨lw_p67, List.forall_mem_cons.mpr ⟨lw_p68, List.forall_mem_cons.mpr ⟨lw_p69, List.forall_mem_cons.mpr ⟨lw_p70, List.forall_mem_cons.mpr ⟨lw_p71, List.forall_mem_cons.mpr ⟨lw_p72, List.forall_mem_cons.mpr ⟨lw_p73, List.forall_mem_cons.mpr ⟨lw_p74, List.forall_mem_cons.mpr ⟨lw_p75, List.forall_mem_cons.mpr ⟨lw_p76, List.forall_mem_cons.mpr ⟨lw_p77, List.forall_mem_cons.mpr ⟨lw_p78, List.forall_mem_cons.mpr ⟨lw_p79, fun _ h => absurd h List.not_mem_nil⟩⟩⟩⟩⟩⟩⟩⟩⟩⟩⟩⟩⟩⟩⟩⟩
theorem lw_p80 : lw_okq (⟨"YieldLinesModel", "all", "()I"⟩, 38) := ⟨⟨by decide +kernel, by decide +kernel⟩, List.mem_of_getElem? (i := 574) (by decide +kernel), List.mem_of_getElem? (i := 949) (by decide +kernel), List.mem_of_getElem? (i := 950) (by decide +kernel)⟩
theorem lw_p81 : lw_okq (⟨"YieldLinesModel", "mix", "(I)V"⟩, 38) := ⟨⟨by decide +kernel, by decide +kernel⟩, List.mem_of_getElem? (i := 574) (by decide +kernel), List.mem_of_getElem? (i := 958) (by decide +kernel), List.mem_of_getElem? (i := 959) (by decide +kernel)⟩
def lw_privs_6 : List (MethodName × Nat) := [(⟨"YieldLinesModel", "all", "()I"⟩, 38), (⟨"YieldLinesModel", "mix", "(I)V"⟩, 38)]
theorem lw_r6 : ∀ q ∈ lw_privs_6, lw_okq q := List.forall_mem_cons.mpr ⟨lw_p80, List.forall_mem_cons.mpr ⟨lw_p81, fun _ h => absurd h List.not_mem_nil⟩⟩
def lw_privs : List (MethodName × Nat) := lw_privs_1 ++ (lw_privs_2 ++ (lw_privs_3 ++ (lw_privs_4 ++ (lw_privs_5 ++ (lw_privs_6)))))
def lw_tbl : List Cond := k2_sels lw_privs ++ tables_1
theorem lw_privs_ok : ∀ q ∈ lw_privs, lw_okq q := by
  show ∀ q ∈ lw_privs_1 ++ (lw_privs_2 ++ (lw_privs_3 ++ (lw_privs_4 ++ (lw_privs_5 ++ (lw_privs_6))))), lw_okq q
  exact List.forall_mem_append.mpr ⟨lw_r1, List.forall_mem_append.mpr ⟨lw_r2, List.forall_mem_append.mpr ⟨lw_r3, List.forall_mem_append.mpr ⟨lw_r4, List.forall_mem_append.mpr ⟨lw_r5, lw_r6⟩⟩⟩⟩⟩
end
section
def RX0 : String := "YieldLines$History"
def TX0 : u_T := fun k => match k with
  | 0 => ("YieldLines$History", "ring", "[LYieldLines$State;", true)
  | 1 => ("YieldLines$History", "oldest", "I", false)
  | _ => ("YieldLines$History", "count", "I", false)
def tyX0 : Nat → FieldType := fun k => match k with
  | 0 => .array (.object "YieldLines$State")
  | 1 => .int
  | _ => .int
theorem nmX0 : ∀ a, a < 3 → ∀ b, b < 3 → a ≠ b → (TX0 a).2.1 ≠ (TX0 b).2.1 := by decide +kernel
theorem tyX0_ok : ∀ k, k < 3 → parseFieldDescriptor (TX0 k).2.2.1 = some (tyX0 k) := by decide +kernel
abbrev cX0_init : ByteArray := prog_2_method_1_code
def yX0_init : MethodName := ⟨RX0, "<init>", "()V"⟩
abbrev cX0_leave : ByteArray := prog_2_method_2_code
def yX0_leave : MethodName := ⟨RX0, "leave", "(LYieldLines$State;)V"⟩
abbrev cX0_takeInto : ByteArray := prog_2_method_3_code
def yX0_takeInto : MethodName := ⟨RX0, "takeInto", "(LYieldLines$State;)V"⟩
def RX1 : String := "YieldLines$Machine"
def TX1 : u_T := fun k => match k with
  | 0 => ("YieldLines$Machine", "state", "LYieldLines$State;", true)
  | 1 => ("YieldLines$Machine", "values", "[I", true)
  | 2 => ("YieldLines$Machine", "stage", "[I", true)
  | 3 => ("YieldLines$Machine", "leftResult", "[I", true)
  | 4 => ("YieldLines$Machine", "rangeEnd", "[I", true)
  | 5 => ("YieldLines$Machine", "kept", "[I", true)
  | 6 => ("YieldLines$Machine", "result", "I", false)
  | 7 => ("YieldLines$Machine", "work", "I", false)
  | _ => ("YieldLines$Machine", "cut", "Z", false)
def tyX1 : Nat → FieldType := fun k => match k with
  | 0 => .object "YieldLines$State"
  | 1 => .array .int
  | 2 => .array .int
  | 3 => .array .int
  | 4 => .array .int
  | 5 => .array .int
  | 6 => .int
  | 7 => .int
  | _ => .boolean
theorem nmX1 : ∀ a, a < 9 → ∀ b, b < 9 → a ≠ b → (TX1 a).2.1 ≠ (TX1 b).2.1 := by decide +kernel
theorem tyX1_ok : ∀ k, k < 9 → parseFieldDescriptor (TX1 k).2.2.1 = some (tyX1 k) := by decide +kernel
abbrev cX1_init : ByteArray := prog_3_method_1_code
def yX1_init : MethodName := ⟨RX1, "<init>", "(LYieldLines$State;)V"⟩
abbrev cX1_beginRun : ByteArray := prog_3_method_2_code
def yX1_beginRun : MethodName := ⟨RX1, "beginRun", "()V"⟩
abbrev cX1_beginLine : ByteArray := prog_3_method_3_code
def yX1_beginLine : MethodName := ⟨RX1, "beginLine", "(I)V"⟩
abbrev cX1_copyValuesTo : ByteArray := prog_3_method_4_code
def yX1_copyValuesTo : MethodName := ⟨RX1, "copyValuesTo", "([I)V"⟩
abbrev cX1_ask : ByteArray := prog_3_method_5_code
def yX1_ask : MethodName := ⟨RX1, "ask", "(II)Z"⟩
abbrev cX1_yields : ByteArray := prog_3_method_6_code
def yX1_yields : MethodName := ⟨RX1, "yields", "(I)Z"⟩
abbrev cX1_renew : ByteArray := prog_3_method_7_code
def yX1_renew : MethodName := ⟨RX1, "renew", "(I)V"⟩
abbrev cX1_askLeaf : ByteArray := prog_3_method_8_code
def yX1_askLeaf : MethodName := ⟨RX1, "askLeaf", "(I)Z"⟩
abbrev cX1_askEither : ByteArray := prog_3_method_9_code
def yX1_askEither : MethodName := ⟨RX1, "askEither", "(II)Z"⟩
abbrev cX1_askFirst : ByteArray := prog_3_method_10_code
def yX1_askFirst : MethodName := ⟨RX1, "askFirst", "(II)Z"⟩
abbrev cX1_askWhetherNone : ByteArray := prog_3_method_11_code
def yX1_askWhetherNone : MethodName := ⟨RX1, "askWhetherNone", "(II)Z"⟩
abbrev cX1_askTarget : ByteArray := prog_3_method_12_code
def yX1_askTarget : MethodName := ⟨RX1, "askTarget", "(II)Z"⟩
abbrev cX1_askPair : ByteArray := prog_3_method_13_code
def yX1_askPair : MethodName := ⟨RX1, "askPair", "(II)Z"⟩
abbrev cX1_hasResult : ByteArray := prog_3_method_14_code
def yX1_hasResult : MethodName := ⟨RX1, "hasResult", "(III)Z"⟩
abbrev cX1_yieldsOfPair : ByteArray := prog_3_method_15_code
def yX1_yieldsOfPair : MethodName := ⟨RX1, "yieldsOfPair", "(III)Z"⟩
abbrev cX1_reckoned : ByteArray := prog_3_method_16_code
def yX1_reckoned : MethodName := ⟨RX1, "reckoned", "(IJJ)J"⟩
def RX2 : String := "YieldLines$Outcome"
def TX2 : u_T := fun k => match k with
  | 0 => ("YieldLines$Outcome", "isMade", "Z", false)
  | 1 => ("YieldLines$Outcome", "said", "[I", true)
  | 2 => ("YieldLines$Outcome", "saidCount", "I", false)
  | 3 => ("YieldLines$Outcome", "lineSaid", "[I", true)
  | 4 => ("YieldLines$Outcome", "lineWork", "[I", true)
  | 5 => ("YieldLines$Outcome", "lineCut", "[I", true)
  | 6 => ("YieldLines$Outcome", "lineLast", "[I", true)
  | _ => ("YieldLines$Outcome", "ends", "[I", true)
def tyX2 : Nat → FieldType := fun k => match k with
  | 0 => .boolean
  | 1 => .array .int
  | 2 => .int
  | 3 => .array .int
  | 4 => .array .int
  | 5 => .array .int
  | 6 => .array .int
  | _ => .array .int
theorem nmX2 : ∀ a, a < 8 → ∀ b, b < 8 → a ≠ b → (TX2 a).2.1 ≠ (TX2 b).2.1 := by decide +kernel
theorem tyX2_ok : ∀ k, k < 8 → parseFieldDescriptor (TX2 k).2.2.1 = some (tyX2 k) := by decide +kernel
abbrev cX2_init : ByteArray := prog_4_method_1_code
def yX2_init : MethodName := ⟨RX2, "<init>", "()V"⟩
abbrev cX2_make : ByteArray := prog_4_method_2_code
def yX2_make : MethodName := ⟨RX2, "make", "(LYieldLines$Machine;LYieldLines$State;)V"⟩
abbrev cX2_makeLine : ByteArray := prog_4_method_3_code
def yX2_makeLine : MethodName := ⟨RX2, "makeLine", "(ILYieldLines$Machine;LYieldLines$State;)V"⟩
abbrev cX2_say : ByteArray := prog_4_method_4_code
def yX2_say : MethodName := ⟨RX2, "say", "(I)V"⟩
abbrev cX2_saidAt : ByteArray := prog_4_method_5_code
def yX2_saidAt : MethodName := ⟨RX2, "saidAt", "(I)I"⟩
abbrev cX2_silentLines : ByteArray := prog_4_method_6_code
def yX2_silentLines : MethodName := ⟨RX2, "silentLines", "(I)I"⟩
def RX3 : String := "YieldLines$Reader"
def TX3 : u_T := fun k => match k with
  | 0 => ("YieldLines$Reader", "draft", "LYieldLines$State;", true)
  | 1 => ("YieldLines$Reader", "pile", "[I", true)
  | 2 => ("YieldLines$Reader", "pileLevel", "[I", true)
  | 3 => ("YieldLines$Reader", "piled", "I", false)
  | 4 => ("YieldLines$Reader", "open", "I", false)
  | 5 => ("YieldLines$Reader", "due", "I", false)
  | 6 => ("YieldLines$Reader", "nodeCount", "I", false)
  | 7 => ("YieldLines$Reader", "nodesBefore", "I", false)
  | 8 => ("YieldLines$Reader", "whole", "I", false)
  | 9 => ("YieldLines$Reader", "numberNode", "I", false)
  | _ => ("YieldLines$Reader", "figures", "I", false)
def tyX3 : Nat → FieldType := fun k => match k with
  | 0 => .object "YieldLines$State"
  | 1 => .array .int
  | 2 => .array .int
  | 3 => .int
  | 4 => .int
  | 5 => .int
  | 6 => .int
  | 7 => .int
  | 8 => .int
  | 9 => .int
  | _ => .int
theorem nmX3 : ∀ a, a < 11 → ∀ b, b < 11 → a ≠ b → (TX3 a).2.1 ≠ (TX3 b).2.1 := by decide +kernel
theorem tyX3_ok : ∀ k, k < 11 → parseFieldDescriptor (TX3 k).2.2.1 = some (tyX3 k) := by decide +kernel
abbrev cX3_init : ByteArray := prog_5_method_1_code
def yX3_init : MethodName := ⟨RX3, "<init>", "()V"⟩
abbrev cX3_faultOf : ByteArray := prog_5_method_2_code
def yX3_faultOf : MethodName := ⟨RX3, "faultOf", "([II)I"⟩
abbrev cX3_takes : ByteArray := prog_5_method_3_code
def yX3_takes : MethodName := ⟨RX3, "takes", "(I)Z"⟩
abbrev cX3_takesMoreOfNumber : ByteArray := prog_5_method_4_code
def yX3_takesMoreOfNumber : MethodName := ⟨RX3, "takesMoreOfNumber", "(I)Z"⟩
abbrev cX3_beginsLine : ByteArray := prog_5_method_5_code
def yX3_beginsLine : MethodName := ⟨RX3, "beginsLine", "(Z)Z"⟩
abbrev cX3_takesUnit : ByteArray := prog_5_method_6_code
def yX3_takesUnit : MethodName := ⟨RX3, "takesUnit", "(I)Z"⟩
abbrev cX3_takesLeaf : ByteArray := prog_5_method_7_code
def yX3_takesLeaf : MethodName := ⟨RX3, "takesLeaf", "(II)Z"⟩
abbrev cX3_takesFigure : ByteArray := prog_5_method_8_code
def yX3_takesFigure : MethodName := ⟨RX3, "takesFigure", "(I)Z"⟩
abbrev cX3_takesRest : ByteArray := prog_5_method_9_code
def yX3_takesRest : MethodName := ⟨RX3, "takesRest", "(I)Z"⟩
abbrev cX3_endsLine : ByteArray := prog_5_method_10_code
def yX3_endsLine : MethodName := ⟨RX3, "endsLine", "()Z"⟩
abbrev cX3_closes : ByteArray := prog_5_method_11_code
def yX3_closes : MethodName := ⟨RX3, "closes", "()Z"⟩
abbrev cX3_takesFirst : ByteArray := prog_5_method_12_code
def yX3_takesFirst : MethodName := ⟨RX3, "takesFirst", "()Z"⟩
abbrev cX3_takesTarget : ByteArray := prog_5_method_13_code
def yX3_takesTarget : MethodName := ⟨RX3, "takesTarget", "(I)Z"⟩
abbrev cX3_isFirstOfExpression : ByteArray := prog_5_method_14_code
def yX3_isFirstOfExpression : MethodName := ⟨RX3, "isFirstOfExpression", "()Z"⟩
abbrev cX3_takesBetween : ByteArray := prog_5_method_15_code
def yX3_takesBetween : MethodName := ⟨RX3, "takesBetween", "(I)Z"⟩
abbrev cX3_levelBetween : ByteArray := prog_5_method_16_code
def yX3_levelBetween : MethodName := ⟨RX3, "levelBetween", "(I)I"⟩
abbrev cX3_join : ByteArray := prog_5_method_17_code
def yX3_join : MethodName := ⟨RX3, "join", "(II)V"⟩
abbrev cX3_piles : ByteArray := prog_5_method_18_code
def yX3_piles : MethodName := ⟨RX3, "piles", "(II)Z"⟩
abbrev cX3_hasRoom : ByteArray := prog_5_method_19_code
def yX3_hasRoom : MethodName := ⟨RX3, "hasRoom", "()Z"⟩
abbrev cX3_newNode : ByteArray := prog_5_method_20_code
def yX3_newNode : MethodName := ⟨RX3, "newNode", "(II)I"⟩
abbrev cX3_noteName : ByteArray := prog_5_method_21_code
def yX3_noteName : MethodName := ⟨RX3, "noteName", "([II)V"⟩
abbrev cX3_isFigure : ByteArray := prog_5_method_22_code
def yX3_isFigure : MethodName := ⟨RX3, "isFigure", "(I)Z"⟩
def RX4 : String := "YieldLines$State"
def TX4 : u_T := fun k => match k with
  | 0 => ("YieldLines$State", "kind", "[I", true)
  | 1 => ("YieldLines$State", "left", "[I", true)
  | 2 => ("YieldLines$State", "right", "[I", true)
  | 3 => ("YieldLines$State", "number", "[I", true)
  | 4 => ("YieldLines$State", "root", "[I", true)
  | 5 => ("YieldLines$State", "every", "[I", true)
  | 6 => ("YieldLines$State", "nodes", "[I", true)
  | 7 => ("YieldLines$State", "names", "[I", true)
  | 8 => ("YieldLines$State", "targets", "[I", true)
  | 9 => ("YieldLines$State", "values", "[I", true)
  | _ => ("YieldLines$State", "lines", "I", false)
def tyX4 : Nat → FieldType := fun k => match k with
  | 0 => .array .int
  | 1 => .array .int
  | 2 => .array .int
  | 3 => .array .int
  | 4 => .array .int
  | 5 => .array .int
  | 6 => .array .int
  | 7 => .array .int
  | 8 => .array .int
  | 9 => .array .int
  | _ => .int
theorem nmX4 : ∀ a, a < 11 → ∀ b, b < 11 → a ≠ b → (TX4 a).2.1 ≠ (TX4 b).2.1 := by decide +kernel
theorem tyX4_ok : ∀ k, k < 11 → parseFieldDescriptor (TX4 k).2.2.1 = some (tyX4 k) := by decide +kernel
abbrev cX4_init : ByteArray := prog_6_method_1_code
def yX4_init : MethodName := ⟨RX4, "<init>", "()V"⟩
abbrev cX4_takeAll : ByteArray := prog_6_method_2_code
def yX4_takeAll : MethodName := ⟨RX4, "takeAll", "(LYieldLines$State;)V"⟩
abbrev cX4_takeProgram : ByteArray := prog_6_method_3_code
def yX4_takeProgram : MethodName := ⟨RX4, "takeProgram", "(LYieldLines$State;)V"⟩
abbrev cX4_dropLine : ByteArray := prog_6_method_4_code
def yX4_dropLine : MethodName := ⟨RX4, "dropLine", "(I)V"⟩
def RX5 : String := "YieldLines"
def TX5 : u_T := fun k => match k with
  | 0 => ("YieldLines", "text", "[I", true)
  | 1 => ("YieldLines", "length", "I", false)
  | 2 => ("YieldLines", "state", "LYieldLines$State;", true)
  | 3 => ("YieldLines", "reader", "LYieldLines$Reader;", true)
  | 4 => ("YieldLines", "history", "LYieldLines$History;", true)
  | 5 => ("YieldLines", "machine", "LYieldLines$Machine;", true)
  | 6 => ("YieldLines", "outcome", "LYieldLines$Outcome;", true)
  | 7 => ("YieldLines", "badCount", "I", false)
  | 8 => ("YieldLines", "noCount", "I", false)
  | _ => ("YieldLines", "fullCount", "I", false)
def tyX5 : Nat → FieldType := fun k => match k with
  | 0 => .array .int
  | 1 => .int
  | 2 => .object "YieldLines$State"
  | 3 => .object "YieldLines$Reader"
  | 4 => .object "YieldLines$History"
  | 5 => .object "YieldLines$Machine"
  | 6 => .object "YieldLines$Outcome"
  | 7 => .int
  | 8 => .int
  | _ => .int
theorem nmX5 : ∀ a, a < 10 → ∀ b, b < 10 → a ≠ b → (TX5 a).2.1 ≠ (TX5 b).2.1 := by decide +kernel
theorem tyX5_ok : ∀ k, k < 10 → parseFieldDescriptor (TX5 k).2.2.1 = some (tyX5 k) := by decide +kernel
abbrev cX5_init : ByteArray := prog_1_method_1_code
def yX5_init : MethodName := ⟨RX5, "<init>", "()V"⟩
abbrev cX5_type : ByteArray := prog_1_method_2_code
def yX5_type : MethodName := ⟨RX5, "type", "(I)I"⟩
abbrev cX5_clear : ByteArray := prog_1_method_3_code
def yX5_clear : MethodName := ⟨RX5, "clear", "()I"⟩
abbrev cX5_reads : ByteArray := prog_1_method_4_code
def yX5_reads : MethodName := ⟨RX5, "reads", "()I"⟩
abbrev cX5_value : ByteArray := prog_1_method_5_code
def yX5_value : MethodName := ⟨RX5, "value", "(II)I"⟩
abbrev cX5_drops : ByteArray := prog_1_method_6_code
def yX5_drops : MethodName := ⟨RX5, "drops", "(I)I"⟩
abbrev cX5_line : ByteArray := prog_1_method_7_code
def yX5_line : MethodName := ⟨RX5, "line", "(II)I"⟩
abbrev cX5_run : ByteArray := prog_1_method_8_code
def yX5_run : MethodName := ⟨RX5, "run", "(I)I"⟩
abbrev cX5_said : ByteArray := prog_1_method_9_code
def yX5_said : MethodName := ⟨RX5, "said", "(I)I"⟩
abbrev cX5_did : ByteArray := prog_1_method_10_code
def yX5_did : MethodName := ⟨RX5, "did", "(II)I"⟩
abbrev cX5_ends : ByteArray := prog_1_method_11_code
def yX5_ends : MethodName := ⟨RX5, "ends", "(I)I"⟩
abbrev cX5_alone : ByteArray := prog_1_method_12_code
def yX5_alone : MethodName := ⟨RX5, "alone", "(II)I"⟩
abbrev cX5_back : ByteArray := prog_1_method_13_code
def yX5_back : MethodName := ⟨RX5, "back", "()I"⟩
abbrev cX5_told : ByteArray := prog_1_method_14_code
def yX5_told : MethodName := ⟨RX5, "told", "(I)I"⟩
abbrev cX5_digest : ByteArray := prog_1_method_15_code
def yX5_digest : MethodName := ⟨RX5, "digest", "()J"⟩
abbrev cX5_withLine : ByteArray := prog_1_method_16_code
def yX5_withLine : MethodName := ⟨RX5, "withLine", "(JI)J"⟩
abbrev cX5_ofLine : ByteArray := prog_1_method_17_code
def yX5_ofLine : MethodName := ⟨RX5, "ofLine", "(II)I"⟩
abbrev cX5_ofRun : ByteArray := prog_1_method_18_code
def yX5_ofRun : MethodName := ⟨RX5, "ofRun", "(I)I"⟩
abbrev cX5_ofDone : ByteArray := prog_1_method_19_code
def yX5_ofDone : MethodName := ⟨RX5, "ofDone", "(II)I"⟩
abbrev cX5_ofAll : ByteArray := prog_1_method_20_code
def yX5_ofAll : MethodName := ⟨RX5, "ofAll", "(I)I"⟩
abbrev cX5_sumOfLines : ByteArray := prog_1_method_21_code
def yX5_sumOfLines : MethodName := ⟨RX5, "sumOfLines", "([I)I"⟩
abbrev cX5_leaveState : ByteArray := prog_1_method_22_code
def yX5_leaveState : MethodName := ⟨RX5, "leaveState", "()V"⟩
abbrev cX5_bad : ByteArray := prog_1_method_23_code
def yX5_bad : MethodName := ⟨RX5, "bad", "()I"⟩
abbrev cX5_isLine : ByteArray := prog_1_method_24_code
def yX5_isLine : MethodName := ⟨RX5, "isLine", "(I)Z"⟩
abbrev cX5_isName : ByteArray := prog_1_method_25_code
def yX5_isName : MethodName := ⟨RX5, "isName", "(I)Z"⟩
abbrev cX5_isBelow : ByteArray := prog_1_method_26_code
def yX5_isBelow : MethodName := ⟨RX5, "isBelow", "(II)Z"⟩
abbrev cX5_isNode : ByteArray := prog_1_method_27_code
def yX5_isNode : MethodName := ⟨RX5, "isNode", "(I)Z"⟩
abbrev cX5_isNumber : ByteArray := prog_1_method_28_code
def yX5_isNumber : MethodName := ⟨RX5, "isNumber", "(J)Z"⟩
def RX6 : String := "YieldLinesModel"
def TX6 : u_T := fun k => match k with
  | 0 => ("YieldLinesModel", "now", "[I", true)
  | 1 => ("YieldLinesModel", "held", "[I", true)
  | 2 => ("YieldLinesModel", "past", "[I", true)
  | 3 => ("YieldLinesModel", "pasts", "I", false)
  | 4 => ("YieldLinesModel", "refused", "[I", true)
  | 5 => ("YieldLinesModel", "text", "[I", true)
  | 6 => ("YieldLinesModel", "typed", "I", false)
  | 7 => ("YieldLinesModel", "at", "I", false)
  | 8 => ("YieldLinesModel", "fault", "I", false)
  | 9 => ("YieldLinesModel", "read", "[I", true)
  | 10 => ("YieldLinesModel", "from", "I", false)
  | 11 => ("YieldLinesModel", "nodes", "I", false)
  | 12 => ("YieldLinesModel", "parts", "[I", true)
  | 13 => ("YieldLinesModel", "isName", "[Z", true)
  | 14 => ("YieldLinesModel", "partMany", "I", false)
  | 15 => ("YieldLinesModel", "signs", "[I", true)
  | 16 => ("YieldLinesModel", "signNode", "[I", true)
  | 17 => ("YieldLinesModel", "signMany", "I", false)
  | 18 => ("YieldLinesModel", "open", "I", false)
  | 19 => ("YieldLinesModel", "asker", "[I", true)
  | 20 => ("YieldLinesModel", "phase", "[I", true)
  | 21 => ("YieldLinesModel", "one", "[I", true)
  | 22 => ("YieldLinesModel", "two", "[I", true)
  | 23 => ("YieldLinesModel", "values", "[I", true)
  | 24 => ("YieldLinesModel", "base", "I", false)
  | 25 => ("YieldLinesModel", "work", "I", false)
  | 26 => ("YieldLinesModel", "isCut", "Z", false)
  | 27 => ("YieldLinesModel", "here0", "I", false)
  | 28 => ("YieldLinesModel", "asks", "Z", false)
  | 29 => ("YieldLinesModel", "told", "Z", false)
  | 30 => ("YieldLinesModel", "result", "I", false)
  | 31 => ("YieldLinesModel", "start", "[I", true)
  | 32 => ("YieldLinesModel", "saidAll", "[I", true)
  | 33 => ("YieldLinesModel", "saidMany", "I", false)
  | 34 => ("YieldLinesModel", "lineSaid", "[I", true)
  | 35 => ("YieldLinesModel", "lineWork", "[I", true)
  | 36 => ("YieldLinesModel", "lineCut", "[Z", true)
  | _ => ("YieldLinesModel", "h", "J", false)
def tyX6 : Nat → FieldType := fun k => match k with
  | 0 => .array .int
  | 1 => .array .int
  | 2 => .array .int
  | 3 => .int
  | 4 => .array .int
  | 5 => .array .int
  | 6 => .int
  | 7 => .int
  | 8 => .int
  | 9 => .array .int
  | 10 => .int
  | 11 => .int
  | 12 => .array .int
  | 13 => .array .boolean
  | 14 => .int
  | 15 => .array .int
  | 16 => .array .int
  | 17 => .int
  | 18 => .int
  | 19 => .array .int
  | 20 => .array .int
  | 21 => .array .int
  | 22 => .array .int
  | 23 => .array .int
  | 24 => .int
  | 25 => .int
  | 26 => .boolean
  | 27 => .int
  | 28 => .boolean
  | 29 => .boolean
  | 30 => .int
  | 31 => .array .int
  | 32 => .array .int
  | 33 => .int
  | 34 => .array .int
  | 35 => .array .int
  | 36 => .array .boolean
  | _ => .long
theorem nmX6 : ∀ a, a < 38 → ∀ b, b < 38 → a ≠ b → (TX6 a).2.1 ≠ (TX6 b).2.1 := by decide +kernel
theorem tyX6_ok : ∀ k, k < 38 → parseFieldDescriptor (TX6 k).2.2.1 = some (tyX6 k) := by decide +kernel
abbrev cX6_init : ByteArray := prog_8_method_1_code
def yX6_init : MethodName := ⟨RX6, "<init>", "()V"⟩
abbrev cX6_in : ByteArray := prog_8_method_2_code
def yX6_in : MethodName := ⟨RX6, "in", "(III)Z"⟩
abbrev cX6_refuses : ByteArray := prog_8_method_3_code
def yX6_refuses : MethodName := ⟨RX6, "refuses", "(I)I"⟩
abbrev cX6_hold : ByteArray := prog_8_method_4_code
def yX6_hold : MethodName := ⟨RX6, "hold", "()V"⟩
abbrev cX6_push : ByteArray := prog_8_method_5_code
def yX6_push : MethodName := ⟨RX6, "push", "()V"⟩
abbrev cX6_back : ByteArray := prog_8_method_6_code
def yX6_back : MethodName := ⟨RX6, "back", "()I"⟩
abbrev cX6_sortOf : ByteArray := prog_8_method_7_code
def yX6_sortOf : MethodName := ⟨RX6, "sortOf", "(I)I"⟩
abbrev cX6_numberOf : ByteArray := prog_8_method_8_code
def yX6_numberOf : MethodName := ⟨RX6, "numberOf", "(I)I"⟩
abbrev cX6_firstOf : ByteArray := prog_8_method_9_code
def yX6_firstOf : MethodName := ⟨RX6, "firstOf", "(I)I"⟩
abbrev cX6_secondOf : ByteArray := prog_8_method_10_code
def yX6_secondOf : MethodName := ⟨RX6, "secondOf", "(I)I"⟩
abbrev cX6_made : ByteArray := prog_8_method_11_code
def yX6_made : MethodName := ⟨RX6, "made", "(IIII)I"⟩
abbrev cX6_isTwo : ByteArray := prog_8_method_12_code
def yX6_isTwo : MethodName := ⟨RX6, "isTwo", "(I)Z"⟩
abbrev cX6_begin : ByteArray := prog_8_method_13_code
def yX6_begin : MethodName := ⟨RX6, "begin", "(I)I"⟩
abbrev cX6_all : ByteArray := prog_8_method_14_code
def yX6_all : MethodName := ⟨RX6, "all", "()I"⟩
abbrev cX6_isLine : ByteArray := prog_8_method_15_code
def yX6_isLine : MethodName := ⟨RX6, "isLine", "(I)Z"⟩
abbrev cX6_type : ByteArray := prog_8_method_16_code
def yX6_type : MethodName := ⟨RX6, "type", "(I)I"⟩
abbrev cX6_clear : ByteArray := prog_8_method_17_code
def yX6_clear : MethodName := ⟨RX6, "clear", "()I"⟩
abbrev cX6_here : ByteArray := prog_8_method_18_code
def yX6_here : MethodName := ⟨RX6, "here", "()I"⟩
abbrev cX6_must : ByteArray := prog_8_method_19_code
def yX6_must : MethodName := ⟨RX6, "must", "(Z)V"⟩
abbrev cX6_sortOfSign : ByteArray := prog_8_method_20_code
def yX6_sortOfSign : MethodName := ⟨RX6, "sortOfSign", "(I)I"⟩
abbrev cX6_rank : ByteArray := prog_8_method_21_code
def yX6_rank : MethodName := ⟨RX6, "rank", "(I)I"⟩
abbrev cX6_add : ByteArray := prog_8_method_22_code
def yX6_add : MethodName := ⟨RX6, "add", "(I)I"⟩
abbrev cX6_pushPart : ByteArray := prog_8_method_23_code
def yX6_pushPart : MethodName := ⟨RX6, "pushPart", "(IZ)V"⟩
abbrev cX6_pushSign : ByteArray := prog_8_method_24_code
def yX6_pushSign : MethodName := ⟨RX6, "pushSign", "(II)V"⟩
abbrev cX6_topSign : ByteArray := prog_8_method_25_code
def yX6_topSign : MethodName := ⟨RX6, "topSign", "()I"⟩
abbrev cX6_close : ByteArray := prog_8_method_26_code
def yX6_close : MethodName := ⟨RX6, "close", "()V"⟩
abbrev cX6_closeNots : ByteArray := prog_8_method_27_code
def yX6_closeNots : MethodName := ⟨RX6, "closeNots", "()V"⟩
abbrev cX6_isFigure : ByteArray := prog_8_method_28_code
def yX6_isFigure : MethodName := ⟨RX6, "isFigure", "()Z"⟩
abbrev cX6_readNumber : ByteArray := prog_8_method_29_code
def yX6_readNumber : MethodName := ⟨RX6, "readNumber", "()V"⟩
abbrev cX6_isUnit : ByteArray := prog_8_method_30_code
def yX6_isUnit : MethodName := ⟨RX6, "isUnit", "()Z"⟩
abbrev cX6_closeAll : ByteArray := prog_8_method_31_code
def yX6_closeAll : MethodName := ⟨RX6, "closeAll", "()V"⟩
abbrev cX6_readFirst : ByteArray := prog_8_method_32_code
def yX6_readFirst : MethodName := ⟨RX6, "readFirst", "()V"⟩
abbrev cX6_readSet : ByteArray := prog_8_method_33_code
def yX6_readSet : MethodName := ⟨RX6, "readSet", "(I)V"⟩
abbrev cX6_isDue : ByteArray := prog_8_method_34_code
def yX6_isDue : MethodName := ⟨RX6, "isDue", "()Z"⟩
abbrev cX6_readLine : ByteArray := prog_8_method_35_code
def yX6_readLine : MethodName := ⟨RX6, "readLine", "()V"⟩
abbrev cX6_reads : ByteArray := prog_8_method_36_code
def yX6_reads : MethodName := ⟨RX6, "reads", "()I"⟩
abbrev cX6_value : ByteArray := prog_8_method_37_code
def yX6_value : MethodName := ⟨RX6, "value", "(II)I"⟩
abbrev cX6_drops : ByteArray := prog_8_method_38_code
def yX6_drops : MethodName := ⟨RX6, "drops", "(I)I"⟩
abbrev cX6_ofLine : ByteArray := prog_8_method_39_code
def yX6_ofLine : MethodName := ⟨RX6, "ofLine", "(II)I"⟩
abbrev cX6_line : ByteArray := prog_8_method_40_code
def yX6_line : MethodName := ⟨RX6, "line", "(II)I"⟩
abbrev cX6_node : ByteArray := prog_8_method_41_code
def yX6_node : MethodName := ⟨RX6, "node", "(I)I"⟩
abbrev cX6_ask : ByteArray := prog_8_method_42_code
def yX6_ask : MethodName := ⟨RX6, "ask", "(IZ)V"⟩
abbrev cX6_yields : ByteArray := prog_8_method_43_code
def yX6_yields : MethodName := ⟨RX6, "yields", "(I)V"⟩
abbrev cX6_hasNone : ByteArray := prog_8_method_44_code
def yX6_hasNone : MethodName := ⟨RX6, "hasNone", "()V"⟩
abbrev cX6_isDoneBy : ByteArray := prog_8_method_45_code
def yX6_isDoneBy : MethodName := ⟨RX6, "isDoneBy", "(III)Z"⟩
abbrev cX6_doneBy : ByteArray := prog_8_method_46_code
def yX6_doneBy : MethodName := ⟨RX6, "doneBy", "(III)I"⟩
abbrev cX6_asked : ByteArray := prog_8_method_47_code
def yX6_asked : MethodName := ⟨RX6, "asked", "(I)V"⟩
abbrev cX6_askedFirst : ByteArray := prog_8_method_48_code
def yX6_askedFirst : MethodName := ⟨RX6, "askedFirst", "(II)V"⟩
abbrev cX6_askedRange : ByteArray := prog_8_method_49_code
def yX6_askedRange : MethodName := ⟨RX6, "askedRange", "(II)V"⟩
abbrev cX6_toldTo : ByteArray := prog_8_method_50_code
def yX6_toldTo : MethodName := ⟨RX6, "toldTo", "(II)V"⟩
abbrev cX6_toldSecond : ByteArray := prog_8_method_51_code
def yX6_toldSecond : MethodName := ⟨RX6, "toldSecond", "(III)V"⟩
abbrev cX6_endedTo : ByteArray := prog_8_method_52_code
def yX6_endedTo : MethodName := ⟨RX6, "endedTo", "(I)V"⟩
abbrev cX6_beginLine : ByteArray := prog_8_method_53_code
def yX6_beginLine : MethodName := ⟨RX6, "beginLine", "(I)V"⟩
abbrev cX6_isNext : ByteArray := prog_8_method_54_code
def yX6_isNext : MethodName := ⟨RX6, "isNext", "(I)Z"⟩
abbrev cX6_goLine : ByteArray := prog_8_method_55_code
def yX6_goLine : MethodName := ⟨RX6, "goLine", "(IZ)V"⟩
abbrev cX6_takeValues : ByteArray := prog_8_method_56_code
def yX6_takeValues : MethodName := ⟨RX6, "takeValues", "()V"⟩
abbrev cX6_go : ByteArray := prog_8_method_57_code
def yX6_go : MethodName := ⟨RX6, "go", "()V"⟩
abbrev cX6_ran : ByteArray := prog_8_method_58_code
def yX6_ran : MethodName := ⟨RX6, "ran", "(I)I"⟩
abbrev cX6_run : ByteArray := prog_8_method_59_code
def yX6_run : MethodName := ⟨RX6, "run", "(I)I"⟩
abbrev cX6_said : ByteArray := prog_8_method_60_code
def yX6_said : MethodName := ⟨RX6, "said", "(I)I"⟩
abbrev cX6_didOf : ByteArray := prog_8_method_61_code
def yX6_didOf : MethodName := ⟨RX6, "didOf", "(II)I"⟩
abbrev cX6_did : ByteArray := prog_8_method_62_code
def yX6_did : MethodName := ⟨RX6, "did", "(II)I"⟩
abbrev cX6_ends : ByteArray := prog_8_method_63_code
def yX6_ends : MethodName := ⟨RX6, "ends", "(I)I"⟩
abbrev cX6_alone : ByteArray := prog_8_method_64_code
def yX6_alone : MethodName := ⟨RX6, "alone", "(II)I"⟩
abbrev cX6_toldOf : ByteArray := prog_8_method_65_code
def yX6_toldOf : MethodName := ⟨RX6, "toldOf", "(I)I"⟩
abbrev cX6_told : ByteArray := prog_8_method_66_code
def yX6_told : MethodName := ⟨RX6, "told", "(I)I"⟩
abbrev cX6_mix : ByteArray := prog_8_method_67_code
def yX6_mix : MethodName := ⟨RX6, "mix", "(I)V"⟩
abbrev cX6_digest : ByteArray := prog_8_method_68_code
def yX6_digest : MethodName := ⟨RX6, "digest", "()J"⟩
def RJ9 : String := "java/lang/Math"
abbrev cJ9_floorMod_7cf53 : ByteArray := prog_9_method_50_code
def yJ9_floorMod_7cf53 : MethodName := ⟨RJ9, "floorMod", "(II)I"⟩
abbrev cJ9_max_7cf53 : ByteArray := prog_9_method_65_code
def yJ9_max_7cf53 : MethodName := ⟨RJ9, "max", "(II)I"⟩
abbrev cJ9_min_7cf53 : ByteArray := prog_9_method_69_code
def yJ9_min_7cf53 : MethodName := ⟨RJ9, "min", "(II)I"⟩
def RL : String := "YieldLinesLaw"
abbrev vwCl : List vw_C := [(RX0, TX0, 3), (RX1, TX1, 9), (RX2, TX2, 8), (RX3, TX3, 11), (RX4, TX4, 11), (RX5, TX5, 10), (RX6, TX6, 38)]
theorem inX0 : ∀ w ∈ u_ws RX0 TX0 3, w ∈ lw_tbl := by
  have h : u_ws RX0 TX0 3 = [222, 224, 226].filterMap (fun i => lw_tbl[i]?) := by decide +kernel
  intro w hw
  rw [h] at hw
  obtain ⟨i, -, hi⟩ := List.mem_filterMap.mp hw
  exact List.mem_of_getElem? hi
theorem inX1 : ∀ w ∈ u_ws RX1 TX1 9, w ∈ lw_tbl := by
  have h : u_ws RX1 TX1 9 = [248, 250, 252, 254, 256, 258, 260, 262, 264].filterMap (fun i => lw_tbl[i]?) := by decide +kernel
  intro w hw
  rw [h] at hw
  obtain ⟨i, -, hi⟩ := List.mem_filterMap.mp hw
  exact List.mem_of_getElem? hi
theorem inX2 : ∀ w ∈ u_ws RX2 TX2 8, w ∈ lw_tbl := by
  have h : u_ws RX2 TX2 8 = [288, 290, 292, 294, 296, 298, 300, 302].filterMap (fun i => lw_tbl[i]?) := by decide +kernel
  intro w hw
  rw [h] at hw
  obtain ⟨i, -, hi⟩ := List.mem_filterMap.mp hw
  exact List.mem_of_getElem? hi
theorem inX3 : ∀ w ∈ u_ws RX3 TX3 11, w ∈ lw_tbl := by
  have h : u_ws RX3 TX3 11 = [186, 188, 190, 192, 194, 196, 198, 200, 202, 204, 206].filterMap (fun i => lw_tbl[i]?) := by decide +kernel
  intro w hw
  rw [h] at hw
  obtain ⟨i, -, hi⟩ := List.mem_filterMap.mp hw
  exact List.mem_of_getElem? hi
theorem inX4 : ∀ w ∈ u_ws RX4 TX4 11, w ∈ lw_tbl := by
  have h : u_ws RX4 TX4 11 = [142, 144, 146, 148, 150, 152, 154, 156, 158, 160, 162].filterMap (fun i => lw_tbl[i]?) := by decide +kernel
  intro w hw
  rw [h] at hw
  obtain ⟨i, -, hi⟩ := List.mem_filterMap.mp hw
  exact List.mem_of_getElem? hi
theorem inX5 : ∀ w ∈ u_ws RX5 TX5 10, w ∈ lw_tbl := by
  have h : u_ws RX5 TX5 10 = [315, 317, 319, 321, 323, 325, 327, 329, 331, 333].filterMap (fun i => lw_tbl[i]?) := by decide +kernel
  intro w hw
  rw [h] at hw
  obtain ⟨i, -, hi⟩ := List.mem_filterMap.mp hw
  exact List.mem_of_getElem? hi
theorem inX6 : ∀ w ∈ u_ws RX6 TX6 38, w ∈ lw_tbl := by
  have h : u_ws RX6 TX6 38 = [699, 701, 703, 705, 707, 709, 711, 713, 715, 717, 719, 721, 723, 725, 727, 729, 731, 733, 735, 737, 739, 741, 743, 745, 747, 749, 751, 753, 755, 757, 759, 761, 763, 765, 767, 769, 771, 773].filterMap (fun i => lw_tbl[i]?) := by decide +kernel
  intro w hw
  rw [h] at hw
  obtain ⟨i, -, hi⟩ := List.mem_filterMap.mp hw
  exact List.mem_of_getElem? hi
end
section
/-! the shape of the world: cell by cell an array (0 int, 1 boolean; its length), a row of cells, or an object (its class; its fields: none an int, some none a long, some (some j) the cell j) -/
abbrev yF : Type := Option (Option Nat)
abbrev yC : Type := (Nat × Nat) ⊕ (Nat × List Nat) ⊕ (Nat × List yF)
/-- an instruction, its length; a, b: what it names (target; class and field; method and kind of link); a constant; a switch's ways; the place of its word -/
abbrev yE : Type := Instr × Nat × Nat × Nat × Value × List (Int32 × Nat) × Nat
def ysh : List yC := [
  .inr (.inr (5, [some (some 1), none, some (some 2), some (some 13), some (some 27), some (some 84), some (some 90), none, none, none])) /- 0 Y -/,
  .inl (0, 150) /- 1 Y.text -/,
  .inr (.inr (4, [some (some 3), some (some 4), some (some 5), some (some 6), some (some 7), some (some 8), some (some 9), some (some 10), some (some 11), some (some 12), none])) /- 2 st -/,
  .inl (0, 60) /- 3 st.kind -/,
  .inl (0, 60) /- 4 st.left -/,
  .inl (0, 60) /- 5 st.right -/,
  .inl (0, 60) /- 6 st.number -/,
  .inl (0, 8) /- 7 st.root -/,
  .inl (0, 8) /- 8 st.every -/,
  .inl (0, 8) /- 9 st.nodes -/,
  .inl (0, 8) /- 10 st.names -/,
  .inl (0, 8) /- 11 st.targets -/,
  .inl (0, 4) /- 12 st.values -/,
  .inr (.inr (3, [some (some 14), some (some 25), some (some 26), none, none, none, none, none, none, none, none])) /- 13 rd -/,
  .inr (.inr (4, [some (some 15), some (some 16), some (some 17), some (some 18), some (some 19), some (some 20), some (some 21), some (some 22), some (some 23), some (some 24), none])) /- 14 dr -/,
  .inl (0, 60) /- 15 dr.kind -/,
  .inl (0, 60) /- 16 dr.left -/,
  .inl (0, 60) /- 17 dr.right -/,
  .inl (0, 60) /- 18 dr.number -/,
  .inl (0, 8) /- 19 dr.root -/,
  .inl (0, 8) /- 20 dr.every -/,
  .inl (0, 8) /- 21 dr.nodes -/,
  .inl (0, 8) /- 22 dr.names -/,
  .inl (0, 8) /- 23 dr.targets -/,
  .inl (0, 4) /- 24 dr.values -/,
  .inl (0, 69) /- 25 rd.pile -/,
  .inl (0, 69) /- 26 rd.level -/,
  .inr (.inr (0, [some (some 28), none, none])) /- 27 hi -/,
  .inr (.inl (5, [29, 40, 51, 62, 73])) /- 28 hi.ring -/,
  .inr (.inr (4, [some (some 30), some (some 31), some (some 32), some (some 33), some (some 34), some (some 35), some (some 36), some (some 37), some (some 38), some (some 39), none])) /- 29 h0 -/,
  .inl (0, 60) /- 30 h0.kind -/,
  .inl (0, 60) /- 31 h0.left -/,
  .inl (0, 60) /- 32 h0.right -/,
  .inl (0, 60) /- 33 h0.number -/,
  .inl (0, 8) /- 34 h0.root -/,
  .inl (0, 8) /- 35 h0.every -/,
  .inl (0, 8) /- 36 h0.nodes -/,
  .inl (0, 8) /- 37 h0.names -/,
  .inl (0, 8) /- 38 h0.targets -/,
  .inl (0, 4) /- 39 h0.values -/,
  .inr (.inr (4, [some (some 41), some (some 42), some (some 43), some (some 44), some (some 45), some (some 46), some (some 47), some (some 48), some (some 49), some (some 50), none])) /- 40 h1 -/,
  .inl (0, 60) /- 41 h1.kind -/,
  .inl (0, 60) /- 42 h1.left -/,
  .inl (0, 60) /- 43 h1.right -/,
  .inl (0, 60) /- 44 h1.number -/,
  .inl (0, 8) /- 45 h1.root -/,
  .inl (0, 8) /- 46 h1.every -/,
  .inl (0, 8) /- 47 h1.nodes -/,
  .inl (0, 8) /- 48 h1.names -/,
  .inl (0, 8) /- 49 h1.targets -/,
  .inl (0, 4) /- 50 h1.values -/,
  .inr (.inr (4, [some (some 52), some (some 53), some (some 54), some (some 55), some (some 56), some (some 57), some (some 58), some (some 59), some (some 60), some (some 61), none])) /- 51 h2 -/,
  .inl (0, 60) /- 52 h2.kind -/,
  .inl (0, 60) /- 53 h2.left -/,
  .inl (0, 60) /- 54 h2.right -/,
  .inl (0, 60) /- 55 h2.number -/,
  .inl (0, 8) /- 56 h2.root -/,
  .inl (0, 8) /- 57 h2.every -/,
  .inl (0, 8) /- 58 h2.nodes -/,
  .inl (0, 8) /- 59 h2.names -/,
  .inl (0, 8) /- 60 h2.targets -/,
  .inl (0, 4) /- 61 h2.values -/,
  .inr (.inr (4, [some (some 63), some (some 64), some (some 65), some (some 66), some (some 67), some (some 68), some (some 69), some (some 70), some (some 71), some (some 72), none])) /- 62 h3 -/,
  .inl (0, 60) /- 63 h3.kind -/,
  .inl (0, 60) /- 64 h3.left -/,
  .inl (0, 60) /- 65 h3.right -/,
  .inl (0, 60) /- 66 h3.number -/,
  .inl (0, 8) /- 67 h3.root -/,
  .inl (0, 8) /- 68 h3.every -/,
  .inl (0, 8) /- 69 h3.nodes -/,
  .inl (0, 8) /- 70 h3.names -/,
  .inl (0, 8) /- 71 h3.targets -/,
  .inl (0, 4) /- 72 h3.values -/,
  .inr (.inr (4, [some (some 74), some (some 75), some (some 76), some (some 77), some (some 78), some (some 79), some (some 80), some (some 81), some (some 82), some (some 83), none])) /- 73 h4 -/,
  .inl (0, 60) /- 74 h4.kind -/,
  .inl (0, 60) /- 75 h4.left -/,
  .inl (0, 60) /- 76 h4.right -/,
  .inl (0, 60) /- 77 h4.number -/,
  .inl (0, 8) /- 78 h4.root -/,
  .inl (0, 8) /- 79 h4.every -/,
  .inl (0, 8) /- 80 h4.nodes -/,
  .inl (0, 8) /- 81 h4.names -/,
  .inl (0, 8) /- 82 h4.targets -/,
  .inl (0, 4) /- 83 h4.values -/,
  .inr (.inr (1, [some (some 2), some (some 85), some (some 86), some (some 87), some (some 88), some (some 89), none, none, none])) /- 84 ma -/,
  .inl (0, 4) /- 85 ma.values -/,
  .inl (0, 60) /- 86 ma.stage -/,
  .inl (0, 60) /- 87 ma.leftResult -/,
  .inl (0, 60) /- 88 ma.rangeEnd -/,
  .inl (0, 60) /- 89 ma.kept -/,
  .inr (.inr (2, [none, some (some 91), none, some (some 92), some (some 93), some (some 94), some (some 95), some (some 96)])) /- 90 ou -/,
  .inl (0, 240) /- 91 ou.said -/,
  .inl (0, 8) /- 92 ou.lineSaid -/,
  .inl (0, 8) /- 93 ou.lineWork -/,
  .inl (0, 8) /- 94 ou.lineCut -/,
  .inl (0, 8) /- 95 ou.lineLast -/,
  .inl (0, 4) /- 96 ou.ends -/,
  .inr (.inr (6, [some (some 98), some (some 99), some (some 100), none, some (some 101), some (some 102), none, none, none, some (some 103), none, none, some (some 104), some (some 105), none, some (some 106), some (some 107), none, none, some (some 108), some (some 109), some (some 110), some (some 111), some (some 112), none, none, none, none, none, none, none, some (some 113), some (some 114), none, some (some 115), some (some 116), some (some 117), some none])) /- 97 M -/,
  .inl (0, 89) /- 98 M.now -/,
  .inl (0, 89) /- 99 M.held -/,
  .inl (0, 445) /- 100 M.past -/,
  .inl (0, 3) /- 101 M.refused -/,
  .inl (0, 150) /- 102 M.text -/,
  .inl (0, 89) /- 103 M.read -/,
  .inl (0, 64) /- 104 M.parts -/,
  .inl (1, 64) /- 105 M.isName -/,
  .inl (0, 80) /- 106 M.signs -/,
  .inl (0, 80) /- 107 M.signNode -/,
  .inl (0, 60) /- 108 M.asker -/,
  .inl (0, 60) /- 109 M.phase -/,
  .inl (0, 60) /- 110 M.one -/,
  .inl (0, 60) /- 111 M.two -/,
  .inl (0, 4) /- 112 M.values -/,
  .inl (0, 60) /- 113 M.start -/,
  .inl (0, 240) /- 114 M.saidAll -/,
  .inl (0, 8) /- 115 M.lineSaid -/,
  .inl (0, 8) /- 116 M.lineWork -/,
  .inl (1, 8) /- 117 M.lineCut -/]
/-- YieldLines$History.leave(LYieldLines$State;)V -/
def kd_1 : List (Nat × yE) := [
  (0, (.aload_n 0, 1, 0, 0, .null, [], 0)),
  (1, (.getfield 11, 3, 0, 0, .null, [], 218)),
  (4, (.aload_n 0, 1, 0, 0, .null, [], 0)),
  (5, (.getfield 18, 3, 0, 1, .null, [], 219)),
  (8, (.aload_n 0, 1, 0, 0, .null, [], 0)),
  (9, (.getfield 22, 3, 0, 2, .null, [], 220)),
  (12, (.iadd, 1, 0, 0, .null, [], 0)),
  (13, (.iconst 5, 1, 0, 0, .int 5, [], 0)),
  (14, (.invokestatic 25, 3, 147, 0, .null, [], 456)),
  (17, (.aaload, 1, 0, 0, .null, [], 0)),
  (18, (.astore_n 2, 1, 0, 0, .null, [], 0)),
  (19, (.aload_n 2, 1, 0, 0, .null, [], 0)),
  (20, (.ifnull 8, 3, 28, 0, .null, [], 0)),
  (23, (.aload_n 2, 1, 0, 0, .null, [], 0)),
  (24, (.aload_n 1, 1, 0, 0, .null, [], 0)),
  (25, (.invokevirtual 31, 3, 48, 0, .null, [], 459)),
  (28, (.aload_n 0, 1, 0, 0, .null, [], 0)),
  (29, (.getfield 22, 3, 0, 2, .null, [], 220)),
  (32, (.iconst 5, 1, 0, 0, .int 5, [], 0)),
  (33, (.if_icmp .ge 16, 3, 49, 0, .null, [], 0)),
  (36, (.aload_n 0, 1, 0, 0, .null, [], 0)),
  (37, (.dup, 1, 0, 0, .null, [], 0)),
  (38, (.getfield 22, 3, 0, 2, .null, [], 220)),
  (41, (.iconst 1, 1, 0, 0, .int 1, [], 0)),
  (42, (.iadd, 1, 0, 0, .null, [], 0)),
  (43, (.putfield 22, 3, 0, 2, .ref 0, [], 220)),
  (46, (.goto 17, 3, 63, 0, .null, [], 0)),
  (49, (.aload_n 0, 1, 0, 0, .null, [], 0)),
  (50, (.aload_n 0, 1, 0, 0, .null, [], 0)),
  (51, (.getfield 18, 3, 0, 1, .null, [], 219)),
  (54, (.iconst 1, 1, 0, 0, .int 1, [], 0)),
  (55, (.iadd, 1, 0, 0, .null, [], 0)),
  (56, (.iconst 5, 1, 0, 0, .int 5, [], 0)),
  (57, (.invokestatic 25, 3, 147, 0, .null, [], 456)),
  (60, (.putfield 18, 3, 0, 1, .ref 0, [], 219)),
  (63, (.return_, 1, 0, 0, .null, [], 0))]
/-- YieldLines$History.takeInto(LYieldLines$State;)V -/
def kd_2 : List (Nat × yE) := [
  (0, (.aload_n 0, 1, 0, 0, .null, [], 0)),
  (1, (.getfield 22, 3, 0, 2, .null, [], 220)),
  (4, (.ifCond .ne 4, 3, 8, 0, .null, [], 0)),
  (7, (.return_, 1, 0, 0, .null, [], 0)),
  (8, (.aload_n 0, 1, 0, 0, .null, [], 0)),
  (9, (.dup, 1, 0, 0, .null, [], 0)),
  (10, (.getfield 22, 3, 0, 2, .null, [], 220)),
  (13, (.iconst 1, 1, 0, 0, .int 1, [], 0)),
  (14, (.isub, 1, 0, 0, .null, [], 0)),
  (15, (.putfield 22, 3, 0, 2, .ref 0, [], 220)),
  (18, (.aload_n 0, 1, 0, 0, .null, [], 0)),
  (19, (.getfield 11, 3, 0, 0, .null, [], 218)),
  (22, (.aload_n 0, 1, 0, 0, .null, [], 0)),
  (23, (.getfield 18, 3, 0, 1, .null, [], 219)),
  (26, (.aload_n 0, 1, 0, 0, .null, [], 0)),
  (27, (.getfield 22, 3, 0, 2, .null, [], 220)),
  (30, (.iadd, 1, 0, 0, .null, [], 0)),
  (31, (.iconst 5, 1, 0, 0, .int 5, [], 0)),
  (32, (.invokestatic 25, 3, 147, 0, .null, [], 456)),
  (35, (.aaload, 1, 0, 0, .null, [], 0)),
  (36, (.astore_n 2, 1, 0, 0, .null, [], 0)),
  (37, (.aload_n 2, 1, 0, 0, .null, [], 0)),
  (38, (.ifnull 8, 3, 46, 0, .null, [], 0)),
  (41, (.aload_n 1, 1, 0, 0, .null, [], 0)),
  (42, (.aload_n 2, 1, 0, 0, .null, [], 0)),
  (43, (.invokevirtual 31, 3, 48, 0, .null, [], 459)),
  (46, (.return_, 1, 0, 0, .null, [], 0))]
/-- YieldLines$Machine.beginRun()V -/
def kd_4 : List (Nat × yE) := [
  (0, (.aload_n 0, 1, 0, 0, .null, [], 0)),
  (1, (.getfield 27, 3, 1, 0, .null, [], 235)),
  (4, (.getfield 31, 3, 4, 9, .null, [], 136)),
  (7, (.iconst 0, 1, 0, 0, .int 0, [], 0)),
  (8, (.aload_n 0, 1, 0, 0, .null, [], 0)),
  (9, (.getfield 9, 3, 1, 1, .null, [], 236)),
  (12, (.iconst 0, 1, 0, 0, .int 0, [], 0)),
  (13, (.iconst 4, 1, 0, 0, .int 4, [], 0)),
  (14, (.invokestatic 34, 3, 999, 0, .null, [], 515)),
  (17, (.return_, 1, 0, 0, .null, [], 0))]
/-- YieldLines$Machine.beginLine(I)V -/
def kd_5 : List (Nat × yE) := [
  (0, (.aload_n 0, 1, 0, 0, .null, [], 0)),
  (1, (.iconst 0, 1, 0, 0, .int 0, [], 0)),
  (2, (.putfield 40, 3, 1, 7, .ref 0, [], 244)),
  (5, (.aload_n 0, 1, 0, 0, .null, [], 0)),
  (6, (.iconst 0, 1, 0, 0, .int 0, [], 0)),
  (7, (.putfield 44, 3, 1, 8, .ref 1, [], 246)),
  (10, (.aload_n 0, 1, 0, 0, .null, [], 0)),
  (11, (.iload_n 1, 1, 0, 0, .null, [], 0)),
  (12, (.invokevirtual 48, 3, 9, 0, .null, [], 525)),
  (15, (.return_, 1, 0, 0, .null, [], 0))]
/-- YieldLines$Machine.copyValuesTo([I)V -/
def kd_6 : List (Nat × yE) := [
  (0, (.aload_n 0, 1, 0, 0, .null, [], 0)),
  (1, (.getfield 9, 3, 1, 1, .null, [], 236)),
  (4, (.iconst 0, 1, 0, 0, .int 0, [], 0)),
  (5, (.aload_n 1, 1, 0, 0, .null, [], 0)),
  (6, (.iconst 0, 1, 0, 0, .int 0, [], 0)),
  (7, (.iconst 4, 1, 0, 0, .int 4, [], 0)),
  (8, (.aload_n 1, 1, 0, 0, .null, [], 0)),
  (9, (.arraylength, 1, 0, 0, .null, [], 0)),
  (10, (.invokestatic 52, 3, 149, 0, .null, [], 585)),
  (13, (.invokestatic 34, 3, 999, 0, .null, [], 515)),
  (16, (.return_, 1, 0, 0, .null, [], 0))]
/-- YieldLines$Machine.ask(II)Z -/
def kd_7 : List (Nat × yE) := [
  (0, (.aload_n 0, 1, 0, 0, .null, [], 0)),
  (1, (.getfield 44, 3, 1, 8, .null, [], 246)),
  (4, (.ifCond .ne 16, 3, 20, 0, .null, [], 0)),
  (7, (.iload_n 2, 1, 0, 0, .null, [], 0)),
  (8, (.bipush 60, 2, 0, 0, .int 60, [], 0)),
  (10, (.if_icmp .gt 10, 3, 20, 0, .null, [], 0)),
  (13, (.iload_n 1, 1, 0, 0, .null, [], 0)),
  (14, (.invokestatic 58, 3, 77, 1, .null, [], 529)),
  (17, (.ifCond .ne 5, 3, 22, 0, .null, [], 0)),
  (20, (.iconst 0, 1, 0, 0, .int 0, [], 0)),
  (21, (.ireturn, 1, 0, 0, .null, [], 0)),
  (22, (.aload_n 0, 1, 0, 0, .null, [], 0)),
  (23, (.getfield 27, 3, 1, 0, .null, [], 235)),
  (26, (.getfield 62, 3, 4, 0, .null, [], 107)),
  (29, (.iload_n 1, 1, 0, 0, .null, [], 0)),
  (30, (.iaload, 1, 0, 0, .null, [], 0)),
  (31, (.lookupswitch 99 #[(33, 85), (48, 65), (58, 92), (92, 78), (94, 92), (97, 65), (124, 71)], 65, 130, 0, .null, [(33, 116), (48, 96), (58, 123), (92, 109), (94, 123), (97, 96), (124, 102)], 0)),
  (96, (.aload_n 0, 1, 0, 0, .null, [], 0)),
  (97, (.iload_n 1, 1, 0, 0, .null, [], 0)),
  (98, (.invokevirtual 65, 3, 10, 0, .null, [], 534)),
  (101, (.ireturn, 1, 0, 0, .null, [], 0)),
  (102, (.aload_n 0, 1, 0, 0, .null, [], 0)),
  (103, (.iload_n 1, 1, 0, 0, .null, [], 0)),
  (104, (.iload_n 2, 1, 0, 0, .null, [], 0)),
  (105, (.invokevirtual 68, 3, 11, 0, .null, [], 543)),
  (108, (.ireturn, 1, 0, 0, .null, [], 0)),
  (109, (.aload_n 0, 1, 0, 0, .null, [], 0)),
  (110, (.iload_n 1, 1, 0, 0, .null, [], 0)),
  (111, (.iload_n 2, 1, 0, 0, .null, [], 0)),
  (112, (.invokevirtual 72, 3, 12, 0, .null, [], 548)),
  (115, (.ireturn, 1, 0, 0, .null, [], 0)),
  (116, (.aload_n 0, 1, 0, 0, .null, [], 0)),
  (117, (.iload_n 1, 1, 0, 0, .null, [], 0)),
  (118, (.iload_n 2, 1, 0, 0, .null, [], 0)),
  (119, (.invokevirtual 75, 3, 13, 0, .null, [], 552)),
  (122, (.ireturn, 1, 0, 0, .null, [], 0)),
  (123, (.aload_n 0, 1, 0, 0, .null, [], 0)),
  (124, (.iload_n 1, 1, 0, 0, .null, [], 0)),
  (125, (.iload_n 2, 1, 0, 0, .null, [], 0)),
  (126, (.invokevirtual 78, 3, 14, 0, .null, [], 556)),
  (129, (.ireturn, 1, 0, 0, .null, [], 0)),
  (130, (.aload_n 0, 1, 0, 0, .null, [], 0)),
  (131, (.iload_n 1, 1, 0, 0, .null, [], 0)),
  (132, (.iload_n 2, 1, 0, 0, .null, [], 0)),
  (133, (.invokevirtual 81, 3, 15, 0, .null, [], 560)),
  (136, (.ireturn, 1, 0, 0, .null, [], 0))]
/-- YieldLines$Machine.yields(I)Z -/
def kd_8 : List (Nat × yE) := [
  (0, (.aload_n 0, 1, 0, 0, .null, [], 0)),
  (1, (.getfield 40, 3, 1, 7, .null, [], 244)),
  (4, (.sipush 1000, 3, 0, 0, .int 1000, [], 0)),
  (7, (.if_icmp .lt 10, 3, 17, 0, .null, [], 0)),
  (10, (.aload_n 0, 1, 0, 0, .null, [], 0)),
  (11, (.iconst 1, 1, 0, 0, .int 1, [], 0)),
  (12, (.putfield 44, 3, 1, 8, .ref 1, [], 246)),
  (15, (.iconst 0, 1, 0, 0, .int 0, [], 0)),
  (16, (.ireturn, 1, 0, 0, .null, [], 0)),
  (17, (.aload_n 0, 1, 0, 0, .null, [], 0)),
  (18, (.dup, 1, 0, 0, .null, [], 0)),
  (19, (.getfield 40, 3, 1, 7, .null, [], 244)),
  (22, (.iconst 1, 1, 0, 0, .int 1, [], 0)),
  (23, (.iadd, 1, 0, 0, .null, [], 0)),
  (24, (.putfield 40, 3, 1, 7, .ref 0, [], 244)),
  (27, (.aload_n 0, 1, 0, 0, .null, [], 0)),
  (28, (.iload_n 1, 1, 0, 0, .null, [], 0)),
  (29, (.putfield 84, 3, 1, 6, .ref 0, [], 242)),
  (32, (.iconst 1, 1, 0, 0, .int 1, [], 0)),
  (33, (.ireturn, 1, 0, 0, .null, [], 0))]
/-- YieldLines$Machine.renew(I)V -/
def kd_9 : List (Nat × yE) := [
  (0, (.iload_n 1, 1, 0, 0, .null, [], 0)),
  (1, (.invokestatic 58, 3, 77, 1, .null, [], 529)),
  (4, (.ifCond .eq 10, 3, 14, 0, .null, [], 0)),
  (7, (.aload_n 0, 1, 0, 0, .null, [], 0)),
  (8, (.getfield 15, 3, 1, 2, .null, [], 237)),
  (11, (.iload_n 1, 1, 0, 0, .null, [], 0)),
  (12, (.iconst 0, 1, 0, 0, .int 0, [], 0)),
  (13, (.iastore, 1, 0, 0, .null, [], 0)),
  (14, (.return_, 1, 0, 0, .null, [], 0))]
/-- YieldLines$Machine.askLeaf(I)Z -/
def kd_10 : List (Nat × yE) := [
  (0, (.aload_n 0, 1, 0, 0, .null, [], 0)),
  (1, (.getfield 15, 3, 1, 2, .null, [], 237)),
  (4, (.iload_n 1, 1, 0, 0, .null, [], 0)),
  (5, (.iaload, 1, 0, 0, .null, [], 0)),
  (6, (.ifCond .eq 5, 3, 11, 0, .null, [], 0)),
  (9, (.iconst 0, 1, 0, 0, .int 0, [], 0)),
  (10, (.ireturn, 1, 0, 0, .null, [], 0)),
  (11, (.aload_n 0, 1, 0, 0, .null, [], 0)),
  (12, (.getfield 15, 3, 1, 2, .null, [], 237)),
  (15, (.iload_n 1, 1, 0, 0, .null, [], 0)),
  (16, (.iconst 4, 1, 0, 0, .int 4, [], 0)),
  (17, (.iastore, 1, 0, 0, .null, [], 0)),
  (18, (.aload_n 0, 1, 0, 0, .null, [], 0)),
  (19, (.getfield 27, 3, 1, 0, .null, [], 235)),
  (22, (.getfield 87, 3, 4, 3, .null, [], 117)),
  (25, (.iload_n 1, 1, 0, 0, .null, [], 0)),
  (26, (.iaload, 1, 0, 0, .null, [], 0)),
  (27, (.istore_n 2, 1, 0, 0, .null, [], 0)),
  (28, (.aload_n 0, 1, 0, 0, .null, [], 0)),
  (29, (.getfield 27, 3, 1, 0, .null, [], 235)),
  (32, (.getfield 62, 3, 4, 0, .null, [], 107)),
  (35, (.iload_n 1, 1, 0, 0, .null, [], 0)),
  (36, (.iaload, 1, 0, 0, .null, [], 0)),
  (37, (.bipush 48, 2, 0, 0, .int 48, [], 0)),
  (39, (.if_icmp .ne 9, 3, 48, 0, .null, [], 0)),
  (42, (.aload_n 0, 1, 0, 0, .null, [], 0)),
  (43, (.iload_n 2, 1, 0, 0, .null, [], 0)),
  (44, (.invokevirtual 90, 3, 8, 0, .null, [], 538)),
  (47, (.ireturn, 1, 0, 0, .null, [], 0)),
  (48, (.iload_n 2, 1, 0, 0, .null, [], 0)),
  (49, (.invokestatic 93, 3, 75, 1, .null, [], 542)),
  (52, (.ifCond .eq 20, 3, 72, 0, .null, [], 0)),
  (55, (.aload_n 0, 1, 0, 0, .null, [], 0)),
  (56, (.aload_n 0, 1, 0, 0, .null, [], 0)),
  (57, (.getfield 9, 3, 1, 1, .null, [], 236)),
  (60, (.iload_n 2, 1, 0, 0, .null, [], 0)),
  (61, (.iaload, 1, 0, 0, .null, [], 0)),
  (62, (.invokevirtual 90, 3, 8, 0, .null, [], 538)),
  (65, (.ifCond .eq 7, 3, 72, 0, .null, [], 0)),
  (68, (.iconst 1, 1, 0, 0, .int 1, [], 0)),
  (69, (.goto 4, 3, 73, 0, .null, [], 0)),
  (72, (.iconst 0, 1, 0, 0, .int 0, [], 0)),
  (73, (.ireturn, 1, 0, 0, .null, [], 0))]
/-- YieldLines$Machine.askEither(II)Z -/
def kd_11 : List (Nat × yE) := [
  (0, (.aload_n 0, 1, 0, 0, .null, [], 0)),
  (1, (.getfield 15, 3, 1, 2, .null, [], 237)),
  (4, (.iload_n 1, 1, 0, 0, .null, [], 0)),
  (5, (.iaload, 1, 0, 0, .null, [], 0)),
  (6, (.ifCond .ne 23, 3, 29, 0, .null, [], 0)),
  (9, (.aload_n 0, 1, 0, 0, .null, [], 0)),
  (10, (.getfield 15, 3, 1, 2, .null, [], 237)),
  (13, (.iload_n 1, 1, 0, 0, .null, [], 0)),
  (14, (.iconst 1, 1, 0, 0, .int 1, [], 0)),
  (15, (.iastore, 1, 0, 0, .null, [], 0)),
  (16, (.aload_n 0, 1, 0, 0, .null, [], 0)),
  (17, (.aload_n 0, 1, 0, 0, .null, [], 0)),
  (18, (.getfield 27, 3, 1, 0, .null, [], 235)),
  (21, (.getfield 96, 3, 4, 1, .null, [], 110)),
  (24, (.iload_n 1, 1, 0, 0, .null, [], 0)),
  (25, (.iaload, 1, 0, 0, .null, [], 0)),
  (26, (.invokevirtual 48, 3, 9, 0, .null, [], 525)),
  (29, (.aload_n 0, 1, 0, 0, .null, [], 0)),
  (30, (.getfield 15, 3, 1, 2, .null, [], 237)),
  (33, (.iload_n 1, 1, 0, 0, .null, [], 0)),
  (34, (.iaload, 1, 0, 0, .null, [], 0)),
  (35, (.iconst 1, 1, 0, 0, .int 1, [], 0)),
  (36, (.if_icmp .ne 51, 3, 87, 0, .null, [], 0)),
  (39, (.aload_n 0, 1, 0, 0, .null, [], 0)),
  (40, (.aload_n 0, 1, 0, 0, .null, [], 0)),
  (41, (.getfield 27, 3, 1, 0, .null, [], 235)),
  (44, (.getfield 96, 3, 4, 1, .null, [], 110)),
  (47, (.iload_n 1, 1, 0, 0, .null, [], 0)),
  (48, (.iaload, 1, 0, 0, .null, [], 0)),
  (49, (.iload_n 2, 1, 0, 0, .null, [], 0)),
  (50, (.iconst 1, 1, 0, 0, .int 1, [], 0)),
  (51, (.iadd, 1, 0, 0, .null, [], 0)),
  (52, (.invokevirtual 99, 3, 7, 0, .null, [], 547)),
  (55, (.ifCond .eq 12, 3, 67, 0, .null, [], 0)),
  (58, (.aload_n 0, 1, 0, 0, .null, [], 0)),
  (59, (.aload_n 0, 1, 0, 0, .null, [], 0)),
  (60, (.getfield 84, 3, 1, 6, .null, [], 242)),
  (63, (.invokevirtual 90, 3, 8, 0, .null, [], 538)),
  (66, (.ireturn, 1, 0, 0, .null, [], 0)),
  (67, (.aload_n 0, 1, 0, 0, .null, [], 0)),
  (68, (.getfield 15, 3, 1, 2, .null, [], 237)),
  (71, (.iload_n 1, 1, 0, 0, .null, [], 0)),
  (72, (.iconst 2, 1, 0, 0, .int 2, [], 0)),
  (73, (.iastore, 1, 0, 0, .null, [], 0)),
  (74, (.aload_n 0, 1, 0, 0, .null, [], 0)),
  (75, (.aload_n 0, 1, 0, 0, .null, [], 0)),
  (76, (.getfield 27, 3, 1, 0, .null, [], 235)),
  (79, (.getfield 102, 3, 4, 2, .null, [], 113)),
  (82, (.iload_n 1, 1, 0, 0, .null, [], 0)),
  (83, (.iaload, 1, 0, 0, .null, [], 0)),
  (84, (.invokevirtual 48, 3, 9, 0, .null, [], 525)),
  (87, (.aload_n 0, 1, 0, 0, .null, [], 0)),
  (88, (.aload_n 0, 1, 0, 0, .null, [], 0)),
  (89, (.getfield 27, 3, 1, 0, .null, [], 235)),
  (92, (.getfield 102, 3, 4, 2, .null, [], 113)),
  (95, (.iload_n 1, 1, 0, 0, .null, [], 0)),
  (96, (.iaload, 1, 0, 0, .null, [], 0)),
  (97, (.iload_n 2, 1, 0, 0, .null, [], 0)),
  (98, (.iconst 1, 1, 0, 0, .int 1, [], 0)),
  (99, (.iadd, 1, 0, 0, .null, [], 0)),
  (100, (.invokevirtual 99, 3, 7, 0, .null, [], 547)),
  (103, (.ifCond .eq 18, 3, 121, 0, .null, [], 0)),
  (106, (.aload_n 0, 1, 0, 0, .null, [], 0)),
  (107, (.aload_n 0, 1, 0, 0, .null, [], 0)),
  (108, (.getfield 84, 3, 1, 6, .null, [], 242)),
  (111, (.invokevirtual 90, 3, 8, 0, .null, [], 538)),
  (114, (.ifCond .eq 7, 3, 121, 0, .null, [], 0)),
  (117, (.iconst 1, 1, 0, 0, .int 1, [], 0)),
  (118, (.goto 4, 3, 122, 0, .null, [], 0)),
  (121, (.iconst 0, 1, 0, 0, .int 0, [], 0)),
  (122, (.ireturn, 1, 0, 0, .null, [], 0))]
/-- YieldLines$Machine.askFirst(II)Z -/
def kd_12 : List (Nat × yE) := [
  (0, (.aload_n 0, 1, 0, 0, .null, [], 0)),
  (1, (.getfield 15, 3, 1, 2, .null, [], 237)),
  (4, (.iload_n 1, 1, 0, 0, .null, [], 0)),
  (5, (.iaload, 1, 0, 0, .null, [], 0)),
  (6, (.ifCond .ne 30, 3, 36, 0, .null, [], 0)),
  (9, (.aload_n 0, 1, 0, 0, .null, [], 0)),
  (10, (.getfield 15, 3, 1, 2, .null, [], 237)),
  (13, (.iload_n 1, 1, 0, 0, .null, [], 0)),
  (14, (.iconst 2, 1, 0, 0, .int 2, [], 0)),
  (15, (.iastore, 1, 0, 0, .null, [], 0)),
  (16, (.aload_n 0, 1, 0, 0, .null, [], 0)),
  (17, (.getfield 24, 3, 1, 5, .null, [], 240)),
  (20, (.iload_n 1, 1, 0, 0, .null, [], 0)),
  (21, (.iconst 0, 1, 0, 0, .int 0, [], 0)),
  (22, (.iastore, 1, 0, 0, .null, [], 0)),
  (23, (.aload_n 0, 1, 0, 0, .null, [], 0)),
  (24, (.aload_n 0, 1, 0, 0, .null, [], 0)),
  (25, (.getfield 27, 3, 1, 0, .null, [], 235)),
  (28, (.getfield 102, 3, 4, 2, .null, [], 113)),
  (31, (.iload_n 1, 1, 0, 0, .null, [], 0)),
  (32, (.iaload, 1, 0, 0, .null, [], 0)),
  (33, (.invokevirtual 48, 3, 9, 0, .null, [], 525)),
  (36, (.aload_n 0, 1, 0, 0, .null, [], 0)),
  (37, (.getfield 24, 3, 1, 5, .null, [], 240)),
  (40, (.iload_n 1, 1, 0, 0, .null, [], 0)),
  (41, (.iaload, 1, 0, 0, .null, [], 0)),
  (42, (.aload_n 0, 1, 0, 0, .null, [], 0)),
  (43, (.getfield 27, 3, 1, 0, .null, [], 235)),
  (46, (.getfield 87, 3, 4, 3, .null, [], 117)),
  (49, (.iload_n 1, 1, 0, 0, .null, [], 0)),
  (50, (.iaload, 1, 0, 0, .null, [], 0)),
  (51, (.if_icmp .ge 22, 3, 73, 0, .null, [], 0)),
  (54, (.aload_n 0, 1, 0, 0, .null, [], 0)),
  (55, (.aload_n 0, 1, 0, 0, .null, [], 0)),
  (56, (.getfield 27, 3, 1, 0, .null, [], 235)),
  (59, (.getfield 102, 3, 4, 2, .null, [], 113)),
  (62, (.iload_n 1, 1, 0, 0, .null, [], 0)),
  (63, (.iaload, 1, 0, 0, .null, [], 0)),
  (64, (.iload_n 2, 1, 0, 0, .null, [], 0)),
  (65, (.iconst 1, 1, 0, 0, .int 1, [], 0)),
  (66, (.iadd, 1, 0, 0, .null, [], 0)),
  (67, (.invokevirtual 99, 3, 7, 0, .null, [], 547)),
  (70, (.ifCond .ne 5, 3, 75, 0, .null, [], 0)),
  (73, (.iconst 0, 1, 0, 0, .int 0, [], 0)),
  (74, (.ireturn, 1, 0, 0, .null, [], 0)),
  (75, (.aload_n 0, 1, 0, 0, .null, [], 0)),
  (76, (.getfield 24, 3, 1, 5, .null, [], 240)),
  (79, (.iload_n 1, 1, 0, 0, .null, [], 0)),
  (80, (.dup2, 1, 0, 0, .null, [], 0)),
  (81, (.iaload, 1, 0, 0, .null, [], 0)),
  (82, (.iconst 1, 1, 0, 0, .int 1, [], 0)),
  (83, (.iadd, 1, 0, 0, .null, [], 0)),
  (84, (.iastore, 1, 0, 0, .null, [], 0)),
  (85, (.aload_n 0, 1, 0, 0, .null, [], 0)),
  (86, (.aload_n 0, 1, 0, 0, .null, [], 0)),
  (87, (.getfield 84, 3, 1, 6, .null, [], 242)),
  (90, (.invokevirtual 90, 3, 8, 0, .null, [], 538)),
  (93, (.ireturn, 1, 0, 0, .null, [], 0))]
/-- YieldLines$Machine.askWhetherNone(II)Z -/
def kd_13 : List (Nat × yE) := [
  (0, (.aload_n 0, 1, 0, 0, .null, [], 0)),
  (1, (.getfield 15, 3, 1, 2, .null, [], 237)),
  (4, (.iload_n 1, 1, 0, 0, .null, [], 0)),
  (5, (.iaload, 1, 0, 0, .null, [], 0)),
  (6, (.ifCond .eq 5, 3, 11, 0, .null, [], 0)),
  (9, (.iconst 0, 1, 0, 0, .int 0, [], 0)),
  (10, (.ireturn, 1, 0, 0, .null, [], 0)),
  (11, (.aload_n 0, 1, 0, 0, .null, [], 0)),
  (12, (.getfield 15, 3, 1, 2, .null, [], 237)),
  (15, (.iload_n 1, 1, 0, 0, .null, [], 0)),
  (16, (.iconst 4, 1, 0, 0, .int 4, [], 0)),
  (17, (.iastore, 1, 0, 0, .null, [], 0)),
  (18, (.aload_n 0, 1, 0, 0, .null, [], 0)),
  (19, (.aload_n 0, 1, 0, 0, .null, [], 0)),
  (20, (.getfield 27, 3, 1, 0, .null, [], 235)),
  (23, (.getfield 102, 3, 4, 2, .null, [], 113)),
  (26, (.iload_n 1, 1, 0, 0, .null, [], 0)),
  (27, (.iaload, 1, 0, 0, .null, [], 0)),
  (28, (.invokevirtual 48, 3, 9, 0, .null, [], 525)),
  (31, (.aload_n 0, 1, 0, 0, .null, [], 0)),
  (32, (.aload_n 0, 1, 0, 0, .null, [], 0)),
  (33, (.getfield 27, 3, 1, 0, .null, [], 235)),
  (36, (.getfield 102, 3, 4, 2, .null, [], 113)),
  (39, (.iload_n 1, 1, 0, 0, .null, [], 0)),
  (40, (.iaload, 1, 0, 0, .null, [], 0)),
  (41, (.iload_n 2, 1, 0, 0, .null, [], 0)),
  (42, (.iconst 1, 1, 0, 0, .int 1, [], 0)),
  (43, (.iadd, 1, 0, 0, .null, [], 0)),
  (44, (.invokevirtual 99, 3, 7, 0, .null, [], 547)),
  (47, (.ifCond .ne 15, 3, 62, 0, .null, [], 0)),
  (50, (.aload_n 0, 1, 0, 0, .null, [], 0)),
  (51, (.iconst 0, 1, 0, 0, .int 0, [], 0)),
  (52, (.invokevirtual 90, 3, 8, 0, .null, [], 538)),
  (55, (.ifCond .eq 7, 3, 62, 0, .null, [], 0)),
  (58, (.iconst 1, 1, 0, 0, .int 1, [], 0)),
  (59, (.goto 4, 3, 63, 0, .null, [], 0)),
  (62, (.iconst 0, 1, 0, 0, .int 0, [], 0)),
  (63, (.ireturn, 1, 0, 0, .null, [], 0))]
/-- YieldLines$Machine.askTarget(II)Z -/
def kd_14 : List (Nat × yE) := [
  (0, (.aload_n 0, 1, 0, 0, .null, [], 0)),
  (1, (.getfield 27, 3, 1, 0, .null, [], 235)),
  (4, (.getfield 87, 3, 4, 3, .null, [], 117)),
  (7, (.iload_n 1, 1, 0, 0, .null, [], 0)),
  (8, (.iaload, 1, 0, 0, .null, [], 0)),
  (9, (.istore_n 3, 1, 0, 0, .null, [], 0)),
  (10, (.iload_n 3, 1, 0, 0, .null, [], 0)),
  (11, (.invokestatic 93, 3, 75, 1, .null, [], 542)),
  (14, (.ifCond .ne 5, 3, 19, 0, .null, [], 0)),
  (17, (.iconst 0, 1, 0, 0, .int 0, [], 0)),
  (18, (.ireturn, 1, 0, 0, .null, [], 0)),
  (19, (.aload_n 0, 1, 0, 0, .null, [], 0)),
  (20, (.getfield 15, 3, 1, 2, .null, [], 237)),
  (23, (.iload_n 1, 1, 0, 0, .null, [], 0)),
  (24, (.iaload, 1, 0, 0, .null, [], 0)),
  (25, (.ifCond .ne 19, 3, 44, 0, .null, [], 0)),
  (28, (.aload_n 0, 1, 0, 0, .null, [], 0)),
  (29, (.aload_n 0, 1, 0, 0, .null, [], 0)),
  (30, (.getfield 27, 3, 1, 0, .null, [], 235)),
  (33, (.getfield 102, 3, 4, 2, .null, [], 113)),
  (36, (.iload_n 1, 1, 0, 0, .null, [], 0)),
  (37, (.iaload, 1, 0, 0, .null, [], 0)),
  (38, (.invokevirtual 48, 3, 9, 0, .null, [], 525)),
  (41, (.goto 29, 3, 70, 0, .null, [], 0)),
  (44, (.aload_n 0, 1, 0, 0, .null, [], 0)),
  (45, (.getfield 27, 3, 1, 0, .null, [], 235)),
  (48, (.getfield 62, 3, 4, 0, .null, [], 107)),
  (51, (.iload_n 1, 1, 0, 0, .null, [], 0)),
  (52, (.iaload, 1, 0, 0, .null, [], 0)),
  (53, (.bipush 94, 2, 0, 0, .int 94, [], 0)),
  (55, (.if_icmp .ne 15, 3, 70, 0, .null, [], 0)),
  (58, (.aload_n 0, 1, 0, 0, .null, [], 0)),
  (59, (.getfield 9, 3, 1, 1, .null, [], 236)),
  (62, (.iload_n 3, 1, 0, 0, .null, [], 0)),
  (63, (.aload_n 0, 1, 0, 0, .null, [], 0)),
  (64, (.getfield 24, 3, 1, 5, .null, [], 240)),
  (67, (.iload_n 1, 1, 0, 0, .null, [], 0)),
  (68, (.iaload, 1, 0, 0, .null, [], 0)),
  (69, (.iastore, 1, 0, 0, .null, [], 0)),
  (70, (.aload_n 0, 1, 0, 0, .null, [], 0)),
  (71, (.getfield 15, 3, 1, 2, .null, [], 237)),
  (74, (.iload_n 1, 1, 0, 0, .null, [], 0)),
  (75, (.iconst 2, 1, 0, 0, .int 2, [], 0)),
  (76, (.iastore, 1, 0, 0, .null, [], 0)),
  (77, (.aload_n 0, 1, 0, 0, .null, [], 0)),
  (78, (.aload_n 0, 1, 0, 0, .null, [], 0)),
  (79, (.getfield 27, 3, 1, 0, .null, [], 235)),
  (82, (.getfield 102, 3, 4, 2, .null, [], 113)),
  (85, (.iload_n 1, 1, 0, 0, .null, [], 0)),
  (86, (.iaload, 1, 0, 0, .null, [], 0)),
  (87, (.iload_n 2, 1, 0, 0, .null, [], 0)),
  (88, (.iconst 1, 1, 0, 0, .int 1, [], 0)),
  (89, (.iadd, 1, 0, 0, .null, [], 0)),
  (90, (.invokevirtual 99, 3, 7, 0, .null, [], 547)),
  (93, (.ifCond .ne 5, 3, 98, 0, .null, [], 0)),
  (96, (.iconst 0, 1, 0, 0, .int 0, [], 0)),
  (97, (.ireturn, 1, 0, 0, .null, [], 0)),
  (98, (.aload_n 0, 1, 0, 0, .null, [], 0)),
  (99, (.getfield 24, 3, 1, 5, .null, [], 240)),
  (102, (.iload_n 1, 1, 0, 0, .null, [], 0)),
  (103, (.aload_n 0, 1, 0, 0, .null, [], 0)),
  (104, (.getfield 9, 3, 1, 1, .null, [], 236)),
  (107, (.iload_n 3, 1, 0, 0, .null, [], 0)),
  (108, (.iaload, 1, 0, 0, .null, [], 0)),
  (109, (.iastore, 1, 0, 0, .null, [], 0)),
  (110, (.aload_n 0, 1, 0, 0, .null, [], 0)),
  (111, (.getfield 9, 3, 1, 1, .null, [], 236)),
  (114, (.iload_n 3, 1, 0, 0, .null, [], 0)),
  (115, (.aload_n 0, 1, 0, 0, .null, [], 0)),
  (116, (.getfield 84, 3, 1, 6, .null, [], 242)),
  (119, (.iastore, 1, 0, 0, .null, [], 0)),
  (120, (.aload_n 0, 1, 0, 0, .null, [], 0)),
  (121, (.aload_n 0, 1, 0, 0, .null, [], 0)),
  (122, (.getfield 84, 3, 1, 6, .null, [], 242)),
  (125, (.invokevirtual 90, 3, 8, 0, .null, [], 538)),
  (128, (.ireturn, 1, 0, 0, .null, [], 0))]
/-- YieldLines$Machine.askPair(II)Z -/
def kd_15 : List (Nat × yE) := [
  (0, (.aload_n 0, 1, 0, 0, .null, [], 0)),
  (1, (.getfield 15, 3, 1, 2, .null, [], 237)),
  (4, (.iload_n 1, 1, 0, 0, .null, [], 0)),
  (5, (.iaload, 1, 0, 0, .null, [], 0)),
  (6, (.ifCond .ne 23, 3, 29, 0, .null, [], 0)),
  (9, (.aload_n 0, 1, 0, 0, .null, [], 0)),
  (10, (.getfield 15, 3, 1, 2, .null, [], 237)),
  (13, (.iload_n 1, 1, 0, 0, .null, [], 0)),
  (14, (.iconst 1, 1, 0, 0, .int 1, [], 0)),
  (15, (.iastore, 1, 0, 0, .null, [], 0)),
  (16, (.aload_n 0, 1, 0, 0, .null, [], 0)),
  (17, (.aload_n 0, 1, 0, 0, .null, [], 0)),
  (18, (.getfield 27, 3, 1, 0, .null, [], 235)),
  (21, (.getfield 96, 3, 4, 1, .null, [], 110)),
  (24, (.iload_n 1, 1, 0, 0, .null, [], 0)),
  (25, (.iaload, 1, 0, 0, .null, [], 0)),
  (26, (.invokevirtual 48, 3, 9, 0, .null, [], 525)),
  (29, (.aload_n 0, 1, 0, 0, .null, [], 0)),
  (30, (.getfield 15, 3, 1, 2, .null, [], 237)),
  (33, (.iload_n 1, 1, 0, 0, .null, [], 0)),
  (34, (.iaload, 1, 0, 0, .null, [], 0)),
  (35, (.iconst 3, 1, 0, 0, .int 3, [], 0)),
  (36, (.if_icmp .ne 46, 3, 82, 0, .null, [], 0)),
  (39, (.aload_n 0, 1, 0, 0, .null, [], 0)),
  (40, (.getfield 24, 3, 1, 5, .null, [], 240)),
  (43, (.iload_n 1, 1, 0, 0, .null, [], 0)),
  (44, (.iaload, 1, 0, 0, .null, [], 0)),
  (45, (.aload_n 0, 1, 0, 0, .null, [], 0)),
  (46, (.getfield 21, 3, 1, 4, .null, [], 239)),
  (49, (.iload_n 1, 1, 0, 0, .null, [], 0)),
  (50, (.iaload, 1, 0, 0, .null, [], 0)),
  (51, (.if_icmp .ge 24, 3, 75, 0, .null, [], 0)),
  (54, (.aload_n 0, 1, 0, 0, .null, [], 0)),
  (55, (.getfield 24, 3, 1, 5, .null, [], 240)),
  (58, (.iload_n 1, 1, 0, 0, .null, [], 0)),
  (59, (.dup2, 1, 0, 0, .null, [], 0)),
  (60, (.iaload, 1, 0, 0, .null, [], 0)),
  (61, (.iconst 1, 1, 0, 0, .int 1, [], 0)),
  (62, (.iadd, 1, 0, 0, .null, [], 0)),
  (63, (.iastore, 1, 0, 0, .null, [], 0)),
  (64, (.aload_n 0, 1, 0, 0, .null, [], 0)),
  (65, (.aload_n 0, 1, 0, 0, .null, [], 0)),
  (66, (.getfield 24, 3, 1, 5, .null, [], 240)),
  (69, (.iload_n 1, 1, 0, 0, .null, [], 0)),
  (70, (.iaload, 1, 0, 0, .null, [], 0)),
  (71, (.invokevirtual 90, 3, 8, 0, .null, [], 538)),
  (74, (.ireturn, 1, 0, 0, .null, [], 0)),
  (75, (.aload_n 0, 1, 0, 0, .null, [], 0)),
  (76, (.getfield 15, 3, 1, 2, .null, [], 237)),
  (79, (.iload_n 1, 1, 0, 0, .null, [], 0)),
  (80, (.iconst 2, 1, 0, 0, .int 2, [], 0)),
  (81, (.iastore, 1, 0, 0, .null, [], 0)),
  (82, (.iconst 0, 1, 0, 0, .int 0, [], 0)),
  (83, (.istore_n 3, 1, 0, 0, .null, [], 0)),
  (84, (.iload_n 3, 1, 0, 0, .null, [], 0)),
  (85, (.sipush 2002, 3, 0, 0, .int 2002, [], 0)),
  (88, (.if_icmp .ge 133, 3, 221, 0, .null, [], 0)),
  (91, (.aload_n 0, 1, 0, 0, .null, [], 0)),
  (92, (.getfield 15, 3, 1, 2, .null, [], 237)),
  (95, (.iload_n 1, 1, 0, 0, .null, [], 0)),
  (96, (.iaload, 1, 0, 0, .null, [], 0)),
  (97, (.iconst 1, 1, 0, 0, .int 1, [], 0)),
  (98, (.if_icmp .ne 54, 3, 152, 0, .null, [], 0)),
  (101, (.aload_n 0, 1, 0, 0, .null, [], 0)),
  (102, (.aload_n 0, 1, 0, 0, .null, [], 0)),
  (103, (.getfield 27, 3, 1, 0, .null, [], 235)),
  (106, (.getfield 96, 3, 4, 1, .null, [], 110)),
  (109, (.iload_n 1, 1, 0, 0, .null, [], 0)),
  (110, (.iaload, 1, 0, 0, .null, [], 0)),
  (111, (.iload_n 2, 1, 0, 0, .null, [], 0)),
  (112, (.iconst 1, 1, 0, 0, .int 1, [], 0)),
  (113, (.iadd, 1, 0, 0, .null, [], 0)),
  (114, (.invokevirtual 99, 3, 7, 0, .null, [], 547)),
  (117, (.ifCond .ne 5, 3, 122, 0, .null, [], 0)),
  (120, (.iconst 0, 1, 0, 0, .int 0, [], 0)),
  (121, (.ireturn, 1, 0, 0, .null, [], 0)),
  (122, (.aload_n 0, 1, 0, 0, .null, [], 0)),
  (123, (.getfield 18, 3, 1, 3, .null, [], 238)),
  (126, (.iload_n 1, 1, 0, 0, .null, [], 0)),
  (127, (.aload_n 0, 1, 0, 0, .null, [], 0)),
  (128, (.getfield 84, 3, 1, 6, .null, [], 242)),
  (131, (.iastore, 1, 0, 0, .null, [], 0)),
  (132, (.aload_n 0, 1, 0, 0, .null, [], 0)),
  (133, (.getfield 15, 3, 1, 2, .null, [], 237)),
  (136, (.iload_n 1, 1, 0, 0, .null, [], 0)),
  (137, (.iconst 2, 1, 0, 0, .int 2, [], 0)),
  (138, (.iastore, 1, 0, 0, .null, [], 0)),
  (139, (.aload_n 0, 1, 0, 0, .null, [], 0)),
  (140, (.aload_n 0, 1, 0, 0, .null, [], 0)),
  (141, (.getfield 27, 3, 1, 0, .null, [], 235)),
  (144, (.getfield 102, 3, 4, 2, .null, [], 113)),
  (147, (.iload_n 1, 1, 0, 0, .null, [], 0)),
  (148, (.iaload, 1, 0, 0, .null, [], 0)),
  (149, (.invokevirtual 48, 3, 9, 0, .null, [], 525)),
  (152, (.aload_n 0, 1, 0, 0, .null, [], 0)),
  (153, (.aload_n 0, 1, 0, 0, .null, [], 0)),
  (154, (.getfield 27, 3, 1, 0, .null, [], 235)),
  (157, (.getfield 102, 3, 4, 2, .null, [], 113)),
  (160, (.iload_n 1, 1, 0, 0, .null, [], 0)),
  (161, (.iaload, 1, 0, 0, .null, [], 0)),
  (162, (.iload_n 2, 1, 0, 0, .null, [], 0)),
  (163, (.iconst 1, 1, 0, 0, .int 1, [], 0)),
  (164, (.iadd, 1, 0, 0, .null, [], 0)),
  (165, (.invokevirtual 99, 3, 7, 0, .null, [], 547)),
  (168, (.ifCond .ne 13, 3, 181, 0, .null, [], 0)),
  (171, (.aload_n 0, 1, 0, 0, .null, [], 0)),
  (172, (.getfield 15, 3, 1, 2, .null, [], 237)),
  (175, (.iload_n 1, 1, 0, 0, .null, [], 0)),
  (176, (.iconst 1, 1, 0, 0, .int 1, [], 0)),
  (177, (.iastore, 1, 0, 0, .null, [], 0)),
  (178, (.goto 37, 3, 215, 0, .null, [], 0)),
  (181, (.aload_n 0, 1, 0, 0, .null, [], 0)),
  (182, (.iload_n 1, 1, 0, 0, .null, [], 0)),
  (183, (.aload_n 0, 1, 0, 0, .null, [], 0)),
  (184, (.getfield 18, 3, 1, 3, .null, [], 238)),
  (187, (.iload_n 1, 1, 0, 0, .null, [], 0)),
  (188, (.iaload, 1, 0, 0, .null, [], 0)),
  (189, (.aload_n 0, 1, 0, 0, .null, [], 0)),
  (190, (.getfield 84, 3, 1, 6, .null, [], 242)),
  (193, (.invokevirtual 105, 3, 16, 0, .null, [], 564)),
  (196, (.ifCond .eq 19, 3, 215, 0, .null, [], 0)),
  (199, (.aload_n 0, 1, 0, 0, .null, [], 0)),
  (200, (.iload_n 1, 1, 0, 0, .null, [], 0)),
  (201, (.aload_n 0, 1, 0, 0, .null, [], 0)),
  (202, (.getfield 18, 3, 1, 3, .null, [], 238)),
  (205, (.iload_n 1, 1, 0, 0, .null, [], 0)),
  (206, (.iaload, 1, 0, 0, .null, [], 0)),
  (207, (.aload_n 0, 1, 0, 0, .null, [], 0)),
  (208, (.getfield 84, 3, 1, 6, .null, [], 242)),
  (211, (.invokevirtual 109, 3, 17, 0, .null, [], 572)),
  (214, (.ireturn, 1, 0, 0, .null, [], 0)),
  (215, (.iinc 3 1, 3, 0, 0, .int 1, [], 0)),
  (218, (.goto (-134), 3, 84, 0, .null, [], 0)),
  (221, (.iconst 0, 1, 0, 0, .int 0, [], 0)),
  (222, (.ireturn, 1, 0, 0, .null, [], 0))]
/-- YieldLines$Machine.hasResult(III)Z -/
def kd_16 : List (Nat × yE) := [
  (0, (.aload_n 0, 1, 0, 0, .null, [], 0)),
  (1, (.getfield 27, 3, 1, 0, .null, [], 235)),
  (4, (.getfield 62, 3, 4, 0, .null, [], 107)),
  (7, (.iload_n 1, 1, 0, 0, .null, [], 0)),
  (8, (.iaload, 1, 0, 0, .null, [], 0)),
  (9, (.lookupswitch 87 #[(60, 54), (61, 76), (62, 65), (126, 43)], 43, 96, 0, .null, [(60, 63), (61, 85), (62, 74), (126, 52)], 0)),
  (52, (.iload_n 2, 1, 0, 0, .null, [], 0)),
  (53, (.iload_n 3, 1, 0, 0, .null, [], 0)),
  (54, (.if_icmp .gt 7, 3, 61, 0, .null, [], 0)),
  (57, (.iconst 1, 1, 0, 0, .int 1, [], 0)),
  (58, (.goto 4, 3, 62, 0, .null, [], 0)),
  (61, (.iconst 0, 1, 0, 0, .int 0, [], 0)),
  (62, (.ireturn, 1, 0, 0, .null, [], 0)),
  (63, (.iload_n 2, 1, 0, 0, .null, [], 0)),
  (64, (.iload_n 3, 1, 0, 0, .null, [], 0)),
  (65, (.if_icmp .ge 7, 3, 72, 0, .null, [], 0)),
  (68, (.iconst 1, 1, 0, 0, .int 1, [], 0)),
  (69, (.goto 4, 3, 73, 0, .null, [], 0)),
  (72, (.iconst 0, 1, 0, 0, .int 0, [], 0)),
  (73, (.ireturn, 1, 0, 0, .null, [], 0)),
  (74, (.iload_n 2, 1, 0, 0, .null, [], 0)),
  (75, (.iload_n 3, 1, 0, 0, .null, [], 0)),
  (76, (.if_icmp .le 7, 3, 83, 0, .null, [], 0)),
  (79, (.iconst 1, 1, 0, 0, .int 1, [], 0)),
  (80, (.goto 4, 3, 84, 0, .null, [], 0)),
  (83, (.iconst 0, 1, 0, 0, .int 0, [], 0)),
  (84, (.ireturn, 1, 0, 0, .null, [], 0)),
  (85, (.iload_n 2, 1, 0, 0, .null, [], 0)),
  (86, (.iload_n 3, 1, 0, 0, .null, [], 0)),
  (87, (.if_icmp .ne 7, 3, 94, 0, .null, [], 0)),
  (90, (.iconst 1, 1, 0, 0, .int 1, [], 0)),
  (91, (.goto 4, 3, 95, 0, .null, [], 0)),
  (94, (.iconst 0, 1, 0, 0, .int 0, [], 0)),
  (95, (.ireturn, 1, 0, 0, .null, [], 0)),
  (96, (.aload_n 0, 1, 0, 0, .null, [], 0)),
  (97, (.getfield 27, 3, 1, 0, .null, [], 235)),
  (100, (.getfield 62, 3, 4, 0, .null, [], 107)),
  (103, (.iload_n 1, 1, 0, 0, .null, [], 0)),
  (104, (.iaload, 1, 0, 0, .null, [], 0)),
  (105, (.iload_n 2, 1, 0, 0, .null, [], 0)),
  (106, (.i2l, 1, 0, 0, .null, [], 0)),
  (107, (.iload_n 3, 1, 0, 0, .null, [], 0)),
  (108, (.i2l, 1, 0, 0, .null, [], 0)),
  (109, (.invokestatic 112, 3, 18, 0, .null, [], 568)),
  (112, (.invokestatic 116, 3, 78, 1, .null, [], 571)),
  (115, (.ireturn, 1, 0, 0, .null, [], 0))]
/-- YieldLines$Machine.yieldsOfPair(III)Z -/
def kd_17 : List (Nat × yE) := [
  (0, (.aload_n 0, 1, 0, 0, .null, [], 0)),
  (1, (.getfield 27, 3, 1, 0, .null, [], 235)),
  (4, (.getfield 62, 3, 4, 0, .null, [], 107)),
  (7, (.iload_n 1, 1, 0, 0, .null, [], 0)),
  (8, (.iaload, 1, 0, 0, .null, [], 0)),
  (9, (.bipush 126, 2, 0, 0, .int 126, [], 0)),
  (11, (.if_icmp .ne 30, 3, 41, 0, .null, [], 0)),
  (14, (.aload_n 0, 1, 0, 0, .null, [], 0)),
  (15, (.getfield 15, 3, 1, 2, .null, [], 237)),
  (18, (.iload_n 1, 1, 0, 0, .null, [], 0)),
  (19, (.iconst 3, 1, 0, 0, .int 3, [], 0)),
  (20, (.iastore, 1, 0, 0, .null, [], 0)),
  (21, (.aload_n 0, 1, 0, 0, .null, [], 0)),
  (22, (.getfield 24, 3, 1, 5, .null, [], 240)),
  (25, (.iload_n 1, 1, 0, 0, .null, [], 0)),
  (26, (.iload_n 2, 1, 0, 0, .null, [], 0)),
  (27, (.iastore, 1, 0, 0, .null, [], 0)),
  (28, (.aload_n 0, 1, 0, 0, .null, [], 0)),
  (29, (.getfield 21, 3, 1, 4, .null, [], 239)),
  (32, (.iload_n 1, 1, 0, 0, .null, [], 0)),
  (33, (.iload_n 3, 1, 0, 0, .null, [], 0)),
  (34, (.iastore, 1, 0, 0, .null, [], 0)),
  (35, (.aload_n 0, 1, 0, 0, .null, [], 0)),
  (36, (.iload_n 2, 1, 0, 0, .null, [], 0)),
  (37, (.invokevirtual 90, 3, 8, 0, .null, [], 538)),
  (40, (.ireturn, 1, 0, 0, .null, [], 0)),
  (41, (.aload_n 0, 1, 0, 0, .null, [], 0)),
  (42, (.aload_n 0, 1, 0, 0, .null, [], 0)),
  (43, (.getfield 27, 3, 1, 0, .null, [], 235)),
  (46, (.getfield 62, 3, 4, 0, .null, [], 107)),
  (49, (.iload_n 1, 1, 0, 0, .null, [], 0)),
  (50, (.iaload, 1, 0, 0, .null, [], 0)),
  (51, (.iload_n 2, 1, 0, 0, .null, [], 0)),
  (52, (.i2l, 1, 0, 0, .null, [], 0)),
  (53, (.iload_n 3, 1, 0, 0, .null, [], 0)),
  (54, (.i2l, 1, 0, 0, .null, [], 0)),
  (55, (.invokestatic 112, 3, 18, 0, .null, [], 568)),
  (58, (.l2i, 1, 0, 0, .null, [], 0)),
  (59, (.invokevirtual 90, 3, 8, 0, .null, [], 538)),
  (62, (.ireturn, 1, 0, 0, .null, [], 0))]
/-- YieldLines$Machine.reckoned(IJJ)J -/
def kd_18 : List (Nat × yE) := [
  (0, (.iload_n 0, 1, 0, 0, .null, [], 0)),
  (1, (.tableswitch 43 42 45 #[39, 31, 43, 35], 31, 44, 0, .null, [(42, 40), (43, 32), (44, 44), (45, 36)], 0)),
  (32, (.lload_n 1, 1, 0, 0, .null, [], 0)),
  (33, (.lload_n 3, 1, 0, 0, .null, [], 0)),
  (34, (.ladd, 1, 0, 0, .null, [], 0)),
  (35, (.lreturn, 1, 0, 0, .null, [], 0)),
  (36, (.lload_n 1, 1, 0, 0, .null, [], 0)),
  (37, (.lload_n 3, 1, 0, 0, .null, [], 0)),
  (38, (.lsub, 1, 0, 0, .null, [], 0)),
  (39, (.lreturn, 1, 0, 0, .null, [], 0)),
  (40, (.lload_n 1, 1, 0, 0, .null, [], 0)),
  (41, (.lload_n 3, 1, 0, 0, .null, [], 0)),
  (42, (.lmul, 1, 0, 0, .null, [], 0)),
  (43, (.lreturn, 1, 0, 0, .null, [], 0)),
  (44, (.lload_n 3, 1, 0, 0, .null, [], 0)),
  (45, (.lreturn, 1, 0, 0, .null, [], 0))]
/-- YieldLines$Outcome.make(LYieldLines$Machine;LYieldLines$State;)V -/
def kd_20 : List (Nat × yE) := [
  (0, (.aload_n 0, 1, 0, 0, .null, [], 0)),
  (1, (.getfield 30, 3, 2, 0, .null, [], 273)),
  (4, (.ifCond .eq 4, 3, 8, 0, .null, [], 0)),
  (7, (.return_, 1, 0, 0, .null, [], 0)),
  (8, (.aload_n 0, 1, 0, 0, .null, [], 0)),
  (9, (.iconst 0, 1, 0, 0, .int 0, [], 0)),
  (10, (.putfield 34, 3, 2, 2, .ref 0, [], 276)),
  (13, (.aload_n 1, 1, 0, 0, .null, [], 0)),
  (14, (.invokevirtual 38, 3, 4, 0, .null, [], 511)),
  (17, (.iconst 0, 1, 0, 0, .int 0, [], 0)),
  (18, (.istore_n 3, 1, 0, 0, .null, [], 0)),
  (19, (.iload_n 3, 1, 0, 0, .null, [], 0)),
  (20, (.aload_n 2, 1, 0, 0, .null, [], 0)),
  (21, (.getfield 43, 3, 4, 10, .null, [], 139)),
  (24, (.if_icmp .ge 22, 3, 46, 0, .null, [], 0)),
  (27, (.iload_n 3, 1, 0, 0, .null, [], 0)),
  (28, (.bipush 8, 2, 0, 0, .int 8, [], 0)),
  (30, (.if_icmp .ge 16, 3, 46, 0, .null, [], 0)),
  (33, (.aload_n 0, 1, 0, 0, .null, [], 0)),
  (34, (.iload_n 3, 1, 0, 0, .null, [], 0)),
  (35, (.aload_n 1, 1, 0, 0, .null, [], 0)),
  (36, (.aload_n 2, 1, 0, 0, .null, [], 0)),
  (37, (.invokevirtual 48, 3, 21, 0, .null, [], 516)),
  (40, (.iinc 3 1, 3, 0, 0, .int 1, [], 0)),
  (43, (.goto (-24), 3, 19, 0, .null, [], 0)),
  (46, (.aload_n 1, 1, 0, 0, .null, [], 0)),
  (47, (.aload_n 0, 1, 0, 0, .null, [], 0)),
  (48, (.getfield 27, 3, 2, 7, .null, [], 286)),
  (51, (.invokevirtual 52, 3, 6, 0, .null, [], 581)),
  (54, (.aload_n 0, 1, 0, 0, .null, [], 0)),
  (55, (.iconst 1, 1, 0, 0, .int 1, [], 0)),
  (56, (.putfield 30, 3, 2, 0, .ref 1, [], 273)),
  (59, (.return_, 1, 0, 0, .null, [], 0))]
/-- YieldLines$Outcome.makeLine(ILYieldLines$Machine;LYieldLines$State;)V -/
def kd_21 : List (Nat × yE) := [
  (0, (.aload_n 3, 1, 0, 0, .null, [], 0)),
  (1, (.getfield 56, 3, 4, 4, .null, [], 119)),
  (4, (.iload_n 1, 1, 0, 0, .null, [], 0)),
  (5, (.iaload, 1, 0, 0, .null, [], 0)),
  (6, (.istore 4, 2, 0, 0, .null, [], 0)),
  (8, (.aload_n 3, 1, 0, 0, .null, [], 0)),
  (9, (.getfield 59, 3, 4, 5, .null, [], 123)),
  (12, (.iload_n 1, 1, 0, 0, .null, [], 0)),
  (13, (.iaload, 1, 0, 0, .null, [], 0)),
  (14, (.iconst 1, 1, 0, 0, .int 1, [], 0)),
  (15, (.if_icmp .ne 8, 3, 23, 0, .null, [], 0)),
  (18, (.bipush 30, 2, 0, 0, .int 30, [], 0)),
  (20, (.goto 4, 3, 24, 0, .null, [], 0)),
  (23, (.iconst 1, 1, 0, 0, .int 1, [], 0)),
  (24, (.istore 5, 2, 0, 0, .null, [], 0)),
  (26, (.aload_n 0, 1, 0, 0, .null, [], 0)),
  (27, (.getfield 15, 3, 2, 3, .null, [], 278)),
  (30, (.iload_n 1, 1, 0, 0, .null, [], 0)),
  (31, (.iconst 0, 1, 0, 0, .int 0, [], 0)),
  (32, (.iastore, 1, 0, 0, .null, [], 0)),
  (33, (.aload_n 0, 1, 0, 0, .null, [], 0)),
  (34, (.getfield 24, 3, 2, 6, .null, [], 284)),
  (37, (.iload_n 1, 1, 0, 0, .null, [], 0)),
  (38, (.ldc 62, 2, 0, 0, .int (-1999999), [], 520)),
  (40, (.iastore, 1, 0, 0, .null, [], 0)),
  (41, (.aload_n 2, 1, 0, 0, .null, [], 0)),
  (42, (.iload 4, 2, 0, 0, .null, [], 0)),
  (44, (.invokevirtual 63, 3, 5, 0, .null, [], 521)),
  (47, (.iconst 0, 1, 0, 0, .int 0, [], 0)),
  (48, (.istore 6, 2, 0, 0, .null, [], 0)),
  (50, (.iload 6, 2, 0, 0, .null, [], 0)),
  (52, (.iload 5, 2, 0, 0, .null, [], 0)),
  (54, (.if_icmp .ge 47, 3, 101, 0, .null, [], 0)),
  (57, (.aload_n 2, 1, 0, 0, .null, [], 0)),
  (58, (.iload 4, 2, 0, 0, .null, [], 0)),
  (60, (.iconst 0, 1, 0, 0, .int 0, [], 0)),
  (61, (.invokevirtual 67, 3, 7, 1, .null, [], 530)),
  (64, (.ifCond .eq 37, 3, 101, 0, .null, [], 0)),
  (67, (.aload_n 0, 1, 0, 0, .null, [], 0)),
  (68, (.aload_n 2, 1, 0, 0, .null, [], 0)),
  (69, (.getfield 71, 3, 1, 6, .null, [], 241)),
  (72, (.invokevirtual 74, 3, 22, 0, .null, [], 576)),
  (75, (.aload_n 0, 1, 0, 0, .null, [], 0)),
  (76, (.getfield 15, 3, 2, 3, .null, [], 278)),
  (79, (.iload_n 1, 1, 0, 0, .null, [], 0)),
  (80, (.iload 6, 2, 0, 0, .null, [], 0)),
  (82, (.iconst 1, 1, 0, 0, .int 1, [], 0)),
  (83, (.iadd, 1, 0, 0, .null, [], 0)),
  (84, (.iastore, 1, 0, 0, .null, [], 0)),
  (85, (.aload_n 0, 1, 0, 0, .null, [], 0)),
  (86, (.getfield 24, 3, 2, 6, .null, [], 284)),
  (89, (.iload_n 1, 1, 0, 0, .null, [], 0)),
  (90, (.aload_n 2, 1, 0, 0, .null, [], 0)),
  (91, (.getfield 71, 3, 1, 6, .null, [], 241)),
  (94, (.iastore, 1, 0, 0, .null, [], 0)),
  (95, (.iinc 6 1, 3, 0, 0, .int 1, [], 0)),
  (98, (.goto (-48), 3, 50, 0, .null, [], 0)),
  (101, (.aload_n 0, 1, 0, 0, .null, [], 0)),
  (102, (.getfield 18, 3, 2, 4, .null, [], 280)),
  (105, (.iload_n 1, 1, 0, 0, .null, [], 0)),
  (106, (.aload_n 2, 1, 0, 0, .null, [], 0)),
  (107, (.getfield 77, 3, 1, 7, .null, [], 245)),
  (110, (.iastore, 1, 0, 0, .null, [], 0)),
  (111, (.aload_n 0, 1, 0, 0, .null, [], 0)),
  (112, (.getfield 21, 3, 2, 5, .null, [], 282)),
  (115, (.iload_n 1, 1, 0, 0, .null, [], 0)),
  (116, (.aload_n 2, 1, 0, 0, .null, [], 0)),
  (117, (.getfield 80, 3, 1, 8, .null, [], 247)),
  (120, (.ifCond .eq 7, 3, 127, 0, .null, [], 0)),
  (123, (.iconst 1, 1, 0, 0, .int 1, [], 0)),
  (124, (.goto 4, 3, 128, 0, .null, [], 0)),
  (127, (.iconst 0, 1, 0, 0, .int 0, [], 0)),
  (128, (.iastore, 1, 0, 0, .null, [], 0)),
  (129, (.return_, 1, 0, 0, .null, [], 0))]
/-- YieldLines$Outcome.say(I)V -/
def kd_22 : List (Nat × yE) := [
  (0, (.aload_n 0, 1, 0, 0, .null, [], 0)),
  (1, (.getfield 34, 3, 2, 2, .null, [], 276)),
  (4, (.aload_n 0, 1, 0, 0, .null, [], 0)),
  (5, (.getfield 9, 3, 2, 1, .null, [], 275)),
  (8, (.arraylength, 1, 0, 0, .null, [], 0)),
  (9, (.invokestatic 83, 3, 76, 1, .null, [], 580)),
  (12, (.ifCond .eq 23, 3, 35, 0, .null, [], 0)),
  (15, (.aload_n 0, 1, 0, 0, .null, [], 0)),
  (16, (.getfield 9, 3, 2, 1, .null, [], 275)),
  (19, (.aload_n 0, 1, 0, 0, .null, [], 0)),
  (20, (.getfield 34, 3, 2, 2, .null, [], 276)),
  (23, (.iload_n 1, 1, 0, 0, .null, [], 0)),
  (24, (.iastore, 1, 0, 0, .null, [], 0)),
  (25, (.aload_n 0, 1, 0, 0, .null, [], 0)),
  (26, (.dup, 1, 0, 0, .null, [], 0)),
  (27, (.getfield 34, 3, 2, 2, .null, [], 276)),
  (30, (.iconst 1, 1, 0, 0, .int 1, [], 0)),
  (31, (.iadd, 1, 0, 0, .null, [], 0)),
  (32, (.putfield 34, 3, 2, 2, .ref 0, [], 276)),
  (35, (.return_, 1, 0, 0, .null, [], 0))]
/-- YieldLines$Outcome.saidAt(I)I -/
def kd_23 : List (Nat × yE) := [
  (0, (.iload_n 1, 1, 0, 0, .null, [], 0)),
  (1, (.aload_n 0, 1, 0, 0, .null, [], 0)),
  (2, (.getfield 34, 3, 2, 2, .null, [], 276)),
  (5, (.invokestatic 83, 3, 76, 1, .null, [], 580)),
  (8, (.ifCond .eq 21, 3, 29, 0, .null, [], 0)),
  (11, (.iload_n 1, 1, 0, 0, .null, [], 0)),
  (12, (.aload_n 0, 1, 0, 0, .null, [], 0)),
  (13, (.getfield 9, 3, 2, 1, .null, [], 275)),
  (16, (.arraylength, 1, 0, 0, .null, [], 0)),
  (17, (.if_icmp .ge 12, 3, 29, 0, .null, [], 0)),
  (20, (.aload_n 0, 1, 0, 0, .null, [], 0)),
  (21, (.getfield 9, 3, 2, 1, .null, [], 275)),
  (24, (.iload_n 1, 1, 0, 0, .null, [], 0)),
  (25, (.iaload, 1, 0, 0, .null, [], 0)),
  (26, (.goto 5, 3, 31, 0, .null, [], 0)),
  (29, (.ldc 62, 2, 0, 0, .int (-1999999), [], 520)),
  (31, (.ireturn, 1, 0, 0, .null, [], 0))]
/-- YieldLines$Outcome.silentLines(I)I -/
def kd_24 : List (Nat × yE) := [
  (0, (.iconst 0, 1, 0, 0, .int 0, [], 0)),
  (1, (.istore_n 2, 1, 0, 0, .null, [], 0)),
  (2, (.iconst 0, 1, 0, 0, .int 0, [], 0)),
  (3, (.istore_n 3, 1, 0, 0, .null, [], 0)),
  (4, (.iload_n 3, 1, 0, 0, .null, [], 0)),
  (5, (.iload_n 1, 1, 0, 0, .null, [], 0)),
  (6, (.if_icmp .ge 27, 3, 33, 0, .null, [], 0)),
  (9, (.iload_n 3, 1, 0, 0, .null, [], 0)),
  (10, (.bipush 8, 2, 0, 0, .int 8, [], 0)),
  (12, (.if_icmp .ge 21, 3, 33, 0, .null, [], 0)),
  (15, (.aload_n 0, 1, 0, 0, .null, [], 0)),
  (16, (.getfield 15, 3, 2, 3, .null, [], 278)),
  (19, (.iload_n 3, 1, 0, 0, .null, [], 0)),
  (20, (.iaload, 1, 0, 0, .null, [], 0)),
  (21, (.ifCond .ne 6, 3, 27, 0, .null, [], 0)),
  (24, (.iinc 2 1, 3, 0, 0, .int 1, [], 0)),
  (27, (.iinc 3 1, 3, 0, 0, .int 1, [], 0)),
  (30, (.goto (-26), 3, 4, 0, .null, [], 0)),
  (33, (.iload_n 2, 1, 0, 0, .null, [], 0)),
  (34, (.ireturn, 1, 0, 0, .null, [], 0))]
/-- YieldLines$Reader.faultOf([II)I -/
def kd_26 : List (Nat × yE) := [
  (0, (.aload_n 0, 1, 0, 0, .null, [], 0)),
  (1, (.getfield 12, 3, 3, 0, .null, [], 174)),
  (4, (.iconst 0, 1, 0, 0, .int 0, [], 0)),
  (5, (.putfield 25, 3, 4, 10, .ref 0, [], 138)),
  (8, (.aload_n 0, 1, 0, 0, .null, [], 0)),
  (9, (.iconst 0, 1, 0, 0, .int 0, [], 0)),
  (10, (.putfield 29, 3, 3, 3, .ref 0, [], 178)),
  (13, (.aload_n 0, 1, 0, 0, .null, [], 0)),
  (14, (.iconst 0, 1, 0, 0, .int 0, [], 0)),
  (15, (.putfield 32, 3, 3, 4, .ref 0, [], 179)),
  (18, (.aload_n 0, 1, 0, 0, .null, [], 0)),
  (19, (.iconst 0, 1, 0, 0, .int 0, [], 0)),
  (20, (.putfield 35, 3, 3, 5, .ref 0, [], 180)),
  (23, (.aload_n 0, 1, 0, 0, .null, [], 0)),
  (24, (.iconst 0, 1, 0, 0, .int 0, [], 0)),
  (25, (.putfield 38, 3, 3, 6, .ref 0, [], 181)),
  (28, (.aload_n 0, 1, 0, 0, .null, [], 0)),
  (29, (.iconst 0, 1, 0, 0, .int 0, [], 0)),
  (30, (.putfield 41, 3, 3, 10, .ref 0, [], 185)),
  (33, (.iconst 0, 1, 0, 0, .int 0, [], 0)),
  (34, (.istore_n 3, 1, 0, 0, .null, [], 0)),
  (35, (.iload_n 3, 1, 0, 0, .null, [], 0)),
  (36, (.iload_n 2, 1, 0, 0, .null, [], 0)),
  (37, (.if_icmp .ge 27, 3, 64, 0, .null, [], 0)),
  (40, (.iload_n 3, 1, 0, 0, .null, [], 0)),
  (41, (.aload_n 1, 1, 0, 0, .null, [], 0)),
  (42, (.arraylength, 1, 0, 0, .null, [], 0)),
  (43, (.if_icmp .ge 21, 3, 64, 0, .null, [], 0)),
  (46, (.aload_n 0, 1, 0, 0, .null, [], 0)),
  (47, (.aload_n 1, 1, 0, 0, .null, [], 0)),
  (48, (.iload_n 3, 1, 0, 0, .null, [], 0)),
  (49, (.iaload, 1, 0, 0, .null, [], 0)),
  (50, (.invokevirtual 44, 3, 27, 0, .null, [], 358)),
  (53, (.ifCond .ne 5, 3, 58, 0, .null, [], 0)),
  (56, (.iload_n 3, 1, 0, 0, .null, [], 0)),
  (57, (.ireturn, 1, 0, 0, .null, [], 0)),
  (58, (.iinc 3 1, 3, 0, 0, .int 1, [], 0)),
  (61, (.goto (-26), 3, 35, 0, .null, [], 0)),
  (64, (.aload_n 0, 1, 0, 0, .null, [], 0)),
  (65, (.getfield 35, 3, 3, 5, .null, [], 180)),
  (68, (.ifCond .ne 7, 3, 75, 0, .null, [], 0)),
  (71, (.iconst (-1), 1, 0, 0, .int (-1), [], 0)),
  (72, (.goto 4, 3, 76, 0, .null, [], 0)),
  (75, (.iload_n 2, 1, 0, 0, .null, [], 0)),
  (76, (.ireturn, 1, 0, 0, .null, [], 0))]
/-- YieldLines$Reader.takes(I)Z -/
def kd_27 : List (Nat × yE) := [
  (0, (.aload_n 0, 1, 0, 0, .null, [], 0)),
  (1, (.getfield 41, 3, 3, 10, .null, [], 185)),
  (4, (.ifCond .le 16, 3, 20, 0, .null, [], 0)),
  (7, (.iload_n 1, 1, 0, 0, .null, [], 0)),
  (8, (.invokestatic 48, 3, 46, 0, .null, [], 362)),
  (11, (.ifCond .eq 9, 3, 20, 0, .null, [], 0)),
  (14, (.aload_n 0, 1, 0, 0, .null, [], 0)),
  (15, (.iload_n 1, 1, 0, 0, .null, [], 0)),
  (16, (.invokevirtual 51, 3, 28, 0, .null, [], 365)),
  (19, (.ireturn, 1, 0, 0, .null, [], 0)),
  (20, (.aload_n 0, 1, 0, 0, .null, [], 0)),
  (21, (.iconst 0, 1, 0, 0, .int 0, [], 0)),
  (22, (.putfield 41, 3, 3, 10, .ref 0, [], 185)),
  (25, (.iload_n 1, 1, 0, 0, .null, [], 0)),
  (26, (.bipush 32, 2, 0, 0, .int 32, [], 0)),
  (28, (.if_icmp .ne 5, 3, 33, 0, .null, [], 0)),
  (31, (.iconst 1, 1, 0, 0, .int 1, [], 0)),
  (32, (.ireturn, 1, 0, 0, .null, [], 0)),
  (33, (.aload_n 0, 1, 0, 0, .null, [], 0)),
  (34, (.getfield 35, 3, 3, 5, .null, [], 180)),
  (37, (.tableswitch 77 0 2 #[27, 65, 71], 27, 114, 0, .null, [(0, 64), (1, 102), (2, 108)], 0)),
  (64, (.aload_n 0, 1, 0, 0, .null, [], 0)),
  (65, (.iload_n 1, 1, 0, 0, .null, [], 0)),
  (66, (.bipush 42, 2, 0, 0, .int 42, [], 0)),
  (68, (.if_icmp .ne 7, 3, 75, 0, .null, [], 0)),
  (71, (.iconst 1, 1, 0, 0, .int 1, [], 0)),
  (72, (.goto 4, 3, 76, 0, .null, [], 0)),
  (75, (.iconst 0, 1, 0, 0, .int 0, [], 0)),
  (76, (.invokevirtual 54, 3, 29, 0, .null, [], 372)),
  (79, (.ifCond .eq 21, 3, 100, 0, .null, [], 0)),
  (82, (.iload_n 1, 1, 0, 0, .null, [], 0)),
  (83, (.bipush 42, 2, 0, 0, .int 42, [], 0)),
  (85, (.if_icmp .eq 11, 3, 96, 0, .null, [], 0)),
  (88, (.aload_n 0, 1, 0, 0, .null, [], 0)),
  (89, (.iload_n 1, 1, 0, 0, .null, [], 0)),
  (90, (.invokevirtual 58, 3, 30, 0, .null, [], 379)),
  (93, (.ifCond .eq 7, 3, 100, 0, .null, [], 0)),
  (96, (.iconst 1, 1, 0, 0, .int 1, [], 0)),
  (97, (.goto 4, 3, 101, 0, .null, [], 0)),
  (100, (.iconst 0, 1, 0, 0, .int 0, [], 0)),
  (101, (.ireturn, 1, 0, 0, .null, [], 0)),
  (102, (.aload_n 0, 1, 0, 0, .null, [], 0)),
  (103, (.iload_n 1, 1, 0, 0, .null, [], 0)),
  (104, (.invokevirtual 58, 3, 30, 0, .null, [], 379)),
  (107, (.ireturn, 1, 0, 0, .null, [], 0)),
  (108, (.aload_n 0, 1, 0, 0, .null, [], 0)),
  (109, (.iload_n 1, 1, 0, 0, .null, [], 0)),
  (110, (.invokevirtual 61, 3, 32, 0, .null, [], 410)),
  (113, (.ireturn, 1, 0, 0, .null, [], 0)),
  (114, (.aload_n 0, 1, 0, 0, .null, [], 0)),
  (115, (.iload_n 1, 1, 0, 0, .null, [], 0)),
  (116, (.invokevirtual 64, 3, 33, 0, .null, [], 414)),
  (119, (.ireturn, 1, 0, 0, .null, [], 0))]
/-- YieldLines$Reader.takesMoreOfNumber(I)Z -/
def kd_28 : List (Nat × yE) := [
  (0, (.aload_n 0, 1, 0, 0, .null, [], 0)),
  (1, (.getfield 41, 3, 3, 10, .null, [], 185)),
  (4, (.iconst 3, 1, 0, 0, .int 3, [], 0)),
  (5, (.if_icmp .ge 13, 3, 18, 0, .null, [], 0)),
  (8, (.aload_n 0, 1, 0, 0, .null, [], 0)),
  (9, (.getfield 67, 3, 3, 9, .null, [], 184)),
  (12, (.invokestatic 70, 3, 77, 1, .null, [], 369)),
  (15, (.ifCond .ne 5, 3, 20, 0, .null, [], 0)),
  (18, (.iconst 0, 1, 0, 0, .int 0, [], 0)),
  (19, (.ireturn, 1, 0, 0, .null, [], 0)),
  (20, (.aload_n 0, 1, 0, 0, .null, [], 0)),
  (21, (.getfield 12, 3, 3, 0, .null, [], 174)),
  (24, (.getfield 73, 3, 4, 3, .null, [], 116)),
  (27, (.aload_n 0, 1, 0, 0, .null, [], 0)),
  (28, (.getfield 67, 3, 3, 9, .null, [], 184)),
  (31, (.bipush 10, 2, 0, 0, .int 10, [], 0)),
  (33, (.aload_n 0, 1, 0, 0, .null, [], 0)),
  (34, (.getfield 12, 3, 3, 0, .null, [], 174)),
  (37, (.getfield 73, 3, 4, 3, .null, [], 116)),
  (40, (.aload_n 0, 1, 0, 0, .null, [], 0)),
  (41, (.getfield 67, 3, 3, 9, .null, [], 184)),
  (44, (.iaload, 1, 0, 0, .null, [], 0)),
  (45, (.imul, 1, 0, 0, .null, [], 0)),
  (46, (.iload_n 1, 1, 0, 0, .null, [], 0)),
  (47, (.bipush 48, 2, 0, 0, .int 48, [], 0)),
  (49, (.isub, 1, 0, 0, .null, [], 0)),
  (50, (.iadd, 1, 0, 0, .null, [], 0)),
  (51, (.iastore, 1, 0, 0, .null, [], 0)),
  (52, (.aload_n 0, 1, 0, 0, .null, [], 0)),
  (53, (.dup, 1, 0, 0, .null, [], 0)),
  (54, (.getfield 41, 3, 3, 10, .null, [], 185)),
  (57, (.iconst 1, 1, 0, 0, .int 1, [], 0)),
  (58, (.iadd, 1, 0, 0, .null, [], 0)),
  (59, (.putfield 41, 3, 3, 10, .ref 0, [], 185)),
  (62, (.iconst 1, 1, 0, 0, .int 1, [], 0)),
  (63, (.ireturn, 1, 0, 0, .null, [], 0))]
/-- YieldLines$Reader.beginsLine(Z)Z -/
def kd_29 : List (Nat × yE) := [
  (0, (.aload_n 0, 1, 0, 0, .null, [], 0)),
  (1, (.getfield 12, 3, 3, 0, .null, [], 174)),
  (4, (.getfield 25, 3, 4, 10, .null, [], 138)),
  (7, (.istore_n 2, 1, 0, 0, .null, [], 0)),
  (8, (.iload_n 2, 1, 0, 0, .null, [], 0)),
  (9, (.bipush 8, 2, 0, 0, .int 8, [], 0)),
  (11, (.invokestatic 76, 3, 76, 1, .null, [], 376)),
  (14, (.ifCond .ne 5, 3, 19, 0, .null, [], 0)),
  (17, (.iconst 0, 1, 0, 0, .int 0, [], 0)),
  (18, (.ireturn, 1, 0, 0, .null, [], 0)),
  (19, (.aload_n 0, 1, 0, 0, .null, [], 0)),
  (20, (.aload_n 0, 1, 0, 0, .null, [], 0)),
  (21, (.getfield 38, 3, 3, 6, .null, [], 181)),
  (24, (.putfield 80, 3, 3, 7, .ref 0, [], 182)),
  (27, (.aload_n 0, 1, 0, 0, .null, [], 0)),
  (28, (.getfield 12, 3, 3, 0, .null, [], 174)),
  (31, (.getfield 83, 3, 4, 5, .null, [], 124)),
  (34, (.iload_n 2, 1, 0, 0, .null, [], 0)),
  (35, (.iload_n 1, 1, 0, 0, .null, [], 0)),
  (36, (.ifCond .eq 7, 3, 43, 0, .null, [], 0)),
  (39, (.iconst 1, 1, 0, 0, .int 1, [], 0)),
  (40, (.goto 4, 3, 44, 0, .null, [], 0)),
  (43, (.iconst 0, 1, 0, 0, .int 0, [], 0)),
  (44, (.iastore, 1, 0, 0, .null, [], 0)),
  (45, (.aload_n 0, 1, 0, 0, .null, [], 0)),
  (46, (.getfield 12, 3, 3, 0, .null, [], 174)),
  (49, (.getfield 86, 3, 4, 7, .null, [], 130)),
  (52, (.iload_n 2, 1, 0, 0, .null, [], 0)),
  (53, (.iconst 0, 1, 0, 0, .int 0, [], 0)),
  (54, (.iastore, 1, 0, 0, .null, [], 0)),
  (55, (.aload_n 0, 1, 0, 0, .null, [], 0)),
  (56, (.getfield 12, 3, 3, 0, .null, [], 174)),
  (59, (.getfield 89, 3, 4, 8, .null, [], 133)),
  (62, (.iload_n 2, 1, 0, 0, .null, [], 0)),
  (63, (.iconst 0, 1, 0, 0, .int 0, [], 0)),
  (64, (.iastore, 1, 0, 0, .null, [], 0)),
  (65, (.aload_n 0, 1, 0, 0, .null, [], 0)),
  (66, (.iconst 1, 1, 0, 0, .int 1, [], 0)),
  (67, (.putfield 35, 3, 3, 5, .ref 0, [], 180)),
  (70, (.iconst 1, 1, 0, 0, .int 1, [], 0)),
  (71, (.ireturn, 1, 0, 0, .null, [], 0))]
/-- YieldLines$Reader.takesUnit(I)Z -/
def kd_30 : List (Nat × yE) := [
  (0, (.iload_n 1, 1, 0, 0, .null, [], 0)),
  (1, (.invokestatic 48, 3, 46, 0, .null, [], 362)),
  (4, (.ifCond .eq 14, 3, 18, 0, .null, [], 0)),
  (7, (.aload_n 0, 1, 0, 0, .null, [], 0)),
  (8, (.bipush 48, 2, 0, 0, .int 48, [], 0)),
  (10, (.iload_n 1, 1, 0, 0, .null, [], 0)),
  (11, (.bipush 48, 2, 0, 0, .int 48, [], 0)),
  (13, (.isub, 1, 0, 0, .null, [], 0)),
  (14, (.invokevirtual 92, 3, 31, 0, .null, [], 383)),
  (17, (.ireturn, 1, 0, 0, .null, [], 0)),
  (18, (.iload_n 1, 1, 0, 0, .null, [], 0)),
  (19, (.bipush 97, 2, 0, 0, .int 97, [], 0)),
  (21, (.if_icmp .lt 24, 3, 45, 0, .null, [], 0)),
  (24, (.iload_n 1, 1, 0, 0, .null, [], 0)),
  (25, (.bipush 97, 2, 0, 0, .int 97, [], 0)),
  (27, (.isub, 1, 0, 0, .null, [], 0)),
  (28, (.invokestatic 95, 3, 75, 1, .null, [], 403)),
  (31, (.ifCond .eq 14, 3, 45, 0, .null, [], 0)),
  (34, (.aload_n 0, 1, 0, 0, .null, [], 0)),
  (35, (.bipush 97, 2, 0, 0, .int 97, [], 0)),
  (37, (.iload_n 1, 1, 0, 0, .null, [], 0)),
  (38, (.bipush 97, 2, 0, 0, .int 97, [], 0)),
  (40, (.isub, 1, 0, 0, .null, [], 0)),
  (41, (.invokevirtual 92, 3, 31, 0, .null, [], 383)),
  (44, (.ireturn, 1, 0, 0, .null, [], 0)),
  (45, (.iload_n 1, 1, 0, 0, .null, [], 0)),
  (46, (.bipush 33, 2, 0, 0, .int 33, [], 0)),
  (48, (.if_icmp .ne 32, 3, 80, 0, .null, [], 0)),
  (51, (.aload_n 0, 1, 0, 0, .null, [], 0)),
  (52, (.invokevirtual 98, 3, 43, 0, .null, [], 387)),
  (55, (.ifCond .eq 23, 3, 78, 0, .null, [], 0)),
  (58, (.aload_n 0, 1, 0, 0, .null, [], 0)),
  (59, (.aload_n 0, 1, 0, 0, .null, [], 0)),
  (60, (.bipush 33, 2, 0, 0, .int 33, [], 0)),
  (62, (.iconst 0, 1, 0, 0, .int 0, [], 0)),
  (63, (.invokevirtual 102, 3, 44, 0, .null, [], 391)),
  (66, (.bipush 8, 2, 0, 0, .int 8, [], 0)),
  (68, (.invokevirtual 106, 3, 42, 0, .null, [], 406)),
  (71, (.ifCond .eq 7, 3, 78, 0, .null, [], 0)),
  (74, (.iconst 1, 1, 0, 0, .int 1, [], 0)),
  (75, (.goto 4, 3, 79, 0, .null, [], 0)),
  (78, (.iconst 0, 1, 0, 0, .int 0, [], 0)),
  (79, (.ireturn, 1, 0, 0, .null, [], 0)),
  (80, (.iload_n 1, 1, 0, 0, .null, [], 0)),
  (81, (.bipush 40, 2, 0, 0, .int 40, [], 0)),
  (83, (.if_icmp .ne 29, 3, 112, 0, .null, [], 0)),
  (86, (.aload_n 0, 1, 0, 0, .null, [], 0)),
  (87, (.getfield 32, 3, 3, 4, .null, [], 179)),
  (90, (.bipush 9, 2, 0, 0, .int 9, [], 0)),
  (92, (.if_icmp .ge 20, 3, 112, 0, .null, [], 0)),
  (95, (.aload_n 0, 1, 0, 0, .null, [], 0)),
  (96, (.dup, 1, 0, 0, .null, [], 0)),
  (97, (.getfield 32, 3, 3, 4, .null, [], 179)),
  (100, (.iconst 1, 1, 0, 0, .int 1, [], 0)),
  (101, (.iadd, 1, 0, 0, .null, [], 0)),
  (102, (.putfield 32, 3, 3, 4, .ref 0, [], 179)),
  (105, (.aload_n 0, 1, 0, 0, .null, [], 0)),
  (106, (.iconst (-1), 1, 0, 0, .int (-1), [], 0)),
  (107, (.iconst 0, 1, 0, 0, .int 0, [], 0)),
  (108, (.invokevirtual 106, 3, 42, 0, .null, [], 406)),
  (111, (.ireturn, 1, 0, 0, .null, [], 0)),
  (112, (.iconst 0, 1, 0, 0, .int 0, [], 0)),
  (113, (.ireturn, 1, 0, 0, .null, [], 0))]
/-- YieldLines$Reader.takesLeaf(II)Z -/
def kd_31 : List (Nat × yE) := [
  (0, (.aload_n 0, 1, 0, 0, .null, [], 0)),
  (1, (.invokevirtual 98, 3, 43, 0, .null, [], 387)),
  (4, (.ifCond .ne 5, 3, 9, 0, .null, [], 0)),
  (7, (.iconst 0, 1, 0, 0, .int 0, [], 0)),
  (8, (.ireturn, 1, 0, 0, .null, [], 0)),
  (9, (.aload_n 0, 1, 0, 0, .null, [], 0)),
  (10, (.iload_n 1, 1, 0, 0, .null, [], 0)),
  (11, (.iload_n 2, 1, 0, 0, .null, [], 0)),
  (12, (.invokevirtual 102, 3, 44, 0, .null, [], 391)),
  (15, (.istore_n 3, 1, 0, 0, .null, [], 0)),
  (16, (.iload_n 1, 1, 0, 0, .null, [], 0)),
  (17, (.bipush 48, 2, 0, 0, .int 48, [], 0)),
  (19, (.if_icmp .ne 16, 3, 35, 0, .null, [], 0)),
  (22, (.aload_n 0, 1, 0, 0, .null, [], 0)),
  (23, (.iload_n 3, 1, 0, 0, .null, [], 0)),
  (24, (.putfield 67, 3, 3, 9, .ref 0, [], 184)),
  (27, (.aload_n 0, 1, 0, 0, .null, [], 0)),
  (28, (.iconst 1, 1, 0, 0, .int 1, [], 0)),
  (29, (.putfield 41, 3, 3, 10, .ref 0, [], 185)),
  (32, (.goto 15, 3, 47, 0, .null, [], 0)),
  (35, (.aload_n 0, 1, 0, 0, .null, [], 0)),
  (36, (.aload_n 0, 1, 0, 0, .null, [], 0)),
  (37, (.getfield 12, 3, 3, 0, .null, [], 174)),
  (40, (.getfield 86, 3, 4, 7, .null, [], 130)),
  (43, (.iload_n 2, 1, 0, 0, .null, [], 0)),
  (44, (.invokevirtual 109, 3, 45, 0, .null, [], 395)),
  (47, (.aload_n 0, 1, 0, 0, .null, [], 0)),
  (48, (.iload_n 3, 1, 0, 0, .null, [], 0)),
  (49, (.bipush 8, 2, 0, 0, .int 8, [], 0)),
  (51, (.invokevirtual 113, 3, 41, 0, .null, [], 399)),
  (54, (.iconst 1, 1, 0, 0, .int 1, [], 0)),
  (55, (.ireturn, 1, 0, 0, .null, [], 0))]
/-- YieldLines$Reader.takesFigure(I)Z -/
def kd_32 : List (Nat × yE) := [
  (0, (.iload_n 1, 1, 0, 0, .null, [], 0)),
  (1, (.invokestatic 48, 3, 46, 0, .null, [], 362)),
  (4, (.ifCond .eq 13, 3, 17, 0, .null, [], 0)),
  (7, (.aload_n 0, 1, 0, 0, .null, [], 0)),
  (8, (.getfield 117, 3, 3, 8, .null, [], 183)),
  (11, (.invokestatic 70, 3, 77, 1, .null, [], 369)),
  (14, (.ifCond .ne 5, 3, 19, 0, .null, [], 0)),
  (17, (.iconst 0, 1, 0, 0, .int 0, [], 0)),
  (18, (.ireturn, 1, 0, 0, .null, [], 0)),
  (19, (.aload_n 0, 1, 0, 0, .null, [], 0)),
  (20, (.getfield 12, 3, 3, 0, .null, [], 174)),
  (23, (.getfield 73, 3, 4, 3, .null, [], 116)),
  (26, (.aload_n 0, 1, 0, 0, .null, [], 0)),
  (27, (.getfield 117, 3, 3, 8, .null, [], 183)),
  (30, (.iload_n 1, 1, 0, 0, .null, [], 0)),
  (31, (.bipush 48, 2, 0, 0, .int 48, [], 0)),
  (33, (.isub, 1, 0, 0, .null, [], 0)),
  (34, (.iastore, 1, 0, 0, .null, [], 0)),
  (35, (.aload_n 0, 1, 0, 0, .null, [], 0)),
  (36, (.iconst 3, 1, 0, 0, .int 3, [], 0)),
  (37, (.putfield 35, 3, 3, 5, .ref 0, [], 180)),
  (40, (.iconst 1, 1, 0, 0, .int 1, [], 0)),
  (41, (.ireturn, 1, 0, 0, .null, [], 0))]
/-- YieldLines$Reader.takesRest(I)Z -/
def kd_33 : List (Nat × yE) := [
  (0, (.iload_n 1, 1, 0, 0, .null, [], 0)),
  (1, (.lookupswitch 72 #[(41, 56), (58, 66), (59, 51), (92, 61), (94, 66)], 51, 73, 0, .null, [(41, 57), (58, 67), (59, 52), (92, 62), (94, 67)], 0)),
  (52, (.aload_n 0, 1, 0, 0, .null, [], 0)),
  (53, (.invokevirtual 120, 3, 34, 0, .null, [], 418)),
  (56, (.ireturn, 1, 0, 0, .null, [], 0)),
  (57, (.aload_n 0, 1, 0, 0, .null, [], 0)),
  (58, (.invokevirtual 123, 3, 35, 0, .null, [], 422)),
  (61, (.ireturn, 1, 0, 0, .null, [], 0)),
  (62, (.aload_n 0, 1, 0, 0, .null, [], 0)),
  (63, (.invokevirtual 126, 3, 36, 0, .null, [], 429)),
  (66, (.ireturn, 1, 0, 0, .null, [], 0)),
  (67, (.aload_n 0, 1, 0, 0, .null, [], 0)),
  (68, (.iload_n 1, 1, 0, 0, .null, [], 0)),
  (69, (.invokevirtual 129, 3, 37, 0, .null, [], 433)),
  (72, (.ireturn, 1, 0, 0, .null, [], 0)),
  (73, (.aload_n 0, 1, 0, 0, .null, [], 0)),
  (74, (.iload_n 1, 1, 0, 0, .null, [], 0)),
  (75, (.invokevirtual 132, 3, 39, 0, .null, [], 441)),
  (78, (.ireturn, 1, 0, 0, .null, [], 0))]
/-- YieldLines$Reader.endsLine()Z -/
def kd_34 : List (Nat × yE) := [
  (0, (.aload_n 0, 1, 0, 0, .null, [], 0)),
  (1, (.getfield 12, 3, 3, 0, .null, [], 174)),
  (4, (.getfield 25, 3, 4, 10, .null, [], 138)),
  (7, (.istore_n 1, 1, 0, 0, .null, [], 0)),
  (8, (.aload_n 0, 1, 0, 0, .null, [], 0)),
  (9, (.getfield 32, 3, 3, 4, .null, [], 179)),
  (12, (.ifCond .gt 12, 3, 24, 0, .null, [], 0)),
  (15, (.iload_n 1, 1, 0, 0, .null, [], 0)),
  (16, (.bipush 8, 2, 0, 0, .int 8, [], 0)),
  (18, (.invokestatic 76, 3, 76, 1, .null, [], 376)),
  (21, (.ifCond .ne 5, 3, 26, 0, .null, [], 0)),
  (24, (.iconst 0, 1, 0, 0, .int 0, [], 0)),
  (25, (.ireturn, 1, 0, 0, .null, [], 0)),
  (26, (.aload_n 0, 1, 0, 0, .null, [], 0)),
  (27, (.aload_n 0, 1, 0, 0, .null, [], 0)),
  (28, (.getfield 117, 3, 3, 8, .null, [], 183)),
  (31, (.iconst 1, 1, 0, 0, .int 1, [], 0)),
  (32, (.invokevirtual 113, 3, 41, 0, .null, [], 399)),
  (35, (.aload_n 0, 1, 0, 0, .null, [], 0)),
  (36, (.getfield 12, 3, 3, 0, .null, [], 174)),
  (39, (.getfield 135, 3, 4, 4, .null, [], 120)),
  (42, (.iload_n 1, 1, 0, 0, .null, [], 0)),
  (43, (.aload_n 0, 1, 0, 0, .null, [], 0)),
  (44, (.getfield 117, 3, 3, 8, .null, [], 183)),
  (47, (.iastore, 1, 0, 0, .null, [], 0)),
  (48, (.aload_n 0, 1, 0, 0, .null, [], 0)),
  (49, (.getfield 12, 3, 3, 0, .null, [], 174)),
  (52, (.getfield 138, 3, 4, 6, .null, [], 127)),
  (55, (.iload_n 1, 1, 0, 0, .null, [], 0)),
  (56, (.aload_n 0, 1, 0, 0, .null, [], 0)),
  (57, (.getfield 38, 3, 3, 6, .null, [], 181)),
  (60, (.aload_n 0, 1, 0, 0, .null, [], 0)),
  (61, (.getfield 80, 3, 3, 7, .null, [], 182)),
  (64, (.isub, 1, 0, 0, .null, [], 0)),
  (65, (.iastore, 1, 0, 0, .null, [], 0)),
  (66, (.aload_n 0, 1, 0, 0, .null, [], 0)),
  (67, (.getfield 12, 3, 3, 0, .null, [], 174)),
  (70, (.dup, 1, 0, 0, .null, [], 0)),
  (71, (.getfield 25, 3, 4, 10, .null, [], 138)),
  (74, (.iconst 1, 1, 0, 0, .int 1, [], 0)),
  (75, (.iadd, 1, 0, 0, .null, [], 0)),
  (76, (.putfield 25, 3, 4, 10, .ref 0, [], 138)),
  (79, (.aload_n 0, 1, 0, 0, .null, [], 0)),
  (80, (.iconst 0, 1, 0, 0, .int 0, [], 0)),
  (81, (.putfield 35, 3, 3, 5, .ref 0, [], 180)),
  (84, (.iconst 1, 1, 0, 0, .int 1, [], 0)),
  (85, (.ireturn, 1, 0, 0, .null, [], 0))]
/-- YieldLines$Reader.closes()Z -/
def kd_35 : List (Nat × yE) := [
  (0, (.aload_n 0, 1, 0, 0, .null, [], 0)),
  (1, (.getfield 32, 3, 3, 4, .null, [], 179)),
  (4, (.ifCond .ne 5, 3, 9, 0, .null, [], 0)),
  (7, (.iconst 0, 1, 0, 0, .int 0, [], 0)),
  (8, (.ireturn, 1, 0, 0, .null, [], 0)),
  (9, (.aload_n 0, 1, 0, 0, .null, [], 0)),
  (10, (.aload_n 0, 1, 0, 0, .null, [], 0)),
  (11, (.getfield 117, 3, 3, 8, .null, [], 183)),
  (14, (.iconst 1, 1, 0, 0, .int 1, [], 0)),
  (15, (.invokevirtual 113, 3, 41, 0, .null, [], 399)),
  (18, (.aload_n 0, 1, 0, 0, .null, [], 0)),
  (19, (.iconst 0, 1, 0, 0, .int 0, [], 0)),
  (20, (.aload_n 0, 1, 0, 0, .null, [], 0)),
  (21, (.getfield 29, 3, 3, 3, .null, [], 178)),
  (24, (.iconst 1, 1, 0, 0, .int 1, [], 0)),
  (25, (.isub, 1, 0, 0, .null, [], 0)),
  (26, (.invokestatic 141, 3, 148, 0, .null, [], 426)),
  (29, (.putfield 29, 3, 3, 3, .ref 0, [], 178)),
  (32, (.aload_n 0, 1, 0, 0, .null, [], 0)),
  (33, (.dup, 1, 0, 0, .null, [], 0)),
  (34, (.getfield 32, 3, 3, 4, .null, [], 179)),
  (37, (.iconst 1, 1, 0, 0, .int 1, [], 0)),
  (38, (.isub, 1, 0, 0, .null, [], 0)),
  (39, (.putfield 32, 3, 3, 4, .ref 0, [], 179)),
  (42, (.aload_n 0, 1, 0, 0, .null, [], 0)),
  (43, (.aload_n 0, 1, 0, 0, .null, [], 0)),
  (44, (.getfield 117, 3, 3, 8, .null, [], 183)),
  (47, (.bipush 8, 2, 0, 0, .int 8, [], 0)),
  (49, (.invokevirtual 113, 3, 41, 0, .null, [], 399)),
  (52, (.iconst 1, 1, 0, 0, .int 1, [], 0)),
  (53, (.ireturn, 1, 0, 0, .null, [], 0))]
/-- YieldLines$Reader.takesFirst()Z -/
def kd_36 : List (Nat × yE) := [
  (0, (.aload_n 0, 1, 0, 0, .null, [], 0)),
  (1, (.invokevirtual 98, 3, 43, 0, .null, [], 387)),
  (4, (.ifCond .ne 5, 3, 9, 0, .null, [], 0)),
  (7, (.iconst 0, 1, 0, 0, .int 0, [], 0)),
  (8, (.ireturn, 1, 0, 0, .null, [], 0)),
  (9, (.aload_n 0, 1, 0, 0, .null, [], 0)),
  (10, (.bipush 92, 2, 0, 0, .int 92, [], 0)),
  (12, (.iconst 0, 1, 0, 0, .int 0, [], 0)),
  (13, (.invokevirtual 102, 3, 44, 0, .null, [], 391)),
  (16, (.istore_n 1, 1, 0, 0, .null, [], 0)),
  (17, (.aload_n 0, 1, 0, 0, .null, [], 0)),
  (18, (.getfield 12, 3, 3, 0, .null, [], 174)),
  (21, (.getfield 146, 3, 4, 2, .null, [], 114)),
  (24, (.iload_n 1, 1, 0, 0, .null, [], 0)),
  (25, (.aload_n 0, 1, 0, 0, .null, [], 0)),
  (26, (.getfield 117, 3, 3, 8, .null, [], 183)),
  (29, (.iastore, 1, 0, 0, .null, [], 0)),
  (30, (.aload_n 0, 1, 0, 0, .null, [], 0)),
  (31, (.iload_n 1, 1, 0, 0, .null, [], 0)),
  (32, (.putfield 117, 3, 3, 8, .ref 0, [], 183)),
  (35, (.aload_n 0, 1, 0, 0, .null, [], 0)),
  (36, (.iconst 2, 1, 0, 0, .int 2, [], 0)),
  (37, (.putfield 35, 3, 3, 5, .ref 0, [], 180)),
  (40, (.iconst 1, 1, 0, 0, .int 1, [], 0)),
  (41, (.ireturn, 1, 0, 0, .null, [], 0))]
/-- YieldLines$Reader.takesTarget(I)Z -/
def kd_37 : List (Nat × yE) := [
  (0, (.aload_n 0, 1, 0, 0, .null, [], 0)),
  (1, (.getfield 117, 3, 3, 8, .null, [], 183)),
  (4, (.invokestatic 70, 3, 77, 1, .null, [], 369)),
  (7, (.ifCond .eq 27, 3, 34, 0, .null, [], 0)),
  (10, (.aload_n 0, 1, 0, 0, .null, [], 0)),
  (11, (.getfield 12, 3, 3, 0, .null, [], 174)),
  (14, (.getfield 149, 3, 4, 0, .null, [], 108)),
  (17, (.aload_n 0, 1, 0, 0, .null, [], 0)),
  (18, (.getfield 117, 3, 3, 8, .null, [], 183)),
  (21, (.iaload, 1, 0, 0, .null, [], 0)),
  (22, (.bipush 97, 2, 0, 0, .int 97, [], 0)),
  (24, (.if_icmp .ne 10, 3, 34, 0, .null, [], 0)),
  (27, (.aload_n 0, 1, 0, 0, .null, [], 0)),
  (28, (.invokevirtual 152, 3, 38, 0, .null, [], 437)),
  (31, (.ifCond .ne 5, 3, 36, 0, .null, [], 0)),
  (34, (.iconst 0, 1, 0, 0, .int 0, [], 0)),
  (35, (.ireturn, 1, 0, 0, .null, [], 0)),
  (36, (.aload_n 0, 1, 0, 0, .null, [], 0)),
  (37, (.getfield 12, 3, 3, 0, .null, [], 174)),
  (40, (.getfield 149, 3, 4, 0, .null, [], 108)),
  (43, (.aload_n 0, 1, 0, 0, .null, [], 0)),
  (44, (.getfield 117, 3, 3, 8, .null, [], 183)),
  (47, (.iload_n 1, 1, 0, 0, .null, [], 0)),
  (48, (.iastore, 1, 0, 0, .null, [], 0)),
  (49, (.aload_n 0, 1, 0, 0, .null, [], 0)),
  (50, (.aload_n 0, 1, 0, 0, .null, [], 0)),
  (51, (.getfield 12, 3, 3, 0, .null, [], 174)),
  (54, (.getfield 89, 3, 4, 8, .null, [], 133)),
  (57, (.aload_n 0, 1, 0, 0, .null, [], 0)),
  (58, (.getfield 12, 3, 3, 0, .null, [], 174)),
  (61, (.getfield 73, 3, 4, 3, .null, [], 116)),
  (64, (.aload_n 0, 1, 0, 0, .null, [], 0)),
  (65, (.getfield 117, 3, 3, 8, .null, [], 183)),
  (68, (.iaload, 1, 0, 0, .null, [], 0)),
  (69, (.invokevirtual 109, 3, 45, 0, .null, [], 395)),
  (72, (.aload_n 0, 1, 0, 0, .null, [], 0)),
  (73, (.aload_n 0, 1, 0, 0, .null, [], 0)),
  (74, (.getfield 117, 3, 3, 8, .null, [], 183)),
  (77, (.iconst 1, 1, 0, 0, .int 1, [], 0)),
  (78, (.invokevirtual 106, 3, 42, 0, .null, [], 406)),
  (81, (.ireturn, 1, 0, 0, .null, [], 0))]
/-- YieldLines$Reader.isFirstOfExpression()Z -/
def kd_38 : List (Nat × yE) := [
  (0, (.aload_n 0, 1, 0, 0, .null, [], 0)),
  (1, (.getfield 29, 3, 3, 3, .null, [], 178)),
  (4, (.iconst 1, 1, 0, 0, .int 1, [], 0)),
  (5, (.isub, 1, 0, 0, .null, [], 0)),
  (6, (.istore_n 1, 1, 0, 0, .null, [], 0)),
  (7, (.iload_n 1, 1, 0, 0, .null, [], 0)),
  (8, (.aload_n 0, 1, 0, 0, .null, [], 0)),
  (9, (.getfield 22, 3, 3, 2, .null, [], 177)),
  (12, (.arraylength, 1, 0, 0, .null, [], 0)),
  (13, (.invokestatic 76, 3, 76, 1, .null, [], 376)),
  (16, (.ifCond .eq 13, 3, 29, 0, .null, [], 0)),
  (19, (.aload_n 0, 1, 0, 0, .null, [], 0)),
  (20, (.getfield 22, 3, 3, 2, .null, [], 177)),
  (23, (.iload_n 1, 1, 0, 0, .null, [], 0)),
  (24, (.iaload, 1, 0, 0, .null, [], 0)),
  (25, (.iconst 1, 1, 0, 0, .int 1, [], 0)),
  (26, (.if_icmp .gt 7, 3, 33, 0, .null, [], 0)),
  (29, (.iconst 1, 1, 0, 0, .int 1, [], 0)),
  (30, (.goto 4, 3, 34, 0, .null, [], 0)),
  (33, (.iconst 0, 1, 0, 0, .int 0, [], 0)),
  (34, (.ireturn, 1, 0, 0, .null, [], 0))]
/-- YieldLines$Reader.takesBetween(I)Z -/
def kd_39 : List (Nat × yE) := [
  (0, (.iload_n 1, 1, 0, 0, .null, [], 0)),
  (1, (.invokestatic 155, 3, 40, 0, .null, [], 445)),
  (4, (.istore_n 2, 1, 0, 0, .null, [], 0)),
  (5, (.iload_n 2, 1, 0, 0, .null, [], 0)),
  (6, (.ifCond .eq 10, 3, 16, 0, .null, [], 0)),
  (9, (.aload_n 0, 1, 0, 0, .null, [], 0)),
  (10, (.invokevirtual 98, 3, 43, 0, .null, [], 387)),
  (13, (.ifCond .ne 5, 3, 18, 0, .null, [], 0)),
  (16, (.iconst 0, 1, 0, 0, .int 0, [], 0)),
  (17, (.ireturn, 1, 0, 0, .null, [], 0)),
  (18, (.aload_n 0, 1, 0, 0, .null, [], 0)),
  (19, (.iload_n 1, 1, 0, 0, .null, [], 0)),
  (20, (.iconst 0, 1, 0, 0, .int 0, [], 0)),
  (21, (.invokevirtual 102, 3, 44, 0, .null, [], 391)),
  (24, (.istore_n 3, 1, 0, 0, .null, [], 0)),
  (25, (.aload_n 0, 1, 0, 0, .null, [], 0)),
  (26, (.aload_n 0, 1, 0, 0, .null, [], 0)),
  (27, (.getfield 117, 3, 3, 8, .null, [], 183)),
  (30, (.iload_n 2, 1, 0, 0, .null, [], 0)),
  (31, (.invokevirtual 113, 3, 41, 0, .null, [], 399)),
  (34, (.aload_n 0, 1, 0, 0, .null, [], 0)),
  (35, (.getfield 12, 3, 3, 0, .null, [], 174)),
  (38, (.getfield 159, 3, 4, 1, .null, [], 111)),
  (41, (.iload_n 3, 1, 0, 0, .null, [], 0)),
  (42, (.aload_n 0, 1, 0, 0, .null, [], 0)),
  (43, (.getfield 117, 3, 3, 8, .null, [], 183)),
  (46, (.iastore, 1, 0, 0, .null, [], 0)),
  (47, (.aload_n 0, 1, 0, 0, .null, [], 0)),
  (48, (.iload_n 3, 1, 0, 0, .null, [], 0)),
  (49, (.iload_n 2, 1, 0, 0, .null, [], 0)),
  (50, (.invokevirtual 106, 3, 42, 0, .null, [], 406)),
  (53, (.ireturn, 1, 0, 0, .null, [], 0))]
/-- YieldLines$Reader.levelBetween(I)I -/
def kd_40 : List (Nat × yE) := [
  (0, (.iload_n 0, 1, 0, 0, .null, [], 0)),
  (1, (.lookupswitch 97 #[(38, 83), (42, 94), (43, 91), (45, 91), (60, 87), (61, 87), (62, 87), (124, 85), (126, 89)], 83, 98, 0, .null, [(38, 84), (42, 95), (43, 92), (45, 92), (60, 88), (61, 88), (62, 88), (124, 86), (126, 90)], 0)),
  (84, (.iconst 2, 1, 0, 0, .int 2, [], 0)),
  (85, (.ireturn, 1, 0, 0, .null, [], 0)),
  (86, (.iconst 3, 1, 0, 0, .int 3, [], 0)),
  (87, (.ireturn, 1, 0, 0, .null, [], 0)),
  (88, (.iconst 4, 1, 0, 0, .int 4, [], 0)),
  (89, (.ireturn, 1, 0, 0, .null, [], 0)),
  (90, (.iconst 5, 1, 0, 0, .int 5, [], 0)),
  (91, (.ireturn, 1, 0, 0, .null, [], 0)),
  (92, (.bipush 6, 2, 0, 0, .int 6, [], 0)),
  (94, (.ireturn, 1, 0, 0, .null, [], 0)),
  (95, (.bipush 7, 2, 0, 0, .int 7, [], 0)),
  (97, (.ireturn, 1, 0, 0, .null, [], 0)),
  (98, (.iconst 0, 1, 0, 0, .int 0, [], 0)),
  (99, (.ireturn, 1, 0, 0, .null, [], 0))]
/-- YieldLines$Reader.join(II)V -/
def kd_41 : List (Nat × yE) := [
  (0, (.aload_n 0, 1, 0, 0, .null, [], 0)),
  (1, (.iload_n 1, 1, 0, 0, .null, [], 0)),
  (2, (.putfield 117, 3, 3, 8, .ref 0, [], 183)),
  (5, (.aload_n 0, 1, 0, 0, .null, [], 0)),
  (6, (.getfield 29, 3, 3, 3, .null, [], 178)),
  (9, (.ifCond .le 78, 3, 87, 0, .null, [], 0)),
  (12, (.aload_n 0, 1, 0, 0, .null, [], 0)),
  (13, (.getfield 29, 3, 3, 3, .null, [], 178)),
  (16, (.aload_n 0, 1, 0, 0, .null, [], 0)),
  (17, (.getfield 18, 3, 3, 1, .null, [], 176)),
  (20, (.arraylength, 1, 0, 0, .null, [], 0)),
  (21, (.if_icmp .gt 66, 3, 87, 0, .null, [], 0)),
  (24, (.aload_n 0, 1, 0, 0, .null, [], 0)),
  (25, (.getfield 22, 3, 3, 2, .null, [], 177)),
  (28, (.aload_n 0, 1, 0, 0, .null, [], 0)),
  (29, (.getfield 29, 3, 3, 3, .null, [], 178)),
  (32, (.iconst 1, 1, 0, 0, .int 1, [], 0)),
  (33, (.isub, 1, 0, 0, .null, [], 0)),
  (34, (.iaload, 1, 0, 0, .null, [], 0)),
  (35, (.iload_n 2, 1, 0, 0, .null, [], 0)),
  (36, (.if_icmp .lt 51, 3, 87, 0, .null, [], 0)),
  (39, (.aload_n 0, 1, 0, 0, .null, [], 0)),
  (40, (.dup, 1, 0, 0, .null, [], 0)),
  (41, (.getfield 29, 3, 3, 3, .null, [], 178)),
  (44, (.iconst 1, 1, 0, 0, .int 1, [], 0)),
  (45, (.isub, 1, 0, 0, .null, [], 0)),
  (46, (.putfield 29, 3, 3, 3, .ref 0, [], 178)),
  (49, (.aload_n 0, 1, 0, 0, .null, [], 0)),
  (50, (.getfield 18, 3, 3, 1, .null, [], 176)),
  (53, (.aload_n 0, 1, 0, 0, .null, [], 0)),
  (54, (.getfield 29, 3, 3, 3, .null, [], 178)),
  (57, (.iaload, 1, 0, 0, .null, [], 0)),
  (58, (.istore_n 3, 1, 0, 0, .null, [], 0)),
  (59, (.iload_n 3, 1, 0, 0, .null, [], 0)),
  (60, (.invokestatic 70, 3, 77, 1, .null, [], 369)),
  (63, (.ifCond .eq 21, 3, 84, 0, .null, [], 0)),
  (66, (.aload_n 0, 1, 0, 0, .null, [], 0)),
  (67, (.getfield 12, 3, 3, 0, .null, [], 174)),
  (70, (.getfield 146, 3, 4, 2, .null, [], 114)),
  (73, (.iload_n 3, 1, 0, 0, .null, [], 0)),
  (74, (.aload_n 0, 1, 0, 0, .null, [], 0)),
  (75, (.getfield 117, 3, 3, 8, .null, [], 183)),
  (78, (.iastore, 1, 0, 0, .null, [], 0)),
  (79, (.aload_n 0, 1, 0, 0, .null, [], 0)),
  (80, (.iload_n 3, 1, 0, 0, .null, [], 0)),
  (81, (.putfield 117, 3, 3, 8, .ref 0, [], 183)),
  (84, (.goto (-79), 3, 5, 0, .null, [], 0)),
  (87, (.aload_n 0, 1, 0, 0, .null, [], 0)),
  (88, (.iconst 3, 1, 0, 0, .int 3, [], 0)),
  (89, (.putfield 35, 3, 3, 5, .ref 0, [], 180)),
  (92, (.return_, 1, 0, 0, .null, [], 0))]
/-- YieldLines$Reader.piles(II)Z -/
def kd_42 : List (Nat × yE) := [
  (0, (.aload_n 0, 1, 0, 0, .null, [], 0)),
  (1, (.getfield 29, 3, 3, 3, .null, [], 178)),
  (4, (.aload_n 0, 1, 0, 0, .null, [], 0)),
  (5, (.getfield 18, 3, 3, 1, .null, [], 176)),
  (8, (.arraylength, 1, 0, 0, .null, [], 0)),
  (9, (.invokestatic 76, 3, 76, 1, .null, [], 376)),
  (12, (.ifCond .ne 5, 3, 17, 0, .null, [], 0)),
  (15, (.iconst 0, 1, 0, 0, .int 0, [], 0)),
  (16, (.ireturn, 1, 0, 0, .null, [], 0)),
  (17, (.aload_n 0, 1, 0, 0, .null, [], 0)),
  (18, (.getfield 18, 3, 3, 1, .null, [], 176)),
  (21, (.aload_n 0, 1, 0, 0, .null, [], 0)),
  (22, (.getfield 29, 3, 3, 3, .null, [], 178)),
  (25, (.iload_n 1, 1, 0, 0, .null, [], 0)),
  (26, (.iastore, 1, 0, 0, .null, [], 0)),
  (27, (.aload_n 0, 1, 0, 0, .null, [], 0)),
  (28, (.getfield 22, 3, 3, 2, .null, [], 177)),
  (31, (.aload_n 0, 1, 0, 0, .null, [], 0)),
  (32, (.getfield 29, 3, 3, 3, .null, [], 178)),
  (35, (.iload_n 2, 1, 0, 0, .null, [], 0)),
  (36, (.iastore, 1, 0, 0, .null, [], 0)),
  (37, (.aload_n 0, 1, 0, 0, .null, [], 0)),
  (38, (.dup, 1, 0, 0, .null, [], 0)),
  (39, (.getfield 29, 3, 3, 3, .null, [], 178)),
  (42, (.iconst 1, 1, 0, 0, .int 1, [], 0)),
  (43, (.iadd, 1, 0, 0, .null, [], 0)),
  (44, (.putfield 29, 3, 3, 3, .ref 0, [], 178)),
  (47, (.aload_n 0, 1, 0, 0, .null, [], 0)),
  (48, (.iconst 1, 1, 0, 0, .int 1, [], 0)),
  (49, (.putfield 35, 3, 3, 5, .ref 0, [], 180)),
  (52, (.iconst 1, 1, 0, 0, .int 1, [], 0)),
  (53, (.ireturn, 1, 0, 0, .null, [], 0))]
/-- YieldLines$Reader.hasRoom()Z -/
def kd_43 : List (Nat × yE) := [
  (0, (.aload_n 0, 1, 0, 0, .null, [], 0)),
  (1, (.getfield 38, 3, 3, 6, .null, [], 181)),
  (4, (.invokestatic 70, 3, 77, 1, .null, [], 369)),
  (7, (.ireturn, 1, 0, 0, .null, [], 0))]
/-- YieldLines$Reader.newNode(II)I -/
def kd_44 : List (Nat × yE) := [
  (0, (.aload_n 0, 1, 0, 0, .null, [], 0)),
  (1, (.getfield 38, 3, 3, 6, .null, [], 181)),
  (4, (.istore_n 3, 1, 0, 0, .null, [], 0)),
  (5, (.iload_n 3, 1, 0, 0, .null, [], 0)),
  (6, (.invokestatic 70, 3, 77, 1, .null, [], 369)),
  (9, (.ifCond .eq 33, 3, 42, 0, .null, [], 0)),
  (12, (.aload_n 0, 1, 0, 0, .null, [], 0)),
  (13, (.getfield 12, 3, 3, 0, .null, [], 174)),
  (16, (.getfield 149, 3, 4, 0, .null, [], 108)),
  (19, (.iload_n 3, 1, 0, 0, .null, [], 0)),
  (20, (.iload_n 1, 1, 0, 0, .null, [], 0)),
  (21, (.iastore, 1, 0, 0, .null, [], 0)),
  (22, (.aload_n 0, 1, 0, 0, .null, [], 0)),
  (23, (.getfield 12, 3, 3, 0, .null, [], 174)),
  (26, (.getfield 73, 3, 4, 3, .null, [], 116)),
  (29, (.iload_n 3, 1, 0, 0, .null, [], 0)),
  (30, (.iload_n 2, 1, 0, 0, .null, [], 0)),
  (31, (.iastore, 1, 0, 0, .null, [], 0)),
  (32, (.aload_n 0, 1, 0, 0, .null, [], 0)),
  (33, (.dup, 1, 0, 0, .null, [], 0)),
  (34, (.getfield 38, 3, 3, 6, .null, [], 181)),
  (37, (.iconst 1, 1, 0, 0, .int 1, [], 0)),
  (38, (.iadd, 1, 0, 0, .null, [], 0)),
  (39, (.putfield 38, 3, 3, 6, .ref 0, [], 181)),
  (42, (.iload_n 3, 1, 0, 0, .null, [], 0)),
  (43, (.ireturn, 1, 0, 0, .null, [], 0))]
/-- YieldLines$Reader.noteName([II)V -/
def kd_45 : List (Nat × yE) := [
  (0, (.aload_n 0, 1, 0, 0, .null, [], 0)),
  (1, (.getfield 12, 3, 3, 0, .null, [], 174)),
  (4, (.getfield 25, 3, 4, 10, .null, [], 138)),
  (7, (.aload_n 1, 1, 0, 0, .null, [], 0)),
  (8, (.arraylength, 1, 0, 0, .null, [], 0)),
  (9, (.invokestatic 76, 3, 76, 1, .null, [], 376)),
  (12, (.ifCond .eq 18, 3, 30, 0, .null, [], 0)),
  (15, (.aload_n 1, 1, 0, 0, .null, [], 0)),
  (16, (.aload_n 0, 1, 0, 0, .null, [], 0)),
  (17, (.getfield 12, 3, 3, 0, .null, [], 174)),
  (20, (.getfield 25, 3, 4, 10, .null, [], 138)),
  (23, (.dup2, 1, 0, 0, .null, [], 0)),
  (24, (.iaload, 1, 0, 0, .null, [], 0)),
  (25, (.iconst 1, 1, 0, 0, .int 1, [], 0)),
  (26, (.iload_n 2, 1, 0, 0, .null, [], 0)),
  (27, (.ishl, 1, 0, 0, .null, [], 0)),
  (28, (.ior, 1, 0, 0, .null, [], 0)),
  (29, (.iastore, 1, 0, 0, .null, [], 0)),
  (30, (.return_, 1, 0, 0, .null, [], 0))]
/-- YieldLines$Reader.isFigure(I)Z -/
def kd_46 : List (Nat × yE) := [
  (0, (.iload_n 0, 1, 0, 0, .null, [], 0)),
  (1, (.bipush 48, 2, 0, 0, .int 48, [], 0)),
  (3, (.if_icmp .lt 13, 3, 16, 0, .null, [], 0)),
  (6, (.iload_n 0, 1, 0, 0, .null, [], 0)),
  (7, (.bipush 57, 2, 0, 0, .int 57, [], 0)),
  (9, (.if_icmp .gt 7, 3, 16, 0, .null, [], 0)),
  (12, (.iconst 1, 1, 0, 0, .int 1, [], 0)),
  (13, (.goto 4, 3, 17, 0, .null, [], 0)),
  (16, (.iconst 0, 1, 0, 0, .int 0, [], 0)),
  (17, (.ireturn, 1, 0, 0, .null, [], 0))]
/-- YieldLines$State.takeAll(LYieldLines$State;)V -/
def kd_48 : List (Nat × yE) := [
  (0, (.aload_n 0, 1, 0, 0, .null, [], 0)),
  (1, (.aload_n 1, 1, 0, 0, .null, [], 0)),
  (2, (.invokevirtual 42, 3, 49, 0, .null, [], 463)),
  (5, (.aload_n 1, 1, 0, 0, .null, [], 0)),
  (6, (.getfield 39, 3, 4, 9, .null, [], 135)),
  (9, (.iconst 0, 1, 0, 0, .int 0, [], 0)),
  (10, (.aload_n 0, 1, 0, 0, .null, [], 0)),
  (11, (.getfield 39, 3, 4, 9, .null, [], 135)),
  (14, (.iconst 0, 1, 0, 0, .int 0, [], 0)),
  (15, (.iconst 4, 1, 0, 0, .int 4, [], 0)),
  (16, (.invokestatic 46, 3, 999, 0, .null, [], 467)),
  (19, (.return_, 1, 0, 0, .null, [], 0))]
/-- YieldLines$State.takeProgram(LYieldLines$State;)V -/
def kd_49 : List (Nat × yE) := [
  (0, (.aload_n 1, 1, 0, 0, .null, [], 0)),
  (1, (.getfield 9, 3, 4, 0, .null, [], 106)),
  (4, (.iconst 0, 1, 0, 0, .int 0, [], 0)),
  (5, (.aload_n 0, 1, 0, 0, .null, [], 0)),
  (6, (.getfield 9, 3, 4, 0, .null, [], 106)),
  (9, (.iconst 0, 1, 0, 0, .int 0, [], 0)),
  (10, (.bipush 60, 2, 0, 0, .int 60, [], 0)),
  (12, (.invokestatic 46, 3, 999, 0, .null, [], 467)),
  (15, (.aload_n 1, 1, 0, 0, .null, [], 0)),
  (16, (.getfield 15, 3, 4, 1, .null, [], 109)),
  (19, (.iconst 0, 1, 0, 0, .int 0, [], 0)),
  (20, (.aload_n 0, 1, 0, 0, .null, [], 0)),
  (21, (.getfield 15, 3, 4, 1, .null, [], 109)),
  (24, (.iconst 0, 1, 0, 0, .int 0, [], 0)),
  (25, (.bipush 60, 2, 0, 0, .int 60, [], 0)),
  (27, (.invokestatic 46, 3, 999, 0, .null, [], 467)),
  (30, (.aload_n 1, 1, 0, 0, .null, [], 0)),
  (31, (.getfield 18, 3, 4, 2, .null, [], 112)),
  (34, (.iconst 0, 1, 0, 0, .int 0, [], 0)),
  (35, (.aload_n 0, 1, 0, 0, .null, [], 0)),
  (36, (.getfield 18, 3, 4, 2, .null, [], 112)),
  (39, (.iconst 0, 1, 0, 0, .int 0, [], 0)),
  (40, (.bipush 60, 2, 0, 0, .int 60, [], 0)),
  (42, (.invokestatic 46, 3, 999, 0, .null, [], 467)),
  (45, (.aload_n 1, 1, 0, 0, .null, [], 0)),
  (46, (.getfield 21, 3, 4, 3, .null, [], 115)),
  (49, (.iconst 0, 1, 0, 0, .int 0, [], 0)),
  (50, (.aload_n 0, 1, 0, 0, .null, [], 0)),
  (51, (.getfield 21, 3, 4, 3, .null, [], 115)),
  (54, (.iconst 0, 1, 0, 0, .int 0, [], 0)),
  (55, (.bipush 60, 2, 0, 0, .int 60, [], 0)),
  (57, (.invokestatic 46, 3, 999, 0, .null, [], 467)),
  (60, (.aload_n 1, 1, 0, 0, .null, [], 0)),
  (61, (.getfield 24, 3, 4, 4, .null, [], 118)),
  (64, (.iconst 0, 1, 0, 0, .int 0, [], 0)),
  (65, (.aload_n 0, 1, 0, 0, .null, [], 0)),
  (66, (.getfield 24, 3, 4, 4, .null, [], 118)),
  (69, (.iconst 0, 1, 0, 0, .int 0, [], 0)),
  (70, (.bipush 8, 2, 0, 0, .int 8, [], 0)),
  (72, (.invokestatic 46, 3, 999, 0, .null, [], 467)),
  (75, (.aload_n 1, 1, 0, 0, .null, [], 0)),
  (76, (.getfield 27, 3, 4, 5, .null, [], 122)),
  (79, (.iconst 0, 1, 0, 0, .int 0, [], 0)),
  (80, (.aload_n 0, 1, 0, 0, .null, [], 0)),
  (81, (.getfield 27, 3, 4, 5, .null, [], 122)),
  (84, (.iconst 0, 1, 0, 0, .int 0, [], 0)),
  (85, (.bipush 8, 2, 0, 0, .int 8, [], 0)),
  (87, (.invokestatic 46, 3, 999, 0, .null, [], 467)),
  (90, (.aload_n 1, 1, 0, 0, .null, [], 0)),
  (91, (.getfield 30, 3, 4, 6, .null, [], 126)),
  (94, (.iconst 0, 1, 0, 0, .int 0, [], 0)),
  (95, (.aload_n 0, 1, 0, 0, .null, [], 0)),
  (96, (.getfield 30, 3, 4, 6, .null, [], 126)),
  (99, (.iconst 0, 1, 0, 0, .int 0, [], 0)),
  (100, (.bipush 8, 2, 0, 0, .int 8, [], 0)),
  (102, (.invokestatic 46, 3, 999, 0, .null, [], 467)),
  (105, (.aload_n 1, 1, 0, 0, .null, [], 0)),
  (106, (.getfield 33, 3, 4, 7, .null, [], 129)),
  (109, (.iconst 0, 1, 0, 0, .int 0, [], 0)),
  (110, (.aload_n 0, 1, 0, 0, .null, [], 0)),
  (111, (.getfield 33, 3, 4, 7, .null, [], 129)),
  (114, (.iconst 0, 1, 0, 0, .int 0, [], 0)),
  (115, (.bipush 8, 2, 0, 0, .int 8, [], 0)),
  (117, (.invokestatic 46, 3, 999, 0, .null, [], 467)),
  (120, (.aload_n 1, 1, 0, 0, .null, [], 0)),
  (121, (.getfield 36, 3, 4, 8, .null, [], 132)),
  (124, (.iconst 0, 1, 0, 0, .int 0, [], 0)),
  (125, (.aload_n 0, 1, 0, 0, .null, [], 0)),
  (126, (.getfield 36, 3, 4, 8, .null, [], 132)),
  (129, (.iconst 0, 1, 0, 0, .int 0, [], 0)),
  (130, (.bipush 8, 2, 0, 0, .int 8, [], 0)),
  (132, (.invokestatic 46, 3, 999, 0, .null, [], 467)),
  (135, (.aload_n 0, 1, 0, 0, .null, [], 0)),
  (136, (.aload_n 1, 1, 0, 0, .null, [], 0)),
  (137, (.getfield 52, 3, 4, 10, .null, [], 140)),
  (140, (.putfield 52, 3, 4, 10, .ref 0, [], 140)),
  (143, (.return_, 1, 0, 0, .null, [], 0))]
/-- YieldLines$State.dropLine(I)V -/
def kd_50 : List (Nat × yE) := [
  (0, (.iload_n 1, 1, 0, 0, .null, [], 0)),
  (1, (.aload_n 0, 1, 0, 0, .null, [], 0)),
  (2, (.getfield 52, 3, 4, 10, .null, [], 140)),
  (5, (.invokestatic 56, 3, 76, 1, .null, [], 494)),
  (8, (.ifCond .ne 4, 3, 12, 0, .null, [], 0)),
  (11, (.return_, 1, 0, 0, .null, [], 0)),
  (12, (.iload_n 1, 1, 0, 0, .null, [], 0)),
  (13, (.istore_n 2, 1, 0, 0, .null, [], 0)),
  (14, (.iload_n 2, 1, 0, 0, .null, [], 0)),
  (15, (.iconst 1, 1, 0, 0, .int 1, [], 0)),
  (16, (.iadd, 1, 0, 0, .null, [], 0)),
  (17, (.aload_n 0, 1, 0, 0, .null, [], 0)),
  (18, (.getfield 52, 3, 4, 10, .null, [], 140)),
  (21, (.if_icmp .ge 87, 3, 108, 0, .null, [], 0)),
  (24, (.iload_n 2, 1, 0, 0, .null, [], 0)),
  (25, (.iconst 1, 1, 0, 0, .int 1, [], 0)),
  (26, (.iadd, 1, 0, 0, .null, [], 0)),
  (27, (.bipush 8, 2, 0, 0, .int 8, [], 0)),
  (29, (.if_icmp .ge 79, 3, 108, 0, .null, [], 0)),
  (32, (.aload_n 0, 1, 0, 0, .null, [], 0)),
  (33, (.getfield 24, 3, 4, 4, .null, [], 118)),
  (36, (.iload_n 2, 1, 0, 0, .null, [], 0)),
  (37, (.aload_n 0, 1, 0, 0, .null, [], 0)),
  (38, (.getfield 24, 3, 4, 4, .null, [], 118)),
  (41, (.iload_n 2, 1, 0, 0, .null, [], 0)),
  (42, (.iconst 1, 1, 0, 0, .int 1, [], 0)),
  (43, (.iadd, 1, 0, 0, .null, [], 0)),
  (44, (.iaload, 1, 0, 0, .null, [], 0)),
  (45, (.iastore, 1, 0, 0, .null, [], 0)),
  (46, (.aload_n 0, 1, 0, 0, .null, [], 0)),
  (47, (.getfield 27, 3, 4, 5, .null, [], 122)),
  (50, (.iload_n 2, 1, 0, 0, .null, [], 0)),
  (51, (.aload_n 0, 1, 0, 0, .null, [], 0)),
  (52, (.getfield 27, 3, 4, 5, .null, [], 122)),
  (55, (.iload_n 2, 1, 0, 0, .null, [], 0)),
  (56, (.iconst 1, 1, 0, 0, .int 1, [], 0)),
  (57, (.iadd, 1, 0, 0, .null, [], 0)),
  (58, (.iaload, 1, 0, 0, .null, [], 0)),
  (59, (.iastore, 1, 0, 0, .null, [], 0)),
  (60, (.aload_n 0, 1, 0, 0, .null, [], 0)),
  (61, (.getfield 30, 3, 4, 6, .null, [], 126)),
  (64, (.iload_n 2, 1, 0, 0, .null, [], 0)),
  (65, (.aload_n 0, 1, 0, 0, .null, [], 0)),
  (66, (.getfield 30, 3, 4, 6, .null, [], 126)),
  (69, (.iload_n 2, 1, 0, 0, .null, [], 0)),
  (70, (.iconst 1, 1, 0, 0, .int 1, [], 0)),
  (71, (.iadd, 1, 0, 0, .null, [], 0)),
  (72, (.iaload, 1, 0, 0, .null, [], 0)),
  (73, (.iastore, 1, 0, 0, .null, [], 0)),
  (74, (.aload_n 0, 1, 0, 0, .null, [], 0)),
  (75, (.getfield 33, 3, 4, 7, .null, [], 129)),
  (78, (.iload_n 2, 1, 0, 0, .null, [], 0)),
  (79, (.aload_n 0, 1, 0, 0, .null, [], 0)),
  (80, (.getfield 33, 3, 4, 7, .null, [], 129)),
  (83, (.iload_n 2, 1, 0, 0, .null, [], 0)),
  (84, (.iconst 1, 1, 0, 0, .int 1, [], 0)),
  (85, (.iadd, 1, 0, 0, .null, [], 0)),
  (86, (.iaload, 1, 0, 0, .null, [], 0)),
  (87, (.iastore, 1, 0, 0, .null, [], 0)),
  (88, (.aload_n 0, 1, 0, 0, .null, [], 0)),
  (89, (.getfield 36, 3, 4, 8, .null, [], 132)),
  (92, (.iload_n 2, 1, 0, 0, .null, [], 0)),
  (93, (.aload_n 0, 1, 0, 0, .null, [], 0)),
  (94, (.getfield 36, 3, 4, 8, .null, [], 132)),
  (97, (.iload_n 2, 1, 0, 0, .null, [], 0)),
  (98, (.iconst 1, 1, 0, 0, .int 1, [], 0)),
  (99, (.iadd, 1, 0, 0, .null, [], 0)),
  (100, (.iaload, 1, 0, 0, .null, [], 0)),
  (101, (.iastore, 1, 0, 0, .null, [], 0)),
  (102, (.iinc 2 1, 3, 0, 0, .int 1, [], 0)),
  (105, (.goto (-91), 3, 14, 0, .null, [], 0)),
  (108, (.aload_n 0, 1, 0, 0, .null, [], 0)),
  (109, (.dup, 1, 0, 0, .null, [], 0)),
  (110, (.getfield 52, 3, 4, 10, .null, [], 140)),
  (113, (.iconst 1, 1, 0, 0, .int 1, [], 0)),
  (114, (.isub, 1, 0, 0, .null, [], 0)),
  (115, (.putfield 52, 3, 4, 10, .ref 0, [], 140)),
  (118, (.return_, 1, 0, 0, .null, [], 0))]
/-- YieldLines.type(I)I -/
def kd_52 : List (Nat × yE) := [
  (0, (.iload_n 1, 1, 0, 0, .null, [], 0)),
  (1, (.ifCond .lt 9, 3, 10, 0, .null, [], 0)),
  (4, (.iload_n 1, 1, 0, 0, .null, [], 0)),
  (5, (.bipush 127, 2, 0, 0, .int 127, [], 0)),
  (7, (.if_icmp .le 8, 3, 15, 0, .null, [], 0)),
  (10, (.aload_n 0, 1, 0, 0, .null, [], 0)),
  (11, (.invokevirtual 50, 3, 73, 0, .null, [], 340)),
  (14, (.ireturn, 1, 0, 0, .null, [], 0)),
  (15, (.aload_n 0, 1, 0, 0, .null, [], 0)),
  (16, (.getfield 54, 3, 5, 1, .null, [], 306)),
  (19, (.sipush 150, 3, 0, 0, .int 150, [], 0)),
  (22, (.if_icmp .lt 16, 3, 38, 0, .null, [], 0)),
  (25, (.aload_n 0, 1, 0, 0, .null, [], 0)),
  (26, (.dup, 1, 0, 0, .null, [], 0)),
  (27, (.getfield 58, 3, 5, 9, .null, [], 314)),
  (30, (.iconst 1, 1, 0, 0, .int 1, [], 0)),
  (31, (.iadd, 1, 0, 0, .null, [], 0)),
  (32, (.putfield 58, 3, 5, 9, .ref 0, [], 314)),
  (35, (.ldc 61, 2, 0, 0, .int (-2000002), [], 345)),
  (37, (.ireturn, 1, 0, 0, .null, [], 0)),
  (38, (.aload_n 0, 1, 0, 0, .null, [], 0)),
  (39, (.getfield 9, 3, 5, 0, .null, [], 305)),
  (42, (.aload_n 0, 1, 0, 0, .null, [], 0)),
  (43, (.getfield 54, 3, 5, 1, .null, [], 306)),
  (46, (.iload_n 1, 1, 0, 0, .null, [], 0)),
  (47, (.iastore, 1, 0, 0, .null, [], 0)),
  (48, (.aload_n 0, 1, 0, 0, .null, [], 0)),
  (49, (.dup, 1, 0, 0, .null, [], 0)),
  (50, (.getfield 54, 3, 5, 1, .null, [], 306)),
  (53, (.iconst 1, 1, 0, 0, .int 1, [], 0)),
  (54, (.iadd, 1, 0, 0, .null, [], 0)),
  (55, (.putfield 54, 3, 5, 1, .ref 0, [], 306)),
  (58, (.aload_n 0, 1, 0, 0, .null, [], 0)),
  (59, (.getfield 54, 3, 5, 1, .null, [], 306)),
  (62, (.ireturn, 1, 0, 0, .null, [], 0))]
/-- YieldLines.clear()I -/
def kd_53 : List (Nat × yE) := [
  (0, (.aload_n 0, 1, 0, 0, .null, [], 0)),
  (1, (.getfield 54, 3, 5, 1, .null, [], 306)),
  (4, (.istore_n 1, 1, 0, 0, .null, [], 0)),
  (5, (.aload_n 0, 1, 0, 0, .null, [], 0)),
  (6, (.iconst 0, 1, 0, 0, .int 0, [], 0)),
  (7, (.putfield 54, 3, 5, 1, .ref 0, [], 306)),
  (10, (.iload_n 1, 1, 0, 0, .null, [], 0)),
  (11, (.ireturn, 1, 0, 0, .null, [], 0))]
/-- YieldLines.reads()I -/
def kd_54 : List (Nat × yE) := [
  (0, (.aload_n 0, 1, 0, 0, .null, [], 0)),
  (1, (.getfield 23, 3, 5, 3, .null, [], 308)),
  (4, (.aload_n 0, 1, 0, 0, .null, [], 0)),
  (5, (.getfield 9, 3, 5, 0, .null, [], 305)),
  (8, (.aload_n 0, 1, 0, 0, .null, [], 0)),
  (9, (.getfield 54, 3, 5, 1, .null, [], 306)),
  (12, (.invokevirtual 62, 3, 26, 0, .null, [], 354)),
  (15, (.istore_n 1, 1, 0, 0, .null, [], 0)),
  (16, (.iload_n 1, 1, 0, 0, .null, [], 0)),
  (17, (.iconst (-1), 1, 0, 0, .int (-1), [], 0)),
  (18, (.if_icmp .eq 8, 3, 26, 0, .null, [], 0)),
  (21, (.bipush (-10), 2, 0, 0, .int (-10), [], 0)),
  (23, (.iload_n 1, 1, 0, 0, .null, [], 0)),
  (24, (.isub, 1, 0, 0, .null, [], 0)),
  (25, (.ireturn, 1, 0, 0, .null, [], 0)),
  (26, (.aload_n 0, 1, 0, 0, .null, [], 0)),
  (27, (.invokevirtual 66, 3, 72, 0, .null, [], 448)),
  (30, (.aload_n 0, 1, 0, 0, .null, [], 0)),
  (31, (.getfield 16, 3, 5, 2, .null, [], 307)),
  (34, (.aload_n 0, 1, 0, 0, .null, [], 0)),
  (35, (.getfield 23, 3, 5, 3, .null, [], 308)),
  (38, (.getfield 69, 3, 3, 0, .null, [], 175)),
  (41, (.invokevirtual 72, 3, 49, 0, .null, [], 470)),
  (44, (.aload_n 0, 1, 0, 0, .null, [], 0)),
  (45, (.getfield 16, 3, 5, 2, .null, [], 307)),
  (48, (.getfield 75, 3, 4, 10, .null, [], 141)),
  (51, (.ireturn, 1, 0, 0, .null, [], 0))]
/-- YieldLines.value(II)I -/
def kd_55 : List (Nat × yE) := [
  (0, (.iload_n 1, 1, 0, 0, .null, [], 0)),
  (1, (.invokestatic 78, 3, 75, 0, .null, [], 475)),
  (4, (.ifCond .eq 11, 3, 15, 0, .null, [], 0)),
  (7, (.iload_n 2, 1, 0, 0, .null, [], 0)),
  (8, (.i2l, 1, 0, 0, .null, [], 0)),
  (9, (.invokestatic 82, 3, 78, 0, .null, [], 476)),
  (12, (.ifCond .ne 8, 3, 20, 0, .null, [], 0)),
  (15, (.aload_n 0, 1, 0, 0, .null, [], 0)),
  (16, (.invokevirtual 50, 3, 73, 0, .null, [], 340)),
  (19, (.ireturn, 1, 0, 0, .null, [], 0)),
  (20, (.aload_n 0, 1, 0, 0, .null, [], 0)),
  (21, (.invokevirtual 66, 3, 72, 0, .null, [], 448)),
  (24, (.aload_n 0, 1, 0, 0, .null, [], 0)),
  (25, (.getfield 16, 3, 5, 2, .null, [], 307)),
  (28, (.getfield 86, 3, 4, 9, .null, [], 137)),
  (31, (.iload_n 1, 1, 0, 0, .null, [], 0)),
  (32, (.iaload, 1, 0, 0, .null, [], 0)),
  (33, (.istore_n 3, 1, 0, 0, .null, [], 0)),
  (34, (.aload_n 0, 1, 0, 0, .null, [], 0)),
  (35, (.getfield 16, 3, 5, 2, .null, [], 307)),
  (38, (.getfield 86, 3, 4, 9, .null, [], 137)),
  (41, (.iload_n 1, 1, 0, 0, .null, [], 0)),
  (42, (.iload_n 2, 1, 0, 0, .null, [], 0)),
  (43, (.iastore, 1, 0, 0, .null, [], 0)),
  (44, (.iload_n 3, 1, 0, 0, .null, [], 0)),
  (45, (.ireturn, 1, 0, 0, .null, [], 0))]
/-- YieldLines.drops(I)I -/
def kd_56 : List (Nat × yE) := [
  (0, (.aload_n 0, 1, 0, 0, .null, [], 0)),
  (1, (.iload_n 1, 1, 0, 0, .null, [], 0)),
  (2, (.invokevirtual 89, 3, 74, 0, .null, [], 485)),
  (5, (.ifCond .ne 8, 3, 13, 0, .null, [], 0)),
  (8, (.aload_n 0, 1, 0, 0, .null, [], 0)),
  (9, (.invokevirtual 50, 3, 73, 0, .null, [], 340)),
  (12, (.ireturn, 1, 0, 0, .null, [], 0)),
  (13, (.aload_n 0, 1, 0, 0, .null, [], 0)),
  (14, (.invokevirtual 66, 3, 72, 0, .null, [], 448)),
  (17, (.aload_n 0, 1, 0, 0, .null, [], 0)),
  (18, (.getfield 16, 3, 5, 2, .null, [], 307)),
  (21, (.iload_n 1, 1, 0, 0, .null, [], 0)),
  (22, (.invokevirtual 92, 3, 50, 0, .null, [], 490)),
  (25, (.aload_n 0, 1, 0, 0, .null, [], 0)),
  (26, (.getfield 16, 3, 5, 2, .null, [], 307)),
  (29, (.getfield 75, 3, 4, 10, .null, [], 141)),
  (32, (.ireturn, 1, 0, 0, .null, [], 0))]
/-- YieldLines.line(II)I -/
def kd_57 : List (Nat × yE) := [
  (0, (.aload_n 0, 1, 0, 0, .null, [], 0)),
  (1, (.iload_n 1, 1, 0, 0, .null, [], 0)),
  (2, (.invokevirtual 89, 3, 74, 0, .null, [], 485)),
  (5, (.ifCond .eq 11, 3, 16, 0, .null, [], 0)),
  (8, (.iload_n 2, 1, 0, 0, .null, [], 0)),
  (9, (.iconst 4, 1, 0, 0, .int 4, [], 0)),
  (10, (.invokestatic 96, 3, 76, 0, .null, [], 489)),
  (13, (.ifCond .ne 8, 3, 21, 0, .null, [], 0)),
  (16, (.aload_n 0, 1, 0, 0, .null, [], 0)),
  (17, (.invokevirtual 50, 3, 73, 0, .null, [], 340)),
  (20, (.ireturn, 1, 0, 0, .null, [], 0)),
  (21, (.aload_n 0, 1, 0, 0, .null, [], 0)),
  (22, (.iload_n 1, 1, 0, 0, .null, [], 0)),
  (23, (.iload_n 2, 1, 0, 0, .null, [], 0)),
  (24, (.invokevirtual 100, 3, 67, 0, .null, [], 499)),
  (27, (.ireturn, 1, 0, 0, .null, [], 0))]
/-- YieldLines.run(I)I -/
def kd_58 : List (Nat × yE) := [
  (0, (.iload_n 1, 1, 0, 0, .null, [], 0)),
  (1, (.iconst 4, 1, 0, 0, .int 4, [], 0)),
  (2, (.invokestatic 96, 3, 76, 0, .null, [], 489)),
  (5, (.ifCond .ne 8, 3, 13, 0, .null, [], 0)),
  (8, (.aload_n 0, 1, 0, 0, .null, [], 0)),
  (9, (.invokevirtual 50, 3, 73, 0, .null, [], 340)),
  (12, (.ireturn, 1, 0, 0, .null, [], 0)),
  (13, (.aload_n 0, 1, 0, 0, .null, [], 0)),
  (14, (.getfield 46, 3, 5, 6, .null, [], 311)),
  (17, (.aload_n 0, 1, 0, 0, .null, [], 0)),
  (18, (.getfield 39, 3, 5, 5, .null, [], 310)),
  (21, (.aload_n 0, 1, 0, 0, .null, [], 0)),
  (22, (.getfield 16, 3, 5, 2, .null, [], 307)),
  (25, (.invokevirtual 104, 3, 20, 0, .null, [], 507)),
  (28, (.aload_n 0, 1, 0, 0, .null, [], 0)),
  (29, (.iload_n 1, 1, 0, 0, .null, [], 0)),
  (30, (.invokevirtual 108, 3, 68, 0, .null, [], 588)),
  (33, (.ireturn, 1, 0, 0, .null, [], 0))]
/-- YieldLines.said(I)I -/
def kd_59 : List (Nat × yE) := [
  (0, (.iload_n 1, 1, 0, 0, .null, [], 0)),
  (1, (.ifCond .ge 8, 3, 9, 0, .null, [], 0)),
  (4, (.aload_n 0, 1, 0, 0, .null, [], 0)),
  (5, (.invokevirtual 50, 3, 73, 0, .null, [], 340)),
  (8, (.ireturn, 1, 0, 0, .null, [], 0)),
  (9, (.aload_n 0, 1, 0, 0, .null, [], 0)),
  (10, (.getfield 46, 3, 5, 6, .null, [], 311)),
  (13, (.aload_n 0, 1, 0, 0, .null, [], 0)),
  (14, (.getfield 39, 3, 5, 5, .null, [], 310)),
  (17, (.aload_n 0, 1, 0, 0, .null, [], 0)),
  (18, (.getfield 16, 3, 5, 2, .null, [], 307)),
  (21, (.invokevirtual 104, 3, 20, 0, .null, [], 507)),
  (24, (.aload_n 0, 1, 0, 0, .null, [], 0)),
  (25, (.getfield 46, 3, 5, 6, .null, [], 311)),
  (28, (.iload_n 1, 1, 0, 0, .null, [], 0)),
  (29, (.invokevirtual 112, 3, 23, 0, .null, [], 604)),
  (32, (.ireturn, 1, 0, 0, .null, [], 0))]
/-- YieldLines.did(II)I -/
def kd_60 : List (Nat × yE) := [
  (0, (.aload_n 0, 1, 0, 0, .null, [], 0)),
  (1, (.iload_n 1, 1, 0, 0, .null, [], 0)),
  (2, (.invokevirtual 89, 3, 74, 0, .null, [], 485)),
  (5, (.ifCond .eq 11, 3, 16, 0, .null, [], 0)),
  (8, (.iload_n 2, 1, 0, 0, .null, [], 0)),
  (9, (.iconst 4, 1, 0, 0, .int 4, [], 0)),
  (10, (.invokestatic 96, 3, 76, 0, .null, [], 489)),
  (13, (.ifCond .ne 8, 3, 21, 0, .null, [], 0)),
  (16, (.aload_n 0, 1, 0, 0, .null, [], 0)),
  (17, (.invokevirtual 50, 3, 73, 0, .null, [], 340)),
  (20, (.ireturn, 1, 0, 0, .null, [], 0)),
  (21, (.aload_n 0, 1, 0, 0, .null, [], 0)),
  (22, (.getfield 46, 3, 5, 6, .null, [], 311)),
  (25, (.aload_n 0, 1, 0, 0, .null, [], 0)),
  (26, (.getfield 39, 3, 5, 5, .null, [], 310)),
  (29, (.aload_n 0, 1, 0, 0, .null, [], 0)),
  (30, (.getfield 16, 3, 5, 2, .null, [], 307)),
  (33, (.invokevirtual 104, 3, 20, 0, .null, [], 507)),
  (36, (.aload_n 0, 1, 0, 0, .null, [], 0)),
  (37, (.iload_n 1, 1, 0, 0, .null, [], 0)),
  (38, (.iload_n 2, 1, 0, 0, .null, [], 0)),
  (39, (.invokevirtual 115, 3, 69, 0, .null, [], 612)),
  (42, (.ireturn, 1, 0, 0, .null, [], 0))]
/-- YieldLines.ends(I)I -/
def kd_61 : List (Nat × yE) := [
  (0, (.iload_n 1, 1, 0, 0, .null, [], 0)),
  (1, (.invokestatic 78, 3, 75, 0, .null, [], 475)),
  (4, (.ifCond .ne 8, 3, 12, 0, .null, [], 0)),
  (7, (.aload_n 0, 1, 0, 0, .null, [], 0)),
  (8, (.invokevirtual 50, 3, 73, 0, .null, [], 340)),
  (11, (.ireturn, 1, 0, 0, .null, [], 0)),
  (12, (.aload_n 0, 1, 0, 0, .null, [], 0)),
  (13, (.getfield 46, 3, 5, 6, .null, [], 311)),
  (16, (.aload_n 0, 1, 0, 0, .null, [], 0)),
  (17, (.getfield 39, 3, 5, 5, .null, [], 310)),
  (20, (.aload_n 0, 1, 0, 0, .null, [], 0)),
  (21, (.getfield 16, 3, 5, 2, .null, [], 307)),
  (24, (.invokevirtual 104, 3, 20, 0, .null, [], 507)),
  (27, (.aload_n 0, 1, 0, 0, .null, [], 0)),
  (28, (.getfield 46, 3, 5, 6, .null, [], 311)),
  (31, (.getfield 118, 3, 2, 7, .null, [], 287)),
  (34, (.iload_n 1, 1, 0, 0, .null, [], 0)),
  (35, (.iaload, 1, 0, 0, .null, [], 0)),
  (36, (.ireturn, 1, 0, 0, .null, [], 0))]
/-- YieldLines.alone(II)I -/
def kd_62 : List (Nat × yE) := [
  (0, (.aload_n 0, 1, 0, 0, .null, [], 0)),
  (1, (.iload_n 1, 1, 0, 0, .null, [], 0)),
  (2, (.invokevirtual 89, 3, 74, 0, .null, [], 485)),
  (5, (.ifCond .eq 7, 3, 12, 0, .null, [], 0)),
  (8, (.iload_n 2, 1, 0, 0, .null, [], 0)),
  (9, (.ifCond .ge 8, 3, 17, 0, .null, [], 0)),
  (12, (.aload_n 0, 1, 0, 0, .null, [], 0)),
  (13, (.invokevirtual 50, 3, 73, 0, .null, [], 340)),
  (16, (.ireturn, 1, 0, 0, .null, [], 0)),
  (17, (.aload_n 0, 1, 0, 0, .null, [], 0)),
  (18, (.getfield 39, 3, 5, 5, .null, [], 310)),
  (21, (.invokevirtual 121, 3, 4, 0, .null, [], 624)),
  (24, (.aload_n 0, 1, 0, 0, .null, [], 0)),
  (25, (.getfield 39, 3, 5, 5, .null, [], 310)),
  (28, (.aload_n 0, 1, 0, 0, .null, [], 0)),
  (29, (.getfield 16, 3, 5, 2, .null, [], 307)),
  (32, (.getfield 124, 3, 4, 4, .null, [], 121)),
  (35, (.iload_n 1, 1, 0, 0, .null, [], 0)),
  (36, (.iaload, 1, 0, 0, .null, [], 0)),
  (37, (.invokevirtual 127, 3, 5, 0, .null, [], 625)),
  (40, (.iconst 0, 1, 0, 0, .int 0, [], 0)),
  (41, (.istore_n 3, 1, 0, 0, .null, [], 0)),
  (42, (.iload_n 3, 1, 0, 0, .null, [], 0)),
  (43, (.bipush 30, 2, 0, 0, .int 30, [], 0)),
  (45, (.if_icmp .ge 50, 3, 95, 0, .null, [], 0)),
  (48, (.iload_n 3, 1, 0, 0, .null, [], 0)),
  (49, (.iload_n 2, 1, 0, 0, .null, [], 0)),
  (50, (.if_icmp .gt 45, 3, 95, 0, .null, [], 0)),
  (53, (.aload_n 0, 1, 0, 0, .null, [], 0)),
  (54, (.getfield 39, 3, 5, 5, .null, [], 310)),
  (57, (.aload_n 0, 1, 0, 0, .null, [], 0)),
  (58, (.getfield 16, 3, 5, 2, .null, [], 307)),
  (61, (.getfield 124, 3, 4, 4, .null, [], 121)),
  (64, (.iload_n 1, 1, 0, 0, .null, [], 0)),
  (65, (.iaload, 1, 0, 0, .null, [], 0)),
  (66, (.iconst 0, 1, 0, 0, .int 0, [], 0)),
  (67, (.invokevirtual 130, 3, 7, 1, .null, [], 626)),
  (70, (.ifCond .ne 6, 3, 76, 0, .null, [], 0)),
  (73, (.ldc 133, 2, 0, 0, .int (-1999999), [], 627)),
  (75, (.ireturn, 1, 0, 0, .null, [], 0)),
  (76, (.iload_n 3, 1, 0, 0, .null, [], 0)),
  (77, (.iload_n 2, 1, 0, 0, .null, [], 0)),
  (78, (.if_icmp .ne 11, 3, 89, 0, .null, [], 0)),
  (81, (.aload_n 0, 1, 0, 0, .null, [], 0)),
  (82, (.getfield 39, 3, 5, 5, .null, [], 310)),
  (85, (.getfield 134, 3, 1, 6, .null, [], 243)),
  (88, (.ireturn, 1, 0, 0, .null, [], 0)),
  (89, (.iinc 3 1, 3, 0, 0, .int 1, [], 0)),
  (92, (.goto (-50), 3, 42, 0, .null, [], 0)),
  (95, (.ldc 133, 2, 0, 0, .int (-1999999), [], 627)),
  (97, (.ireturn, 1, 0, 0, .null, [], 0))]
/-- YieldLines.back()I -/
def kd_63 : List (Nat × yE) := [
  (0, (.aload_n 0, 1, 0, 0, .null, [], 0)),
  (1, (.getfield 30, 3, 5, 4, .null, [], 309)),
  (4, (.getfield 137, 3, 0, 2, .null, [], 221)),
  (7, (.ifCond .ne 16, 3, 23, 0, .null, [], 0)),
  (10, (.aload_n 0, 1, 0, 0, .null, [], 0)),
  (11, (.dup, 1, 0, 0, .null, [], 0)),
  (12, (.getfield 140, 3, 5, 8, .null, [], 313)),
  (15, (.iconst 1, 1, 0, 0, .int 1, [], 0)),
  (16, (.iadd, 1, 0, 0, .null, [], 0)),
  (17, (.putfield 140, 3, 5, 8, .ref 0, [], 313)),
  (20, (.ldc 143, 2, 0, 0, .int (-2000001), [], 632)),
  (22, (.ireturn, 1, 0, 0, .null, [], 0)),
  (23, (.aload_n 0, 1, 0, 0, .null, [], 0)),
  (24, (.getfield 30, 3, 5, 4, .null, [], 309)),
  (27, (.aload_n 0, 1, 0, 0, .null, [], 0)),
  (28, (.getfield 16, 3, 5, 2, .null, [], 307)),
  (31, (.invokevirtual 144, 3, 2, 0, .null, [], 633)),
  (34, (.aload_n 0, 1, 0, 0, .null, [], 0)),
  (35, (.getfield 46, 3, 5, 6, .null, [], 311)),
  (38, (.iconst 0, 1, 0, 0, .int 0, [], 0)),
  (39, (.putfield 147, 3, 2, 0, .ref 1, [], 274)),
  (42, (.aload_n 0, 1, 0, 0, .null, [], 0)),
  (43, (.getfield 30, 3, 5, 4, .null, [], 309)),
  (46, (.getfield 137, 3, 0, 2, .null, [], 221)),
  (49, (.ireturn, 1, 0, 0, .null, [], 0))]
/-- YieldLines.told(I)I -/
def kd_64 : List (Nat × yE) := [
  (0, (.iload_n 1, 1, 0, 0, .null, [], 0)),
  (1, (.bipush 7, 2, 0, 0, .int 7, [], 0)),
  (3, (.invokestatic 96, 3, 76, 0, .null, [], 489)),
  (6, (.ifCond .ne 8, 3, 14, 0, .null, [], 0)),
  (9, (.aload_n 0, 1, 0, 0, .null, [], 0)),
  (10, (.invokevirtual 50, 3, 73, 0, .null, [], 340)),
  (13, (.ireturn, 1, 0, 0, .null, [], 0)),
  (14, (.aload_n 0, 1, 0, 0, .null, [], 0)),
  (15, (.iload_n 1, 1, 0, 0, .null, [], 0)),
  (16, (.invokevirtual 151, 3, 70, 0, .null, [], 641)),
  (19, (.ireturn, 1, 0, 0, .null, [], 0))]
/-- YieldLines.digest()J -/
def kd_65 : List (Nat × yE) := [
  (0, (.aload_n 0, 1, 0, 0, .null, [], 0)),
  (1, (.getfield 46, 3, 5, 6, .null, [], 311)),
  (4, (.aload_n 0, 1, 0, 0, .null, [], 0)),
  (5, (.getfield 39, 3, 5, 5, .null, [], 310)),
  (8, (.aload_n 0, 1, 0, 0, .null, [], 0)),
  (9, (.getfield 16, 3, 5, 2, .null, [], 307)),
  (12, (.invokevirtual 104, 3, 20, 0, .null, [], 507)),
  (15, (.ldc2_w 154, 3, 0, 0, .long 2467, [], 649)),
  (18, (.lstore_n 1, 1, 0, 0, .null, [], 0)),
  (19, (.iconst 0, 1, 0, 0, .int 0, [], 0)),
  (20, (.istore_n 3, 1, 0, 0, .null, [], 0)),
  (21, (.iload_n 3, 1, 0, 0, .null, [], 0)),
  (22, (.bipush 7, 2, 0, 0, .int 7, [], 0)),
  (24, (.if_icmp .ge 22, 3, 46, 0, .null, [], 0)),
  (27, (.ldc2_w 156, 3, 0, 0, .long 31, [], 650)),
  (30, (.lload_n 1, 1, 0, 0, .null, [], 0)),
  (31, (.lmul, 1, 0, 0, .null, [], 0)),
  (32, (.aload_n 0, 1, 0, 0, .null, [], 0)),
  (33, (.iload_n 3, 1, 0, 0, .null, [], 0)),
  (34, (.invokevirtual 151, 3, 70, 0, .null, [], 641)),
  (37, (.i2l, 1, 0, 0, .null, [], 0)),
  (38, (.ladd, 1, 0, 0, .null, [], 0)),
  (39, (.lstore_n 1, 1, 0, 0, .null, [], 0)),
  (40, (.iinc 3 1, 3, 0, 0, .int 1, [], 0)),
  (43, (.goto (-22), 3, 21, 0, .null, [], 0)),
  (46, (.iconst 0, 1, 0, 0, .int 0, [], 0)),
  (47, (.istore_n 3, 1, 0, 0, .null, [], 0)),
  (48, (.iload_n 3, 1, 0, 0, .null, [], 0)),
  (49, (.iconst 4, 1, 0, 0, .int 4, [], 0)),
  (50, (.if_icmp .ge 26, 3, 76, 0, .null, [], 0)),
  (53, (.ldc2_w 156, 3, 0, 0, .long 31, [], 650)),
  (56, (.lload_n 1, 1, 0, 0, .null, [], 0)),
  (57, (.lmul, 1, 0, 0, .null, [], 0)),
  (58, (.aload_n 0, 1, 0, 0, .null, [], 0)),
  (59, (.getfield 16, 3, 5, 2, .null, [], 307)),
  (62, (.getfield 86, 3, 4, 9, .null, [], 137)),
  (65, (.iload_n 3, 1, 0, 0, .null, [], 0)),
  (66, (.iaload, 1, 0, 0, .null, [], 0)),
  (67, (.i2l, 1, 0, 0, .null, [], 0)),
  (68, (.ladd, 1, 0, 0, .null, [], 0)),
  (69, (.lstore_n 1, 1, 0, 0, .null, [], 0)),
  (70, (.iinc 3 1, 3, 0, 0, .int 1, [], 0)),
  (73, (.goto (-25), 3, 48, 0, .null, [], 0)),
  (76, (.iconst 0, 1, 0, 0, .int 0, [], 0)),
  (77, (.istore_n 3, 1, 0, 0, .null, [], 0)),
  (78, (.iload_n 3, 1, 0, 0, .null, [], 0)),
  (79, (.aload_n 0, 1, 0, 0, .null, [], 0)),
  (80, (.getfield 16, 3, 5, 2, .null, [], 307)),
  (83, (.getfield 75, 3, 4, 10, .null, [], 141)),
  (86, (.if_icmp .ge 16, 3, 102, 0, .null, [], 0)),
  (89, (.aload_n 0, 1, 0, 0, .null, [], 0)),
  (90, (.lload_n 1, 1, 0, 0, .null, [], 0)),
  (91, (.iload_n 3, 1, 0, 0, .null, [], 0)),
  (92, (.invokevirtual 158, 3, 66, 0, .null, [], 651)),
  (95, (.lstore_n 1, 1, 0, 0, .null, [], 0)),
  (96, (.iinc 3 1, 3, 0, 0, .int 1, [], 0)),
  (99, (.goto (-21), 3, 78, 0, .null, [], 0)),
  (102, (.iconst 0, 1, 0, 0, .int 0, [], 0)),
  (103, (.istore_n 3, 1, 0, 0, .null, [], 0)),
  (104, (.iload_n 3, 1, 0, 0, .null, [], 0)),
  (105, (.iconst 4, 1, 0, 0, .int 4, [], 0)),
  (106, (.if_icmp .ge 22, 3, 128, 0, .null, [], 0)),
  (109, (.ldc2_w 156, 3, 0, 0, .long 31, [], 650)),
  (112, (.lload_n 1, 1, 0, 0, .null, [], 0)),
  (113, (.lmul, 1, 0, 0, .null, [], 0)),
  (114, (.aload_n 0, 1, 0, 0, .null, [], 0)),
  (115, (.iload_n 3, 1, 0, 0, .null, [], 0)),
  (116, (.invokevirtual 108, 3, 68, 0, .null, [], 588)),
  (119, (.i2l, 1, 0, 0, .null, [], 0)),
  (120, (.ladd, 1, 0, 0, .null, [], 0)),
  (121, (.lstore_n 1, 1, 0, 0, .null, [], 0)),
  (122, (.iinc 3 1, 3, 0, 0, .int 1, [], 0)),
  (125, (.goto (-21), 3, 104, 0, .null, [], 0)),
  (128, (.iconst 0, 1, 0, 0, .int 0, [], 0)),
  (129, (.istore_n 3, 1, 0, 0, .null, [], 0)),
  (130, (.iload_n 3, 1, 0, 0, .null, [], 0)),
  (131, (.aload_n 0, 1, 0, 0, .null, [], 0)),
  (132, (.getfield 46, 3, 5, 6, .null, [], 311)),
  (135, (.getfield 162, 3, 2, 2, .null, [], 277)),
  (138, (.if_icmp .ge 25, 3, 163, 0, .null, [], 0)),
  (141, (.ldc2_w 156, 3, 0, 0, .long 31, [], 650)),
  (144, (.lload_n 1, 1, 0, 0, .null, [], 0)),
  (145, (.lmul, 1, 0, 0, .null, [], 0)),
  (146, (.aload_n 0, 1, 0, 0, .null, [], 0)),
  (147, (.getfield 46, 3, 5, 6, .null, [], 311)),
  (150, (.iload_n 3, 1, 0, 0, .null, [], 0)),
  (151, (.invokevirtual 112, 3, 23, 0, .null, [], 604)),
  (154, (.i2l, 1, 0, 0, .null, [], 0)),
  (155, (.ladd, 1, 0, 0, .null, [], 0)),
  (156, (.lstore_n 1, 1, 0, 0, .null, [], 0)),
  (157, (.iinc 3 1, 3, 0, 0, .int 1, [], 0)),
  (160, (.goto (-30), 3, 130, 0, .null, [], 0)),
  (163, (.iconst 0, 1, 0, 0, .int 0, [], 0)),
  (164, (.istore_n 3, 1, 0, 0, .null, [], 0)),
  (165, (.iload_n 3, 1, 0, 0, .null, [], 0)),
  (166, (.iconst 4, 1, 0, 0, .int 4, [], 0)),
  (167, (.if_icmp .ge 26, 3, 193, 0, .null, [], 0)),
  (170, (.ldc2_w 156, 3, 0, 0, .long 31, [], 650)),
  (173, (.lload_n 1, 1, 0, 0, .null, [], 0)),
  (174, (.lmul, 1, 0, 0, .null, [], 0)),
  (175, (.aload_n 0, 1, 0, 0, .null, [], 0)),
  (176, (.getfield 46, 3, 5, 6, .null, [], 311)),
  (179, (.getfield 118, 3, 2, 7, .null, [], 287)),
  (182, (.iload_n 3, 1, 0, 0, .null, [], 0)),
  (183, (.iaload, 1, 0, 0, .null, [], 0)),
  (184, (.i2l, 1, 0, 0, .null, [], 0)),
  (185, (.ladd, 1, 0, 0, .null, [], 0)),
  (186, (.lstore_n 1, 1, 0, 0, .null, [], 0)),
  (187, (.iinc 3 1, 3, 0, 0, .int 1, [], 0)),
  (190, (.goto (-25), 3, 165, 0, .null, [], 0)),
  (193, (.lload_n 1, 1, 0, 0, .null, [], 0)),
  (194, (.lreturn, 1, 0, 0, .null, [], 0))]
/-- YieldLines.withLine(JI)J -/
def kd_66 : List (Nat × yE) := [
  (0, (.lload_n 1, 1, 0, 0, .null, [], 0)),
  (1, (.lstore 4, 2, 0, 0, .null, [], 0)),
  (3, (.iconst 0, 1, 0, 0, .int 0, [], 0)),
  (4, (.istore 6, 2, 0, 0, .null, [], 0)),
  (6, (.iload 6, 2, 0, 0, .null, [], 0)),
  (8, (.iconst 4, 1, 0, 0, .int 4, [], 0)),
  (9, (.if_icmp .ge 26, 3, 35, 0, .null, [], 0)),
  (12, (.ldc2_w 156, 3, 0, 0, .long 31, [], 650)),
  (15, (.lload 4, 2, 0, 0, .null, [], 0)),
  (17, (.lmul, 1, 0, 0, .null, [], 0)),
  (18, (.aload_n 0, 1, 0, 0, .null, [], 0)),
  (19, (.iload_n 3, 1, 0, 0, .null, [], 0)),
  (20, (.iload 6, 2, 0, 0, .null, [], 0)),
  (22, (.invokevirtual 100, 3, 67, 0, .null, [], 499)),
  (25, (.i2l, 1, 0, 0, .null, [], 0)),
  (26, (.ladd, 1, 0, 0, .null, [], 0)),
  (27, (.lstore 4, 2, 0, 0, .null, [], 0)),
  (29, (.iinc 6 1, 3, 0, 0, .int 1, [], 0)),
  (32, (.goto (-26), 3, 6, 0, .null, [], 0)),
  (35, (.iconst 0, 1, 0, 0, .int 0, [], 0)),
  (36, (.istore 6, 2, 0, 0, .null, [], 0)),
  (38, (.iload 6, 2, 0, 0, .null, [], 0)),
  (40, (.iconst 4, 1, 0, 0, .int 4, [], 0)),
  (41, (.if_icmp .ge 26, 3, 67, 0, .null, [], 0)),
  (44, (.ldc2_w 156, 3, 0, 0, .long 31, [], 650)),
  (47, (.lload 4, 2, 0, 0, .null, [], 0)),
  (49, (.lmul, 1, 0, 0, .null, [], 0)),
  (50, (.aload_n 0, 1, 0, 0, .null, [], 0)),
  (51, (.iload_n 3, 1, 0, 0, .null, [], 0)),
  (52, (.iload 6, 2, 0, 0, .null, [], 0)),
  (54, (.invokevirtual 115, 3, 69, 0, .null, [], 612)),
  (57, (.i2l, 1, 0, 0, .null, [], 0)),
  (58, (.ladd, 1, 0, 0, .null, [], 0)),
  (59, (.lstore 4, 2, 0, 0, .null, [], 0)),
  (61, (.iinc 6 1, 3, 0, 0, .int 1, [], 0)),
  (64, (.goto (-26), 3, 38, 0, .null, [], 0)),
  (67, (.lload 4, 2, 0, 0, .null, [], 0)),
  (69, (.lreturn, 1, 0, 0, .null, [], 0))]
/-- YieldLines.ofLine(II)I -/
def kd_67 : List (Nat × yE) := [
  (0, (.iload_n 2, 1, 0, 0, .null, [], 0)),
  (1, (.tableswitch 57 0 2 #[27, 37, 47], 27, 58, 0, .null, [(0, 28), (1, 38), (2, 48)], 0)),
  (28, (.aload_n 0, 1, 0, 0, .null, [], 0)),
  (29, (.getfield 16, 3, 5, 2, .null, [], 307)),
  (32, (.getfield 165, 3, 4, 5, .null, [], 125)),
  (35, (.iload_n 1, 1, 0, 0, .null, [], 0)),
  (36, (.iaload, 1, 0, 0, .null, [], 0)),
  (37, (.ireturn, 1, 0, 0, .null, [], 0)),
  (38, (.aload_n 0, 1, 0, 0, .null, [], 0)),
  (39, (.getfield 16, 3, 5, 2, .null, [], 307)),
  (42, (.getfield 168, 3, 4, 6, .null, [], 128)),
  (45, (.iload_n 1, 1, 0, 0, .null, [], 0)),
  (46, (.iaload, 1, 0, 0, .null, [], 0)),
  (47, (.ireturn, 1, 0, 0, .null, [], 0)),
  (48, (.aload_n 0, 1, 0, 0, .null, [], 0)),
  (49, (.getfield 16, 3, 5, 2, .null, [], 307)),
  (52, (.getfield 171, 3, 4, 7, .null, [], 131)),
  (55, (.iload_n 1, 1, 0, 0, .null, [], 0)),
  (56, (.iaload, 1, 0, 0, .null, [], 0)),
  (57, (.ireturn, 1, 0, 0, .null, [], 0)),
  (58, (.aload_n 0, 1, 0, 0, .null, [], 0)),
  (59, (.getfield 16, 3, 5, 2, .null, [], 307)),
  (62, (.getfield 174, 3, 4, 8, .null, [], 134)),
  (65, (.iload_n 1, 1, 0, 0, .null, [], 0)),
  (66, (.iaload, 1, 0, 0, .null, [], 0)),
  (67, (.ireturn, 1, 0, 0, .null, [], 0))]
/-- YieldLines.ofRun(I)I -/
def kd_68 : List (Nat × yE) := [
  (0, (.iload_n 1, 1, 0, 0, .null, [], 0)),
  (1, (.tableswitch 62 0 2 #[27, 35, 50], 27, 63, 0, .null, [(0, 28), (1, 36), (2, 51)], 0)),
  (28, (.aload_n 0, 1, 0, 0, .null, [], 0)),
  (29, (.getfield 46, 3, 5, 6, .null, [], 311)),
  (32, (.getfield 162, 3, 2, 2, .null, [], 277)),
  (35, (.ireturn, 1, 0, 0, .null, [], 0)),
  (36, (.aload_n 0, 1, 0, 0, .null, [], 0)),
  (37, (.getfield 46, 3, 5, 6, .null, [], 311)),
  (40, (.aload_n 0, 1, 0, 0, .null, [], 0)),
  (41, (.getfield 16, 3, 5, 2, .null, [], 307)),
  (44, (.getfield 75, 3, 4, 10, .null, [], 141)),
  (47, (.invokevirtual 177, 3, 24, 0, .null, [], 592)),
  (50, (.ireturn, 1, 0, 0, .null, [], 0)),
  (51, (.aload_n 0, 1, 0, 0, .null, [], 0)),
  (52, (.aload_n 0, 1, 0, 0, .null, [], 0)),
  (53, (.getfield 46, 3, 5, 6, .null, [], 311)),
  (56, (.getfield 180, 3, 2, 5, .null, [], 283)),
  (59, (.invokevirtual 183, 3, 71, 0, .null, [], 596)),
  (62, (.ireturn, 1, 0, 0, .null, [], 0)),
  (63, (.aload_n 0, 1, 0, 0, .null, [], 0)),
  (64, (.aload_n 0, 1, 0, 0, .null, [], 0)),
  (65, (.getfield 46, 3, 5, 6, .null, [], 311)),
  (68, (.getfield 187, 3, 2, 4, .null, [], 281)),
  (71, (.invokevirtual 183, 3, 71, 0, .null, [], 596)),
  (74, (.ireturn, 1, 0, 0, .null, [], 0))]
/-- YieldLines.ofDone(II)I -/
def kd_69 : List (Nat × yE) := [
  (0, (.iload_n 2, 1, 0, 0, .null, [], 0)),
  (1, (.tableswitch 57 0 2 #[27, 37, 47], 27, 58, 0, .null, [(0, 28), (1, 38), (2, 48)], 0)),
  (28, (.aload_n 0, 1, 0, 0, .null, [], 0)),
  (29, (.getfield 46, 3, 5, 6, .null, [], 311)),
  (32, (.getfield 190, 3, 2, 3, .null, [], 279)),
  (35, (.iload_n 1, 1, 0, 0, .null, [], 0)),
  (36, (.iaload, 1, 0, 0, .null, [], 0)),
  (37, (.ireturn, 1, 0, 0, .null, [], 0)),
  (38, (.aload_n 0, 1, 0, 0, .null, [], 0)),
  (39, (.getfield 46, 3, 5, 6, .null, [], 311)),
  (42, (.getfield 187, 3, 2, 4, .null, [], 281)),
  (45, (.iload_n 1, 1, 0, 0, .null, [], 0)),
  (46, (.iaload, 1, 0, 0, .null, [], 0)),
  (47, (.ireturn, 1, 0, 0, .null, [], 0)),
  (48, (.aload_n 0, 1, 0, 0, .null, [], 0)),
  (49, (.getfield 46, 3, 5, 6, .null, [], 311)),
  (52, (.getfield 180, 3, 2, 5, .null, [], 283)),
  (55, (.iload_n 1, 1, 0, 0, .null, [], 0)),
  (56, (.iaload, 1, 0, 0, .null, [], 0)),
  (57, (.ireturn, 1, 0, 0, .null, [], 0)),
  (58, (.aload_n 0, 1, 0, 0, .null, [], 0)),
  (59, (.getfield 46, 3, 5, 6, .null, [], 311)),
  (62, (.getfield 193, 3, 2, 6, .null, [], 285)),
  (65, (.iload_n 1, 1, 0, 0, .null, [], 0)),
  (66, (.iaload, 1, 0, 0, .null, [], 0)),
  (67, (.ireturn, 1, 0, 0, .null, [], 0))]
/-- YieldLines.ofAll(I)I -/
def kd_70 : List (Nat × yE) := [
  (0, (.iload_n 1, 1, 0, 0, .null, [], 0)),
  (1, (.tableswitch 79 0 5 #[39, 44, 49, 54, 59, 67], 39, 80, 0, .null, [(0, 40), (1, 45), (2, 50), (3, 55), (4, 60), (5, 68)], 0)),
  (40, (.aload_n 0, 1, 0, 0, .null, [], 0)),
  (41, (.getfield 196, 3, 5, 7, .null, [], 312)),
  (44, (.ireturn, 1, 0, 0, .null, [], 0)),
  (45, (.aload_n 0, 1, 0, 0, .null, [], 0)),
  (46, (.getfield 140, 3, 5, 8, .null, [], 313)),
  (49, (.ireturn, 1, 0, 0, .null, [], 0)),
  (50, (.aload_n 0, 1, 0, 0, .null, [], 0)),
  (51, (.getfield 58, 3, 5, 9, .null, [], 314)),
  (54, (.ireturn, 1, 0, 0, .null, [], 0)),
  (55, (.aload_n 0, 1, 0, 0, .null, [], 0)),
  (56, (.getfield 54, 3, 5, 1, .null, [], 306)),
  (59, (.ireturn, 1, 0, 0, .null, [], 0)),
  (60, (.aload_n 0, 1, 0, 0, .null, [], 0)),
  (61, (.getfield 16, 3, 5, 2, .null, [], 307)),
  (64, (.getfield 75, 3, 4, 10, .null, [], 141)),
  (67, (.ireturn, 1, 0, 0, .null, [], 0)),
  (68, (.aload_n 0, 1, 0, 0, .null, [], 0)),
  (69, (.aload_n 0, 1, 0, 0, .null, [], 0)),
  (70, (.getfield 16, 3, 5, 2, .null, [], 307)),
  (73, (.getfield 168, 3, 4, 6, .null, [], 128)),
  (76, (.invokevirtual 183, 3, 71, 0, .null, [], 596)),
  (79, (.ireturn, 1, 0, 0, .null, [], 0)),
  (80, (.aload_n 0, 1, 0, 0, .null, [], 0)),
  (81, (.getfield 30, 3, 5, 4, .null, [], 309)),
  (84, (.getfield 137, 3, 0, 2, .null, [], 221)),
  (87, (.ireturn, 1, 0, 0, .null, [], 0))]
/-- YieldLines.sumOfLines([I)I -/
def kd_71 : List (Nat × yE) := [
  (0, (.iconst 0, 1, 0, 0, .int 0, [], 0)),
  (1, (.istore_n 2, 1, 0, 0, .null, [], 0)),
  (2, (.iconst 0, 1, 0, 0, .int 0, [], 0)),
  (3, (.istore_n 3, 1, 0, 0, .null, [], 0)),
  (4, (.iload_n 3, 1, 0, 0, .null, [], 0)),
  (5, (.aload_n 0, 1, 0, 0, .null, [], 0)),
  (6, (.getfield 16, 3, 5, 2, .null, [], 307)),
  (9, (.getfield 75, 3, 4, 10, .null, [], 141)),
  (12, (.if_icmp .ge 21, 3, 33, 0, .null, [], 0)),
  (15, (.iload_n 3, 1, 0, 0, .null, [], 0)),
  (16, (.aload_n 1, 1, 0, 0, .null, [], 0)),
  (17, (.arraylength, 1, 0, 0, .null, [], 0)),
  (18, (.if_icmp .ge 15, 3, 33, 0, .null, [], 0)),
  (21, (.iload_n 2, 1, 0, 0, .null, [], 0)),
  (22, (.aload_n 1, 1, 0, 0, .null, [], 0)),
  (23, (.iload_n 3, 1, 0, 0, .null, [], 0)),
  (24, (.iaload, 1, 0, 0, .null, [], 0)),
  (25, (.iadd, 1, 0, 0, .null, [], 0)),
  (26, (.istore_n 2, 1, 0, 0, .null, [], 0)),
  (27, (.iinc 3 1, 3, 0, 0, .int 1, [], 0)),
  (30, (.goto (-26), 3, 4, 0, .null, [], 0)),
  (33, (.iload_n 2, 1, 0, 0, .null, [], 0)),
  (34, (.ireturn, 1, 0, 0, .null, [], 0))]
/-- YieldLines.leaveState()V -/
def kd_72 : List (Nat × yE) := [
  (0, (.aload_n 0, 1, 0, 0, .null, [], 0)),
  (1, (.getfield 30, 3, 5, 4, .null, [], 309)),
  (4, (.aload_n 0, 1, 0, 0, .null, [], 0)),
  (5, (.getfield 16, 3, 5, 2, .null, [], 307)),
  (8, (.invokevirtual 199, 3, 1, 0, .null, [], 452)),
  (11, (.aload_n 0, 1, 0, 0, .null, [], 0)),
  (12, (.getfield 46, 3, 5, 6, .null, [], 311)),
  (15, (.iconst 0, 1, 0, 0, .int 0, [], 0)),
  (16, (.putfield 147, 3, 2, 0, .ref 1, [], 274)),
  (19, (.return_, 1, 0, 0, .null, [], 0))]
/-- YieldLines.bad()I -/
def kd_73 : List (Nat × yE) := [
  (0, (.aload_n 0, 1, 0, 0, .null, [], 0)),
  (1, (.dup, 1, 0, 0, .null, [], 0)),
  (2, (.getfield 196, 3, 5, 7, .null, [], 312)),
  (5, (.iconst 1, 1, 0, 0, .int 1, [], 0)),
  (6, (.iadd, 1, 0, 0, .null, [], 0)),
  (7, (.putfield 196, 3, 5, 7, .ref 0, [], 312)),
  (10, (.ldc 202, 2, 0, 0, .int (-2000000), [], 344)),
  (12, (.ireturn, 1, 0, 0, .null, [], 0))]
/-- YieldLines.isLine(I)Z -/
def kd_74 : List (Nat × yE) := [
  (0, (.iload_n 1, 1, 0, 0, .null, [], 0)),
  (1, (.aload_n 0, 1, 0, 0, .null, [], 0)),
  (2, (.getfield 16, 3, 5, 2, .null, [], 307)),
  (5, (.getfield 75, 3, 4, 10, .null, [], 141)),
  (8, (.invokestatic 96, 3, 76, 0, .null, [], 489)),
  (11, (.ireturn, 1, 0, 0, .null, [], 0))]
/-- YieldLines.isName(I)Z -/
def kd_75 : List (Nat × yE) := [
  (0, (.iload_n 0, 1, 0, 0, .null, [], 0)),
  (1, (.ifCond .lt 12, 3, 13, 0, .null, [], 0)),
  (4, (.iload_n 0, 1, 0, 0, .null, [], 0)),
  (5, (.iconst 4, 1, 0, 0, .int 4, [], 0)),
  (6, (.if_icmp .ge 7, 3, 13, 0, .null, [], 0)),
  (9, (.iconst 1, 1, 0, 0, .int 1, [], 0)),
  (10, (.goto 4, 3, 14, 0, .null, [], 0)),
  (13, (.iconst 0, 1, 0, 0, .int 0, [], 0)),
  (14, (.ireturn, 1, 0, 0, .null, [], 0))]
/-- YieldLines.isBelow(II)Z -/
def kd_76 : List (Nat × yE) := [
  (0, (.iload_n 0, 1, 0, 0, .null, [], 0)),
  (1, (.ifCond .lt 12, 3, 13, 0, .null, [], 0)),
  (4, (.iload_n 0, 1, 0, 0, .null, [], 0)),
  (5, (.iload_n 1, 1, 0, 0, .null, [], 0)),
  (6, (.if_icmp .ge 7, 3, 13, 0, .null, [], 0)),
  (9, (.iconst 1, 1, 0, 0, .int 1, [], 0)),
  (10, (.goto 4, 3, 14, 0, .null, [], 0)),
  (13, (.iconst 0, 1, 0, 0, .int 0, [], 0)),
  (14, (.ireturn, 1, 0, 0, .null, [], 0))]
/-- YieldLines.isNode(I)Z -/
def kd_77 : List (Nat × yE) := [
  (0, (.iload_n 0, 1, 0, 0, .null, [], 0)),
  (1, (.ifCond .lt 13, 3, 14, 0, .null, [], 0)),
  (4, (.iload_n 0, 1, 0, 0, .null, [], 0)),
  (5, (.bipush 60, 2, 0, 0, .int 60, [], 0)),
  (7, (.if_icmp .ge 7, 3, 14, 0, .null, [], 0)),
  (10, (.iconst 1, 1, 0, 0, .int 1, [], 0)),
  (11, (.goto 4, 3, 15, 0, .null, [], 0)),
  (14, (.iconst 0, 1, 0, 0, .int 0, [], 0)),
  (15, (.ireturn, 1, 0, 0, .null, [], 0))]
/-- YieldLines.isNumber(J)Z -/
def kd_78 : List (Nat × yE) := [
  (0, (.lload_n 0, 1, 0, 0, .null, [], 0)),
  (1, (.ldc2_w 203, 3, 0, 0, .long (-999999), [], 479)),
  (4, (.lcmp, 1, 0, 0, .null, [], 0)),
  (5, (.ifCond .lt 15, 3, 20, 0, .null, [], 0)),
  (8, (.lload_n 0, 1, 0, 0, .null, [], 0)),
  (9, (.ldc2_w 205, 3, 0, 0, .long 999999, [], 480)),
  (12, (.lcmp, 1, 0, 0, .null, [], 0)),
  (13, (.ifCond .gt 7, 3, 20, 0, .null, [], 0)),
  (16, (.iconst 1, 1, 0, 0, .int 1, [], 0)),
  (17, (.goto 4, 3, 21, 0, .null, [], 0)),
  (20, (.iconst 0, 1, 0, 0, .int 0, [], 0)),
  (21, (.ireturn, 1, 0, 0, .null, [], 0))]
/-- YieldLinesModel.in(III)Z -/
def kd_80 : List (Nat × yE) := [
  (0, (.iload_n 0, 1, 0, 0, .null, [], 0)),
  (1, (.iload_n 1, 1, 0, 0, .null, [], 0)),
  (2, (.if_icmp .lt 12, 3, 14, 0, .null, [], 0)),
  (5, (.iload_n 0, 1, 0, 0, .null, [], 0)),
  (6, (.iload_n 2, 1, 0, 0, .null, [], 0)),
  (7, (.if_icmp .gt 7, 3, 14, 0, .null, [], 0)),
  (10, (.iconst 1, 1, 0, 0, .int 1, [], 0)),
  (11, (.goto 4, 3, 15, 0, .null, [], 0)),
  (14, (.iconst 0, 1, 0, 0, .int 0, [], 0)),
  (15, (.ireturn, 1, 0, 0, .null, [], 0))]
/-- YieldLinesModel.refuses(I)I -/
def kd_81 : List (Nat × yE) := [
  (0, (.aload_n 0, 1, 0, 0, .null, [], 0)),
  (1, (.getfield 19, 3, 6, 4, .null, [], 665)),
  (4, (.ldc 75, 2, 0, 0, .int (-2000000), [], 786)),
  (6, (.iload_n 1, 1, 0, 0, .null, [], 0)),
  (7, (.isub, 1, 0, 0, .null, [], 0)),
  (8, (.dup2, 1, 0, 0, .null, [], 0)),
  (9, (.iaload, 1, 0, 0, .null, [], 0)),
  (10, (.iconst 1, 1, 0, 0, .int 1, [], 0)),
  (11, (.iadd, 1, 0, 0, .null, [], 0)),
  (12, (.iastore, 1, 0, 0, .null, [], 0)),
  (13, (.iload_n 1, 1, 0, 0, .null, [], 0)),
  (14, (.ireturn, 1, 0, 0, .null, [], 0))]
/-- YieldLinesModel.hold()V -/
def kd_82 : List (Nat × yE) := [
  (0, (.iconst 0, 1, 0, 0, .int 0, [], 0)),
  (1, (.istore_n 1, 1, 0, 0, .null, [], 0)),
  (2, (.iload_n 1, 1, 0, 0, .null, [], 0)),
  (3, (.bipush 89, 2, 0, 0, .int 89, [], 0)),
  (5, (.if_icmp .ge 21, 3, 26, 0, .null, [], 0)),
  (8, (.aload_n 0, 1, 0, 0, .null, [], 0)),
  (9, (.getfield 13, 3, 6, 1, .null, [], 662)),
  (12, (.iload_n 1, 1, 0, 0, .null, [], 0)),
  (13, (.aload_n 0, 1, 0, 0, .null, [], 0)),
  (14, (.getfield 7, 3, 6, 0, .null, [], 661)),
  (17, (.iload_n 1, 1, 0, 0, .null, [], 0)),
  (18, (.iaload, 1, 0, 0, .null, [], 0)),
  (19, (.iastore, 1, 0, 0, .null, [], 0)),
  (20, (.iinc 1 1, 3, 0, 0, .int 1, [], 0)),
  (23, (.goto (-21), 3, 2, 0, .null, [], 0)),
  (26, (.return_, 1, 0, 0, .null, [], 0))]
/-- YieldLinesModel.push()V -/
def kd_83 : List (Nat × yE) := [
  (0, (.aload_n 0, 1, 0, 0, .null, [], 0)),
  (1, (.getfield 71, 3, 6, 3, .null, [], 664)),
  (4, (.iconst 5, 1, 0, 0, .int 5, [], 0)),
  (5, (.if_icmp .ne 43, 3, 48, 0, .null, [], 0)),
  (8, (.iconst 0, 1, 0, 0, .int 0, [], 0)),
  (9, (.istore_n 1, 1, 0, 0, .null, [], 0)),
  (10, (.iload_n 1, 1, 0, 0, .null, [], 0)),
  (11, (.sipush 356, 3, 0, 0, .int 356, [], 0)),
  (14, (.if_icmp .ge 24, 3, 38, 0, .null, [], 0)),
  (17, (.aload_n 0, 1, 0, 0, .null, [], 0)),
  (18, (.getfield 16, 3, 6, 2, .null, [], 663)),
  (21, (.iload_n 1, 1, 0, 0, .null, [], 0)),
  (22, (.aload_n 0, 1, 0, 0, .null, [], 0)),
  (23, (.getfield 16, 3, 6, 2, .null, [], 663)),
  (26, (.iload_n 1, 1, 0, 0, .null, [], 0)),
  (27, (.bipush 89, 2, 0, 0, .int 89, [], 0)),
  (29, (.iadd, 1, 0, 0, .null, [], 0)),
  (30, (.iaload, 1, 0, 0, .null, [], 0)),
  (31, (.iastore, 1, 0, 0, .null, [], 0)),
  (32, (.iinc 1 1, 3, 0, 0, .int 1, [], 0)),
  (35, (.goto (-25), 3, 10, 0, .null, [], 0)),
  (38, (.aload_n 0, 1, 0, 0, .null, [], 0)),
  (39, (.dup, 1, 0, 0, .null, [], 0)),
  (40, (.getfield 71, 3, 6, 3, .null, [], 664)),
  (43, (.iconst 1, 1, 0, 0, .int 1, [], 0)),
  (44, (.isub, 1, 0, 0, .null, [], 0)),
  (45, (.putfield 71, 3, 6, 3, .ref 0, [], 664)),
  (48, (.iconst 0, 1, 0, 0, .int 0, [], 0)),
  (49, (.istore_n 1, 1, 0, 0, .null, [], 0)),
  (50, (.iload_n 1, 1, 0, 0, .null, [], 0)),
  (51, (.bipush 89, 2, 0, 0, .int 89, [], 0)),
  (53, (.if_icmp .ge 29, 3, 82, 0, .null, [], 0)),
  (56, (.aload_n 0, 1, 0, 0, .null, [], 0)),
  (57, (.getfield 16, 3, 6, 2, .null, [], 663)),
  (60, (.bipush 89, 2, 0, 0, .int 89, [], 0)),
  (62, (.aload_n 0, 1, 0, 0, .null, [], 0)),
  (63, (.getfield 71, 3, 6, 3, .null, [], 664)),
  (66, (.imul, 1, 0, 0, .null, [], 0)),
  (67, (.iload_n 1, 1, 0, 0, .null, [], 0)),
  (68, (.iadd, 1, 0, 0, .null, [], 0)),
  (69, (.aload_n 0, 1, 0, 0, .null, [], 0)),
  (70, (.getfield 13, 3, 6, 1, .null, [], 662)),
  (73, (.iload_n 1, 1, 0, 0, .null, [], 0)),
  (74, (.iaload, 1, 0, 0, .null, [], 0)),
  (75, (.iastore, 1, 0, 0, .null, [], 0)),
  (76, (.iinc 1 1, 3, 0, 0, .int 1, [], 0)),
  (79, (.goto (-29), 3, 50, 0, .null, [], 0)),
  (82, (.aload_n 0, 1, 0, 0, .null, [], 0)),
  (83, (.dup, 1, 0, 0, .null, [], 0)),
  (84, (.getfield 71, 3, 6, 3, .null, [], 664)),
  (87, (.iconst 1, 1, 0, 0, .int 1, [], 0)),
  (88, (.iadd, 1, 0, 0, .null, [], 0)),
  (89, (.putfield 71, 3, 6, 3, .ref 0, [], 664)),
  (92, (.return_, 1, 0, 0, .null, [], 0))]
/-- YieldLinesModel.back()I -/
def kd_84 : List (Nat × yE) := [
  (0, (.aload_n 0, 1, 0, 0, .null, [], 0)),
  (1, (.getfield 71, 3, 6, 3, .null, [], 664)),
  (4, (.ifCond .ne 10, 3, 14, 0, .null, [], 0)),
  (7, (.aload_n 0, 1, 0, 0, .null, [], 0)),
  (8, (.ldc 76, 2, 0, 0, .int (-2000001), [], 781)),
  (10, (.invokevirtual 77, 3, 81, 0, .null, [], 782)),
  (13, (.ireturn, 1, 0, 0, .null, [], 0)),
  (14, (.aload_n 0, 1, 0, 0, .null, [], 0)),
  (15, (.dup, 1, 0, 0, .null, [], 0)),
  (16, (.getfield 71, 3, 6, 3, .null, [], 664)),
  (19, (.iconst 1, 1, 0, 0, .int 1, [], 0)),
  (20, (.isub, 1, 0, 0, .null, [], 0)),
  (21, (.putfield 71, 3, 6, 3, .ref 0, [], 664)),
  (24, (.iconst 0, 1, 0, 0, .int 0, [], 0)),
  (25, (.istore_n 1, 1, 0, 0, .null, [], 0)),
  (26, (.iload_n 1, 1, 0, 0, .null, [], 0)),
  (27, (.bipush 89, 2, 0, 0, .int 89, [], 0)),
  (29, (.if_icmp .ge 29, 3, 58, 0, .null, [], 0)),
  (32, (.aload_n 0, 1, 0, 0, .null, [], 0)),
  (33, (.getfield 7, 3, 6, 0, .null, [], 661)),
  (36, (.iload_n 1, 1, 0, 0, .null, [], 0)),
  (37, (.aload_n 0, 1, 0, 0, .null, [], 0)),
  (38, (.getfield 16, 3, 6, 2, .null, [], 663)),
  (41, (.bipush 89, 2, 0, 0, .int 89, [], 0)),
  (43, (.aload_n 0, 1, 0, 0, .null, [], 0)),
  (44, (.getfield 71, 3, 6, 3, .null, [], 664)),
  (47, (.imul, 1, 0, 0, .null, [], 0)),
  (48, (.iload_n 1, 1, 0, 0, .null, [], 0)),
  (49, (.iadd, 1, 0, 0, .null, [], 0)),
  (50, (.iaload, 1, 0, 0, .null, [], 0)),
  (51, (.iastore, 1, 0, 0, .null, [], 0)),
  (52, (.iinc 1 1, 3, 0, 0, .int 1, [], 0)),
  (55, (.goto (-29), 3, 26, 0, .null, [], 0)),
  (58, (.aload_n 0, 1, 0, 0, .null, [], 0)),
  (59, (.getfield 71, 3, 6, 3, .null, [], 664)),
  (62, (.ireturn, 1, 0, 0, .null, [], 0))]
/-- YieldLinesModel.sortOf(I)I -/
def kd_85 : List (Nat × yE) := [
  (0, (.iload_n 0, 1, 0, 0, .null, [], 0)),
  (1, (.bipush 15, 2, 0, 0, .int 15, [], 0)),
  (3, (.iand, 1, 0, 0, .null, [], 0)),
  (4, (.ireturn, 1, 0, 0, .null, [], 0))]
/-- YieldLinesModel.numberOf(I)I -/
def kd_86 : List (Nat × yE) := [
  (0, (.iload_n 0, 1, 0, 0, .null, [], 0)),
  (1, (.iconst 4, 1, 0, 0, .int 4, [], 0)),
  (2, (.ishr, 1, 0, 0, .null, [], 0)),
  (3, (.sipush 1023, 3, 0, 0, .int 1023, [], 0)),
  (6, (.iand, 1, 0, 0, .null, [], 0)),
  (7, (.ireturn, 1, 0, 0, .null, [], 0))]
/-- YieldLinesModel.firstOf(I)I -/
def kd_87 : List (Nat × yE) := [
  (0, (.iload_n 0, 1, 0, 0, .null, [], 0)),
  (1, (.bipush 14, 2, 0, 0, .int 14, [], 0)),
  (3, (.ishr, 1, 0, 0, .null, [], 0)),
  (4, (.bipush 63, 2, 0, 0, .int 63, [], 0)),
  (6, (.iand, 1, 0, 0, .null, [], 0)),
  (7, (.ireturn, 1, 0, 0, .null, [], 0))]
/-- YieldLinesModel.secondOf(I)I -/
def kd_88 : List (Nat × yE) := [
  (0, (.iload_n 0, 1, 0, 0, .null, [], 0)),
  (1, (.bipush 20, 2, 0, 0, .int 20, [], 0)),
  (3, (.ishr, 1, 0, 0, .null, [], 0)),
  (4, (.bipush 63, 2, 0, 0, .int 63, [], 0)),
  (6, (.iand, 1, 0, 0, .null, [], 0)),
  (7, (.ireturn, 1, 0, 0, .null, [], 0))]
/-- YieldLinesModel.made(IIII)I -/
def kd_89 : List (Nat × yE) := [
  (0, (.iload_n 0, 1, 0, 0, .null, [], 0)),
  (1, (.iload_n 1, 1, 0, 0, .null, [], 0)),
  (2, (.iconst 4, 1, 0, 0, .int 4, [], 0)),
  (3, (.ishl, 1, 0, 0, .null, [], 0)),
  (4, (.ior, 1, 0, 0, .null, [], 0)),
  (5, (.iload_n 2, 1, 0, 0, .null, [], 0)),
  (6, (.bipush 14, 2, 0, 0, .int 14, [], 0)),
  (8, (.ishl, 1, 0, 0, .null, [], 0)),
  (9, (.ior, 1, 0, 0, .null, [], 0)),
  (10, (.iload_n 3, 1, 0, 0, .null, [], 0)),
  (11, (.bipush 20, 2, 0, 0, .int 20, [], 0)),
  (13, (.ishl, 1, 0, 0, .null, [], 0)),
  (14, (.ior, 1, 0, 0, .null, [], 0)),
  (15, (.ireturn, 1, 0, 0, .null, [], 0))]
/-- YieldLinesModel.isTwo(I)Z -/
def kd_90 : List (Nat × yE) := [
  (0, (.iload_n 0, 1, 0, 0, .null, [], 0)),
  (1, (.iconst 2, 1, 0, 0, .int 2, [], 0)),
  (2, (.bipush 10, 2, 0, 0, .int 10, [], 0)),
  (4, (.invokestatic 81, 3, 80, 0, .null, [], 791)),
  (7, (.ireturn, 1, 0, 0, .null, [], 0))]
/-- YieldLinesModel.begin(I)I -/
def kd_91 : List (Nat × yE) := [
  (0, (.bipush 25, 2, 0, 0, .int 25, [], 0)),
  (2, (.istore_n 2, 1, 0, 0, .null, [], 0)),
  (3, (.iconst 0, 1, 0, 0, .int 0, [], 0)),
  (4, (.istore_n 3, 1, 0, 0, .null, [], 0)),
  (5, (.iload_n 3, 1, 0, 0, .null, [], 0)),
  (6, (.iload_n 1, 1, 0, 0, .null, [], 0)),
  (7, (.if_icmp .ge 21, 3, 28, 0, .null, [], 0)),
  (10, (.iload_n 2, 1, 0, 0, .null, [], 0)),
  (11, (.aload_n 0, 1, 0, 0, .null, [], 0)),
  (12, (.getfield 7, 3, 6, 0, .null, [], 661)),
  (15, (.bipush 9, 2, 0, 0, .int 9, [], 0)),
  (17, (.iload_n 3, 1, 0, 0, .null, [], 0)),
  (18, (.iadd, 1, 0, 0, .null, [], 0)),
  (19, (.iaload, 1, 0, 0, .null, [], 0)),
  (20, (.iadd, 1, 0, 0, .null, [], 0)),
  (21, (.istore_n 2, 1, 0, 0, .null, [], 0)),
  (22, (.iinc 3 1, 3, 0, 0, .int 1, [], 0)),
  (25, (.goto (-20), 3, 5, 0, .null, [], 0)),
  (28, (.iload_n 2, 1, 0, 0, .null, [], 0)),
  (29, (.ireturn, 1, 0, 0, .null, [], 0))]
/-- YieldLinesModel.all()I -/
def kd_92 : List (Nat × yE) := [
  (0, (.aload_n 0, 1, 0, 0, .null, [], 0)),
  (1, (.aload_n 0, 1, 0, 0, .null, [], 0)),
  (2, (.getfield 7, 3, 6, 0, .null, [], 661)),
  (5, (.iconst 0, 1, 0, 0, .int 0, [], 0)),
  (6, (.iaload, 1, 0, 0, .null, [], 0)),
  (7, (.invokevirtual 85, 3, 91, 0, .null, [], 905)),
  (10, (.bipush 25, 2, 0, 0, .int 25, [], 0)),
  (12, (.isub, 1, 0, 0, .null, [], 0)),
  (13, (.ireturn, 1, 0, 0, .null, [], 0))]
/-- YieldLinesModel.isLine(I)Z -/
def kd_93 : List (Nat × yE) := [
  (0, (.iload_n 1, 1, 0, 0, .null, [], 0)),
  (1, (.iconst 0, 1, 0, 0, .int 0, [], 0)),
  (2, (.aload_n 0, 1, 0, 0, .null, [], 0)),
  (3, (.getfield 7, 3, 6, 0, .null, [], 661)),
  (6, (.iconst 0, 1, 0, 0, .int 0, [], 0)),
  (7, (.iaload, 1, 0, 0, .null, [], 0)),
  (8, (.iconst 1, 1, 0, 0, .int 1, [], 0)),
  (9, (.isub, 1, 0, 0, .null, [], 0)),
  (10, (.invokestatic 81, 3, 80, 0, .null, [], 791)),
  (13, (.ireturn, 1, 0, 0, .null, [], 0))]
/-- YieldLinesModel.type(I)I -/
def kd_94 : List (Nat × yE) := [
  (0, (.iload_n 1, 1, 0, 0, .null, [], 0)),
  (1, (.iconst 0, 1, 0, 0, .int 0, [], 0)),
  (2, (.bipush 127, 2, 0, 0, .int 127, [], 0)),
  (4, (.invokestatic 81, 3, 80, 0, .null, [], 791)),
  (7, (.ifCond .ne 10, 3, 17, 0, .null, [], 0)),
  (10, (.aload_n 0, 1, 0, 0, .null, [], 0)),
  (11, (.ldc 75, 2, 0, 0, .int (-2000000), [], 786)),
  (13, (.invokevirtual 77, 3, 81, 0, .null, [], 782)),
  (16, (.ireturn, 1, 0, 0, .null, [], 0)),
  (17, (.aload_n 0, 1, 0, 0, .null, [], 0)),
  (18, (.getfield 88, 3, 6, 6, .null, [], 667)),
  (21, (.sipush 150, 3, 0, 0, .int 150, [], 0)),
  (24, (.if_icmp .ne 10, 3, 34, 0, .null, [], 0)),
  (27, (.aload_n 0, 1, 0, 0, .null, [], 0)),
  (28, (.ldc 91, 2, 0, 0, .int (-2000002), [], 794)),
  (30, (.invokevirtual 77, 3, 81, 0, .null, [], 782)),
  (33, (.ireturn, 1, 0, 0, .null, [], 0)),
  (34, (.aload_n 0, 1, 0, 0, .null, [], 0)),
  (35, (.getfield 22, 3, 6, 5, .null, [], 666)),
  (38, (.aload_n 0, 1, 0, 0, .null, [], 0)),
  (39, (.getfield 88, 3, 6, 6, .null, [], 667)),
  (42, (.iload_n 1, 1, 0, 0, .null, [], 0)),
  (43, (.iastore, 1, 0, 0, .null, [], 0)),
  (44, (.aload_n 0, 1, 0, 0, .null, [], 0)),
  (45, (.dup, 1, 0, 0, .null, [], 0)),
  (46, (.getfield 88, 3, 6, 6, .null, [], 667)),
  (49, (.iconst 1, 1, 0, 0, .int 1, [], 0)),
  (50, (.iadd, 1, 0, 0, .null, [], 0)),
  (51, (.putfield 88, 3, 6, 6, .ref 0, [], 667)),
  (54, (.aload_n 0, 1, 0, 0, .null, [], 0)),
  (55, (.getfield 88, 3, 6, 6, .null, [], 667)),
  (58, (.ireturn, 1, 0, 0, .null, [], 0))]
/-- YieldLinesModel.clear()I -/
def kd_95 : List (Nat × yE) := [
  (0, (.aload_n 0, 1, 0, 0, .null, [], 0)),
  (1, (.getfield 88, 3, 6, 6, .null, [], 667)),
  (4, (.istore_n 1, 1, 0, 0, .null, [], 0)),
  (5, (.aload_n 0, 1, 0, 0, .null, [], 0)),
  (6, (.iconst 0, 1, 0, 0, .int 0, [], 0)),
  (7, (.putfield 88, 3, 6, 6, .ref 0, [], 667)),
  (10, (.iload_n 1, 1, 0, 0, .null, [], 0)),
  (11, (.ireturn, 1, 0, 0, .null, [], 0))]
/-- YieldLinesModel.here()I -/
def kd_96 : List (Nat × yE) := [
  (0, (.aload_n 0, 1, 0, 0, .null, [], 0)),
  (1, (.getfield 92, 3, 6, 7, .null, [], 668)),
  (4, (.aload_n 0, 1, 0, 0, .null, [], 0)),
  (5, (.getfield 88, 3, 6, 6, .null, [], 667)),
  (8, (.if_icmp .ge 30, 3, 38, 0, .null, [], 0)),
  (11, (.aload_n 0, 1, 0, 0, .null, [], 0)),
  (12, (.getfield 22, 3, 6, 5, .null, [], 666)),
  (15, (.aload_n 0, 1, 0, 0, .null, [], 0)),
  (16, (.getfield 92, 3, 6, 7, .null, [], 668)),
  (19, (.iaload, 1, 0, 0, .null, [], 0)),
  (20, (.bipush 32, 2, 0, 0, .int 32, [], 0)),
  (22, (.if_icmp .ne 16, 3, 38, 0, .null, [], 0)),
  (25, (.aload_n 0, 1, 0, 0, .null, [], 0)),
  (26, (.dup, 1, 0, 0, .null, [], 0)),
  (27, (.getfield 92, 3, 6, 7, .null, [], 668)),
  (30, (.iconst 1, 1, 0, 0, .int 1, [], 0)),
  (31, (.iadd, 1, 0, 0, .null, [], 0)),
  (32, (.putfield 92, 3, 6, 7, .ref 0, [], 668)),
  (35, (.goto (-35), 3, 0, 0, .null, [], 0)),
  (38, (.aload_n 0, 1, 0, 0, .null, [], 0)),
  (39, (.getfield 92, 3, 6, 7, .null, [], 668)),
  (42, (.aload_n 0, 1, 0, 0, .null, [], 0)),
  (43, (.getfield 88, 3, 6, 6, .null, [], 667)),
  (46, (.if_icmp .ge 15, 3, 61, 0, .null, [], 0)),
  (49, (.aload_n 0, 1, 0, 0, .null, [], 0)),
  (50, (.getfield 22, 3, 6, 5, .null, [], 666)),
  (53, (.aload_n 0, 1, 0, 0, .null, [], 0)),
  (54, (.getfield 92, 3, 6, 7, .null, [], 668)),
  (57, (.iaload, 1, 0, 0, .null, [], 0)),
  (58, (.goto 5, 3, 63, 0, .null, [], 0)),
  (61, (.ldc 95, 2, 0, 0, .int (-1999999), [], 803)),
  (63, (.ireturn, 1, 0, 0, .null, [], 0))]
/-- YieldLinesModel.must(Z)V -/
def kd_97 : List (Nat × yE) := [
  (0, (.aload_n 0, 1, 0, 0, .null, [], 0)),
  (1, (.getfield 96, 3, 6, 8, .null, [], 669)),
  (4, (.ldc 95, 2, 0, 0, .int (-1999999), [], 803)),
  (6, (.if_icmp .ne 15, 3, 21, 0, .null, [], 0)),
  (9, (.iload_n 1, 1, 0, 0, .null, [], 0)),
  (10, (.ifCond .ne 11, 3, 21, 0, .null, [], 0)),
  (13, (.aload_n 0, 1, 0, 0, .null, [], 0)),
  (14, (.aload_n 0, 1, 0, 0, .null, [], 0)),
  (15, (.getfield 92, 3, 6, 7, .null, [], 668)),
  (18, (.putfield 96, 3, 6, 8, .ref 0, [], 669)),
  (21, (.return_, 1, 0, 0, .null, [], 0))]
/-- YieldLinesModel.sortOfSign(I)I -/
def kd_98 : List (Nat × yE) := [
  (0, (.iload_n 0, 1, 0, 0, .null, [], 0)),
  (1, (.lookupswitch 106 #[(38, 83), (42, 103), (43, 97), (45, 100), (60, 87), (61, 91), (62, 89), (124, 85), (126, 94)], 83, 107, 0, .null, [(38, 84), (42, 104), (43, 98), (45, 101), (60, 88), (61, 92), (62, 90), (124, 86), (126, 95)], 0)),
  (84, (.iconst 2, 1, 0, 0, .int 2, [], 0)),
  (85, (.ireturn, 1, 0, 0, .null, [], 0)),
  (86, (.iconst 3, 1, 0, 0, .int 3, [], 0)),
  (87, (.ireturn, 1, 0, 0, .null, [], 0)),
  (88, (.iconst 4, 1, 0, 0, .int 4, [], 0)),
  (89, (.ireturn, 1, 0, 0, .null, [], 0)),
  (90, (.iconst 5, 1, 0, 0, .int 5, [], 0)),
  (91, (.ireturn, 1, 0, 0, .null, [], 0)),
  (92, (.bipush 6, 2, 0, 0, .int 6, [], 0)),
  (94, (.ireturn, 1, 0, 0, .null, [], 0)),
  (95, (.bipush 7, 2, 0, 0, .int 7, [], 0)),
  (97, (.ireturn, 1, 0, 0, .null, [], 0)),
  (98, (.bipush 8, 2, 0, 0, .int 8, [], 0)),
  (100, (.ireturn, 1, 0, 0, .null, [], 0)),
  (101, (.bipush 9, 2, 0, 0, .int 9, [], 0)),
  (103, (.ireturn, 1, 0, 0, .null, [], 0)),
  (104, (.bipush 10, 2, 0, 0, .int 10, [], 0)),
  (106, (.ireturn, 1, 0, 0, .null, [], 0)),
  (107, (.ldc 95, 2, 0, 0, .int (-1999999), [], 803)),
  (109, (.ireturn, 1, 0, 0, .null, [], 0))]
/-- YieldLinesModel.rank(I)I -/
def kd_99 : List (Nat × yE) := [
  (0, (.iload_n 0, 1, 0, 0, .null, [], 0)),
  (1, (.iconst 2, 1, 0, 0, .int 2, [], 0)),
  (2, (.if_icmp .ne 7, 3, 9, 0, .null, [], 0)),
  (5, (.iconst 1, 1, 0, 0, .int 1, [], 0)),
  (6, (.goto 48, 3, 54, 0, .null, [], 0)),
  (9, (.iload_n 0, 1, 0, 0, .null, [], 0)),
  (10, (.iconst 3, 1, 0, 0, .int 3, [], 0)),
  (11, (.if_icmp .ne 7, 3, 18, 0, .null, [], 0)),
  (14, (.iconst 2, 1, 0, 0, .int 2, [], 0)),
  (15, (.goto 39, 3, 54, 0, .null, [], 0)),
  (18, (.iload_n 0, 1, 0, 0, .null, [], 0)),
  (19, (.iconst 4, 1, 0, 0, .int 4, [], 0)),
  (20, (.bipush 6, 2, 0, 0, .int 6, [], 0)),
  (22, (.invokestatic 81, 3, 80, 0, .null, [], 791)),
  (25, (.ifCond .eq 7, 3, 32, 0, .null, [], 0)),
  (28, (.iconst 3, 1, 0, 0, .int 3, [], 0)),
  (29, (.goto 25, 3, 54, 0, .null, [], 0)),
  (32, (.iload_n 0, 1, 0, 0, .null, [], 0)),
  (33, (.bipush 7, 2, 0, 0, .int 7, [], 0)),
  (35, (.if_icmp .ne 7, 3, 42, 0, .null, [], 0)),
  (38, (.iconst 4, 1, 0, 0, .int 4, [], 0)),
  (39, (.goto 15, 3, 54, 0, .null, [], 0)),
  (42, (.iload_n 0, 1, 0, 0, .null, [], 0)),
  (43, (.bipush 10, 2, 0, 0, .int 10, [], 0)),
  (45, (.if_icmp .ne 8, 3, 53, 0, .null, [], 0)),
  (48, (.bipush 6, 2, 0, 0, .int 6, [], 0)),
  (50, (.goto 4, 3, 54, 0, .null, [], 0)),
  (53, (.iconst 5, 1, 0, 0, .int 5, [], 0)),
  (54, (.ireturn, 1, 0, 0, .null, [], 0))]
/-- YieldLinesModel.add(I)I -/
def kd_100 : List (Nat × yE) := [
  (0, (.aload_n 0, 1, 0, 0, .null, [], 0)),
  (1, (.aload_n 0, 1, 0, 0, .null, [], 0)),
  (2, (.getfield 99, 3, 6, 11, .null, [], 672)),
  (5, (.bipush 60, 2, 0, 0, .int 60, [], 0)),
  (7, (.if_icmp .ge 7, 3, 14, 0, .null, [], 0)),
  (10, (.iconst 1, 1, 0, 0, .int 1, [], 0)),
  (11, (.goto 4, 3, 15, 0, .null, [], 0)),
  (14, (.iconst 0, 1, 0, 0, .int 0, [], 0)),
  (15, (.invokevirtual 102, 3, 97, 0, .null, [], 812)),
  (18, (.aload_n 0, 1, 0, 0, .null, [], 0)),
  (19, (.getfield 96, 3, 6, 8, .null, [], 669)),
  (22, (.ldc 95, 2, 0, 0, .int (-1999999), [], 803)),
  (24, (.if_icmp .ne 26, 3, 50, 0, .null, [], 0)),
  (27, (.aload_n 0, 1, 0, 0, .null, [], 0)),
  (28, (.getfield 25, 3, 6, 9, .null, [], 670)),
  (31, (.bipush 25, 2, 0, 0, .int 25, [], 0)),
  (33, (.aload_n 0, 1, 0, 0, .null, [], 0)),
  (34, (.getfield 99, 3, 6, 11, .null, [], 672)),
  (37, (.iadd, 1, 0, 0, .null, [], 0)),
  (38, (.iload_n 1, 1, 0, 0, .null, [], 0)),
  (39, (.iastore, 1, 0, 0, .null, [], 0)),
  (40, (.aload_n 0, 1, 0, 0, .null, [], 0)),
  (41, (.dup, 1, 0, 0, .null, [], 0)),
  (42, (.getfield 99, 3, 6, 11, .null, [], 672)),
  (45, (.iconst 1, 1, 0, 0, .int 1, [], 0)),
  (46, (.iadd, 1, 0, 0, .null, [], 0)),
  (47, (.putfield 99, 3, 6, 11, .ref 0, [], 672)),
  (50, (.aload_n 0, 1, 0, 0, .null, [], 0)),
  (51, (.getfield 99, 3, 6, 11, .null, [], 672)),
  (54, (.iconst 1, 1, 0, 0, .int 1, [], 0)),
  (55, (.isub, 1, 0, 0, .null, [], 0)),
  (56, (.aload_n 0, 1, 0, 0, .null, [], 0)),
  (57, (.getfield 106, 3, 6, 10, .null, [], 671)),
  (60, (.isub, 1, 0, 0, .null, [], 0)),
  (61, (.ireturn, 1, 0, 0, .null, [], 0))]
/-- YieldLinesModel.pushPart(IZ)V -/
def kd_101 : List (Nat × yE) := [
  (0, (.aload_n 0, 1, 0, 0, .null, [], 0)),
  (1, (.getfield 28, 3, 6, 12, .null, [], 673)),
  (4, (.aload_n 0, 1, 0, 0, .null, [], 0)),
  (5, (.getfield 109, 3, 6, 14, .null, [], 675)),
  (8, (.iload_n 1, 1, 0, 0, .null, [], 0)),
  (9, (.iastore, 1, 0, 0, .null, [], 0)),
  (10, (.aload_n 0, 1, 0, 0, .null, [], 0)),
  (11, (.getfield 31, 3, 6, 13, .null, [], 674)),
  (14, (.aload_n 0, 1, 0, 0, .null, [], 0)),
  (15, (.getfield 109, 3, 6, 14, .null, [], 675)),
  (18, (.iload_n 2, 1, 0, 0, .null, [], 0)),
  (19, (.bastore, 1, 0, 0, .null, [], 0)),
  (20, (.aload_n 0, 1, 0, 0, .null, [], 0)),
  (21, (.dup, 1, 0, 0, .null, [], 0)),
  (22, (.getfield 109, 3, 6, 14, .null, [], 675)),
  (25, (.iconst 1, 1, 0, 0, .int 1, [], 0)),
  (26, (.iadd, 1, 0, 0, .null, [], 0)),
  (27, (.putfield 109, 3, 6, 14, .ref 0, [], 675)),
  (30, (.return_, 1, 0, 0, .null, [], 0))]
/-- YieldLinesModel.pushSign(II)V -/
def kd_102 : List (Nat × yE) := [
  (0, (.aload_n 0, 1, 0, 0, .null, [], 0)),
  (1, (.getfield 35, 3, 6, 15, .null, [], 676)),
  (4, (.aload_n 0, 1, 0, 0, .null, [], 0)),
  (5, (.getfield 112, 3, 6, 17, .null, [], 678)),
  (8, (.iload_n 1, 1, 0, 0, .null, [], 0)),
  (9, (.iastore, 1, 0, 0, .null, [], 0)),
  (10, (.aload_n 0, 1, 0, 0, .null, [], 0)),
  (11, (.getfield 38, 3, 6, 16, .null, [], 677)),
  (14, (.aload_n 0, 1, 0, 0, .null, [], 0)),
  (15, (.getfield 112, 3, 6, 17, .null, [], 678)),
  (18, (.iload_n 2, 1, 0, 0, .null, [], 0)),
  (19, (.iastore, 1, 0, 0, .null, [], 0)),
  (20, (.aload_n 0, 1, 0, 0, .null, [], 0)),
  (21, (.dup, 1, 0, 0, .null, [], 0)),
  (22, (.getfield 112, 3, 6, 17, .null, [], 678)),
  (25, (.iconst 1, 1, 0, 0, .int 1, [], 0)),
  (26, (.iadd, 1, 0, 0, .null, [], 0)),
  (27, (.putfield 112, 3, 6, 17, .ref 0, [], 678)),
  (30, (.return_, 1, 0, 0, .null, [], 0))]
/-- YieldLinesModel.topSign()I -/
def kd_103 : List (Nat × yE) := [
  (0, (.aload_n 0, 1, 0, 0, .null, [], 0)),
  (1, (.getfield 112, 3, 6, 17, .null, [], 678)),
  (4, (.ifCond .ne 8, 3, 12, 0, .null, [], 0)),
  (7, (.ldc 95, 2, 0, 0, .int (-1999999), [], 803)),
  (9, (.goto 14, 3, 23, 0, .null, [], 0)),
  (12, (.aload_n 0, 1, 0, 0, .null, [], 0)),
  (13, (.getfield 35, 3, 6, 15, .null, [], 676)),
  (16, (.aload_n 0, 1, 0, 0, .null, [], 0)),
  (17, (.getfield 112, 3, 6, 17, .null, [], 678)),
  (20, (.iconst 1, 1, 0, 0, .int 1, [], 0)),
  (21, (.isub, 1, 0, 0, .null, [], 0)),
  (22, (.iaload, 1, 0, 0, .null, [], 0)),
  (23, (.ireturn, 1, 0, 0, .null, [], 0))]
/-- YieldLinesModel.close()V -/
def kd_104 : List (Nat × yE) := [
  (0, (.aload_n 0, 1, 0, 0, .null, [], 0)),
  (1, (.dup, 1, 0, 0, .null, [], 0)),
  (2, (.getfield 112, 3, 6, 17, .null, [], 678)),
  (5, (.iconst 1, 1, 0, 0, .int 1, [], 0)),
  (6, (.isub, 1, 0, 0, .null, [], 0)),
  (7, (.putfield 112, 3, 6, 17, .ref 0, [], 678)),
  (10, (.aload_n 0, 1, 0, 0, .null, [], 0)),
  (11, (.getfield 35, 3, 6, 15, .null, [], 676)),
  (14, (.aload_n 0, 1, 0, 0, .null, [], 0)),
  (15, (.getfield 112, 3, 6, 17, .null, [], 678)),
  (18, (.iaload, 1, 0, 0, .null, [], 0)),
  (19, (.istore_n 1, 1, 0, 0, .null, [], 0)),
  (20, (.aload_n 0, 1, 0, 0, .null, [], 0)),
  (21, (.getfield 38, 3, 6, 16, .null, [], 677)),
  (24, (.aload_n 0, 1, 0, 0, .null, [], 0)),
  (25, (.getfield 112, 3, 6, 17, .null, [], 678)),
  (28, (.iaload, 1, 0, 0, .null, [], 0)),
  (29, (.istore_n 2, 1, 0, 0, .null, [], 0)),
  (30, (.bipush 25, 2, 0, 0, .int 25, [], 0)),
  (32, (.aload_n 0, 1, 0, 0, .null, [], 0)),
  (33, (.getfield 106, 3, 6, 10, .null, [], 671)),
  (36, (.iadd, 1, 0, 0, .null, [], 0)),
  (37, (.iload_n 2, 1, 0, 0, .null, [], 0)),
  (38, (.iadd, 1, 0, 0, .null, [], 0)),
  (39, (.istore_n 3, 1, 0, 0, .null, [], 0)),
  (40, (.aload_n 0, 1, 0, 0, .null, [], 0)),
  (41, (.dup, 1, 0, 0, .null, [], 0)),
  (42, (.getfield 109, 3, 6, 14, .null, [], 675)),
  (45, (.iconst 1, 1, 0, 0, .int 1, [], 0)),
  (46, (.isub, 1, 0, 0, .null, [], 0)),
  (47, (.putfield 109, 3, 6, 14, .ref 0, [], 675)),
  (50, (.iload_n 1, 1, 0, 0, .null, [], 0)),
  (51, (.invokestatic 115, 3, 90, 0, .null, [], 855)),
  (54, (.ifCond .eq 47, 3, 101, 0, .null, [], 0)),
  (57, (.aload_n 0, 1, 0, 0, .null, [], 0)),
  (58, (.dup, 1, 0, 0, .null, [], 0)),
  (59, (.getfield 109, 3, 6, 14, .null, [], 675)),
  (62, (.iconst 1, 1, 0, 0, .int 1, [], 0)),
  (63, (.isub, 1, 0, 0, .null, [], 0)),
  (64, (.putfield 109, 3, 6, 14, .ref 0, [], 675)),
  (67, (.aload_n 0, 1, 0, 0, .null, [], 0)),
  (68, (.getfield 25, 3, 6, 9, .null, [], 670)),
  (71, (.iload_n 3, 1, 0, 0, .null, [], 0)),
  (72, (.iload_n 1, 1, 0, 0, .null, [], 0)),
  (73, (.iconst 0, 1, 0, 0, .int 0, [], 0)),
  (74, (.aload_n 0, 1, 0, 0, .null, [], 0)),
  (75, (.getfield 28, 3, 6, 12, .null, [], 673)),
  (78, (.aload_n 0, 1, 0, 0, .null, [], 0)),
  (79, (.getfield 109, 3, 6, 14, .null, [], 675)),
  (82, (.iaload, 1, 0, 0, .null, [], 0)),
  (83, (.aload_n 0, 1, 0, 0, .null, [], 0)),
  (84, (.getfield 28, 3, 6, 12, .null, [], 673)),
  (87, (.aload_n 0, 1, 0, 0, .null, [], 0)),
  (88, (.getfield 109, 3, 6, 14, .null, [], 675)),
  (91, (.iconst 1, 1, 0, 0, .int 1, [], 0)),
  (92, (.iadd, 1, 0, 0, .null, [], 0)),
  (93, (.iaload, 1, 0, 0, .null, [], 0)),
  (94, (.invokestatic 119, 3, 89, 0, .null, [], 836)),
  (97, (.iastore, 1, 0, 0, .null, [], 0)),
  (98, (.goto 32, 3, 130, 0, .null, [], 0)),
  (101, (.aload_n 0, 1, 0, 0, .null, [], 0)),
  (102, (.getfield 25, 3, 6, 9, .null, [], 670)),
  (105, (.iload_n 3, 1, 0, 0, .null, [], 0)),
  (106, (.iload_n 1, 1, 0, 0, .null, [], 0)),
  (107, (.aload_n 0, 1, 0, 0, .null, [], 0)),
  (108, (.getfield 25, 3, 6, 9, .null, [], 670)),
  (111, (.iload_n 3, 1, 0, 0, .null, [], 0)),
  (112, (.iaload, 1, 0, 0, .null, [], 0)),
  (113, (.invokestatic 123, 3, 86, 0, .null, [], 858)),
  (116, (.aload_n 0, 1, 0, 0, .null, [], 0)),
  (117, (.getfield 28, 3, 6, 12, .null, [], 673)),
  (120, (.aload_n 0, 1, 0, 0, .null, [], 0)),
  (121, (.getfield 109, 3, 6, 14, .null, [], 675)),
  (124, (.iaload, 1, 0, 0, .null, [], 0)),
  (125, (.iconst 0, 1, 0, 0, .int 0, [], 0)),
  (126, (.invokestatic 119, 3, 89, 0, .null, [], 836)),
  (129, (.iastore, 1, 0, 0, .null, [], 0)),
  (130, (.aload_n 0, 1, 0, 0, .null, [], 0)),
  (131, (.iload_n 2, 1, 0, 0, .null, [], 0)),
  (132, (.iconst 0, 1, 0, 0, .int 0, [], 0)),
  (133, (.invokevirtual 126, 3, 101, 0, .null, [], 839)),
  (136, (.return_, 1, 0, 0, .null, [], 0))]
/-- YieldLinesModel.closeNots()V -/
def kd_105 : List (Nat × yE) := [
  (0, (.aload_n 0, 1, 0, 0, .null, [], 0)),
  (1, (.invokevirtual 130, 3, 103, 0, .null, [], 847)),
  (4, (.bipush 12, 2, 0, 0, .int 12, [], 0)),
  (6, (.if_icmp .ne 10, 3, 16, 0, .null, [], 0)),
  (9, (.aload_n 0, 1, 0, 0, .null, [], 0)),
  (10, (.invokevirtual 134, 3, 104, 0, .null, [], 851)),
  (13, (.goto (-13), 3, 0, 0, .null, [], 0)),
  (16, (.return_, 1, 0, 0, .null, [], 0))]
/-- YieldLinesModel.isFigure()Z -/
def kd_106 : List (Nat × yE) := [
  (0, (.aload_n 0, 1, 0, 0, .null, [], 0)),
  (1, (.getfield 92, 3, 6, 7, .null, [], 668)),
  (4, (.aload_n 0, 1, 0, 0, .null, [], 0)),
  (5, (.getfield 88, 3, 6, 6, .null, [], 667)),
  (8, (.if_icmp .ge 26, 3, 34, 0, .null, [], 0)),
  (11, (.aload_n 0, 1, 0, 0, .null, [], 0)),
  (12, (.getfield 22, 3, 6, 5, .null, [], 666)),
  (15, (.aload_n 0, 1, 0, 0, .null, [], 0)),
  (16, (.getfield 92, 3, 6, 7, .null, [], 668)),
  (19, (.iaload, 1, 0, 0, .null, [], 0)),
  (20, (.bipush 48, 2, 0, 0, .int 48, [], 0)),
  (22, (.bipush 57, 2, 0, 0, .int 57, [], 0)),
  (24, (.invokestatic 81, 3, 80, 0, .null, [], 791)),
  (27, (.ifCond .eq 7, 3, 34, 0, .null, [], 0)),
  (30, (.iconst 1, 1, 0, 0, .int 1, [], 0)),
  (31, (.goto 4, 3, 35, 0, .null, [], 0)),
  (34, (.iconst 0, 1, 0, 0, .int 0, [], 0)),
  (35, (.ireturn, 1, 0, 0, .null, [], 0))]
/-- YieldLinesModel.readNumber()V -/
def kd_107 : List (Nat × yE) := [
  (0, (.aload_n 0, 1, 0, 0, .null, [], 0)),
  (1, (.iconst 0, 1, 0, 0, .int 0, [], 0)),
  (2, (.invokevirtual 137, 3, 100, 0, .null, [], 824)),
  (5, (.istore_n 1, 1, 0, 0, .null, [], 0)),
  (6, (.iconst 0, 1, 0, 0, .int 0, [], 0)),
  (7, (.istore_n 2, 1, 0, 0, .null, [], 0)),
  (8, (.iconst 0, 1, 0, 0, .int 0, [], 0)),
  (9, (.istore_n 3, 1, 0, 0, .null, [], 0)),
  (10, (.iload_n 3, 1, 0, 0, .null, [], 0)),
  (11, (.iconst 3, 1, 0, 0, .int 3, [], 0)),
  (12, (.if_icmp .ge 44, 3, 56, 0, .null, [], 0)),
  (15, (.aload_n 0, 1, 0, 0, .null, [], 0)),
  (16, (.invokevirtual 140, 3, 106, 0, .null, [], 832)),
  (19, (.ifCond .eq 37, 3, 56, 0, .null, [], 0)),
  (22, (.bipush 10, 2, 0, 0, .int 10, [], 0)),
  (24, (.iload_n 2, 1, 0, 0, .null, [], 0)),
  (25, (.imul, 1, 0, 0, .null, [], 0)),
  (26, (.aload_n 0, 1, 0, 0, .null, [], 0)),
  (27, (.getfield 22, 3, 6, 5, .null, [], 666)),
  (30, (.aload_n 0, 1, 0, 0, .null, [], 0)),
  (31, (.getfield 92, 3, 6, 7, .null, [], 668)),
  (34, (.iaload, 1, 0, 0, .null, [], 0)),
  (35, (.iadd, 1, 0, 0, .null, [], 0)),
  (36, (.bipush 48, 2, 0, 0, .int 48, [], 0)),
  (38, (.isub, 1, 0, 0, .null, [], 0)),
  (39, (.istore_n 2, 1, 0, 0, .null, [], 0)),
  (40, (.aload_n 0, 1, 0, 0, .null, [], 0)),
  (41, (.dup, 1, 0, 0, .null, [], 0)),
  (42, (.getfield 92, 3, 6, 7, .null, [], 668)),
  (45, (.iconst 1, 1, 0, 0, .int 1, [], 0)),
  (46, (.iadd, 1, 0, 0, .null, [], 0)),
  (47, (.putfield 92, 3, 6, 7, .ref 0, [], 668)),
  (50, (.iinc 3 1, 3, 0, 0, .int 1, [], 0)),
  (53, (.goto (-43), 3, 10, 0, .null, [], 0)),
  (56, (.aload_n 0, 1, 0, 0, .null, [], 0)),
  (57, (.aload_n 0, 1, 0, 0, .null, [], 0)),
  (58, (.invokevirtual 140, 3, 106, 0, .null, [], 832)),
  (61, (.ifCond .ne 7, 3, 68, 0, .null, [], 0)),
  (64, (.iconst 1, 1, 0, 0, .int 1, [], 0)),
  (65, (.goto 4, 3, 69, 0, .null, [], 0)),
  (68, (.iconst 0, 1, 0, 0, .int 0, [], 0)),
  (69, (.invokevirtual 102, 3, 97, 0, .null, [], 812)),
  (72, (.aload_n 0, 1, 0, 0, .null, [], 0)),
  (73, (.getfield 96, 3, 6, 8, .null, [], 669)),
  (76, (.ldc 95, 2, 0, 0, .int (-1999999), [], 803)),
  (78, (.if_icmp .ne 34, 3, 112, 0, .null, [], 0)),
  (81, (.aload_n 0, 1, 0, 0, .null, [], 0)),
  (82, (.getfield 25, 3, 6, 9, .null, [], 670)),
  (85, (.bipush 25, 2, 0, 0, .int 25, [], 0)),
  (87, (.aload_n 0, 1, 0, 0, .null, [], 0)),
  (88, (.getfield 106, 3, 6, 10, .null, [], 671)),
  (91, (.iadd, 1, 0, 0, .null, [], 0)),
  (92, (.iload_n 1, 1, 0, 0, .null, [], 0)),
  (93, (.iadd, 1, 0, 0, .null, [], 0)),
  (94, (.iconst 0, 1, 0, 0, .int 0, [], 0)),
  (95, (.iload_n 2, 1, 0, 0, .null, [], 0)),
  (96, (.iconst 0, 1, 0, 0, .int 0, [], 0)),
  (97, (.iconst 0, 1, 0, 0, .int 0, [], 0)),
  (98, (.invokestatic 119, 3, 89, 0, .null, [], 836)),
  (101, (.iastore, 1, 0, 0, .null, [], 0)),
  (102, (.aload_n 0, 1, 0, 0, .null, [], 0)),
  (103, (.iload_n 1, 1, 0, 0, .null, [], 0)),
  (104, (.iconst 0, 1, 0, 0, .int 0, [], 0)),
  (105, (.invokevirtual 126, 3, 101, 0, .null, [], 839)),
  (108, (.aload_n 0, 1, 0, 0, .null, [], 0)),
  (109, (.invokevirtual 144, 3, 105, 0, .null, [], 843)),
  (112, (.return_, 1, 0, 0, .null, [], 0))]
/-- YieldLinesModel.isUnit()Z -/
def kd_108 : List (Nat × yE) := [
  (0, (.aload_n 0, 1, 0, 0, .null, [], 0)),
  (1, (.invokevirtual 147, 3, 96, 0, .null, [], 804)),
  (4, (.istore_n 1, 1, 0, 0, .null, [], 0)),
  (5, (.iload_n 1, 1, 0, 0, .null, [], 0)),
  (6, (.bipush 40, 2, 0, 0, .int 40, [], 0)),
  (8, (.if_icmp .ne 50, 3, 58, 0, .null, [], 0)),
  (11, (.aload_n 0, 1, 0, 0, .null, [], 0)),
  (12, (.aload_n 0, 1, 0, 0, .null, [], 0)),
  (13, (.getfield 150, 3, 6, 18, .null, [], 679)),
  (16, (.bipush 9, 2, 0, 0, .int 9, [], 0)),
  (18, (.if_icmp .ge 7, 3, 25, 0, .null, [], 0)),
  (21, (.iconst 1, 1, 0, 0, .int 1, [], 0)),
  (22, (.goto 4, 3, 26, 0, .null, [], 0)),
  (25, (.iconst 0, 1, 0, 0, .int 0, [], 0)),
  (26, (.invokevirtual 102, 3, 97, 0, .null, [], 812)),
  (29, (.aload_n 0, 1, 0, 0, .null, [], 0)),
  (30, (.dup, 1, 0, 0, .null, [], 0)),
  (31, (.getfield 150, 3, 6, 18, .null, [], 679)),
  (34, (.iconst 1, 1, 0, 0, .int 1, [], 0)),
  (35, (.iadd, 1, 0, 0, .null, [], 0)),
  (36, (.putfield 150, 3, 6, 18, .ref 0, [], 679)),
  (39, (.aload_n 0, 1, 0, 0, .null, [], 0)),
  (40, (.bipush 15, 2, 0, 0, .int 15, [], 0)),
  (42, (.iconst 0, 1, 0, 0, .int 0, [], 0)),
  (43, (.invokevirtual 153, 3, 102, 0, .null, [], 820)),
  (46, (.aload_n 0, 1, 0, 0, .null, [], 0)),
  (47, (.dup, 1, 0, 0, .null, [], 0)),
  (48, (.getfield 92, 3, 6, 7, .null, [], 668)),
  (51, (.iconst 1, 1, 0, 0, .int 1, [], 0)),
  (52, (.iadd, 1, 0, 0, .null, [], 0)),
  (53, (.putfield 92, 3, 6, 7, .ref 0, [], 668)),
  (56, (.iconst 0, 1, 0, 0, .int 0, [], 0)),
  (57, (.ireturn, 1, 0, 0, .null, [], 0)),
  (58, (.iload_n 1, 1, 0, 0, .null, [], 0)),
  (59, (.bipush 33, 2, 0, 0, .int 33, [], 0)),
  (61, (.if_icmp .ne 27, 3, 88, 0, .null, [], 0)),
  (64, (.aload_n 0, 1, 0, 0, .null, [], 0)),
  (65, (.bipush 12, 2, 0, 0, .int 12, [], 0)),
  (67, (.aload_n 0, 1, 0, 0, .null, [], 0)),
  (68, (.bipush 12, 2, 0, 0, .int 12, [], 0)),
  (70, (.invokevirtual 137, 3, 100, 0, .null, [], 824)),
  (73, (.invokevirtual 153, 3, 102, 0, .null, [], 820)),
  (76, (.aload_n 0, 1, 0, 0, .null, [], 0)),
  (77, (.dup, 1, 0, 0, .null, [], 0)),
  (78, (.getfield 92, 3, 6, 7, .null, [], 668)),
  (81, (.iconst 1, 1, 0, 0, .int 1, [], 0)),
  (82, (.iadd, 1, 0, 0, .null, [], 0)),
  (83, (.putfield 92, 3, 6, 7, .ref 0, [], 668)),
  (86, (.iconst 0, 1, 0, 0, .int 0, [], 0)),
  (87, (.ireturn, 1, 0, 0, .null, [], 0)),
  (88, (.iload_n 1, 1, 0, 0, .null, [], 0)),
  (89, (.bipush 48, 2, 0, 0, .int 48, [], 0)),
  (91, (.bipush 57, 2, 0, 0, .int 57, [], 0)),
  (93, (.invokestatic 81, 3, 80, 0, .null, [], 791)),
  (96, (.ifCond .eq 9, 3, 105, 0, .null, [], 0)),
  (99, (.aload_n 0, 1, 0, 0, .null, [], 0)),
  (100, (.invokevirtual 157, 3, 107, 0, .null, [], 828)),
  (103, (.iconst 1, 1, 0, 0, .int 1, [], 0)),
  (104, (.ireturn, 1, 0, 0, .null, [], 0)),
  (105, (.aload_n 0, 1, 0, 0, .null, [], 0)),
  (106, (.iload_n 1, 1, 0, 0, .null, [], 0)),
  (107, (.bipush 97, 2, 0, 0, .int 97, [], 0)),
  (109, (.bipush 100, 2, 0, 0, .int 100, [], 0)),
  (111, (.invokestatic 81, 3, 80, 0, .null, [], 791)),
  (114, (.invokevirtual 102, 3, 97, 0, .null, [], 812)),
  (117, (.aload_n 0, 1, 0, 0, .null, [], 0)),
  (118, (.getfield 96, 3, 6, 8, .null, [], 669)),
  (121, (.ldc 95, 2, 0, 0, .int (-1999999), [], 803)),
  (123, (.if_icmp .ne 36, 3, 159, 0, .null, [], 0)),
  (126, (.aload_n 0, 1, 0, 0, .null, [], 0)),
  (127, (.aload_n 0, 1, 0, 0, .null, [], 0)),
  (128, (.iconst 1, 1, 0, 0, .int 1, [], 0)),
  (129, (.iload_n 1, 1, 0, 0, .null, [], 0)),
  (130, (.bipush 97, 2, 0, 0, .int 97, [], 0)),
  (132, (.isub, 1, 0, 0, .null, [], 0)),
  (133, (.iconst 0, 1, 0, 0, .int 0, [], 0)),
  (134, (.iconst 0, 1, 0, 0, .int 0, [], 0)),
  (135, (.invokestatic 119, 3, 89, 0, .null, [], 836)),
  (138, (.invokevirtual 137, 3, 100, 0, .null, [], 824)),
  (141, (.iconst 1, 1, 0, 0, .int 1, [], 0)),
  (142, (.invokevirtual 126, 3, 101, 0, .null, [], 839)),
  (145, (.aload_n 0, 1, 0, 0, .null, [], 0)),
  (146, (.dup, 1, 0, 0, .null, [], 0)),
  (147, (.getfield 92, 3, 6, 7, .null, [], 668)),
  (150, (.iconst 1, 1, 0, 0, .int 1, [], 0)),
  (151, (.iadd, 1, 0, 0, .null, [], 0)),
  (152, (.putfield 92, 3, 6, 7, .ref 0, [], 668)),
  (155, (.aload_n 0, 1, 0, 0, .null, [], 0)),
  (156, (.invokevirtual 144, 3, 105, 0, .null, [], 843)),
  (159, (.iconst 1, 1, 0, 0, .int 1, [], 0)),
  (160, (.ireturn, 1, 0, 0, .null, [], 0))]
/-- YieldLinesModel.closeAll()V -/
def kd_109 : List (Nat × yE) := [
  (0, (.aload_n 0, 1, 0, 0, .null, [], 0)),
  (1, (.getfield 112, 3, 6, 17, .null, [], 678)),
  (4, (.ifCond .le 19, 3, 23, 0, .null, [], 0)),
  (7, (.aload_n 0, 1, 0, 0, .null, [], 0)),
  (8, (.invokevirtual 130, 3, 103, 0, .null, [], 847)),
  (11, (.bipush 15, 2, 0, 0, .int 15, [], 0)),
  (13, (.if_icmp .eq 10, 3, 23, 0, .null, [], 0)),
  (16, (.aload_n 0, 1, 0, 0, .null, [], 0)),
  (17, (.invokevirtual 134, 3, 104, 0, .null, [], 851)),
  (20, (.goto (-20), 3, 0, 0, .null, [], 0)),
  (23, (.return_, 1, 0, 0, .null, [], 0))]
/-- YieldLinesModel.readFirst()V -/
def kd_110 : List (Nat × yE) := [
  (0, (.aload_n 0, 1, 0, 0, .null, [], 0)),
  (1, (.bipush 11, 2, 0, 0, .int 11, [], 0)),
  (3, (.iconst 0, 1, 0, 0, .int 0, [], 0)),
  (4, (.iconst 0, 1, 0, 0, .int 0, [], 0)),
  (5, (.iconst 0, 1, 0, 0, .int 0, [], 0)),
  (6, (.invokestatic 119, 3, 89, 0, .null, [], 836)),
  (9, (.invokevirtual 137, 3, 100, 0, .null, [], 824)),
  (12, (.istore_n 1, 1, 0, 0, .null, [], 0)),
  (13, (.aload_n 0, 1, 0, 0, .null, [], 0)),
  (14, (.dup, 1, 0, 0, .null, [], 0)),
  (15, (.getfield 92, 3, 6, 7, .null, [], 668)),
  (18, (.iconst 1, 1, 0, 0, .int 1, [], 0)),
  (19, (.iadd, 1, 0, 0, .null, [], 0)),
  (20, (.putfield 92, 3, 6, 7, .ref 0, [], 668)),
  (23, (.aload_n 0, 1, 0, 0, .null, [], 0)),
  (24, (.invokevirtual 147, 3, 96, 0, .null, [], 804)),
  (27, (.bipush 48, 2, 0, 0, .int 48, [], 0)),
  (29, (.isub, 1, 0, 0, .null, [], 0)),
  (30, (.istore_n 2, 1, 0, 0, .null, [], 0)),
  (31, (.aload_n 0, 1, 0, 0, .null, [], 0)),
  (32, (.iload_n 2, 1, 0, 0, .null, [], 0)),
  (33, (.iconst 0, 1, 0, 0, .int 0, [], 0)),
  (34, (.bipush 9, 2, 0, 0, .int 9, [], 0)),
  (36, (.invokestatic 81, 3, 80, 0, .null, [], 791)),
  (39, (.invokevirtual 102, 3, 97, 0, .null, [], 812)),
  (42, (.aload_n 0, 1, 0, 0, .null, [], 0)),
  (43, (.getfield 96, 3, 6, 8, .null, [], 669)),
  (46, (.ldc 95, 2, 0, 0, .int (-1999999), [], 803)),
  (48, (.if_icmp .ne 61, 3, 109, 0, .null, [], 0)),
  (51, (.aload_n 0, 1, 0, 0, .null, [], 0)),
  (52, (.getfield 25, 3, 6, 9, .null, [], 670)),
  (55, (.bipush 25, 2, 0, 0, .int 25, [], 0)),
  (57, (.aload_n 0, 1, 0, 0, .null, [], 0)),
  (58, (.getfield 106, 3, 6, 10, .null, [], 671)),
  (61, (.iadd, 1, 0, 0, .null, [], 0)),
  (62, (.iload_n 1, 1, 0, 0, .null, [], 0)),
  (63, (.iadd, 1, 0, 0, .null, [], 0)),
  (64, (.bipush 11, 2, 0, 0, .int 11, [], 0)),
  (66, (.iload_n 2, 1, 0, 0, .null, [], 0)),
  (67, (.aload_n 0, 1, 0, 0, .null, [], 0)),
  (68, (.getfield 28, 3, 6, 12, .null, [], 673)),
  (71, (.aload_n 0, 1, 0, 0, .null, [], 0)),
  (72, (.getfield 109, 3, 6, 14, .null, [], 675)),
  (75, (.iconst 1, 1, 0, 0, .int 1, [], 0)),
  (76, (.isub, 1, 0, 0, .null, [], 0)),
  (77, (.iaload, 1, 0, 0, .null, [], 0)),
  (78, (.iconst 0, 1, 0, 0, .int 0, [], 0)),
  (79, (.invokestatic 119, 3, 89, 0, .null, [], 836)),
  (82, (.iastore, 1, 0, 0, .null, [], 0)),
  (83, (.aload_n 0, 1, 0, 0, .null, [], 0)),
  (84, (.dup, 1, 0, 0, .null, [], 0)),
  (85, (.getfield 109, 3, 6, 14, .null, [], 675)),
  (88, (.iconst 1, 1, 0, 0, .int 1, [], 0)),
  (89, (.isub, 1, 0, 0, .null, [], 0)),
  (90, (.putfield 109, 3, 6, 14, .ref 0, [], 675)),
  (93, (.aload_n 0, 1, 0, 0, .null, [], 0)),
  (94, (.iload_n 1, 1, 0, 0, .null, [], 0)),
  (95, (.iconst 0, 1, 0, 0, .int 0, [], 0)),
  (96, (.invokevirtual 126, 3, 101, 0, .null, [], 839)),
  (99, (.aload_n 0, 1, 0, 0, .null, [], 0)),
  (100, (.dup, 1, 0, 0, .null, [], 0)),
  (101, (.getfield 92, 3, 6, 7, .null, [], 668)),
  (104, (.iconst 1, 1, 0, 0, .int 1, [], 0)),
  (105, (.iadd, 1, 0, 0, .null, [], 0)),
  (106, (.putfield 92, 3, 6, 7, .ref 0, [], 668)),
  (109, (.return_, 1, 0, 0, .null, [], 0))]
/-- YieldLinesModel.readSet(I)V -/
def kd_111 : List (Nat × yE) := [
  (0, (.aload_n 0, 1, 0, 0, .null, [], 0)),
  (1, (.getfield 112, 3, 6, 17, .null, [], 678)),
  (4, (.ifCond .eq 12, 3, 16, 0, .null, [], 0)),
  (7, (.aload_n 0, 1, 0, 0, .null, [], 0)),
  (8, (.invokevirtual 130, 3, 103, 0, .null, [], 847)),
  (11, (.bipush 13, 2, 0, 0, .int 13, [], 0)),
  (13, (.if_icmp .lt 7, 3, 20, 0, .null, [], 0)),
  (16, (.iconst 1, 1, 0, 0, .int 1, [], 0)),
  (17, (.goto 4, 3, 21, 0, .null, [], 0)),
  (20, (.iconst 0, 1, 0, 0, .int 0, [], 0)),
  (21, (.istore_n 2, 1, 0, 0, .null, [], 0)),
  (22, (.aload_n 0, 1, 0, 0, .null, [], 0)),
  (23, (.aload_n 0, 1, 0, 0, .null, [], 0)),
  (24, (.getfield 31, 3, 6, 13, .null, [], 674)),
  (27, (.aload_n 0, 1, 0, 0, .null, [], 0)),
  (28, (.getfield 109, 3, 6, 14, .null, [], 675)),
  (31, (.iconst 1, 1, 0, 0, .int 1, [], 0)),
  (32, (.isub, 1, 0, 0, .null, [], 0)),
  (33, (.baload, 1, 0, 0, .null, [], 0)),
  (34, (.ifCond .eq 11, 3, 45, 0, .null, [], 0)),
  (37, (.iload_n 2, 1, 0, 0, .null, [], 0)),
  (38, (.ifCond .eq 7, 3, 45, 0, .null, [], 0)),
  (41, (.iconst 1, 1, 0, 0, .int 1, [], 0)),
  (42, (.goto 4, 3, 46, 0, .null, [], 0)),
  (45, (.iconst 0, 1, 0, 0, .int 0, [], 0)),
  (46, (.invokevirtual 102, 3, 97, 0, .null, [], 812)),
  (49, (.aload_n 0, 1, 0, 0, .null, [], 0)),
  (50, (.getfield 96, 3, 6, 8, .null, [], 669)),
  (53, (.ldc 95, 2, 0, 0, .int (-1999999), [], 803)),
  (55, (.if_icmp .ne 73, 3, 128, 0, .null, [], 0)),
  (58, (.aload_n 0, 1, 0, 0, .null, [], 0)),
  (59, (.dup, 1, 0, 0, .null, [], 0)),
  (60, (.getfield 109, 3, 6, 14, .null, [], 675)),
  (63, (.iconst 1, 1, 0, 0, .int 1, [], 0)),
  (64, (.isub, 1, 0, 0, .null, [], 0)),
  (65, (.putfield 109, 3, 6, 14, .ref 0, [], 675)),
  (68, (.aload_n 0, 1, 0, 0, .null, [], 0)),
  (69, (.getfield 28, 3, 6, 12, .null, [], 673)),
  (72, (.aload_n 0, 1, 0, 0, .null, [], 0)),
  (73, (.getfield 109, 3, 6, 14, .null, [], 675)),
  (76, (.iaload, 1, 0, 0, .null, [], 0)),
  (77, (.istore_n 3, 1, 0, 0, .null, [], 0)),
  (78, (.bipush 25, 2, 0, 0, .int 25, [], 0)),
  (80, (.aload_n 0, 1, 0, 0, .null, [], 0)),
  (81, (.getfield 106, 3, 6, 10, .null, [], 671)),
  (84, (.iadd, 1, 0, 0, .null, [], 0)),
  (85, (.iload_n 3, 1, 0, 0, .null, [], 0)),
  (86, (.iadd, 1, 0, 0, .null, [], 0)),
  (87, (.istore 4, 2, 0, 0, .null, [], 0)),
  (89, (.aload_n 0, 1, 0, 0, .null, [], 0)),
  (90, (.getfield 25, 3, 6, 9, .null, [], 670)),
  (93, (.iload 4, 2, 0, 0, .null, [], 0)),
  (95, (.iload_n 1, 1, 0, 0, .null, [], 0)),
  (96, (.aload_n 0, 1, 0, 0, .null, [], 0)),
  (97, (.getfield 25, 3, 6, 9, .null, [], 670)),
  (100, (.iload 4, 2, 0, 0, .null, [], 0)),
  (102, (.iaload, 1, 0, 0, .null, [], 0)),
  (103, (.invokestatic 123, 3, 86, 0, .null, [], 858)),
  (106, (.iconst 0, 1, 0, 0, .int 0, [], 0)),
  (107, (.iconst 0, 1, 0, 0, .int 0, [], 0)),
  (108, (.invokestatic 119, 3, 89, 0, .null, [], 836)),
  (111, (.iastore, 1, 0, 0, .null, [], 0)),
  (112, (.aload_n 0, 1, 0, 0, .null, [], 0)),
  (113, (.iload_n 1, 1, 0, 0, .null, [], 0)),
  (114, (.iload_n 3, 1, 0, 0, .null, [], 0)),
  (115, (.invokevirtual 153, 3, 102, 0, .null, [], 820)),
  (118, (.aload_n 0, 1, 0, 0, .null, [], 0)),
  (119, (.dup, 1, 0, 0, .null, [], 0)),
  (120, (.getfield 92, 3, 6, 7, .null, [], 668)),
  (123, (.iconst 1, 1, 0, 0, .int 1, [], 0)),
  (124, (.iadd, 1, 0, 0, .null, [], 0)),
  (125, (.putfield 92, 3, 6, 7, .ref 0, [], 668)),
  (128, (.return_, 1, 0, 0, .null, [], 0))]
/-- YieldLinesModel.isDue()Z -/
def kd_112 : List (Nat × yE) := [
  (0, (.aload_n 0, 1, 0, 0, .null, [], 0)),
  (1, (.invokevirtual 147, 3, 96, 0, .null, [], 804)),
  (4, (.istore_n 1, 1, 0, 0, .null, [], 0)),
  (5, (.aload_n 0, 1, 0, 0, .null, [], 0)),
  (6, (.getfield 96, 3, 6, 8, .null, [], 669)),
  (9, (.ldc 95, 2, 0, 0, .int (-1999999), [], 803)),
  (11, (.if_icmp .ne 81, 3, 92, 0, .null, [], 0)),
  (14, (.iload_n 1, 1, 0, 0, .null, [], 0)),
  (15, (.bipush 41, 2, 0, 0, .int 41, [], 0)),
  (17, (.if_icmp .ne 10, 3, 27, 0, .null, [], 0)),
  (20, (.aload_n 0, 1, 0, 0, .null, [], 0)),
  (21, (.getfield 150, 3, 6, 18, .null, [], 679)),
  (24, (.ifCond .gt 9, 3, 33, 0, .null, [], 0)),
  (27, (.iload_n 1, 1, 0, 0, .null, [], 0)),
  (28, (.bipush 92, 2, 0, 0, .int 92, [], 0)),
  (30, (.if_icmp .ne 62, 3, 92, 0, .null, [], 0)),
  (33, (.iload_n 1, 1, 0, 0, .null, [], 0)),
  (34, (.bipush 92, 2, 0, 0, .int 92, [], 0)),
  (36, (.if_icmp .ne 10, 3, 46, 0, .null, [], 0)),
  (39, (.aload_n 0, 1, 0, 0, .null, [], 0)),
  (40, (.invokevirtual 160, 3, 110, 0, .null, [], 865)),
  (43, (.goto 41, 3, 84, 0, .null, [], 0)),
  (46, (.aload_n 0, 1, 0, 0, .null, [], 0)),
  (47, (.invokevirtual 163, 3, 109, 0, .null, [], 869)),
  (50, (.aload_n 0, 1, 0, 0, .null, [], 0)),
  (51, (.dup, 1, 0, 0, .null, [], 0)),
  (52, (.getfield 112, 3, 6, 17, .null, [], 678)),
  (55, (.iconst 1, 1, 0, 0, .int 1, [], 0)),
  (56, (.isub, 1, 0, 0, .null, [], 0)),
  (57, (.putfield 112, 3, 6, 17, .ref 0, [], 678)),
  (60, (.aload_n 0, 1, 0, 0, .null, [], 0)),
  (61, (.dup, 1, 0, 0, .null, [], 0)),
  (62, (.getfield 150, 3, 6, 18, .null, [], 679)),
  (65, (.iconst 1, 1, 0, 0, .int 1, [], 0)),
  (66, (.isub, 1, 0, 0, .null, [], 0)),
  (67, (.putfield 150, 3, 6, 18, .ref 0, [], 679)),
  (70, (.aload_n 0, 1, 0, 0, .null, [], 0)),
  (71, (.dup, 1, 0, 0, .null, [], 0)),
  (72, (.getfield 92, 3, 6, 7, .null, [], 668)),
  (75, (.iconst 1, 1, 0, 0, .int 1, [], 0)),
  (76, (.iadd, 1, 0, 0, .null, [], 0)),
  (77, (.putfield 92, 3, 6, 7, .ref 0, [], 668)),
  (80, (.aload_n 0, 1, 0, 0, .null, [], 0)),
  (81, (.invokevirtual 144, 3, 105, 0, .null, [], 843)),
  (84, (.aload_n 0, 1, 0, 0, .null, [], 0)),
  (85, (.invokevirtual 147, 3, 96, 0, .null, [], 804)),
  (88, (.istore_n 1, 1, 0, 0, .null, [], 0)),
  (89, (.goto (-84), 3, 5, 0, .null, [], 0)),
  (92, (.aload_n 0, 1, 0, 0, .null, [], 0)),
  (93, (.getfield 96, 3, 6, 8, .null, [], 669)),
  (96, (.ldc 95, 2, 0, 0, .int (-1999999), [], 803)),
  (98, (.if_icmp .eq 5, 3, 103, 0, .null, [], 0)),
  (101, (.iconst 0, 1, 0, 0, .int 0, [], 0)),
  (102, (.ireturn, 1, 0, 0, .null, [], 0)),
  (103, (.iload_n 1, 1, 0, 0, .null, [], 0)),
  (104, (.bipush 58, 2, 0, 0, .int 58, [], 0)),
  (106, (.if_icmp .eq 9, 3, 115, 0, .null, [], 0)),
  (109, (.iload_n 1, 1, 0, 0, .null, [], 0)),
  (110, (.bipush 94, 2, 0, 0, .int 94, [], 0)),
  (112, (.if_icmp .ne 22, 3, 134, 0, .null, [], 0)),
  (115, (.aload_n 0, 1, 0, 0, .null, [], 0)),
  (116, (.iload_n 1, 1, 0, 0, .null, [], 0)),
  (117, (.bipush 58, 2, 0, 0, .int 58, [], 0)),
  (119, (.if_icmp .ne 8, 3, 127, 0, .null, [], 0)),
  (122, (.bipush 13, 2, 0, 0, .int 13, [], 0)),
  (124, (.goto 5, 3, 129, 0, .null, [], 0)),
  (127, (.bipush 14, 2, 0, 0, .int 14, [], 0)),
  (129, (.invokevirtual 166, 3, 111, 0, .null, [], 873)),
  (132, (.iconst 1, 1, 0, 0, .int 1, [], 0)),
  (133, (.ireturn, 1, 0, 0, .null, [], 0)),
  (134, (.iload_n 1, 1, 0, 0, .null, [], 0)),
  (135, (.invokestatic 170, 3, 98, 0, .null, [], 877)),
  (138, (.istore_n 2, 1, 0, 0, .null, [], 0)),
  (139, (.iload_n 2, 1, 0, 0, .null, [], 0)),
  (140, (.ldc 95, 2, 0, 0, .int (-1999999), [], 803)),
  (142, (.if_icmp .ne 21, 3, 163, 0, .null, [], 0)),
  (145, (.aload_n 0, 1, 0, 0, .null, [], 0)),
  (146, (.aload_n 0, 1, 0, 0, .null, [], 0)),
  (147, (.getfield 150, 3, 6, 18, .null, [], 679)),
  (150, (.ifCond .ne 7, 3, 157, 0, .null, [], 0)),
  (153, (.iconst 1, 1, 0, 0, .int 1, [], 0)),
  (154, (.goto 4, 3, 158, 0, .null, [], 0)),
  (157, (.iconst 0, 1, 0, 0, .int 0, [], 0)),
  (158, (.invokevirtual 102, 3, 97, 0, .null, [], 812)),
  (161, (.iconst 0, 1, 0, 0, .int 0, [], 0)),
  (162, (.ireturn, 1, 0, 0, .null, [], 0)),
  (163, (.aload_n 0, 1, 0, 0, .null, [], 0)),
  (164, (.invokevirtual 130, 3, 103, 0, .null, [], 847)),
  (167, (.invokestatic 115, 3, 90, 0, .null, [], 855)),
  (170, (.ifCond .eq 24, 3, 194, 0, .null, [], 0)),
  (173, (.aload_n 0, 1, 0, 0, .null, [], 0)),
  (174, (.invokevirtual 130, 3, 103, 0, .null, [], 847)),
  (177, (.invokestatic 173, 3, 99, 0, .null, [], 880)),
  (180, (.iload_n 2, 1, 0, 0, .null, [], 0)),
  (181, (.invokestatic 173, 3, 99, 0, .null, [], 880)),
  (184, (.if_icmp .lt 10, 3, 194, 0, .null, [], 0)),
  (187, (.aload_n 0, 1, 0, 0, .null, [], 0)),
  (188, (.invokevirtual 134, 3, 104, 0, .null, [], 851)),
  (191, (.goto (-28), 3, 163, 0, .null, [], 0)),
  (194, (.aload_n 0, 1, 0, 0, .null, [], 0)),
  (195, (.iload_n 2, 1, 0, 0, .null, [], 0)),
  (196, (.aload_n 0, 1, 0, 0, .null, [], 0)),
  (197, (.iload_n 2, 1, 0, 0, .null, [], 0)),
  (198, (.invokevirtual 137, 3, 100, 0, .null, [], 824)),
  (201, (.invokevirtual 153, 3, 102, 0, .null, [], 820)),
  (204, (.aload_n 0, 1, 0, 0, .null, [], 0)),
  (205, (.dup, 1, 0, 0, .null, [], 0)),
  (206, (.getfield 92, 3, 6, 7, .null, [], 668)),
  (209, (.iconst 1, 1, 0, 0, .int 1, [], 0)),
  (210, (.iadd, 1, 0, 0, .null, [], 0)),
  (211, (.putfield 92, 3, 6, 7, .ref 0, [], 668)),
  (214, (.iconst 1, 1, 0, 0, .int 1, [], 0)),
  (215, (.ireturn, 1, 0, 0, .null, [], 0))]
/-- YieldLinesModel.readLine()V -/
def kd_113 : List (Nat × yE) := [
  (0, (.aload_n 0, 1, 0, 0, .null, [], 0)),
  (1, (.getfield 25, 3, 6, 9, .null, [], 670)),
  (4, (.iconst 0, 1, 0, 0, .int 0, [], 0)),
  (5, (.iaload, 1, 0, 0, .null, [], 0)),
  (6, (.istore_n 1, 1, 0, 0, .null, [], 0)),
  (7, (.aload_n 0, 1, 0, 0, .null, [], 0)),
  (8, (.iload_n 1, 1, 0, 0, .null, [], 0)),
  (9, (.bipush 8, 2, 0, 0, .int 8, [], 0)),
  (11, (.if_icmp .ge 7, 3, 18, 0, .null, [], 0)),
  (14, (.iconst 1, 1, 0, 0, .int 1, [], 0)),
  (15, (.goto 4, 3, 19, 0, .null, [], 0)),
  (18, (.iconst 0, 1, 0, 0, .int 0, [], 0)),
  (19, (.invokevirtual 102, 3, 97, 0, .null, [], 812)),
  (22, (.aload_n 0, 1, 0, 0, .null, [], 0)),
  (23, (.getfield 96, 3, 6, 8, .null, [], 669)),
  (26, (.ldc 95, 2, 0, 0, .int (-1999999), [], 803)),
  (28, (.if_icmp .eq 4, 3, 32, 0, .null, [], 0)),
  (31, (.return_, 1, 0, 0, .null, [], 0)),
  (32, (.aload_n 0, 1, 0, 0, .null, [], 0)),
  (33, (.getfield 25, 3, 6, 9, .null, [], 670)),
  (36, (.iconst 1, 1, 0, 0, .int 1, [], 0)),
  (37, (.iload_n 1, 1, 0, 0, .null, [], 0)),
  (38, (.iadd, 1, 0, 0, .null, [], 0)),
  (39, (.aload_n 0, 1, 0, 0, .null, [], 0)),
  (40, (.invokevirtual 147, 3, 96, 0, .null, [], 804)),
  (43, (.bipush 42, 2, 0, 0, .int 42, [], 0)),
  (45, (.if_icmp .ne 7, 3, 52, 0, .null, [], 0)),
  (48, (.iconst 1, 1, 0, 0, .int 1, [], 0)),
  (49, (.goto 4, 3, 53, 0, .null, [], 0)),
  (52, (.iconst 0, 1, 0, 0, .int 0, [], 0)),
  (53, (.iastore, 1, 0, 0, .null, [], 0)),
  (54, (.aload_n 0, 1, 0, 0, .null, [], 0)),
  (55, (.dup, 1, 0, 0, .null, [], 0)),
  (56, (.getfield 92, 3, 6, 7, .null, [], 668)),
  (59, (.aload_n 0, 1, 0, 0, .null, [], 0)),
  (60, (.getfield 25, 3, 6, 9, .null, [], 670)),
  (63, (.iconst 1, 1, 0, 0, .int 1, [], 0)),
  (64, (.iload_n 1, 1, 0, 0, .null, [], 0)),
  (65, (.iadd, 1, 0, 0, .null, [], 0)),
  (66, (.iaload, 1, 0, 0, .null, [], 0)),
  (67, (.iadd, 1, 0, 0, .null, [], 0)),
  (68, (.putfield 92, 3, 6, 7, .ref 0, [], 668)),
  (71, (.aload_n 0, 1, 0, 0, .null, [], 0)),
  (72, (.aload_n 0, 1, 0, 0, .null, [], 0)),
  (73, (.getfield 99, 3, 6, 11, .null, [], 672)),
  (76, (.putfield 106, 3, 6, 10, .ref 0, [], 671)),
  (79, (.aload_n 0, 1, 0, 0, .null, [], 0)),
  (80, (.iconst 0, 1, 0, 0, .int 0, [], 0)),
  (81, (.putfield 109, 3, 6, 14, .ref 0, [], 675)),
  (84, (.aload_n 0, 1, 0, 0, .null, [], 0)),
  (85, (.iconst 0, 1, 0, 0, .int 0, [], 0)),
  (86, (.putfield 112, 3, 6, 17, .ref 0, [], 678)),
  (89, (.aload_n 0, 1, 0, 0, .null, [], 0)),
  (90, (.iconst 0, 1, 0, 0, .int 0, [], 0)),
  (91, (.putfield 150, 3, 6, 18, .ref 0, [], 679)),
  (94, (.iconst 1, 1, 0, 0, .int 1, [], 0)),
  (95, (.istore_n 2, 1, 0, 0, .null, [], 0)),
  (96, (.aload_n 0, 1, 0, 0, .null, [], 0)),
  (97, (.getfield 96, 3, 6, 8, .null, [], 669)),
  (100, (.ldc 95, 2, 0, 0, .int (-1999999), [], 803)),
  (102, (.if_icmp .ne 30, 3, 132, 0, .null, [], 0)),
  (105, (.iload_n 2, 1, 0, 0, .null, [], 0)),
  (106, (.ifCond .eq 26, 3, 132, 0, .null, [], 0)),
  (109, (.aload_n 0, 1, 0, 0, .null, [], 0)),
  (110, (.invokevirtual 176, 3, 108, 0, .null, [], 816)),
  (113, (.ifCond .eq 10, 3, 123, 0, .null, [], 0)),
  (116, (.aload_n 0, 1, 0, 0, .null, [], 0)),
  (117, (.invokevirtual 179, 3, 112, 0, .null, [], 861)),
  (120, (.ifCond .eq 7, 3, 127, 0, .null, [], 0)),
  (123, (.iconst 1, 1, 0, 0, .int 1, [], 0)),
  (124, (.goto 4, 3, 128, 0, .null, [], 0)),
  (127, (.iconst 0, 1, 0, 0, .int 0, [], 0)),
  (128, (.istore_n 2, 1, 0, 0, .null, [], 0)),
  (129, (.goto (-33), 3, 96, 0, .null, [], 0)),
  (132, (.aload_n 0, 1, 0, 0, .null, [], 0)),
  (133, (.getfield 96, 3, 6, 8, .null, [], 669)),
  (136, (.ldc 95, 2, 0, 0, .int (-1999999), [], 803)),
  (138, (.if_icmp .ne 78, 3, 216, 0, .null, [], 0)),
  (141, (.aload_n 0, 1, 0, 0, .null, [], 0)),
  (142, (.invokevirtual 163, 3, 109, 0, .null, [], 869)),
  (145, (.aload_n 0, 1, 0, 0, .null, [], 0)),
  (146, (.aload_n 0, 1, 0, 0, .null, [], 0)),
  (147, (.invokevirtual 147, 3, 96, 0, .null, [], 804)),
  (150, (.bipush 59, 2, 0, 0, .int 59, [], 0)),
  (152, (.if_icmp .ne 7, 3, 159, 0, .null, [], 0)),
  (155, (.iconst 1, 1, 0, 0, .int 1, [], 0)),
  (156, (.goto 4, 3, 160, 0, .null, [], 0)),
  (159, (.iconst 0, 1, 0, 0, .int 0, [], 0)),
  (160, (.invokevirtual 102, 3, 97, 0, .null, [], 812)),
  (163, (.aload_n 0, 1, 0, 0, .null, [], 0)),
  (164, (.dup, 1, 0, 0, .null, [], 0)),
  (165, (.getfield 92, 3, 6, 7, .null, [], 668)),
  (168, (.iconst 1, 1, 0, 0, .int 1, [], 0)),
  (169, (.iadd, 1, 0, 0, .null, [], 0)),
  (170, (.putfield 92, 3, 6, 7, .ref 0, [], 668)),
  (173, (.aload_n 0, 1, 0, 0, .null, [], 0)),
  (174, (.getfield 25, 3, 6, 9, .null, [], 670)),
  (177, (.bipush 9, 2, 0, 0, .int 9, [], 0)),
  (179, (.iload_n 1, 1, 0, 0, .null, [], 0)),
  (180, (.iadd, 1, 0, 0, .null, [], 0)),
  (181, (.aload_n 0, 1, 0, 0, .null, [], 0)),
  (182, (.getfield 99, 3, 6, 11, .null, [], 672)),
  (185, (.aload_n 0, 1, 0, 0, .null, [], 0)),
  (186, (.getfield 106, 3, 6, 10, .null, [], 671)),
  (189, (.isub, 1, 0, 0, .null, [], 0)),
  (190, (.iastore, 1, 0, 0, .null, [], 0)),
  (191, (.aload_n 0, 1, 0, 0, .null, [], 0)),
  (192, (.getfield 25, 3, 6, 9, .null, [], 670)),
  (195, (.bipush 17, 2, 0, 0, .int 17, [], 0)),
  (197, (.iload_n 1, 1, 0, 0, .null, [], 0)),
  (198, (.iadd, 1, 0, 0, .null, [], 0)),
  (199, (.aload_n 0, 1, 0, 0, .null, [], 0)),
  (200, (.getfield 28, 3, 6, 12, .null, [], 673)),
  (203, (.iconst 0, 1, 0, 0, .int 0, [], 0)),
  (204, (.iaload, 1, 0, 0, .null, [], 0)),
  (205, (.iastore, 1, 0, 0, .null, [], 0)),
  (206, (.aload_n 0, 1, 0, 0, .null, [], 0)),
  (207, (.getfield 25, 3, 6, 9, .null, [], 670)),
  (210, (.iconst 0, 1, 0, 0, .int 0, [], 0)),
  (211, (.dup2, 1, 0, 0, .null, [], 0)),
  (212, (.iaload, 1, 0, 0, .null, [], 0)),
  (213, (.iconst 1, 1, 0, 0, .int 1, [], 0)),
  (214, (.iadd, 1, 0, 0, .null, [], 0)),
  (215, (.iastore, 1, 0, 0, .null, [], 0)),
  (216, (.return_, 1, 0, 0, .null, [], 0))]
/-- YieldLinesModel.reads()I -/
def kd_114 : List (Nat × yE) := [
  (0, (.aload_n 0, 1, 0, 0, .null, [], 0)),
  (1, (.iconst 0, 1, 0, 0, .int 0, [], 0)),
  (2, (.putfield 92, 3, 6, 7, .ref 0, [], 668)),
  (5, (.aload_n 0, 1, 0, 0, .null, [], 0)),
  (6, (.ldc 95, 2, 0, 0, .int (-1999999), [], 803)),
  (8, (.putfield 96, 3, 6, 8, .ref 0, [], 669)),
  (11, (.aload_n 0, 1, 0, 0, .null, [], 0)),
  (12, (.iconst 0, 1, 0, 0, .int 0, [], 0)),
  (13, (.putfield 99, 3, 6, 11, .ref 0, [], 672)),
  (16, (.aload_n 0, 1, 0, 0, .null, [], 0)),
  (17, (.getfield 25, 3, 6, 9, .null, [], 670)),
  (20, (.iconst 0, 1, 0, 0, .int 0, [], 0)),
  (21, (.iconst 0, 1, 0, 0, .int 0, [], 0)),
  (22, (.iastore, 1, 0, 0, .null, [], 0)),
  (23, (.aload_n 0, 1, 0, 0, .null, [], 0)),
  (24, (.getfield 96, 3, 6, 8, .null, [], 669)),
  (27, (.ldc 95, 2, 0, 0, .int (-1999999), [], 803)),
  (29, (.if_icmp .ne 19, 3, 48, 0, .null, [], 0)),
  (32, (.aload_n 0, 1, 0, 0, .null, [], 0)),
  (33, (.invokevirtual 147, 3, 96, 0, .null, [], 804)),
  (36, (.ldc 95, 2, 0, 0, .int (-1999999), [], 803)),
  (38, (.if_icmp .eq 10, 3, 48, 0, .null, [], 0)),
  (41, (.aload_n 0, 1, 0, 0, .null, [], 0)),
  (42, (.invokevirtual 182, 3, 113, 0, .null, [], 808)),
  (45, (.goto (-22), 3, 23, 0, .null, [], 0)),
  (48, (.aload_n 0, 1, 0, 0, .null, [], 0)),
  (49, (.getfield 96, 3, 6, 8, .null, [], 669)),
  (52, (.ldc 95, 2, 0, 0, .int (-1999999), [], 803)),
  (54, (.if_icmp .eq 11, 3, 65, 0, .null, [], 0)),
  (57, (.bipush (-10), 2, 0, 0, .int (-10), [], 0)),
  (59, (.aload_n 0, 1, 0, 0, .null, [], 0)),
  (60, (.getfield 96, 3, 6, 8, .null, [], 669)),
  (63, (.isub, 1, 0, 0, .null, [], 0)),
  (64, (.ireturn, 1, 0, 0, .null, [], 0)),
  (65, (.aload_n 0, 1, 0, 0, .null, [], 0)),
  (66, (.invokevirtual 185, 3, 82, 0, .null, [], 883)),
  (69, (.iconst 0, 1, 0, 0, .int 0, [], 0)),
  (70, (.istore_n 1, 1, 0, 0, .null, [], 0)),
  (71, (.iload_n 1, 1, 0, 0, .null, [], 0)),
  (72, (.bipush 85, 2, 0, 0, .int 85, [], 0)),
  (74, (.if_icmp .ge 21, 3, 95, 0, .null, [], 0)),
  (77, (.aload_n 0, 1, 0, 0, .null, [], 0)),
  (78, (.getfield 7, 3, 6, 0, .null, [], 661)),
  (81, (.iload_n 1, 1, 0, 0, .null, [], 0)),
  (82, (.aload_n 0, 1, 0, 0, .null, [], 0)),
  (83, (.getfield 25, 3, 6, 9, .null, [], 670)),
  (86, (.iload_n 1, 1, 0, 0, .null, [], 0)),
  (87, (.iaload, 1, 0, 0, .null, [], 0)),
  (88, (.iastore, 1, 0, 0, .null, [], 0)),
  (89, (.iinc 1 1, 3, 0, 0, .int 1, [], 0)),
  (92, (.goto (-21), 3, 71, 0, .null, [], 0)),
  (95, (.aload_n 0, 1, 0, 0, .null, [], 0)),
  (96, (.invokevirtual 188, 3, 83, 0, .null, [], 887)),
  (99, (.aload_n 0, 1, 0, 0, .null, [], 0)),
  (100, (.getfield 7, 3, 6, 0, .null, [], 661)),
  (103, (.iconst 0, 1, 0, 0, .int 0, [], 0)),
  (104, (.iaload, 1, 0, 0, .null, [], 0)),
  (105, (.ireturn, 1, 0, 0, .null, [], 0))]
/-- YieldLinesModel.value(II)I -/
def kd_115 : List (Nat × yE) := [
  (0, (.iload_n 1, 1, 0, 0, .null, [], 0)),
  (1, (.iconst 0, 1, 0, 0, .int 0, [], 0)),
  (2, (.iconst 3, 1, 0, 0, .int 3, [], 0)),
  (3, (.invokestatic 81, 3, 80, 0, .null, [], 791)),
  (6, (.ifCond .eq 14, 3, 20, 0, .null, [], 0)),
  (9, (.iload_n 2, 1, 0, 0, .null, [], 0)),
  (10, (.ldc 191, 2, 0, 0, .int (-999999), [], 895)),
  (12, (.ldc 192, 2, 0, 0, .int 999999, [], 896)),
  (14, (.invokestatic 81, 3, 80, 0, .null, [], 791)),
  (17, (.ifCond .ne 10, 3, 27, 0, .null, [], 0)),
  (20, (.aload_n 0, 1, 0, 0, .null, [], 0)),
  (21, (.ldc 75, 2, 0, 0, .int (-2000000), [], 786)),
  (23, (.invokevirtual 77, 3, 81, 0, .null, [], 782)),
  (26, (.ireturn, 1, 0, 0, .null, [], 0)),
  (27, (.aload_n 0, 1, 0, 0, .null, [], 0)),
  (28, (.invokevirtual 185, 3, 82, 0, .null, [], 883)),
  (31, (.aload_n 0, 1, 0, 0, .null, [], 0)),
  (32, (.getfield 7, 3, 6, 0, .null, [], 661)),
  (35, (.bipush 85, 2, 0, 0, .int 85, [], 0)),
  (37, (.iload_n 1, 1, 0, 0, .null, [], 0)),
  (38, (.iadd, 1, 0, 0, .null, [], 0)),
  (39, (.iaload, 1, 0, 0, .null, [], 0)),
  (40, (.istore_n 3, 1, 0, 0, .null, [], 0)),
  (41, (.aload_n 0, 1, 0, 0, .null, [], 0)),
  (42, (.getfield 7, 3, 6, 0, .null, [], 661)),
  (45, (.bipush 85, 2, 0, 0, .int 85, [], 0)),
  (47, (.iload_n 1, 1, 0, 0, .null, [], 0)),
  (48, (.iadd, 1, 0, 0, .null, [], 0)),
  (49, (.iload_n 2, 1, 0, 0, .null, [], 0)),
  (50, (.iastore, 1, 0, 0, .null, [], 0)),
  (51, (.aload_n 0, 1, 0, 0, .null, [], 0)),
  (52, (.invokevirtual 188, 3, 83, 0, .null, [], 887)),
  (55, (.iload_n 3, 1, 0, 0, .null, [], 0)),
  (56, (.ireturn, 1, 0, 0, .null, [], 0))]
/-- YieldLinesModel.drops(I)I -/
def kd_116 : List (Nat × yE) := [
  (0, (.aload_n 0, 1, 0, 0, .null, [], 0)),
  (1, (.iload_n 1, 1, 0, 0, .null, [], 0)),
  (2, (.invokevirtual 193, 3, 93, 0, .null, [], 901)),
  (5, (.ifCond .ne 10, 3, 15, 0, .null, [], 0)),
  (8, (.aload_n 0, 1, 0, 0, .null, [], 0)),
  (9, (.ldc 75, 2, 0, 0, .int (-2000000), [], 786)),
  (11, (.invokevirtual 77, 3, 81, 0, .null, [], 782)),
  (14, (.ireturn, 1, 0, 0, .null, [], 0)),
  (15, (.aload_n 0, 1, 0, 0, .null, [], 0)),
  (16, (.invokevirtual 185, 3, 82, 0, .null, [], 883)),
  (19, (.aload_n 0, 1, 0, 0, .null, [], 0)),
  (20, (.iload_n 1, 1, 0, 0, .null, [], 0)),
  (21, (.invokevirtual 85, 3, 91, 0, .null, [], 905)),
  (24, (.istore_n 2, 1, 0, 0, .null, [], 0)),
  (25, (.aload_n 0, 1, 0, 0, .null, [], 0)),
  (26, (.getfield 7, 3, 6, 0, .null, [], 661)),
  (29, (.bipush 9, 2, 0, 0, .int 9, [], 0)),
  (31, (.iload_n 1, 1, 0, 0, .null, [], 0)),
  (32, (.iadd, 1, 0, 0, .null, [], 0)),
  (33, (.iaload, 1, 0, 0, .null, [], 0)),
  (34, (.istore_n 3, 1, 0, 0, .null, [], 0)),
  (35, (.iload_n 2, 1, 0, 0, .null, [], 0)),
  (36, (.istore 4, 2, 0, 0, .null, [], 0)),
  (38, (.iload 4, 2, 0, 0, .null, [], 0)),
  (40, (.iload_n 3, 1, 0, 0, .null, [], 0)),
  (41, (.iadd, 1, 0, 0, .null, [], 0)),
  (42, (.bipush 85, 2, 0, 0, .int 85, [], 0)),
  (44, (.if_icmp .ge 25, 3, 69, 0, .null, [], 0)),
  (47, (.aload_n 0, 1, 0, 0, .null, [], 0)),
  (48, (.getfield 7, 3, 6, 0, .null, [], 661)),
  (51, (.iload 4, 2, 0, 0, .null, [], 0)),
  (53, (.aload_n 0, 1, 0, 0, .null, [], 0)),
  (54, (.getfield 7, 3, 6, 0, .null, [], 661)),
  (57, (.iload 4, 2, 0, 0, .null, [], 0)),
  (59, (.iload_n 3, 1, 0, 0, .null, [], 0)),
  (60, (.iadd, 1, 0, 0, .null, [], 0)),
  (61, (.iaload, 1, 0, 0, .null, [], 0)),
  (62, (.iastore, 1, 0, 0, .null, [], 0)),
  (63, (.iinc 4 1, 3, 0, 0, .int 1, [], 0)),
  (66, (.goto (-28), 3, 38, 0, .null, [], 0)),
  (69, (.iload_n 1, 1, 0, 0, .null, [], 0)),
  (70, (.istore 4, 2, 0, 0, .null, [], 0)),
  (72, (.iload 4, 2, 0, 0, .null, [], 0)),
  (74, (.bipush 7, 2, 0, 0, .int 7, [], 0)),
  (76, (.if_icmp .ge 73, 3, 149, 0, .null, [], 0)),
  (79, (.aload_n 0, 1, 0, 0, .null, [], 0)),
  (80, (.getfield 7, 3, 6, 0, .null, [], 661)),
  (83, (.iconst 1, 1, 0, 0, .int 1, [], 0)),
  (84, (.iload 4, 2, 0, 0, .null, [], 0)),
  (86, (.iadd, 1, 0, 0, .null, [], 0)),
  (87, (.aload_n 0, 1, 0, 0, .null, [], 0)),
  (88, (.getfield 7, 3, 6, 0, .null, [], 661)),
  (91, (.iconst 1, 1, 0, 0, .int 1, [], 0)),
  (92, (.iload 4, 2, 0, 0, .null, [], 0)),
  (94, (.iadd, 1, 0, 0, .null, [], 0)),
  (95, (.iconst 1, 1, 0, 0, .int 1, [], 0)),
  (96, (.iadd, 1, 0, 0, .null, [], 0)),
  (97, (.iaload, 1, 0, 0, .null, [], 0)),
  (98, (.iastore, 1, 0, 0, .null, [], 0)),
  (99, (.aload_n 0, 1, 0, 0, .null, [], 0)),
  (100, (.getfield 7, 3, 6, 0, .null, [], 661)),
  (103, (.bipush 9, 2, 0, 0, .int 9, [], 0)),
  (105, (.iload 4, 2, 0, 0, .null, [], 0)),
  (107, (.iadd, 1, 0, 0, .null, [], 0)),
  (108, (.aload_n 0, 1, 0, 0, .null, [], 0)),
  (109, (.getfield 7, 3, 6, 0, .null, [], 661)),
  (112, (.bipush 9, 2, 0, 0, .int 9, [], 0)),
  (114, (.iload 4, 2, 0, 0, .null, [], 0)),
  (116, (.iadd, 1, 0, 0, .null, [], 0)),
  (117, (.iconst 1, 1, 0, 0, .int 1, [], 0)),
  (118, (.iadd, 1, 0, 0, .null, [], 0)),
  (119, (.iaload, 1, 0, 0, .null, [], 0)),
  (120, (.iastore, 1, 0, 0, .null, [], 0)),
  (121, (.aload_n 0, 1, 0, 0, .null, [], 0)),
  (122, (.getfield 7, 3, 6, 0, .null, [], 661)),
  (125, (.bipush 17, 2, 0, 0, .int 17, [], 0)),
  (127, (.iload 4, 2, 0, 0, .null, [], 0)),
  (129, (.iadd, 1, 0, 0, .null, [], 0)),
  (130, (.aload_n 0, 1, 0, 0, .null, [], 0)),
  (131, (.getfield 7, 3, 6, 0, .null, [], 661)),
  (134, (.bipush 17, 2, 0, 0, .int 17, [], 0)),
  (136, (.iload 4, 2, 0, 0, .null, [], 0)),
  (138, (.iadd, 1, 0, 0, .null, [], 0)),
  (139, (.iconst 1, 1, 0, 0, .int 1, [], 0)),
  (140, (.iadd, 1, 0, 0, .null, [], 0)),
  (141, (.iaload, 1, 0, 0, .null, [], 0)),
  (142, (.iastore, 1, 0, 0, .null, [], 0)),
  (143, (.iinc 4 1, 3, 0, 0, .int 1, [], 0)),
  (146, (.goto (-74), 3, 72, 0, .null, [], 0)),
  (149, (.aload_n 0, 1, 0, 0, .null, [], 0)),
  (150, (.getfield 7, 3, 6, 0, .null, [], 661)),
  (153, (.iconst 0, 1, 0, 0, .int 0, [], 0)),
  (154, (.dup2, 1, 0, 0, .null, [], 0)),
  (155, (.iaload, 1, 0, 0, .null, [], 0)),
  (156, (.iconst 1, 1, 0, 0, .int 1, [], 0)),
  (157, (.isub, 1, 0, 0, .null, [], 0)),
  (158, (.iastore, 1, 0, 0, .null, [], 0)),
  (159, (.aload_n 0, 1, 0, 0, .null, [], 0)),
  (160, (.invokevirtual 188, 3, 83, 0, .null, [], 887)),
  (163, (.aload_n 0, 1, 0, 0, .null, [], 0)),
  (164, (.getfield 7, 3, 6, 0, .null, [], 661)),
  (167, (.iconst 0, 1, 0, 0, .int 0, [], 0)),
  (168, (.iaload, 1, 0, 0, .null, [], 0)),
  (169, (.ireturn, 1, 0, 0, .null, [], 0))]
/-- YieldLinesModel.ofLine(II)I -/
def kd_117 : List (Nat × yE) := [
  (0, (.iload_n 2, 1, 0, 0, .null, [], 0)),
  (1, (.iconst 2, 1, 0, 0, .int 2, [], 0)),
  (2, (.if_icmp .ge 21, 3, 23, 0, .null, [], 0)),
  (5, (.aload_n 0, 1, 0, 0, .null, [], 0)),
  (6, (.getfield 7, 3, 6, 0, .null, [], 661)),
  (9, (.iload_n 2, 1, 0, 0, .null, [], 0)),
  (10, (.ifCond .ne 7, 3, 17, 0, .null, [], 0)),
  (13, (.iconst 1, 1, 0, 0, .int 1, [], 0)),
  (14, (.goto 5, 3, 19, 0, .null, [], 0)),
  (17, (.bipush 9, 2, 0, 0, .int 9, [], 0)),
  (19, (.iload_n 1, 1, 0, 0, .null, [], 0)),
  (20, (.iadd, 1, 0, 0, .null, [], 0)),
  (21, (.iaload, 1, 0, 0, .null, [], 0)),
  (22, (.ireturn, 1, 0, 0, .null, [], 0)),
  (23, (.iconst 0, 1, 0, 0, .int 0, [], 0)),
  (24, (.istore_n 3, 1, 0, 0, .null, [], 0)),
  (25, (.aload_n 0, 1, 0, 0, .null, [], 0)),
  (26, (.iload_n 1, 1, 0, 0, .null, [], 0)),
  (27, (.invokevirtual 85, 3, 91, 0, .null, [], 905)),
  (30, (.istore 4, 2, 0, 0, .null, [], 0)),
  (32, (.iload 4, 2, 0, 0, .null, [], 0)),
  (34, (.aload_n 0, 1, 0, 0, .null, [], 0)),
  (35, (.iload_n 1, 1, 0, 0, .null, [], 0)),
  (36, (.invokevirtual 85, 3, 91, 0, .null, [], 905)),
  (39, (.aload_n 0, 1, 0, 0, .null, [], 0)),
  (40, (.getfield 7, 3, 6, 0, .null, [], 661)),
  (43, (.bipush 9, 2, 0, 0, .int 9, [], 0)),
  (45, (.iload_n 1, 1, 0, 0, .null, [], 0)),
  (46, (.iadd, 1, 0, 0, .null, [], 0)),
  (47, (.iaload, 1, 0, 0, .null, [], 0)),
  (48, (.iadd, 1, 0, 0, .null, [], 0)),
  (49, (.if_icmp .ge 77, 3, 126, 0, .null, [], 0)),
  (52, (.aload_n 0, 1, 0, 0, .null, [], 0)),
  (53, (.getfield 7, 3, 6, 0, .null, [], 661)),
  (56, (.iload 4, 2, 0, 0, .null, [], 0)),
  (58, (.iaload, 1, 0, 0, .null, [], 0)),
  (59, (.invokestatic 196, 3, 85, 0, .null, [], 917)),
  (62, (.istore 5, 2, 0, 0, .null, [], 0)),
  (64, (.iload 5, 2, 0, 0, .null, [], 0)),
  (66, (.bipush 13, 2, 0, 0, .int 13, [], 0)),
  (68, (.if_icmp .eq 21, 3, 89, 0, .null, [], 0)),
  (71, (.iload 5, 2, 0, 0, .null, [], 0)),
  (73, (.bipush 14, 2, 0, 0, .int 14, [], 0)),
  (75, (.if_icmp .eq 14, 3, 89, 0, .null, [], 0)),
  (78, (.iload_n 2, 1, 0, 0, .null, [], 0)),
  (79, (.iconst 2, 1, 0, 0, .int 2, [], 0)),
  (80, (.if_icmp .ne 13, 3, 93, 0, .null, [], 0)),
  (83, (.iload 5, 2, 0, 0, .null, [], 0)),
  (85, (.iconst 1, 1, 0, 0, .int 1, [], 0)),
  (86, (.if_icmp .ne 7, 3, 93, 0, .null, [], 0)),
  (89, (.iconst 1, 1, 0, 0, .int 1, [], 0)),
  (90, (.goto 4, 3, 94, 0, .null, [], 0)),
  (93, (.iconst 0, 1, 0, 0, .int 0, [], 0)),
  (94, (.istore 6, 2, 0, 0, .null, [], 0)),
  (96, (.iload_n 3, 1, 0, 0, .null, [], 0)),
  (97, (.iload 6, 2, 0, 0, .null, [], 0)),
  (99, (.ifCond .eq 18, 3, 117, 0, .null, [], 0)),
  (102, (.iconst 1, 1, 0, 0, .int 1, [], 0)),
  (103, (.aload_n 0, 1, 0, 0, .null, [], 0)),
  (104, (.getfield 7, 3, 6, 0, .null, [], 661)),
  (107, (.iload 4, 2, 0, 0, .null, [], 0)),
  (109, (.iaload, 1, 0, 0, .null, [], 0)),
  (110, (.invokestatic 123, 3, 86, 0, .null, [], 858)),
  (113, (.ishl, 1, 0, 0, .null, [], 0)),
  (114, (.goto 4, 3, 118, 0, .null, [], 0)),
  (117, (.iconst 0, 1, 0, 0, .int 0, [], 0)),
  (118, (.ior, 1, 0, 0, .null, [], 0)),
  (119, (.istore_n 3, 1, 0, 0, .null, [], 0)),
  (120, (.iinc 4 1, 3, 0, 0, .int 1, [], 0)),
  (123, (.goto (-91), 3, 32, 0, .null, [], 0)),
  (126, (.iload_n 3, 1, 0, 0, .null, [], 0)),
  (127, (.ireturn, 1, 0, 0, .null, [], 0))]
/-- YieldLinesModel.line(II)I -/
def kd_118 : List (Nat × yE) := [
  (0, (.aload_n 0, 1, 0, 0, .null, [], 0)),
  (1, (.iload_n 1, 1, 0, 0, .null, [], 0)),
  (2, (.invokevirtual 193, 3, 93, 0, .null, [], 901)),
  (5, (.ifCond .eq 21, 3, 26, 0, .null, [], 0)),
  (8, (.iload_n 2, 1, 0, 0, .null, [], 0)),
  (9, (.iconst 0, 1, 0, 0, .int 0, [], 0)),
  (10, (.iconst 3, 1, 0, 0, .int 3, [], 0)),
  (11, (.invokestatic 81, 3, 80, 0, .null, [], 791)),
  (14, (.ifCond .eq 12, 3, 26, 0, .null, [], 0)),
  (17, (.aload_n 0, 1, 0, 0, .null, [], 0)),
  (18, (.iload_n 1, 1, 0, 0, .null, [], 0)),
  (19, (.iload_n 2, 1, 0, 0, .null, [], 0)),
  (20, (.invokevirtual 199, 3, 117, 0, .null, [], 913)),
  (23, (.goto 9, 3, 32, 0, .null, [], 0)),
  (26, (.aload_n 0, 1, 0, 0, .null, [], 0)),
  (27, (.ldc 75, 2, 0, 0, .int (-2000000), [], 786)),
  (29, (.invokevirtual 77, 3, 81, 0, .null, [], 782)),
  (32, (.ireturn, 1, 0, 0, .null, [], 0))]
/-- YieldLinesModel.node(I)I -/
def kd_119 : List (Nat × yE) := [
  (0, (.aload_n 0, 1, 0, 0, .null, [], 0)),
  (1, (.getfield 7, 3, 6, 0, .null, [], 661)),
  (4, (.aload_n 0, 1, 0, 0, .null, [], 0)),
  (5, (.getfield 203, 3, 6, 24, .null, [], 685)),
  (8, (.iload_n 1, 1, 0, 0, .null, [], 0)),
  (9, (.iadd, 1, 0, 0, .null, [], 0)),
  (10, (.iaload, 1, 0, 0, .null, [], 0)),
  (11, (.ireturn, 1, 0, 0, .null, [], 0))]
/-- YieldLinesModel.ask(IZ)V -/
def kd_120 : List (Nat × yE) := [
  (0, (.aload_n 0, 1, 0, 0, .null, [], 0)),
  (1, (.iload_n 1, 1, 0, 0, .null, [], 0)),
  (2, (.putfield 206, 3, 6, 27, .ref 0, [], 688)),
  (5, (.aload_n 0, 1, 0, 0, .null, [], 0)),
  (6, (.iconst 1, 1, 0, 0, .int 1, [], 0)),
  (7, (.putfield 209, 3, 6, 28, .ref 1, [], 689)),
  (10, (.iload_n 2, 1, 0, 0, .null, [], 0)),
  (11, (.ifCond .eq 10, 3, 21, 0, .null, [], 0)),
  (14, (.aload_n 0, 1, 0, 0, .null, [], 0)),
  (15, (.getfield 44, 3, 6, 20, .null, [], 681)),
  (18, (.iload_n 1, 1, 0, 0, .null, [], 0)),
  (19, (.iconst 0, 1, 0, 0, .int 0, [], 0)),
  (20, (.iastore, 1, 0, 0, .null, [], 0)),
  (21, (.return_, 1, 0, 0, .null, [], 0))]
/-- YieldLinesModel.yields(I)V -/
def kd_121 : List (Nat × yE) := [
  (0, (.aload_n 0, 1, 0, 0, .null, [], 0)),
  (1, (.getfield 213, 3, 6, 25, .null, [], 686)),
  (4, (.sipush 1000, 3, 0, 0, .int 1000, [], 0)),
  (7, (.if_icmp .ne 9, 3, 16, 0, .null, [], 0)),
  (10, (.aload_n 0, 1, 0, 0, .null, [], 0)),
  (11, (.iconst 1, 1, 0, 0, .int 1, [], 0)),
  (12, (.putfield 216, 3, 6, 26, .ref 1, [], 687)),
  (15, (.return_, 1, 0, 0, .null, [], 0)),
  (16, (.aload_n 0, 1, 0, 0, .null, [], 0)),
  (17, (.dup, 1, 0, 0, .null, [], 0)),
  (18, (.getfield 213, 3, 6, 25, .null, [], 686)),
  (21, (.iconst 1, 1, 0, 0, .int 1, [], 0)),
  (22, (.iadd, 1, 0, 0, .null, [], 0)),
  (23, (.putfield 213, 3, 6, 25, .ref 0, [], 686)),
  (26, (.aload_n 0, 1, 0, 0, .null, [], 0)),
  (27, (.iconst 1, 1, 0, 0, .int 1, [], 0)),
  (28, (.putfield 219, 3, 6, 29, .ref 1, [], 690)),
  (31, (.aload_n 0, 1, 0, 0, .null, [], 0)),
  (32, (.iload_n 1, 1, 0, 0, .null, [], 0)),
  (33, (.putfield 222, 3, 6, 30, .ref 0, [], 691)),
  (36, (.aload_n 0, 1, 0, 0, .null, [], 0)),
  (37, (.iconst 0, 1, 0, 0, .int 0, [], 0)),
  (38, (.putfield 209, 3, 6, 28, .ref 1, [], 689)),
  (41, (.aload_n 0, 1, 0, 0, .null, [], 0)),
  (42, (.aload_n 0, 1, 0, 0, .null, [], 0)),
  (43, (.getfield 41, 3, 6, 19, .null, [], 680)),
  (46, (.aload_n 0, 1, 0, 0, .null, [], 0)),
  (47, (.getfield 206, 3, 6, 27, .null, [], 688)),
  (50, (.iaload, 1, 0, 0, .null, [], 0)),
  (51, (.putfield 206, 3, 6, 27, .ref 0, [], 688)),
  (54, (.return_, 1, 0, 0, .null, [], 0))]
/-- YieldLinesModel.hasNone()V -/
def kd_122 : List (Nat × yE) := [
  (0, (.aload_n 0, 1, 0, 0, .null, [], 0)),
  (1, (.iconst 0, 1, 0, 0, .int 0, [], 0)),
  (2, (.putfield 219, 3, 6, 29, .ref 1, [], 690)),
  (5, (.aload_n 0, 1, 0, 0, .null, [], 0)),
  (6, (.iconst 0, 1, 0, 0, .int 0, [], 0)),
  (7, (.putfield 209, 3, 6, 28, .ref 1, [], 689)),
  (10, (.aload_n 0, 1, 0, 0, .null, [], 0)),
  (11, (.aload_n 0, 1, 0, 0, .null, [], 0)),
  (12, (.getfield 41, 3, 6, 19, .null, [], 680)),
  (15, (.aload_n 0, 1, 0, 0, .null, [], 0)),
  (16, (.getfield 206, 3, 6, 27, .null, [], 688)),
  (19, (.iaload, 1, 0, 0, .null, [], 0)),
  (20, (.putfield 206, 3, 6, 27, .ref 0, [], 688)),
  (23, (.return_, 1, 0, 0, .null, [], 0))]
/-- YieldLinesModel.isDoneBy(III)Z -/
def kd_123 : List (Nat × yE) := [
  (0, (.iload_n 0, 1, 0, 0, .null, [], 0)),
  (1, (.bipush 8, 2, 0, 0, .int 8, [], 0)),
  (3, (.if_icmp .ne 11, 3, 14, 0, .null, [], 0)),
  (6, (.iload_n 1, 1, 0, 0, .null, [], 0)),
  (7, (.i2l, 1, 0, 0, .null, [], 0)),
  (8, (.iload_n 2, 1, 0, 0, .null, [], 0)),
  (9, (.i2l, 1, 0, 0, .null, [], 0)),
  (10, (.ladd, 1, 0, 0, .null, [], 0)),
  (11, (.goto 22, 3, 33, 0, .null, [], 0)),
  (14, (.iload_n 0, 1, 0, 0, .null, [], 0)),
  (15, (.bipush 9, 2, 0, 0, .int 9, [], 0)),
  (17, (.if_icmp .ne 11, 3, 28, 0, .null, [], 0)),
  (20, (.iload_n 1, 1, 0, 0, .null, [], 0)),
  (21, (.i2l, 1, 0, 0, .null, [], 0)),
  (22, (.iload_n 2, 1, 0, 0, .null, [], 0)),
  (23, (.i2l, 1, 0, 0, .null, [], 0)),
  (24, (.lsub, 1, 0, 0, .null, [], 0)),
  (25, (.goto 8, 3, 33, 0, .null, [], 0)),
  (28, (.iload_n 1, 1, 0, 0, .null, [], 0)),
  (29, (.i2l, 1, 0, 0, .null, [], 0)),
  (30, (.iload_n 2, 1, 0, 0, .null, [], 0)),
  (31, (.i2l, 1, 0, 0, .null, [], 0)),
  (32, (.lmul, 1, 0, 0, .null, [], 0)),
  (33, (.lstore_n 3, 1, 0, 0, .null, [], 0)),
  (34, (.iload_n 0, 1, 0, 0, .null, [], 0)),
  (35, (.iconst 4, 1, 0, 0, .int 4, [], 0)),
  (36, (.if_icmp .ne 16, 3, 52, 0, .null, [], 0)),
  (39, (.iload_n 1, 1, 0, 0, .null, [], 0)),
  (40, (.iload_n 2, 1, 0, 0, .null, [], 0)),
  (41, (.if_icmp .ge 7, 3, 48, 0, .null, [], 0)),
  (44, (.iconst 1, 1, 0, 0, .int 1, [], 0)),
  (45, (.goto 65, 3, 110, 0, .null, [], 0)),
  (48, (.iconst 0, 1, 0, 0, .int 0, [], 0)),
  (49, (.goto 61, 3, 110, 0, .null, [], 0)),
  (52, (.iload_n 0, 1, 0, 0, .null, [], 0)),
  (53, (.iconst 5, 1, 0, 0, .int 5, [], 0)),
  (54, (.if_icmp .ne 16, 3, 70, 0, .null, [], 0)),
  (57, (.iload_n 1, 1, 0, 0, .null, [], 0)),
  (58, (.iload_n 2, 1, 0, 0, .null, [], 0)),
  (59, (.if_icmp .le 7, 3, 66, 0, .null, [], 0)),
  (62, (.iconst 1, 1, 0, 0, .int 1, [], 0)),
  (63, (.goto 47, 3, 110, 0, .null, [], 0)),
  (66, (.iconst 0, 1, 0, 0, .int 0, [], 0)),
  (67, (.goto 43, 3, 110, 0, .null, [], 0)),
  (70, (.iload_n 0, 1, 0, 0, .null, [], 0)),
  (71, (.bipush 6, 2, 0, 0, .int 6, [], 0)),
  (73, (.if_icmp .ne 16, 3, 89, 0, .null, [], 0)),
  (76, (.iload_n 1, 1, 0, 0, .null, [], 0)),
  (77, (.iload_n 2, 1, 0, 0, .null, [], 0)),
  (78, (.if_icmp .ne 7, 3, 85, 0, .null, [], 0)),
  (81, (.iconst 1, 1, 0, 0, .int 1, [], 0)),
  (82, (.goto 28, 3, 110, 0, .null, [], 0)),
  (85, (.iconst 0, 1, 0, 0, .int 0, [], 0)),
  (86, (.goto 24, 3, 110, 0, .null, [], 0)),
  (89, (.lload_n 3, 1, 0, 0, .null, [], 0)),
  (90, (.ldc2_w 225, 3, 0, 0, .long (-999999), [], 989)),
  (93, (.lcmp, 1, 0, 0, .null, [], 0)),
  (94, (.ifCond .lt 15, 3, 109, 0, .null, [], 0)),
  (97, (.lload_n 3, 1, 0, 0, .null, [], 0)),
  (98, (.ldc2_w 227, 3, 0, 0, .long 999999, [], 990)),
  (101, (.lcmp, 1, 0, 0, .null, [], 0)),
  (102, (.ifCond .gt 7, 3, 109, 0, .null, [], 0)),
  (105, (.iconst 1, 1, 0, 0, .int 1, [], 0)),
  (106, (.goto 4, 3, 110, 0, .null, [], 0)),
  (109, (.iconst 0, 1, 0, 0, .int 0, [], 0)),
  (110, (.ireturn, 1, 0, 0, .null, [], 0))]
/-- YieldLinesModel.doneBy(III)I -/
def kd_124 : List (Nat × yE) := [
  (0, (.iload_n 0, 1, 0, 0, .null, [], 0)),
  (1, (.bipush 8, 2, 0, 0, .int 8, [], 0)),
  (3, (.if_icmp .ne 9, 3, 12, 0, .null, [], 0)),
  (6, (.iload_n 1, 1, 0, 0, .null, [], 0)),
  (7, (.iload_n 2, 1, 0, 0, .null, [], 0)),
  (8, (.iadd, 1, 0, 0, .null, [], 0)),
  (9, (.goto 28, 3, 37, 0, .null, [], 0)),
  (12, (.iload_n 0, 1, 0, 0, .null, [], 0)),
  (13, (.bipush 9, 2, 0, 0, .int 9, [], 0)),
  (15, (.if_icmp .ne 9, 3, 24, 0, .null, [], 0)),
  (18, (.iload_n 1, 1, 0, 0, .null, [], 0)),
  (19, (.iload_n 2, 1, 0, 0, .null, [], 0)),
  (20, (.isub, 1, 0, 0, .null, [], 0)),
  (21, (.goto 16, 3, 37, 0, .null, [], 0)),
  (24, (.iload_n 0, 1, 0, 0, .null, [], 0)),
  (25, (.bipush 10, 2, 0, 0, .int 10, [], 0)),
  (27, (.if_icmp .ne 9, 3, 36, 0, .null, [], 0)),
  (30, (.iload_n 1, 1, 0, 0, .null, [], 0)),
  (31, (.iload_n 2, 1, 0, 0, .null, [], 0)),
  (32, (.imul, 1, 0, 0, .null, [], 0)),
  (33, (.goto 4, 3, 37, 0, .null, [], 0)),
  (36, (.iload_n 2, 1, 0, 0, .null, [], 0)),
  (37, (.ireturn, 1, 0, 0, .null, [], 0))]
/-- YieldLinesModel.asked(I)V -/
def kd_125 : List (Nat × yE) := [
  (0, (.aload_n 0, 1, 0, 0, .null, [], 0)),
  (1, (.iload_n 1, 1, 0, 0, .null, [], 0)),
  (2, (.invokevirtual 229, 3, 119, 0, .null, [], 940)),
  (5, (.istore_n 2, 1, 0, 0, .null, [], 0)),
  (6, (.aload_n 0, 1, 0, 0, .null, [], 0)),
  (7, (.getfield 44, 3, 6, 20, .null, [], 681)),
  (10, (.iload_n 1, 1, 0, 0, .null, [], 0)),
  (11, (.iaload, 1, 0, 0, .null, [], 0)),
  (12, (.istore_n 3, 1, 0, 0, .null, [], 0)),
  (13, (.iload_n 2, 1, 0, 0, .null, [], 0)),
  (14, (.invokestatic 196, 3, 85, 0, .null, [], 917)),
  (17, (.tableswitch 245 0 14 #[75, 75, 245, 245, 245, 245, 245, 236, 245, 245, 245, 123, 132, 209, 162], 75, 262, 0, .null, [(0, 92), (1, 92), (2, 262), (3, 262), (4, 262), (5, 262), (6, 262), (7, 253), (8, 262), (9, 262), (10, 262), (11, 140), (12, 149), (13, 226), (14, 179)], 0)),
  (92, (.aload_n 0, 1, 0, 0, .null, [], 0)),
  (93, (.getfield 44, 3, 6, 20, .null, [], 681)),
  (96, (.iload_n 1, 1, 0, 0, .null, [], 0)),
  (97, (.iconst 1, 1, 0, 0, .int 1, [], 0)),
  (98, (.iastore, 1, 0, 0, .null, [], 0)),
  (99, (.iload_n 3, 1, 0, 0, .null, [], 0)),
  (100, (.ifCond .ne 33, 3, 133, 0, .null, [], 0)),
  (103, (.aload_n 0, 1, 0, 0, .null, [], 0)),
  (104, (.iload_n 2, 1, 0, 0, .null, [], 0)),
  (105, (.invokestatic 196, 3, 85, 0, .null, [], 917)),
  (108, (.ifCond .ne 10, 3, 118, 0, .null, [], 0)),
  (111, (.iload_n 2, 1, 0, 0, .null, [], 0)),
  (112, (.invokestatic 123, 3, 86, 0, .null, [], 858)),
  (115, (.goto 12, 3, 127, 0, .null, [], 0)),
  (118, (.aload_n 0, 1, 0, 0, .null, [], 0)),
  (119, (.getfield 53, 3, 6, 23, .null, [], 684)),
  (122, (.iload_n 2, 1, 0, 0, .null, [], 0)),
  (123, (.invokestatic 123, 3, 86, 0, .null, [], 858)),
  (126, (.iaload, 1, 0, 0, .null, [], 0)),
  (127, (.invokevirtual 232, 3, 121, 0, .null, [], 958)),
  (130, (.goto 176, 3, 306, 0, .null, [], 0)),
  (133, (.aload_n 0, 1, 0, 0, .null, [], 0)),
  (134, (.invokevirtual 235, 3, 122, 0, .null, [], 962)),
  (137, (.goto 169, 3, 306, 0, .null, [], 0)),
  (140, (.aload_n 0, 1, 0, 0, .null, [], 0)),
  (141, (.iload_n 1, 1, 0, 0, .null, [], 0)),
  (142, (.iload_n 3, 1, 0, 0, .null, [], 0)),
  (143, (.invokevirtual 238, 3, 126, 0, .null, [], 966)),
  (146, (.goto 160, 3, 306, 0, .null, [], 0)),
  (149, (.aload_n 0, 1, 0, 0, .null, [], 0)),
  (150, (.getfield 44, 3, 6, 20, .null, [], 681)),
  (153, (.iload_n 1, 1, 0, 0, .null, [], 0)),
  (154, (.iconst 1, 1, 0, 0, .int 1, [], 0)),
  (155, (.iastore, 1, 0, 0, .null, [], 0)),
  (156, (.iload_n 3, 1, 0, 0, .null, [], 0)),
  (157, (.ifCond .ne 15, 3, 172, 0, .null, [], 0)),
  (160, (.aload_n 0, 1, 0, 0, .null, [], 0)),
  (161, (.iload_n 2, 1, 0, 0, .null, [], 0)),
  (162, (.invokestatic 241, 3, 87, 0, .null, [], 944)),
  (165, (.iconst 1, 1, 0, 0, .int 1, [], 0)),
  (166, (.invokevirtual 244, 3, 120, 0, .null, [], 970)),
  (169, (.goto 137, 3, 306, 0, .null, [], 0)),
  (172, (.aload_n 0, 1, 0, 0, .null, [], 0)),
  (173, (.invokevirtual 235, 3, 122, 0, .null, [], 962)),
  (176, (.goto 130, 3, 306, 0, .null, [], 0)),
  (179, (.iload_n 3, 1, 0, 0, .null, [], 0)),
  (180, (.iconst 1, 1, 0, 0, .int 1, [], 0)),
  (181, (.if_icmp .ne 18, 3, 199, 0, .null, [], 0)),
  (184, (.aload_n 0, 1, 0, 0, .null, [], 0)),
  (185, (.getfield 53, 3, 6, 23, .null, [], 684)),
  (188, (.iload_n 2, 1, 0, 0, .null, [], 0)),
  (189, (.invokestatic 123, 3, 86, 0, .null, [], 858)),
  (192, (.aload_n 0, 1, 0, 0, .null, [], 0)),
  (193, (.getfield 47, 3, 6, 21, .null, [], 682)),
  (196, (.iload_n 1, 1, 0, 0, .null, [], 0)),
  (197, (.iaload, 1, 0, 0, .null, [], 0)),
  (198, (.iastore, 1, 0, 0, .null, [], 0)),
  (199, (.aload_n 0, 1, 0, 0, .null, [], 0)),
  (200, (.getfield 44, 3, 6, 20, .null, [], 681)),
  (203, (.iload_n 1, 1, 0, 0, .null, [], 0)),
  (204, (.iconst 1, 1, 0, 0, .int 1, [], 0)),
  (205, (.iastore, 1, 0, 0, .null, [], 0)),
  (206, (.aload_n 0, 1, 0, 0, .null, [], 0)),
  (207, (.iload_n 2, 1, 0, 0, .null, [], 0)),
  (208, (.invokestatic 241, 3, 87, 0, .null, [], 944)),
  (211, (.iload_n 3, 1, 0, 0, .null, [], 0)),
  (212, (.ifCond .ne 7, 3, 219, 0, .null, [], 0)),
  (215, (.iconst 1, 1, 0, 0, .int 1, [], 0)),
  (216, (.goto 4, 3, 220, 0, .null, [], 0)),
  (219, (.iconst 0, 1, 0, 0, .int 0, [], 0)),
  (220, (.invokevirtual 244, 3, 120, 0, .null, [], 970)),
  (223, (.goto 83, 3, 306, 0, .null, [], 0)),
  (226, (.aload_n 0, 1, 0, 0, .null, [], 0)),
  (227, (.getfield 44, 3, 6, 20, .null, [], 681)),
  (230, (.iload_n 1, 1, 0, 0, .null, [], 0)),
  (231, (.iconst 1, 1, 0, 0, .int 1, [], 0)),
  (232, (.iastore, 1, 0, 0, .null, [], 0)),
  (233, (.aload_n 0, 1, 0, 0, .null, [], 0)),
  (234, (.iload_n 2, 1, 0, 0, .null, [], 0)),
  (235, (.invokestatic 241, 3, 87, 0, .null, [], 944)),
  (238, (.iload_n 3, 1, 0, 0, .null, [], 0)),
  (239, (.ifCond .ne 7, 3, 246, 0, .null, [], 0)),
  (242, (.iconst 1, 1, 0, 0, .int 1, [], 0)),
  (243, (.goto 4, 3, 247, 0, .null, [], 0)),
  (246, (.iconst 0, 1, 0, 0, .int 0, [], 0)),
  (247, (.invokevirtual 244, 3, 120, 0, .null, [], 970)),
  (250, (.goto 56, 3, 306, 0, .null, [], 0)),
  (253, (.aload_n 0, 1, 0, 0, .null, [], 0)),
  (254, (.iload_n 1, 1, 0, 0, .null, [], 0)),
  (255, (.iload_n 3, 1, 0, 0, .null, [], 0)),
  (256, (.invokevirtual 247, 3, 127, 0, .null, [], 974)),
  (259, (.goto 47, 3, 306, 0, .null, [], 0)),
  (262, (.aload_n 0, 1, 0, 0, .null, [], 0)),
  (263, (.getfield 44, 3, 6, 20, .null, [], 681)),
  (266, (.iload_n 1, 1, 0, 0, .null, [], 0)),
  (267, (.iload_n 3, 1, 0, 0, .null, [], 0)),
  (268, (.ifCond .ne 7, 3, 275, 0, .null, [], 0)),
  (271, (.iconst 1, 1, 0, 0, .int 1, [], 0)),
  (272, (.goto 4, 3, 276, 0, .null, [], 0)),
  (275, (.iload_n 3, 1, 0, 0, .null, [], 0)),
  (276, (.iastore, 1, 0, 0, .null, [], 0)),
  (277, (.aload_n 0, 1, 0, 0, .null, [], 0)),
  (278, (.iload_n 3, 1, 0, 0, .null, [], 0)),
  (279, (.iconst 2, 1, 0, 0, .int 2, [], 0)),
  (280, (.if_icmp .ne 10, 3, 290, 0, .null, [], 0)),
  (283, (.iload_n 2, 1, 0, 0, .null, [], 0)),
  (284, (.invokestatic 250, 3, 88, 0, .null, [], 947)),
  (287, (.goto 7, 3, 294, 0, .null, [], 0)),
  (290, (.iload_n 2, 1, 0, 0, .null, [], 0)),
  (291, (.invokestatic 241, 3, 87, 0, .null, [], 944)),
  (294, (.iload_n 3, 1, 0, 0, .null, [], 0)),
  (295, (.ifCond .ne 7, 3, 302, 0, .null, [], 0)),
  (298, (.iconst 1, 1, 0, 0, .int 1, [], 0)),
  (299, (.goto 4, 3, 303, 0, .null, [], 0)),
  (302, (.iconst 0, 1, 0, 0, .int 0, [], 0)),
  (303, (.invokevirtual 244, 3, 120, 0, .null, [], 970)),
  (306, (.return_, 1, 0, 0, .null, [], 0))]
/-- YieldLinesModel.askedFirst(II)V -/
def kd_126 : List (Nat × yE) := [
  (0, (.aload_n 0, 1, 0, 0, .null, [], 0)),
  (1, (.getfield 47, 3, 6, 21, .null, [], 682)),
  (4, (.iload_n 1, 1, 0, 0, .null, [], 0)),
  (5, (.iload_n 2, 1, 0, 0, .null, [], 0)),
  (6, (.ifCond .ne 7, 3, 13, 0, .null, [], 0)),
  (9, (.iconst 0, 1, 0, 0, .int 0, [], 0)),
  (10, (.goto 9, 3, 19, 0, .null, [], 0)),
  (13, (.aload_n 0, 1, 0, 0, .null, [], 0)),
  (14, (.getfield 47, 3, 6, 21, .null, [], 682)),
  (17, (.iload_n 1, 1, 0, 0, .null, [], 0)),
  (18, (.iaload, 1, 0, 0, .null, [], 0)),
  (19, (.iastore, 1, 0, 0, .null, [], 0)),
  (20, (.aload_n 0, 1, 0, 0, .null, [], 0)),
  (21, (.getfield 44, 3, 6, 20, .null, [], 681)),
  (24, (.iload_n 1, 1, 0, 0, .null, [], 0)),
  (25, (.iconst 1, 1, 0, 0, .int 1, [], 0)),
  (26, (.iastore, 1, 0, 0, .null, [], 0)),
  (27, (.aload_n 0, 1, 0, 0, .null, [], 0)),
  (28, (.getfield 47, 3, 6, 21, .null, [], 682)),
  (31, (.iload_n 1, 1, 0, 0, .null, [], 0)),
  (32, (.iaload, 1, 0, 0, .null, [], 0)),
  (33, (.aload_n 0, 1, 0, 0, .null, [], 0)),
  (34, (.iload_n 1, 1, 0, 0, .null, [], 0)),
  (35, (.invokevirtual 229, 3, 119, 0, .null, [], 940)),
  (38, (.invokestatic 123, 3, 86, 0, .null, [], 858)),
  (41, (.if_icmp .ne 10, 3, 51, 0, .null, [], 0)),
  (44, (.aload_n 0, 1, 0, 0, .null, [], 0)),
  (45, (.invokevirtual 235, 3, 122, 0, .null, [], 962)),
  (48, (.goto 24, 3, 72, 0, .null, [], 0)),
  (51, (.aload_n 0, 1, 0, 0, .null, [], 0)),
  (52, (.aload_n 0, 1, 0, 0, .null, [], 0)),
  (53, (.iload_n 1, 1, 0, 0, .null, [], 0)),
  (54, (.invokevirtual 229, 3, 119, 0, .null, [], 940)),
  (57, (.invokestatic 241, 3, 87, 0, .null, [], 944)),
  (60, (.iload_n 2, 1, 0, 0, .null, [], 0)),
  (61, (.ifCond .ne 7, 3, 68, 0, .null, [], 0)),
  (64, (.iconst 1, 1, 0, 0, .int 1, [], 0)),
  (65, (.goto 4, 3, 69, 0, .null, [], 0)),
  (68, (.iconst 0, 1, 0, 0, .int 0, [], 0)),
  (69, (.invokevirtual 244, 3, 120, 0, .null, [], 970)),
  (72, (.return_, 1, 0, 0, .null, [], 0))]
/-- YieldLinesModel.askedRange(II)V -/
def kd_127 : List (Nat × yE) := [
  (0, (.iload_n 2, 1, 0, 0, .null, [], 0)),
  (1, (.iconst 3, 1, 0, 0, .int 3, [], 0)),
  (2, (.if_icmp .ne 41, 3, 43, 0, .null, [], 0)),
  (5, (.aload_n 0, 1, 0, 0, .null, [], 0)),
  (6, (.getfield 47, 3, 6, 21, .null, [], 682)),
  (9, (.iload_n 1, 1, 0, 0, .null, [], 0)),
  (10, (.iaload, 1, 0, 0, .null, [], 0)),
  (11, (.aload_n 0, 1, 0, 0, .null, [], 0)),
  (12, (.getfield 50, 3, 6, 22, .null, [], 683)),
  (15, (.iload_n 1, 1, 0, 0, .null, [], 0)),
  (16, (.iaload, 1, 0, 0, .null, [], 0)),
  (17, (.if_icmp .ge 26, 3, 43, 0, .null, [], 0)),
  (20, (.aload_n 0, 1, 0, 0, .null, [], 0)),
  (21, (.getfield 47, 3, 6, 21, .null, [], 682)),
  (24, (.iload_n 1, 1, 0, 0, .null, [], 0)),
  (25, (.dup2, 1, 0, 0, .null, [], 0)),
  (26, (.iaload, 1, 0, 0, .null, [], 0)),
  (27, (.iconst 1, 1, 0, 0, .int 1, [], 0)),
  (28, (.iadd, 1, 0, 0, .null, [], 0)),
  (29, (.iastore, 1, 0, 0, .null, [], 0)),
  (30, (.aload_n 0, 1, 0, 0, .null, [], 0)),
  (31, (.aload_n 0, 1, 0, 0, .null, [], 0)),
  (32, (.getfield 47, 3, 6, 21, .null, [], 682)),
  (35, (.iload_n 1, 1, 0, 0, .null, [], 0)),
  (36, (.iaload, 1, 0, 0, .null, [], 0)),
  (37, (.invokevirtual 232, 3, 121, 0, .null, [], 958)),
  (40, (.goto 59, 3, 99, 0, .null, [], 0)),
  (43, (.iload_n 2, 1, 0, 0, .null, [], 0)),
  (44, (.iconst 3, 1, 0, 0, .int 3, [], 0)),
  (45, (.if_icmp .ne 26, 3, 71, 0, .null, [], 0)),
  (48, (.aload_n 0, 1, 0, 0, .null, [], 0)),
  (49, (.getfield 44, 3, 6, 20, .null, [], 681)),
  (52, (.iload_n 1, 1, 0, 0, .null, [], 0)),
  (53, (.iconst 2, 1, 0, 0, .int 2, [], 0)),
  (54, (.iastore, 1, 0, 0, .null, [], 0)),
  (55, (.aload_n 0, 1, 0, 0, .null, [], 0)),
  (56, (.aload_n 0, 1, 0, 0, .null, [], 0)),
  (57, (.iload_n 1, 1, 0, 0, .null, [], 0)),
  (58, (.invokevirtual 229, 3, 119, 0, .null, [], 940)),
  (61, (.invokestatic 250, 3, 88, 0, .null, [], 947)),
  (64, (.iconst 0, 1, 0, 0, .int 0, [], 0)),
  (65, (.invokevirtual 244, 3, 120, 0, .null, [], 970)),
  (68, (.goto 31, 3, 99, 0, .null, [], 0)),
  (71, (.aload_n 0, 1, 0, 0, .null, [], 0)),
  (72, (.getfield 44, 3, 6, 20, .null, [], 681)),
  (75, (.iload_n 1, 1, 0, 0, .null, [], 0)),
  (76, (.iconst 1, 1, 0, 0, .int 1, [], 0)),
  (77, (.iastore, 1, 0, 0, .null, [], 0)),
  (78, (.aload_n 0, 1, 0, 0, .null, [], 0)),
  (79, (.aload_n 0, 1, 0, 0, .null, [], 0)),
  (80, (.iload_n 1, 1, 0, 0, .null, [], 0)),
  (81, (.invokevirtual 229, 3, 119, 0, .null, [], 940)),
  (84, (.invokestatic 241, 3, 87, 0, .null, [], 944)),
  (87, (.iload_n 2, 1, 0, 0, .null, [], 0)),
  (88, (.ifCond .ne 7, 3, 95, 0, .null, [], 0)),
  (91, (.iconst 1, 1, 0, 0, .int 1, [], 0)),
  (92, (.goto 4, 3, 96, 0, .null, [], 0)),
  (95, (.iconst 0, 1, 0, 0, .int 0, [], 0)),
  (96, (.invokevirtual 244, 3, 120, 0, .null, [], 970)),
  (99, (.return_, 1, 0, 0, .null, [], 0))]
/-- YieldLinesModel.toldTo(II)V -/
def kd_128 : List (Nat × yE) := [
  (0, (.aload_n 0, 1, 0, 0, .null, [], 0)),
  (1, (.iload_n 1, 1, 0, 0, .null, [], 0)),
  (2, (.invokevirtual 229, 3, 119, 0, .null, [], 940)),
  (5, (.istore_n 3, 1, 0, 0, .null, [], 0)),
  (6, (.iload_n 3, 1, 0, 0, .null, [], 0)),
  (7, (.invokestatic 196, 3, 85, 0, .null, [], 917)),
  (10, (.istore 4, 2, 0, 0, .null, [], 0)),
  (12, (.iload 4, 2, 0, 0, .null, [], 0)),
  (14, (.iconst 3, 1, 0, 0, .int 3, [], 0)),
  (15, (.if_icmp .ne 11, 3, 26, 0, .null, [], 0)),
  (18, (.aload_n 0, 1, 0, 0, .null, [], 0)),
  (19, (.iload_n 2, 1, 0, 0, .null, [], 0)),
  (20, (.invokevirtual 232, 3, 121, 0, .null, [], 958)),
  (23, (.goto 133, 3, 156, 0, .null, [], 0)),
  (26, (.iload 4, 2, 0, 0, .null, [], 0)),
  (28, (.bipush 11, 2, 0, 0, .int 11, [], 0)),
  (30, (.if_icmp .ne 21, 3, 51, 0, .null, [], 0)),
  (33, (.aload_n 0, 1, 0, 0, .null, [], 0)),
  (34, (.getfield 47, 3, 6, 21, .null, [], 682)),
  (37, (.iload_n 1, 1, 0, 0, .null, [], 0)),
  (38, (.dup2, 1, 0, 0, .null, [], 0)),
  (39, (.iaload, 1, 0, 0, .null, [], 0)),
  (40, (.iconst 1, 1, 0, 0, .int 1, [], 0)),
  (41, (.iadd, 1, 0, 0, .null, [], 0)),
  (42, (.iastore, 1, 0, 0, .null, [], 0)),
  (43, (.aload_n 0, 1, 0, 0, .null, [], 0)),
  (44, (.iload_n 2, 1, 0, 0, .null, [], 0)),
  (45, (.invokevirtual 232, 3, 121, 0, .null, [], 958)),
  (48, (.goto 108, 3, 156, 0, .null, [], 0)),
  (51, (.iload 4, 2, 0, 0, .null, [], 0)),
  (53, (.bipush 12, 2, 0, 0, .int 12, [], 0)),
  (55, (.if_icmp .ne 10, 3, 65, 0, .null, [], 0)),
  (58, (.aload_n 0, 1, 0, 0, .null, [], 0)),
  (59, (.invokevirtual 235, 3, 122, 0, .null, [], 962)),
  (62, (.goto 94, 3, 156, 0, .null, [], 0)),
  (65, (.iload 4, 2, 0, 0, .null, [], 0)),
  (67, (.bipush 13, 2, 0, 0, .int 13, [], 0)),
  (69, (.if_icmp .eq 10, 3, 79, 0, .null, [], 0)),
  (72, (.iload 4, 2, 0, 0, .null, [], 0)),
  (74, (.bipush 14, 2, 0, 0, .int 14, [], 0)),
  (76, (.if_icmp .ne 36, 3, 112, 0, .null, [], 0)),
  (79, (.aload_n 0, 1, 0, 0, .null, [], 0)),
  (80, (.getfield 47, 3, 6, 21, .null, [], 682)),
  (83, (.iload_n 1, 1, 0, 0, .null, [], 0)),
  (84, (.aload_n 0, 1, 0, 0, .null, [], 0)),
  (85, (.getfield 53, 3, 6, 23, .null, [], 684)),
  (88, (.iload_n 3, 1, 0, 0, .null, [], 0)),
  (89, (.invokestatic 123, 3, 86, 0, .null, [], 858)),
  (92, (.iaload, 1, 0, 0, .null, [], 0)),
  (93, (.iastore, 1, 0, 0, .null, [], 0)),
  (94, (.aload_n 0, 1, 0, 0, .null, [], 0)),
  (95, (.getfield 53, 3, 6, 23, .null, [], 684)),
  (98, (.iload_n 3, 1, 0, 0, .null, [], 0)),
  (99, (.invokestatic 123, 3, 86, 0, .null, [], 858)),
  (102, (.iload_n 2, 1, 0, 0, .null, [], 0)),
  (103, (.iastore, 1, 0, 0, .null, [], 0)),
  (104, (.aload_n 0, 1, 0, 0, .null, [], 0)),
  (105, (.iload_n 2, 1, 0, 0, .null, [], 0)),
  (106, (.invokevirtual 232, 3, 121, 0, .null, [], 958)),
  (109, (.goto 47, 3, 156, 0, .null, [], 0)),
  (112, (.aload_n 0, 1, 0, 0, .null, [], 0)),
  (113, (.getfield 44, 3, 6, 20, .null, [], 681)),
  (116, (.iload_n 1, 1, 0, 0, .null, [], 0)),
  (117, (.iaload, 1, 0, 0, .null, [], 0)),
  (118, (.iconst 1, 1, 0, 0, .int 1, [], 0)),
  (119, (.if_icmp .ne 29, 3, 148, 0, .null, [], 0)),
  (122, (.aload_n 0, 1, 0, 0, .null, [], 0)),
  (123, (.getfield 56, 3, 6, 31, .null, [], 692)),
  (126, (.iload_n 1, 1, 0, 0, .null, [], 0)),
  (127, (.iload_n 2, 1, 0, 0, .null, [], 0)),
  (128, (.iastore, 1, 0, 0, .null, [], 0)),
  (129, (.aload_n 0, 1, 0, 0, .null, [], 0)),
  (130, (.getfield 44, 3, 6, 20, .null, [], 681)),
  (133, (.iload_n 1, 1, 0, 0, .null, [], 0)),
  (134, (.iconst 2, 1, 0, 0, .int 2, [], 0)),
  (135, (.iastore, 1, 0, 0, .null, [], 0)),
  (136, (.aload_n 0, 1, 0, 0, .null, [], 0)),
  (137, (.iload_n 3, 1, 0, 0, .null, [], 0)),
  (138, (.invokestatic 250, 3, 88, 0, .null, [], 947)),
  (141, (.iconst 1, 1, 0, 0, .int 1, [], 0)),
  (142, (.invokevirtual 244, 3, 120, 0, .null, [], 970)),
  (145, (.goto 11, 3, 156, 0, .null, [], 0)),
  (148, (.aload_n 0, 1, 0, 0, .null, [], 0)),
  (149, (.iload_n 1, 1, 0, 0, .null, [], 0)),
  (150, (.iload 4, 2, 0, 0, .null, [], 0)),
  (152, (.iload_n 2, 1, 0, 0, .null, [], 0)),
  (153, (.invokevirtual 253, 3, 129, 0, .null, [], 982)),
  (156, (.return_, 1, 0, 0, .null, [], 0))]
/-- YieldLinesModel.toldSecond(III)V -/
def kd_129 : List (Nat × yE) := [
  (0, (.iload_n 2, 1, 0, 0, .null, [], 0)),
  (1, (.iconst 2, 1, 0, 0, .int 2, [], 0)),
  (2, (.if_icmp .ne 11, 3, 13, 0, .null, [], 0)),
  (5, (.aload_n 0, 1, 0, 0, .null, [], 0)),
  (6, (.iload_n 3, 1, 0, 0, .null, [], 0)),
  (7, (.invokevirtual 232, 3, 121, 0, .null, [], 958)),
  (10, (.goto 109, 3, 119, 0, .null, [], 0)),
  (13, (.iload_n 2, 1, 0, 0, .null, [], 0)),
  (14, (.bipush 7, 2, 0, 0, .int 7, [], 0)),
  (16, (.if_icmp .ne 52, 3, 68, 0, .null, [], 0)),
  (19, (.aload_n 0, 1, 0, 0, .null, [], 0)),
  (20, (.getfield 56, 3, 6, 31, .null, [], 692)),
  (23, (.iload_n 1, 1, 0, 0, .null, [], 0)),
  (24, (.iaload, 1, 0, 0, .null, [], 0)),
  (25, (.iload_n 3, 1, 0, 0, .null, [], 0)),
  (26, (.if_icmp .gt 42, 3, 68, 0, .null, [], 0)),
  (29, (.aload_n 0, 1, 0, 0, .null, [], 0)),
  (30, (.getfield 44, 3, 6, 20, .null, [], 681)),
  (33, (.iload_n 1, 1, 0, 0, .null, [], 0)),
  (34, (.iconst 3, 1, 0, 0, .int 3, [], 0)),
  (35, (.iastore, 1, 0, 0, .null, [], 0)),
  (36, (.aload_n 0, 1, 0, 0, .null, [], 0)),
  (37, (.getfield 47, 3, 6, 21, .null, [], 682)),
  (40, (.iload_n 1, 1, 0, 0, .null, [], 0)),
  (41, (.aload_n 0, 1, 0, 0, .null, [], 0)),
  (42, (.getfield 56, 3, 6, 31, .null, [], 692)),
  (45, (.iload_n 1, 1, 0, 0, .null, [], 0)),
  (46, (.iaload, 1, 0, 0, .null, [], 0)),
  (47, (.iastore, 1, 0, 0, .null, [], 0)),
  (48, (.aload_n 0, 1, 0, 0, .null, [], 0)),
  (49, (.getfield 50, 3, 6, 22, .null, [], 683)),
  (52, (.iload_n 1, 1, 0, 0, .null, [], 0)),
  (53, (.iload_n 3, 1, 0, 0, .null, [], 0)),
  (54, (.iastore, 1, 0, 0, .null, [], 0)),
  (55, (.aload_n 0, 1, 0, 0, .null, [], 0)),
  (56, (.aload_n 0, 1, 0, 0, .null, [], 0)),
  (57, (.getfield 47, 3, 6, 21, .null, [], 682)),
  (60, (.iload_n 1, 1, 0, 0, .null, [], 0)),
  (61, (.iaload, 1, 0, 0, .null, [], 0)),
  (62, (.invokevirtual 232, 3, 121, 0, .null, [], 958)),
  (65, (.goto 54, 3, 119, 0, .null, [], 0)),
  (68, (.iload_n 2, 1, 0, 0, .null, [], 0)),
  (69, (.bipush 7, 2, 0, 0, .int 7, [], 0)),
  (71, (.if_icmp .eq 35, 3, 106, 0, .null, [], 0)),
  (74, (.iload_n 2, 1, 0, 0, .null, [], 0)),
  (75, (.aload_n 0, 1, 0, 0, .null, [], 0)),
  (76, (.getfield 56, 3, 6, 31, .null, [], 692)),
  (79, (.iload_n 1, 1, 0, 0, .null, [], 0)),
  (80, (.iaload, 1, 0, 0, .null, [], 0)),
  (81, (.iload_n 3, 1, 0, 0, .null, [], 0)),
  (82, (.invokestatic 257, 3, 123, 0, .null, [], 986)),
  (85, (.ifCond .eq 21, 3, 106, 0, .null, [], 0)),
  (88, (.aload_n 0, 1, 0, 0, .null, [], 0)),
  (89, (.iload_n 2, 1, 0, 0, .null, [], 0)),
  (90, (.aload_n 0, 1, 0, 0, .null, [], 0)),
  (91, (.getfield 56, 3, 6, 31, .null, [], 692)),
  (94, (.iload_n 1, 1, 0, 0, .null, [], 0)),
  (95, (.iaload, 1, 0, 0, .null, [], 0)),
  (96, (.iload_n 3, 1, 0, 0, .null, [], 0)),
  (97, (.invokestatic 260, 3, 124, 0, .null, [], 991)),
  (100, (.invokevirtual 232, 3, 121, 0, .null, [], 958)),
  (103, (.goto 16, 3, 119, 0, .null, [], 0)),
  (106, (.aload_n 0, 1, 0, 0, .null, [], 0)),
  (107, (.aload_n 0, 1, 0, 0, .null, [], 0)),
  (108, (.iload_n 1, 1, 0, 0, .null, [], 0)),
  (109, (.invokevirtual 229, 3, 119, 0, .null, [], 940)),
  (112, (.invokestatic 250, 3, 88, 0, .null, [], 947)),
  (115, (.iconst 0, 1, 0, 0, .int 0, [], 0)),
  (116, (.invokevirtual 244, 3, 120, 0, .null, [], 970)),
  (119, (.return_, 1, 0, 0, .null, [], 0))]
/-- YieldLinesModel.endedTo(I)V -/
def kd_130 : List (Nat × yE) := [
  (0, (.aload_n 0, 1, 0, 0, .null, [], 0)),
  (1, (.iload_n 1, 1, 0, 0, .null, [], 0)),
  (2, (.invokevirtual 229, 3, 119, 0, .null, [], 940)),
  (5, (.istore_n 2, 1, 0, 0, .null, [], 0)),
  (6, (.iload_n 2, 1, 0, 0, .null, [], 0)),
  (7, (.invokestatic 196, 3, 85, 0, .null, [], 917)),
  (10, (.istore_n 3, 1, 0, 0, .null, [], 0)),
  (11, (.iload_n 3, 1, 0, 0, .null, [], 0)),
  (12, (.bipush 12, 2, 0, 0, .int 12, [], 0)),
  (14, (.if_icmp .ne 11, 3, 25, 0, .null, [], 0)),
  (17, (.aload_n 0, 1, 0, 0, .null, [], 0)),
  (18, (.iconst 0, 1, 0, 0, .int 0, [], 0)),
  (19, (.invokevirtual 232, 3, 121, 0, .null, [], 958)),
  (22, (.goto 82, 3, 104, 0, .null, [], 0)),
  (25, (.iload_n 3, 1, 0, 0, .null, [], 0)),
  (26, (.iconst 3, 1, 0, 0, .int 3, [], 0)),
  (27, (.if_icmp .ne 32, 3, 59, 0, .null, [], 0)),
  (30, (.aload_n 0, 1, 0, 0, .null, [], 0)),
  (31, (.getfield 44, 3, 6, 20, .null, [], 681)),
  (34, (.iload_n 1, 1, 0, 0, .null, [], 0)),
  (35, (.iaload, 1, 0, 0, .null, [], 0)),
  (36, (.iconst 1, 1, 0, 0, .int 1, [], 0)),
  (37, (.if_icmp .ne 22, 3, 59, 0, .null, [], 0)),
  (40, (.aload_n 0, 1, 0, 0, .null, [], 0)),
  (41, (.getfield 44, 3, 6, 20, .null, [], 681)),
  (44, (.iload_n 1, 1, 0, 0, .null, [], 0)),
  (45, (.iconst 2, 1, 0, 0, .int 2, [], 0)),
  (46, (.iastore, 1, 0, 0, .null, [], 0)),
  (47, (.aload_n 0, 1, 0, 0, .null, [], 0)),
  (48, (.iload_n 2, 1, 0, 0, .null, [], 0)),
  (49, (.invokestatic 250, 3, 88, 0, .null, [], 947)),
  (52, (.iconst 1, 1, 0, 0, .int 1, [], 0)),
  (53, (.invokevirtual 244, 3, 120, 0, .null, [], 970)),
  (56, (.goto 48, 3, 104, 0, .null, [], 0)),
  (59, (.iload_n 3, 1, 0, 0, .null, [], 0)),
  (60, (.iconst 3, 1, 0, 0, .int 3, [], 0)),
  (61, (.if_icmp .eq 39, 3, 100, 0, .null, [], 0)),
  (64, (.iload_n 3, 1, 0, 0, .null, [], 0)),
  (65, (.invokestatic 115, 3, 90, 0, .null, [], 855)),
  (68, (.ifCond .eq 32, 3, 100, 0, .null, [], 0)),
  (71, (.aload_n 0, 1, 0, 0, .null, [], 0)),
  (72, (.getfield 44, 3, 6, 20, .null, [], 681)),
  (75, (.iload_n 1, 1, 0, 0, .null, [], 0)),
  (76, (.iaload, 1, 0, 0, .null, [], 0)),
  (77, (.iconst 2, 1, 0, 0, .int 2, [], 0)),
  (78, (.if_icmp .ne 22, 3, 100, 0, .null, [], 0)),
  (81, (.aload_n 0, 1, 0, 0, .null, [], 0)),
  (82, (.getfield 44, 3, 6, 20, .null, [], 681)),
  (85, (.iload_n 1, 1, 0, 0, .null, [], 0)),
  (86, (.iconst 1, 1, 0, 0, .int 1, [], 0)),
  (87, (.iastore, 1, 0, 0, .null, [], 0)),
  (88, (.aload_n 0, 1, 0, 0, .null, [], 0)),
  (89, (.iload_n 2, 1, 0, 0, .null, [], 0)),
  (90, (.invokestatic 241, 3, 87, 0, .null, [], 944)),
  (93, (.iconst 0, 1, 0, 0, .int 0, [], 0)),
  (94, (.invokevirtual 244, 3, 120, 0, .null, [], 970)),
  (97, (.goto 7, 3, 104, 0, .null, [], 0)),
  (100, (.aload_n 0, 1, 0, 0, .null, [], 0)),
  (101, (.invokevirtual 235, 3, 122, 0, .null, [], 962)),
  (104, (.return_, 1, 0, 0, .null, [], 0))]
/-- YieldLinesModel.beginLine(I)V -/
def kd_131 : List (Nat × yE) := [
  (0, (.aload_n 0, 1, 0, 0, .null, [], 0)),
  (1, (.aload_n 0, 1, 0, 0, .null, [], 0)),
  (2, (.iload_n 1, 1, 0, 0, .null, [], 0)),
  (3, (.invokevirtual 85, 3, 91, 0, .null, [], 905)),
  (6, (.putfield 203, 3, 6, 24, .ref 0, [], 685)),
  (9, (.aload_n 0, 1, 0, 0, .null, [], 0)),
  (10, (.iconst 0, 1, 0, 0, .int 0, [], 0)),
  (11, (.putfield 213, 3, 6, 25, .ref 0, [], 686)),
  (14, (.aload_n 0, 1, 0, 0, .null, [], 0)),
  (15, (.iconst 0, 1, 0, 0, .int 0, [], 0)),
  (16, (.putfield 216, 3, 6, 26, .ref 1, [], 687)),
  (19, (.iconst 0, 1, 0, 0, .int 0, [], 0)),
  (20, (.istore_n 2, 1, 0, 0, .null, [], 0)),
  (21, (.iload_n 2, 1, 0, 0, .null, [], 0)),
  (22, (.aload_n 0, 1, 0, 0, .null, [], 0)),
  (23, (.getfield 7, 3, 6, 0, .null, [], 661)),
  (26, (.bipush 9, 2, 0, 0, .int 9, [], 0)),
  (28, (.iload_n 1, 1, 0, 0, .null, [], 0)),
  (29, (.iadd, 1, 0, 0, .null, [], 0)),
  (30, (.iaload, 1, 0, 0, .null, [], 0)),
  (31, (.if_icmp .ge 53, 3, 84, 0, .null, [], 0)),
  (34, (.aload_n 0, 1, 0, 0, .null, [], 0)),
  (35, (.iload_n 2, 1, 0, 0, .null, [], 0)),
  (36, (.invokevirtual 229, 3, 119, 0, .null, [], 940)),
  (39, (.istore_n 3, 1, 0, 0, .null, [], 0)),
  (40, (.iload_n 3, 1, 0, 0, .null, [], 0)),
  (41, (.invokestatic 196, 3, 85, 0, .null, [], 917)),
  (44, (.iconst 1, 1, 0, 0, .int 1, [], 0)),
  (45, (.if_icmp .le 33, 3, 78, 0, .null, [], 0)),
  (48, (.aload_n 0, 1, 0, 0, .null, [], 0)),
  (49, (.getfield 41, 3, 6, 19, .null, [], 680)),
  (52, (.iload_n 3, 1, 0, 0, .null, [], 0)),
  (53, (.invokestatic 241, 3, 87, 0, .null, [], 944)),
  (56, (.iload_n 2, 1, 0, 0, .null, [], 0)),
  (57, (.iastore, 1, 0, 0, .null, [], 0)),
  (58, (.iload_n 3, 1, 0, 0, .null, [], 0)),
  (59, (.invokestatic 196, 3, 85, 0, .null, [], 917)),
  (62, (.invokestatic 115, 3, 90, 0, .null, [], 855)),
  (65, (.ifCond .eq 13, 3, 78, 0, .null, [], 0)),
  (68, (.aload_n 0, 1, 0, 0, .null, [], 0)),
  (69, (.getfield 41, 3, 6, 19, .null, [], 680)),
  (72, (.iload_n 3, 1, 0, 0, .null, [], 0)),
  (73, (.invokestatic 250, 3, 88, 0, .null, [], 947)),
  (76, (.iload_n 2, 1, 0, 0, .null, [], 0)),
  (77, (.iastore, 1, 0, 0, .null, [], 0)),
  (78, (.iinc 2 1, 3, 0, 0, .int 1, [], 0)),
  (81, (.goto (-60), 3, 21, 0, .null, [], 0)),
  (84, (.aload_n 0, 1, 0, 0, .null, [], 0)),
  (85, (.getfield 41, 3, 6, 19, .null, [], 680)),
  (88, (.aload_n 0, 1, 0, 0, .null, [], 0)),
  (89, (.getfield 7, 3, 6, 0, .null, [], 661)),
  (92, (.bipush 17, 2, 0, 0, .int 17, [], 0)),
  (94, (.iload_n 1, 1, 0, 0, .null, [], 0)),
  (95, (.iadd, 1, 0, 0, .null, [], 0)),
  (96, (.iaload, 1, 0, 0, .null, [], 0)),
  (97, (.ldc 95, 2, 0, 0, .int (-1999999), [], 803)),
  (99, (.iastore, 1, 0, 0, .null, [], 0)),
  (100, (.aload_n 0, 1, 0, 0, .null, [], 0)),
  (101, (.getfield 44, 3, 6, 20, .null, [], 681)),
  (104, (.aload_n 0, 1, 0, 0, .null, [], 0)),
  (105, (.getfield 7, 3, 6, 0, .null, [], 661)),
  (108, (.bipush 17, 2, 0, 0, .int 17, [], 0)),
  (110, (.iload_n 1, 1, 0, 0, .null, [], 0)),
  (111, (.iadd, 1, 0, 0, .null, [], 0)),
  (112, (.iaload, 1, 0, 0, .null, [], 0)),
  (113, (.iconst 0, 1, 0, 0, .int 0, [], 0)),
  (114, (.iastore, 1, 0, 0, .null, [], 0)),
  (115, (.return_, 1, 0, 0, .null, [], 0))]
/-- YieldLinesModel.isNext(I)Z -/
def kd_132 : List (Nat × yE) := [
  (0, (.aload_n 0, 1, 0, 0, .null, [], 0)),
  (1, (.iload_n 1, 1, 0, 0, .null, [], 0)),
  (2, (.putfield 206, 3, 6, 27, .ref 0, [], 688)),
  (5, (.aload_n 0, 1, 0, 0, .null, [], 0)),
  (6, (.iconst 1, 1, 0, 0, .int 1, [], 0)),
  (7, (.putfield 209, 3, 6, 28, .ref 1, [], 689)),
  (10, (.aload_n 0, 1, 0, 0, .null, [], 0)),
  (11, (.getfield 206, 3, 6, 27, .null, [], 688)),
  (14, (.ldc 95, 2, 0, 0, .int (-1999999), [], 803)),
  (16, (.if_icmp .eq 61, 3, 77, 0, .null, [], 0)),
  (19, (.aload_n 0, 1, 0, 0, .null, [], 0)),
  (20, (.getfield 216, 3, 6, 26, .null, [], 687)),
  (23, (.ifCond .ne 54, 3, 77, 0, .null, [], 0)),
  (26, (.aload_n 0, 1, 0, 0, .null, [], 0)),
  (27, (.getfield 209, 3, 6, 28, .null, [], 689)),
  (30, (.ifCond .eq 14, 3, 44, 0, .null, [], 0)),
  (33, (.aload_n 0, 1, 0, 0, .null, [], 0)),
  (34, (.aload_n 0, 1, 0, 0, .null, [], 0)),
  (35, (.getfield 206, 3, 6, 27, .null, [], 688)),
  (38, (.invokevirtual 264, 3, 125, 0, .null, [], 954)),
  (41, (.goto (-31), 3, 10, 0, .null, [], 0)),
  (44, (.aload_n 0, 1, 0, 0, .null, [], 0)),
  (45, (.getfield 219, 3, 6, 29, .null, [], 690)),
  (48, (.ifCond .eq 18, 3, 66, 0, .null, [], 0)),
  (51, (.aload_n 0, 1, 0, 0, .null, [], 0)),
  (52, (.aload_n 0, 1, 0, 0, .null, [], 0)),
  (53, (.getfield 206, 3, 6, 27, .null, [], 688)),
  (56, (.aload_n 0, 1, 0, 0, .null, [], 0)),
  (57, (.getfield 222, 3, 6, 30, .null, [], 691)),
  (60, (.invokevirtual 267, 3, 128, 0, .null, [], 978)),
  (63, (.goto (-53), 3, 10, 0, .null, [], 0)),
  (66, (.aload_n 0, 1, 0, 0, .null, [], 0)),
  (67, (.aload_n 0, 1, 0, 0, .null, [], 0)),
  (68, (.getfield 206, 3, 6, 27, .null, [], 688)),
  (71, (.invokevirtual 270, 3, 130, 0, .null, [], 994)),
  (74, (.goto (-64), 3, 10, 0, .null, [], 0)),
  (77, (.aload_n 0, 1, 0, 0, .null, [], 0)),
  (78, (.getfield 216, 3, 6, 26, .null, [], 687)),
  (81, (.ifCond .ne 14, 3, 95, 0, .null, [], 0)),
  (84, (.aload_n 0, 1, 0, 0, .null, [], 0)),
  (85, (.getfield 219, 3, 6, 29, .null, [], 690)),
  (88, (.ifCond .eq 7, 3, 95, 0, .null, [], 0)),
  (91, (.iconst 1, 1, 0, 0, .int 1, [], 0)),
  (92, (.goto 4, 3, 96, 0, .null, [], 0)),
  (95, (.iconst 0, 1, 0, 0, .int 0, [], 0)),
  (96, (.ireturn, 1, 0, 0, .null, [], 0))]
/-- YieldLinesModel.goLine(IZ)V -/
def kd_133 : List (Nat × yE) := [
  (0, (.aload_n 0, 1, 0, 0, .null, [], 0)),
  (1, (.iload_n 1, 1, 0, 0, .null, [], 0)),
  (2, (.invokevirtual 273, 3, 131, 0, .null, [], 936)),
  (5, (.iload_n 2, 1, 0, 0, .null, [], 0)),
  (6, (.ifCond .eq 8, 3, 14, 0, .null, [], 0)),
  (9, (.bipush 30, 2, 0, 0, .int 30, [], 0)),
  (11, (.goto 4, 3, 15, 0, .null, [], 0)),
  (14, (.iconst 1, 1, 0, 0, .int 1, [], 0)),
  (15, (.istore_n 3, 1, 0, 0, .null, [], 0)),
  (16, (.iconst 0, 1, 0, 0, .int 0, [], 0)),
  (17, (.istore 4, 2, 0, 0, .null, [], 0)),
  (19, (.iload 4, 2, 0, 0, .null, [], 0)),
  (21, (.iload_n 3, 1, 0, 0, .null, [], 0)),
  (22, (.if_icmp .ge 48, 3, 70, 0, .null, [], 0)),
  (25, (.aload_n 0, 1, 0, 0, .null, [], 0)),
  (26, (.aload_n 0, 1, 0, 0, .null, [], 0)),
  (27, (.getfield 7, 3, 6, 0, .null, [], 661)),
  (30, (.bipush 17, 2, 0, 0, .int 17, [], 0)),
  (32, (.iload_n 1, 1, 0, 0, .null, [], 0)),
  (33, (.iadd, 1, 0, 0, .null, [], 0)),
  (34, (.iaload, 1, 0, 0, .null, [], 0)),
  (35, (.invokevirtual 276, 3, 132, 0, .null, [], 950)),
  (38, (.ifCond .eq 32, 3, 70, 0, .null, [], 0)),
  (41, (.aload_n 0, 1, 0, 0, .null, [], 0)),
  (42, (.getfield 59, 3, 6, 32, .null, [], 693)),
  (45, (.aload_n 0, 1, 0, 0, .null, [], 0)),
  (46, (.getfield 279, 3, 6, 33, .null, [], 694)),
  (49, (.aload_n 0, 1, 0, 0, .null, [], 0)),
  (50, (.getfield 222, 3, 6, 30, .null, [], 691)),
  (53, (.iastore, 1, 0, 0, .null, [], 0)),
  (54, (.aload_n 0, 1, 0, 0, .null, [], 0)),
  (55, (.dup, 1, 0, 0, .null, [], 0)),
  (56, (.getfield 279, 3, 6, 33, .null, [], 694)),
  (59, (.iconst 1, 1, 0, 0, .int 1, [], 0)),
  (60, (.iadd, 1, 0, 0, .null, [], 0)),
  (61, (.putfield 279, 3, 6, 33, .ref 0, [], 694)),
  (64, (.iinc 4 1, 3, 0, 0, .int 1, [], 0)),
  (67, (.goto (-48), 3, 19, 0, .null, [], 0)),
  (70, (.aload_n 0, 1, 0, 0, .null, [], 0)),
  (71, (.getfield 62, 3, 6, 34, .null, [], 695)),
  (74, (.iload_n 1, 1, 0, 0, .null, [], 0)),
  (75, (.iload 4, 2, 0, 0, .null, [], 0)),
  (77, (.iastore, 1, 0, 0, .null, [], 0)),
  (78, (.aload_n 0, 1, 0, 0, .null, [], 0)),
  (79, (.getfield 65, 3, 6, 35, .null, [], 696)),
  (82, (.iload_n 1, 1, 0, 0, .null, [], 0)),
  (83, (.aload_n 0, 1, 0, 0, .null, [], 0)),
  (84, (.getfield 213, 3, 6, 25, .null, [], 686)),
  (87, (.iastore, 1, 0, 0, .null, [], 0)),
  (88, (.aload_n 0, 1, 0, 0, .null, [], 0)),
  (89, (.getfield 68, 3, 6, 36, .null, [], 697)),
  (92, (.iload_n 1, 1, 0, 0, .null, [], 0)),
  (93, (.aload_n 0, 1, 0, 0, .null, [], 0)),
  (94, (.getfield 216, 3, 6, 26, .null, [], 687)),
  (97, (.bastore, 1, 0, 0, .null, [], 0)),
  (98, (.return_, 1, 0, 0, .null, [], 0))]
/-- YieldLinesModel.takeValues()V -/
def kd_134 : List (Nat × yE) := [
  (0, (.aload_n 0, 1, 0, 0, .null, [], 0)),
  (1, (.iconst 0, 1, 0, 0, .int 0, [], 0)),
  (2, (.putfield 279, 3, 6, 33, .ref 0, [], 694)),
  (5, (.iconst 0, 1, 0, 0, .int 0, [], 0)),
  (6, (.istore_n 1, 1, 0, 0, .null, [], 0)),
  (7, (.iload_n 1, 1, 0, 0, .null, [], 0)),
  (8, (.iconst 4, 1, 0, 0, .int 4, [], 0)),
  (9, (.if_icmp .ge 24, 3, 33, 0, .null, [], 0)),
  (12, (.aload_n 0, 1, 0, 0, .null, [], 0)),
  (13, (.getfield 53, 3, 6, 23, .null, [], 684)),
  (16, (.iload_n 1, 1, 0, 0, .null, [], 0)),
  (17, (.aload_n 0, 1, 0, 0, .null, [], 0)),
  (18, (.getfield 7, 3, 6, 0, .null, [], 661)),
  (21, (.bipush 85, 2, 0, 0, .int 85, [], 0)),
  (23, (.iload_n 1, 1, 0, 0, .null, [], 0)),
  (24, (.iadd, 1, 0, 0, .null, [], 0)),
  (25, (.iaload, 1, 0, 0, .null, [], 0)),
  (26, (.iastore, 1, 0, 0, .null, [], 0)),
  (27, (.iinc 1 1, 3, 0, 0, .int 1, [], 0)),
  (30, (.goto (-23), 3, 7, 0, .null, [], 0)),
  (33, (.return_, 1, 0, 0, .null, [], 0))]
/-- YieldLinesModel.go()V -/
def kd_135 : List (Nat × yE) := [
  (0, (.aload_n 0, 1, 0, 0, .null, [], 0)),
  (1, (.invokevirtual 282, 3, 134, 0, .null, [], 928)),
  (4, (.iconst 0, 1, 0, 0, .int 0, [], 0)),
  (5, (.istore_n 1, 1, 0, 0, .null, [], 0)),
  (6, (.iload_n 1, 1, 0, 0, .null, [], 0)),
  (7, (.aload_n 0, 1, 0, 0, .null, [], 0)),
  (8, (.getfield 7, 3, 6, 0, .null, [], 661)),
  (11, (.iconst 0, 1, 0, 0, .int 0, [], 0)),
  (12, (.iaload, 1, 0, 0, .null, [], 0)),
  (13, (.if_icmp .ge 31, 3, 44, 0, .null, [], 0)),
  (16, (.aload_n 0, 1, 0, 0, .null, [], 0)),
  (17, (.iload_n 1, 1, 0, 0, .null, [], 0)),
  (18, (.aload_n 0, 1, 0, 0, .null, [], 0)),
  (19, (.getfield 7, 3, 6, 0, .null, [], 661)),
  (22, (.iconst 1, 1, 0, 0, .int 1, [], 0)),
  (23, (.iload_n 1, 1, 0, 0, .null, [], 0)),
  (24, (.iadd, 1, 0, 0, .null, [], 0)),
  (25, (.iaload, 1, 0, 0, .null, [], 0)),
  (26, (.iconst 1, 1, 0, 0, .int 1, [], 0)),
  (27, (.if_icmp .ne 7, 3, 34, 0, .null, [], 0)),
  (30, (.iconst 1, 1, 0, 0, .int 1, [], 0)),
  (31, (.goto 4, 3, 35, 0, .null, [], 0)),
  (34, (.iconst 0, 1, 0, 0, .int 0, [], 0)),
  (35, (.invokevirtual 285, 3, 133, 0, .null, [], 932)),
  (38, (.iinc 1 1, 3, 0, 0, .int 1, [], 0)),
  (41, (.goto (-35), 3, 6, 0, .null, [], 0)),
  (44, (.return_, 1, 0, 0, .null, [], 0))]
/-- YieldLinesModel.ran(I)I -/
def kd_136 : List (Nat × yE) := [
  (0, (.iconst 0, 1, 0, 0, .int 0, [], 0)),
  (1, (.istore_n 2, 1, 0, 0, .null, [], 0)),
  (2, (.iconst 0, 1, 0, 0, .int 0, [], 0)),
  (3, (.istore_n 3, 1, 0, 0, .null, [], 0)),
  (4, (.iload_n 3, 1, 0, 0, .null, [], 0)),
  (5, (.aload_n 0, 1, 0, 0, .null, [], 0)),
  (6, (.getfield 7, 3, 6, 0, .null, [], 661)),
  (9, (.iconst 0, 1, 0, 0, .int 0, [], 0)),
  (10, (.iaload, 1, 0, 0, .null, [], 0)),
  (11, (.if_icmp .ge 75, 3, 86, 0, .null, [], 0)),
  (14, (.iload_n 2, 1, 0, 0, .null, [], 0)),
  (15, (.iload_n 1, 1, 0, 0, .null, [], 0)),
  (16, (.ifCond .ne 12, 3, 28, 0, .null, [], 0)),
  (19, (.aload_n 0, 1, 0, 0, .null, [], 0)),
  (20, (.getfield 62, 3, 6, 34, .null, [], 695)),
  (23, (.iload_n 3, 1, 0, 0, .null, [], 0)),
  (24, (.iaload, 1, 0, 0, .null, [], 0)),
  (25, (.goto 53, 3, 78, 0, .null, [], 0)),
  (28, (.iload_n 1, 1, 0, 0, .null, [], 0)),
  (29, (.iconst 1, 1, 0, 0, .int 1, [], 0)),
  (30, (.if_icmp .ne 20, 3, 50, 0, .null, [], 0)),
  (33, (.aload_n 0, 1, 0, 0, .null, [], 0)),
  (34, (.getfield 62, 3, 6, 34, .null, [], 695)),
  (37, (.iload_n 3, 1, 0, 0, .null, [], 0)),
  (38, (.iaload, 1, 0, 0, .null, [], 0)),
  (39, (.ifCond .ne 7, 3, 46, 0, .null, [], 0)),
  (42, (.iconst 1, 1, 0, 0, .int 1, [], 0)),
  (43, (.goto 35, 3, 78, 0, .null, [], 0)),
  (46, (.iconst 0, 1, 0, 0, .int 0, [], 0)),
  (47, (.goto 31, 3, 78, 0, .null, [], 0)),
  (50, (.iload_n 1, 1, 0, 0, .null, [], 0)),
  (51, (.iconst 2, 1, 0, 0, .int 2, [], 0)),
  (52, (.if_icmp .ne 20, 3, 72, 0, .null, [], 0)),
  (55, (.aload_n 0, 1, 0, 0, .null, [], 0)),
  (56, (.getfield 68, 3, 6, 36, .null, [], 697)),
  (59, (.iload_n 3, 1, 0, 0, .null, [], 0)),
  (60, (.baload, 1, 0, 0, .null, [], 0)),
  (61, (.ifCond .eq 7, 3, 68, 0, .null, [], 0)),
  (64, (.iconst 1, 1, 0, 0, .int 1, [], 0)),
  (65, (.goto 13, 3, 78, 0, .null, [], 0)),
  (68, (.iconst 0, 1, 0, 0, .int 0, [], 0)),
  (69, (.goto 9, 3, 78, 0, .null, [], 0)),
  (72, (.aload_n 0, 1, 0, 0, .null, [], 0)),
  (73, (.getfield 65, 3, 6, 35, .null, [], 696)),
  (76, (.iload_n 3, 1, 0, 0, .null, [], 0)),
  (77, (.iaload, 1, 0, 0, .null, [], 0)),
  (78, (.iadd, 1, 0, 0, .null, [], 0)),
  (79, (.istore_n 2, 1, 0, 0, .null, [], 0)),
  (80, (.iinc 3 1, 3, 0, 0, .int 1, [], 0)),
  (83, (.goto (-79), 3, 4, 0, .null, [], 0)),
  (86, (.iload_n 2, 1, 0, 0, .null, [], 0)),
  (87, (.ireturn, 1, 0, 0, .null, [], 0))]
/-- YieldLinesModel.run(I)I -/
def kd_137 : List (Nat × yE) := [
  (0, (.iload_n 1, 1, 0, 0, .null, [], 0)),
  (1, (.iconst 0, 1, 0, 0, .int 0, [], 0)),
  (2, (.iconst 3, 1, 0, 0, .int 3, [], 0)),
  (3, (.invokestatic 81, 3, 80, 0, .null, [], 791)),
  (6, (.ifCond .ne 10, 3, 16, 0, .null, [], 0)),
  (9, (.aload_n 0, 1, 0, 0, .null, [], 0)),
  (10, (.ldc 75, 2, 0, 0, .int (-2000000), [], 786)),
  (12, (.invokevirtual 77, 3, 81, 0, .null, [], 782)),
  (15, (.ireturn, 1, 0, 0, .null, [], 0)),
  (16, (.aload_n 0, 1, 0, 0, .null, [], 0)),
  (17, (.invokevirtual 288, 3, 135, 0, .null, [], 924)),
  (20, (.aload_n 0, 1, 0, 0, .null, [], 0)),
  (21, (.iload_n 1, 1, 0, 0, .null, [], 0)),
  (22, (.invokevirtual 291, 3, 136, 0, .null, [], 998)),
  (25, (.ireturn, 1, 0, 0, .null, [], 0))]
/-- YieldLinesModel.said(I)I -/
def kd_138 : List (Nat × yE) := [
  (0, (.iload_n 1, 1, 0, 0, .null, [], 0)),
  (1, (.ifCond .ge 10, 3, 11, 0, .null, [], 0)),
  (4, (.aload_n 0, 1, 0, 0, .null, [], 0)),
  (5, (.ldc 75, 2, 0, 0, .int (-2000000), [], 786)),
  (7, (.invokevirtual 77, 3, 81, 0, .null, [], 782)),
  (10, (.ireturn, 1, 0, 0, .null, [], 0)),
  (11, (.aload_n 0, 1, 0, 0, .null, [], 0)),
  (12, (.invokevirtual 288, 3, 135, 0, .null, [], 924)),
  (15, (.iload_n 1, 1, 0, 0, .null, [], 0)),
  (16, (.aload_n 0, 1, 0, 0, .null, [], 0)),
  (17, (.getfield 279, 3, 6, 33, .null, [], 694)),
  (20, (.if_icmp .ge 12, 3, 32, 0, .null, [], 0)),
  (23, (.aload_n 0, 1, 0, 0, .null, [], 0)),
  (24, (.getfield 59, 3, 6, 32, .null, [], 693)),
  (27, (.iload_n 1, 1, 0, 0, .null, [], 0)),
  (28, (.iaload, 1, 0, 0, .null, [], 0)),
  (29, (.goto 5, 3, 34, 0, .null, [], 0)),
  (32, (.ldc 95, 2, 0, 0, .int (-1999999), [], 803)),
  (34, (.ireturn, 1, 0, 0, .null, [], 0))]
/-- YieldLinesModel.didOf(II)I -/
def kd_139 : List (Nat × yE) := [
  (0, (.iload_n 2, 1, 0, 0, .null, [], 0)),
  (1, (.iconst 3, 1, 0, 0, .int 3, [], 0)),
  (2, (.if_icmp .ge 45, 3, 47, 0, .null, [], 0)),
  (5, (.iload_n 2, 1, 0, 0, .null, [], 0)),
  (6, (.ifCond .ne 12, 3, 18, 0, .null, [], 0)),
  (9, (.aload_n 0, 1, 0, 0, .null, [], 0)),
  (10, (.getfield 62, 3, 6, 34, .null, [], 695)),
  (13, (.iload_n 1, 1, 0, 0, .null, [], 0)),
  (14, (.iaload, 1, 0, 0, .null, [], 0)),
  (15, (.goto 31, 3, 46, 0, .null, [], 0)),
  (18, (.iload_n 2, 1, 0, 0, .null, [], 0)),
  (19, (.iconst 1, 1, 0, 0, .int 1, [], 0)),
  (20, (.if_icmp .ne 12, 3, 32, 0, .null, [], 0)),
  (23, (.aload_n 0, 1, 0, 0, .null, [], 0)),
  (24, (.getfield 65, 3, 6, 35, .null, [], 696)),
  (27, (.iload_n 1, 1, 0, 0, .null, [], 0)),
  (28, (.iaload, 1, 0, 0, .null, [], 0)),
  (29, (.goto 17, 3, 46, 0, .null, [], 0)),
  (32, (.aload_n 0, 1, 0, 0, .null, [], 0)),
  (33, (.getfield 68, 3, 6, 36, .null, [], 697)),
  (36, (.iload_n 1, 1, 0, 0, .null, [], 0)),
  (37, (.baload, 1, 0, 0, .null, [], 0)),
  (38, (.ifCond .eq 7, 3, 45, 0, .null, [], 0)),
  (41, (.iconst 1, 1, 0, 0, .int 1, [], 0)),
  (42, (.goto 4, 3, 46, 0, .null, [], 0)),
  (45, (.iconst 0, 1, 0, 0, .int 0, [], 0)),
  (46, (.ireturn, 1, 0, 0, .null, [], 0)),
  (47, (.iconst 0, 1, 0, 0, .int 0, [], 0)),
  (48, (.istore_n 3, 1, 0, 0, .null, [], 0)),
  (49, (.iconst 0, 1, 0, 0, .int 0, [], 0)),
  (50, (.istore 4, 2, 0, 0, .null, [], 0)),
  (52, (.iload 4, 2, 0, 0, .null, [], 0)),
  (54, (.iload_n 1, 1, 0, 0, .null, [], 0)),
  (55, (.if_icmp .gt 19, 3, 74, 0, .null, [], 0)),
  (58, (.iload_n 3, 1, 0, 0, .null, [], 0)),
  (59, (.aload_n 0, 1, 0, 0, .null, [], 0)),
  (60, (.getfield 62, 3, 6, 34, .null, [], 695)),
  (63, (.iload 4, 2, 0, 0, .null, [], 0)),
  (65, (.iaload, 1, 0, 0, .null, [], 0)),
  (66, (.iadd, 1, 0, 0, .null, [], 0)),
  (67, (.istore_n 3, 1, 0, 0, .null, [], 0)),
  (68, (.iinc 4 1, 3, 0, 0, .int 1, [], 0)),
  (71, (.goto (-19), 3, 52, 0, .null, [], 0)),
  (74, (.aload_n 0, 1, 0, 0, .null, [], 0)),
  (75, (.getfield 62, 3, 6, 34, .null, [], 695)),
  (78, (.iload_n 1, 1, 0, 0, .null, [], 0)),
  (79, (.iaload, 1, 0, 0, .null, [], 0)),
  (80, (.ifCond .ne 8, 3, 88, 0, .null, [], 0)),
  (83, (.ldc 95, 2, 0, 0, .int (-1999999), [], 803)),
  (85, (.goto 11, 3, 96, 0, .null, [], 0)),
  (88, (.aload_n 0, 1, 0, 0, .null, [], 0)),
  (89, (.getfield 59, 3, 6, 32, .null, [], 693)),
  (92, (.iload_n 3, 1, 0, 0, .null, [], 0)),
  (93, (.iconst 1, 1, 0, 0, .int 1, [], 0)),
  (94, (.isub, 1, 0, 0, .null, [], 0)),
  (95, (.iaload, 1, 0, 0, .null, [], 0)),
  (96, (.ireturn, 1, 0, 0, .null, [], 0))]
/-- YieldLinesModel.did(II)I -/
def kd_140 : List (Nat × yE) := [
  (0, (.aload_n 0, 1, 0, 0, .null, [], 0)),
  (1, (.iload_n 1, 1, 0, 0, .null, [], 0)),
  (2, (.invokevirtual 193, 3, 93, 0, .null, [], 901)),
  (5, (.ifCond .eq 12, 3, 17, 0, .null, [], 0)),
  (8, (.iload_n 2, 1, 0, 0, .null, [], 0)),
  (9, (.iconst 0, 1, 0, 0, .int 0, [], 0)),
  (10, (.iconst 3, 1, 0, 0, .int 3, [], 0)),
  (11, (.invokestatic 81, 3, 80, 0, .null, [], 791)),
  (14, (.ifCond .ne 10, 3, 24, 0, .null, [], 0)),
  (17, (.aload_n 0, 1, 0, 0, .null, [], 0)),
  (18, (.ldc 75, 2, 0, 0, .int (-2000000), [], 786)),
  (20, (.invokevirtual 77, 3, 81, 0, .null, [], 782)),
  (23, (.ireturn, 1, 0, 0, .null, [], 0)),
  (24, (.aload_n 0, 1, 0, 0, .null, [], 0)),
  (25, (.invokevirtual 288, 3, 135, 0, .null, [], 924)),
  (28, (.aload_n 0, 1, 0, 0, .null, [], 0)),
  (29, (.iload_n 1, 1, 0, 0, .null, [], 0)),
  (30, (.iload_n 2, 1, 0, 0, .null, [], 0)),
  (31, (.invokevirtual 294, 3, 139, 0, .null, [], 1010)),
  (34, (.ireturn, 1, 0, 0, .null, [], 0))]
/-- YieldLinesModel.ends(I)I -/
def kd_141 : List (Nat × yE) := [
  (0, (.iload_n 1, 1, 0, 0, .null, [], 0)),
  (1, (.iconst 0, 1, 0, 0, .int 0, [], 0)),
  (2, (.iconst 3, 1, 0, 0, .int 3, [], 0)),
  (3, (.invokestatic 81, 3, 80, 0, .null, [], 791)),
  (6, (.ifCond .ne 10, 3, 16, 0, .null, [], 0)),
  (9, (.aload_n 0, 1, 0, 0, .null, [], 0)),
  (10, (.ldc 75, 2, 0, 0, .int (-2000000), [], 786)),
  (12, (.invokevirtual 77, 3, 81, 0, .null, [], 782)),
  (15, (.ireturn, 1, 0, 0, .null, [], 0)),
  (16, (.aload_n 0, 1, 0, 0, .null, [], 0)),
  (17, (.invokevirtual 288, 3, 135, 0, .null, [], 924)),
  (20, (.aload_n 0, 1, 0, 0, .null, [], 0)),
  (21, (.getfield 53, 3, 6, 23, .null, [], 684)),
  (24, (.iload_n 1, 1, 0, 0, .null, [], 0)),
  (25, (.iaload, 1, 0, 0, .null, [], 0)),
  (26, (.ireturn, 1, 0, 0, .null, [], 0))]
/-- YieldLinesModel.alone(II)I -/
def kd_142 : List (Nat × yE) := [
  (0, (.aload_n 0, 1, 0, 0, .null, [], 0)),
  (1, (.iload_n 1, 1, 0, 0, .null, [], 0)),
  (2, (.invokevirtual 193, 3, 93, 0, .null, [], 901)),
  (5, (.ifCond .eq 7, 3, 12, 0, .null, [], 0)),
  (8, (.iload_n 2, 1, 0, 0, .null, [], 0)),
  (9, (.ifCond .ge 10, 3, 19, 0, .null, [], 0)),
  (12, (.aload_n 0, 1, 0, 0, .null, [], 0)),
  (13, (.ldc 75, 2, 0, 0, .int (-2000000), [], 786)),
  (15, (.invokevirtual 77, 3, 81, 0, .null, [], 782)),
  (18, (.ireturn, 1, 0, 0, .null, [], 0)),
  (19, (.aload_n 0, 1, 0, 0, .null, [], 0)),
  (20, (.invokevirtual 282, 3, 134, 0, .null, [], 928)),
  (23, (.aload_n 0, 1, 0, 0, .null, [], 0)),
  (24, (.iload_n 1, 1, 0, 0, .null, [], 0)),
  (25, (.iconst 1, 1, 0, 0, .int 1, [], 0)),
  (26, (.invokevirtual 285, 3, 133, 0, .null, [], 932)),
  (29, (.iload_n 2, 1, 0, 0, .null, [], 0)),
  (30, (.aload_n 0, 1, 0, 0, .null, [], 0)),
  (31, (.getfield 279, 3, 6, 33, .null, [], 694)),
  (34, (.if_icmp .ge 12, 3, 46, 0, .null, [], 0)),
  (37, (.aload_n 0, 1, 0, 0, .null, [], 0)),
  (38, (.getfield 59, 3, 6, 32, .null, [], 693)),
  (41, (.iload_n 2, 1, 0, 0, .null, [], 0)),
  (42, (.iaload, 1, 0, 0, .null, [], 0)),
  (43, (.goto 5, 3, 48, 0, .null, [], 0)),
  (46, (.ldc 95, 2, 0, 0, .int (-1999999), [], 803)),
  (48, (.ireturn, 1, 0, 0, .null, [], 0))]
/-- YieldLinesModel.toldOf(I)I -/
def kd_143 : List (Nat × yE) := [
  (0, (.iload_n 1, 1, 0, 0, .null, [], 0)),
  (1, (.iconst 3, 1, 0, 0, .int 3, [], 0)),
  (2, (.if_icmp .ge 12, 3, 14, 0, .null, [], 0)),
  (5, (.aload_n 0, 1, 0, 0, .null, [], 0)),
  (6, (.getfield 19, 3, 6, 4, .null, [], 665)),
  (9, (.iload_n 1, 1, 0, 0, .null, [], 0)),
  (10, (.iaload, 1, 0, 0, .null, [], 0)),
  (11, (.goto 45, 3, 56, 0, .null, [], 0)),
  (14, (.iload_n 1, 1, 0, 0, .null, [], 0)),
  (15, (.iconst 3, 1, 0, 0, .int 3, [], 0)),
  (16, (.if_icmp .ne 10, 3, 26, 0, .null, [], 0)),
  (19, (.aload_n 0, 1, 0, 0, .null, [], 0)),
  (20, (.getfield 88, 3, 6, 6, .null, [], 667)),
  (23, (.goto 33, 3, 56, 0, .null, [], 0)),
  (26, (.iload_n 1, 1, 0, 0, .null, [], 0)),
  (27, (.iconst 4, 1, 0, 0, .int 4, [], 0)),
  (28, (.if_icmp .ne 12, 3, 40, 0, .null, [], 0)),
  (31, (.aload_n 0, 1, 0, 0, .null, [], 0)),
  (32, (.getfield 7, 3, 6, 0, .null, [], 661)),
  (35, (.iconst 0, 1, 0, 0, .int 0, [], 0)),
  (36, (.iaload, 1, 0, 0, .null, [], 0)),
  (37, (.goto 19, 3, 56, 0, .null, [], 0)),
  (40, (.iload_n 1, 1, 0, 0, .null, [], 0)),
  (41, (.iconst 5, 1, 0, 0, .int 5, [], 0)),
  (42, (.if_icmp .ne 10, 3, 52, 0, .null, [], 0)),
  (45, (.aload_n 0, 1, 0, 0, .null, [], 0)),
  (46, (.invokevirtual 297, 3, 92, 0, .null, [], 1030)),
  (49, (.goto 7, 3, 56, 0, .null, [], 0)),
  (52, (.aload_n 0, 1, 0, 0, .null, [], 0)),
  (53, (.getfield 71, 3, 6, 3, .null, [], 664)),
  (56, (.ireturn, 1, 0, 0, .null, [], 0))]
/-- YieldLinesModel.told(I)I -/
def kd_144 : List (Nat × yE) := [
  (0, (.iload_n 1, 1, 0, 0, .null, [], 0)),
  (1, (.iconst 0, 1, 0, 0, .int 0, [], 0)),
  (2, (.bipush 6, 2, 0, 0, .int 6, [], 0)),
  (4, (.invokestatic 81, 3, 80, 0, .null, [], 791)),
  (7, (.ifCond .eq 11, 3, 18, 0, .null, [], 0)),
  (10, (.aload_n 0, 1, 0, 0, .null, [], 0)),
  (11, (.iload_n 1, 1, 0, 0, .null, [], 0)),
  (12, (.invokevirtual 300, 3, 143, 0, .null, [], 1026)),
  (15, (.goto 9, 3, 24, 0, .null, [], 0)),
  (18, (.aload_n 0, 1, 0, 0, .null, [], 0)),
  (19, (.ldc 75, 2, 0, 0, .int (-2000000), [], 786)),
  (21, (.invokevirtual 77, 3, 81, 0, .null, [], 782)),
  (24, (.ireturn, 1, 0, 0, .null, [], 0))]
/-- YieldLinesModel.mix(I)V -/
def kd_145 : List (Nat × yE) := [
  (0, (.aload_n 0, 1, 0, 0, .null, [], 0)),
  (1, (.ldc2_w 303, 3, 0, 0, .long 31, [], 1043)),
  (4, (.aload_n 0, 1, 0, 0, .null, [], 0)),
  (5, (.getfield 305, 3, 6, 37, .null, [], 698)),
  (8, (.lmul, 1, 0, 0, .null, [], 0)),
  (9, (.iload_n 1, 1, 0, 0, .null, [], 0)),
  (10, (.i2l, 1, 0, 0, .null, [], 0)),
  (11, (.ladd, 1, 0, 0, .null, [], 0)),
  (12, (.putfield 305, 3, 6, 37, .ref 2, [], 698)),
  (15, (.return_, 1, 0, 0, .null, [], 0))]
/-- YieldLinesModel.digest()J -/
def kd_146 : List (Nat × yE) := [
  (0, (.aload_n 0, 1, 0, 0, .null, [], 0)),
  (1, (.ldc2_w 309, 3, 0, 0, .long 2467, [], 1038)),
  (4, (.putfield 305, 3, 6, 37, .ref 2, [], 698)),
  (7, (.iconst 0, 1, 0, 0, .int 0, [], 0)),
  (8, (.istore_n 1, 1, 0, 0, .null, [], 0)),
  (9, (.iload_n 1, 1, 0, 0, .null, [], 0)),
  (10, (.bipush 7, 2, 0, 0, .int 7, [], 0)),
  (12, (.if_icmp .ge 18, 3, 30, 0, .null, [], 0)),
  (15, (.aload_n 0, 1, 0, 0, .null, [], 0)),
  (16, (.aload_n 0, 1, 0, 0, .null, [], 0)),
  (17, (.iload_n 1, 1, 0, 0, .null, [], 0)),
  (18, (.invokevirtual 300, 3, 143, 0, .null, [], 1026)),
  (21, (.invokevirtual 311, 3, 145, 0, .null, [], 1039)),
  (24, (.iinc 1 1, 3, 0, 0, .int 1, [], 0)),
  (27, (.goto (-18), 3, 9, 0, .null, [], 0)),
  (30, (.iconst 0, 1, 0, 0, .int 0, [], 0)),
  (31, (.istore_n 1, 1, 0, 0, .null, [], 0)),
  (32, (.iload_n 1, 1, 0, 0, .null, [], 0)),
  (33, (.iconst 4, 1, 0, 0, .int 4, [], 0)),
  (34, (.if_icmp .ge 22, 3, 56, 0, .null, [], 0)),
  (37, (.aload_n 0, 1, 0, 0, .null, [], 0)),
  (38, (.aload_n 0, 1, 0, 0, .null, [], 0)),
  (39, (.getfield 7, 3, 6, 0, .null, [], 661)),
  (42, (.bipush 85, 2, 0, 0, .int 85, [], 0)),
  (44, (.iload_n 1, 1, 0, 0, .null, [], 0)),
  (45, (.iadd, 1, 0, 0, .null, [], 0)),
  (46, (.iaload, 1, 0, 0, .null, [], 0)),
  (47, (.invokevirtual 311, 3, 145, 0, .null, [], 1039)),
  (50, (.iinc 1 1, 3, 0, 0, .int 1, [], 0)),
  (53, (.goto (-21), 3, 32, 0, .null, [], 0)),
  (56, (.aload_n 0, 1, 0, 0, .null, [], 0)),
  (57, (.invokevirtual 288, 3, 135, 0, .null, [], 924)),
  (60, (.iconst 0, 1, 0, 0, .int 0, [], 0)),
  (61, (.istore_n 1, 1, 0, 0, .null, [], 0)),
  (62, (.iload_n 1, 1, 0, 0, .null, [], 0)),
  (63, (.aload_n 0, 1, 0, 0, .null, [], 0)),
  (64, (.getfield 7, 3, 6, 0, .null, [], 661)),
  (67, (.iconst 0, 1, 0, 0, .int 0, [], 0)),
  (68, (.iaload, 1, 0, 0, .null, [], 0)),
  (69, (.if_icmp .ge 49, 3, 118, 0, .null, [], 0)),
  (72, (.iconst 0, 1, 0, 0, .int 0, [], 0)),
  (73, (.istore_n 2, 1, 0, 0, .null, [], 0)),
  (74, (.iload_n 2, 1, 0, 0, .null, [], 0)),
  (75, (.bipush 8, 2, 0, 0, .int 8, [], 0)),
  (77, (.if_icmp .ge 35, 3, 112, 0, .null, [], 0)),
  (80, (.aload_n 0, 1, 0, 0, .null, [], 0)),
  (81, (.iload_n 2, 1, 0, 0, .null, [], 0)),
  (82, (.iconst 4, 1, 0, 0, .int 4, [], 0)),
  (83, (.if_icmp .ge 12, 3, 95, 0, .null, [], 0)),
  (86, (.aload_n 0, 1, 0, 0, .null, [], 0)),
  (87, (.iload_n 1, 1, 0, 0, .null, [], 0)),
  (88, (.iload_n 2, 1, 0, 0, .null, [], 0)),
  (89, (.invokevirtual 199, 3, 117, 0, .null, [], 913)),
  (92, (.goto 11, 3, 103, 0, .null, [], 0)),
  (95, (.aload_n 0, 1, 0, 0, .null, [], 0)),
  (96, (.iload_n 1, 1, 0, 0, .null, [], 0)),
  (97, (.iload_n 2, 1, 0, 0, .null, [], 0)),
  (98, (.iconst 4, 1, 0, 0, .int 4, [], 0)),
  (99, (.isub, 1, 0, 0, .null, [], 0)),
  (100, (.invokevirtual 294, 3, 139, 0, .null, [], 1010)),
  (103, (.invokevirtual 311, 3, 145, 0, .null, [], 1039)),
  (106, (.iinc 2 1, 3, 0, 0, .int 1, [], 0)),
  (109, (.goto (-35), 3, 74, 0, .null, [], 0)),
  (112, (.iinc 1 1, 3, 0, 0, .int 1, [], 0)),
  (115, (.goto (-53), 3, 62, 0, .null, [], 0)),
  (118, (.iconst 0, 1, 0, 0, .int 0, [], 0)),
  (119, (.istore_n 1, 1, 0, 0, .null, [], 0)),
  (120, (.iload_n 1, 1, 0, 0, .null, [], 0)),
  (121, (.iconst 4, 1, 0, 0, .int 4, [], 0)),
  (122, (.if_icmp .ge 18, 3, 140, 0, .null, [], 0)),
  (125, (.aload_n 0, 1, 0, 0, .null, [], 0)),
  (126, (.aload_n 0, 1, 0, 0, .null, [], 0)),
  (127, (.iload_n 1, 1, 0, 0, .null, [], 0)),
  (128, (.invokevirtual 291, 3, 136, 0, .null, [], 998)),
  (131, (.invokevirtual 311, 3, 145, 0, .null, [], 1039)),
  (134, (.iinc 1 1, 3, 0, 0, .int 1, [], 0)),
  (137, (.goto (-17), 3, 120, 0, .null, [], 0)),
  (140, (.iconst 0, 1, 0, 0, .int 0, [], 0)),
  (141, (.istore_n 1, 1, 0, 0, .null, [], 0)),
  (142, (.iload_n 1, 1, 0, 0, .null, [], 0)),
  (143, (.aload_n 0, 1, 0, 0, .null, [], 0)),
  (144, (.getfield 279, 3, 6, 33, .null, [], 694)),
  (147, (.if_icmp .ge 19, 3, 166, 0, .null, [], 0)),
  (150, (.aload_n 0, 1, 0, 0, .null, [], 0)),
  (151, (.aload_n 0, 1, 0, 0, .null, [], 0)),
  (152, (.getfield 59, 3, 6, 32, .null, [], 693)),
  (155, (.iload_n 1, 1, 0, 0, .null, [], 0)),
  (156, (.iaload, 1, 0, 0, .null, [], 0)),
  (157, (.invokevirtual 311, 3, 145, 0, .null, [], 1039)),
  (160, (.iinc 1 1, 3, 0, 0, .int 1, [], 0)),
  (163, (.goto (-21), 3, 142, 0, .null, [], 0)),
  (166, (.iconst 0, 1, 0, 0, .int 0, [], 0)),
  (167, (.istore_n 1, 1, 0, 0, .null, [], 0)),
  (168, (.iload_n 1, 1, 0, 0, .null, [], 0)),
  (169, (.iconst 4, 1, 0, 0, .int 4, [], 0)),
  (170, (.if_icmp .ge 19, 3, 189, 0, .null, [], 0)),
  (173, (.aload_n 0, 1, 0, 0, .null, [], 0)),
  (174, (.aload_n 0, 1, 0, 0, .null, [], 0)),
  (175, (.getfield 53, 3, 6, 23, .null, [], 684)),
  (178, (.iload_n 1, 1, 0, 0, .null, [], 0)),
  (179, (.iaload, 1, 0, 0, .null, [], 0)),
  (180, (.invokevirtual 311, 3, 145, 0, .null, [], 1039)),
  (183, (.iinc 1 1, 3, 0, 0, .int 1, [], 0)),
  (186, (.goto (-18), 3, 168, 0, .null, [], 0)),
  (189, (.aload_n 0, 1, 0, 0, .null, [], 0)),
  (190, (.getfield 305, 3, 6, 37, .null, [], 698)),
  (193, (.lreturn, 1, 0, 0, .null, [], 0))]
/-- java/lang/Math.floorMod(II)I -/
def kd_147 : List (Nat × yE) := [
  (0, (.iload_n 0, 1, 0, 0, .null, [], 0)),
  (1, (.iload_n 1, 1, 0, 0, .null, [], 0)),
  (2, (.irem, 1, 0, 0, .null, [], 0)),
  (3, (.istore_n 2, 1, 0, 0, .null, [], 0)),
  (4, (.iload_n 0, 1, 0, 0, .null, [], 0)),
  (5, (.iload_n 1, 1, 0, 0, .null, [], 0)),
  (6, (.ixor, 1, 0, 0, .null, [], 0)),
  (7, (.ifCond .ge 11, 3, 18, 0, .null, [], 0)),
  (10, (.iload_n 2, 1, 0, 0, .null, [], 0)),
  (11, (.ifCond .eq 7, 3, 18, 0, .null, [], 0)),
  (14, (.iload_n 2, 1, 0, 0, .null, [], 0)),
  (15, (.iload_n 1, 1, 0, 0, .null, [], 0)),
  (16, (.iadd, 1, 0, 0, .null, [], 0)),
  (17, (.ireturn, 1, 0, 0, .null, [], 0)),
  (18, (.iload_n 2, 1, 0, 0, .null, [], 0)),
  (19, (.ireturn, 1, 0, 0, .null, [], 0))]
/-- java/lang/Math.max(II)I -/
def kd_148 : List (Nat × yE) := [
  (0, (.iload_n 0, 1, 0, 0, .null, [], 0)),
  (1, (.iload_n 1, 1, 0, 0, .null, [], 0)),
  (2, (.if_icmp .lt 7, 3, 9, 0, .null, [], 0)),
  (5, (.iload_n 0, 1, 0, 0, .null, [], 0)),
  (6, (.goto 4, 3, 10, 0, .null, [], 0)),
  (9, (.iload_n 1, 1, 0, 0, .null, [], 0)),
  (10, (.ireturn, 1, 0, 0, .null, [], 0))]
/-- java/lang/Math.min(II)I -/
def kd_149 : List (Nat × yE) := [
  (0, (.iload_n 0, 1, 0, 0, .null, [], 0)),
  (1, (.iload_n 1, 1, 0, 0, .null, [], 0)),
  (2, (.if_icmp .gt 7, 3, 9, 0, .null, [], 0)),
  (5, (.iload_n 0, 1, 0, 0, .null, [], 0)),
  (6, (.goto 4, 3, 10, 0, .null, [], 0)),
  (9, (.iload_n 1, 1, 0, 0, .null, [], 0)),
  (10, (.ireturn, 1, 0, 0, .null, [], 0))]
def yCodes : List (List (Nat × yE)) := [[], kd_1, kd_2, [], kd_4, kd_5, kd_6, kd_7, kd_8, kd_9, kd_10, kd_11, kd_12, kd_13, kd_14, kd_15, kd_16, kd_17, kd_18, [], kd_20, kd_21, kd_22, kd_23, kd_24, [], kd_26, kd_27, kd_28, kd_29, kd_30, kd_31, kd_32, kd_33, kd_34, kd_35, kd_36, kd_37, kd_38, kd_39, kd_40, kd_41, kd_42, kd_43, kd_44, kd_45, kd_46, [], kd_48, kd_49, kd_50, [], kd_52, kd_53, kd_54, kd_55, kd_56, kd_57, kd_58, kd_59, kd_60, kd_61, kd_62, kd_63, kd_64, kd_65, kd_66, kd_67, kd_68, kd_69, kd_70, kd_71, kd_72, kd_73, kd_74, kd_75, kd_76, kd_77, kd_78, [], kd_80, kd_81, kd_82, kd_83, kd_84, kd_85, kd_86, kd_87, kd_88, kd_89, kd_90, kd_91, kd_92, kd_93, kd_94, kd_95, kd_96, kd_97, kd_98, kd_99, kd_100, kd_101, kd_102, kd_103, kd_104, kd_105, kd_106, kd_107, kd_108, kd_109, kd_110, kd_111, kd_112, kd_113, kd_114, kd_115, kd_116, kd_117, kd_118, kd_119, kd_120, kd_121, kd_122, kd_123, kd_124, kd_125, kd_126, kd_127, kd_128, kd_129, kd_130, kd_131, kd_132, kd_133, kd_134, kd_135, kd_136, kd_137, kd_138, kd_139, kd_140, kd_141, kd_142, kd_143, kd_144, kd_145, kd_146, kd_147, kd_148, kd_149]
def yCode (mi : Nat) : List (Nat × yE) := yCodes.getD mi []
abbrev yM : Type := MethodName × ByteArray × Nat × Option FieldType × Nat × Nat × List Nat
def yMs : List yM := [
  (yX0_init, cX0_init, 2, none, 0, 0, [213, 212, 0, 86]),
  (yX0_leave, cX0_leave, 3, none, 1, 0, [455, 453, 454, 86]),
  (yX0_takeInto, cX0_takeInto, 3, none, 1, 0, [636, 634, 635, 86]),
  (yX1_init, cX1_init, 2, none, 1, 1, [233, 232, 0, 87]),
  (yX1_beginRun, cX1_beginRun, 1, none, 0, 1, [514, 512, 513, 87]),
  (yX1_beginLine, cX1_beginLine, 2, none, 1, 1, [524, 522, 523, 87]),
  (yX1_copyValuesTo, cX1_copyValuesTo, 2, none, 1, 1, [584, 582, 583, 87]),
  (yX1_ask, cX1_ask, 3, (some .boolean), 2, 1, [533, 532, 24, 87]),
  (yX1_yields, cX1_yields, 2, (some .boolean), 1, 1, [541, 540, 26, 87]),
  (yX1_renew, cX1_renew, 2, none, 1, 1, [528, 527, 23, 87]),
  (yX1_askLeaf, cX1_askLeaf, 3, (some .boolean), 1, 1, [537, 536, 25, 87]),
  (yX1_askEither, cX1_askEither, 3, (some .boolean), 2, 1, [546, 545, 27, 87]),
  (yX1_askFirst, cX1_askFirst, 3, (some .boolean), 2, 1, [551, 550, 28, 87]),
  (yX1_askWhetherNone, cX1_askWhetherNone, 3, (some .boolean), 2, 1, [555, 554, 29, 87]),
  (yX1_askTarget, cX1_askTarget, 4, (some .boolean), 2, 1, [559, 558, 30, 87]),
  (yX1_askPair, cX1_askPair, 4, (some .boolean), 2, 1, [563, 562, 31, 87]),
  (yX1_hasResult, cX1_hasResult, 4, (some .boolean), 3, 1, [567, 566, 32, 87]),
  (yX1_yieldsOfPair, cX1_yieldsOfPair, 4, (some .boolean), 3, 1, [575, 574, 33, 87]),
  (yX1_reckoned, cX1_reckoned, 5, (some .long), 3, 99, [570, 569, 0, 87]),
  (yX2_init, cX2_init, 1, none, 0, 2, [271, 270, 0, 88]),
  (yX2_make, cX2_make, 4, none, 2, 2, [510, 508, 509, 88]),
  (yX2_makeLine, cX2_makeLine, 7, none, 3, 2, [519, 518, 22, 88]),
  (yX2_say, cX2_say, 2, none, 1, 2, [579, 578, 34, 88]),
  (yX2_saidAt, cX2_saidAt, 2, (some .int), 1, 2, [607, 605, 606, 88]),
  (yX2_silentLines, cX2_silentLines, 4, (some .int), 1, 2, [595, 593, 594, 88]),
  (yX3_init, cX3_init, 1, none, 0, 3, [170, 169, 0, 85]),
  (yX3_faultOf, cX3_faultOf, 4, (some .int), 2, 3, [357, 355, 356, 85]),
  (yX3_takes, cX3_takes, 2, (some .boolean), 1, 3, [361, 360, 1, 85]),
  (yX3_takesMoreOfNumber, cX3_takesMoreOfNumber, 2, (some .boolean), 1, 3, [368, 367, 2, 85]),
  (yX3_beginsLine, cX3_beginsLine, 3, (some .boolean), 1, 3, [375, 374, 3, 85]),
  (yX3_takesUnit, cX3_takesUnit, 2, (some .boolean), 1, 3, [382, 381, 4, 85]),
  (yX3_takesLeaf, cX3_takesLeaf, 4, (some .boolean), 2, 3, [386, 385, 5, 85]),
  (yX3_takesFigure, cX3_takesFigure, 2, (some .boolean), 1, 3, [413, 412, 11, 85]),
  (yX3_takesRest, cX3_takesRest, 2, (some .boolean), 1, 3, [417, 416, 12, 85]),
  (yX3_endsLine, cX3_endsLine, 2, (some .boolean), 0, 3, [421, 420, 13, 85]),
  (yX3_closes, cX3_closes, 1, (some .boolean), 0, 3, [425, 424, 14, 85]),
  (yX3_takesFirst, cX3_takesFirst, 2, (some .boolean), 0, 3, [432, 431, 15, 85]),
  (yX3_takesTarget, cX3_takesTarget, 2, (some .boolean), 1, 3, [436, 435, 16, 85]),
  (yX3_isFirstOfExpression, cX3_isFirstOfExpression, 2, (some .boolean), 0, 3, [440, 439, 17, 85]),
  (yX3_takesBetween, cX3_takesBetween, 4, (some .boolean), 1, 3, [444, 443, 18, 85]),
  (yX3_levelBetween, cX3_levelBetween, 1, (some .int), 1, 99, [447, 446, 0, 85]),
  (yX3_join, cX3_join, 4, none, 2, 3, [402, 401, 9, 85]),
  (yX3_piles, cX3_piles, 3, (some .boolean), 2, 3, [409, 408, 10, 85]),
  (yX3_hasRoom, cX3_hasRoom, 1, (some .boolean), 0, 3, [390, 389, 6, 85]),
  (yX3_newNode, cX3_newNode, 4, (some .int), 2, 3, [394, 393, 7, 85]),
  (yX3_noteName, cX3_noteName, 3, none, 2, 3, [398, 397, 8, 85]),
  (yX3_isFigure, cX3_isFigure, 1, (some .boolean), 1, 99, [364, 363, 0, 85]),
  (yX4_init, cX4_init, 1, none, 0, 4, [104, 103, 0, 84]),
  (yX4_takeAll, cX4_takeAll, 2, none, 1, 4, [462, 460, 461, 84]),
  (yX4_takeProgram, cX4_takeProgram, 2, none, 1, 4, [466, 464, 465, 84]),
  (yX4_dropLine, cX4_dropLine, 3, none, 1, 4, [493, 491, 492, 84]),
  (yX5_init, cX5_init, 1, none, 0, 5, [96, 95, 0, 83]),
  (yX5_type, cX5_type, 2, (some .int), 1, 5, [339, 337, 338, 83]),
  (yX5_clear, cX5_clear, 2, (some .int), 0, 5, [349, 347, 348, 83]),
  (yX5_reads, cX5_reads, 2, (some .int), 0, 5, [353, 351, 352, 83]),
  (yX5_value, cX5_value, 4, (some .int), 2, 5, [474, 472, 473, 83]),
  (yX5_drops, cX5_drops, 2, (some .int), 1, 5, [484, 482, 483, 83]),
  (yX5_line, cX5_line, 3, (some .int), 2, 5, [498, 496, 497, 83]),
  (yX5_run, cX5_run, 2, (some .int), 1, 5, [506, 504, 505, 83]),
  (yX5_said, cX5_said, 2, (some .int), 1, 5, [603, 601, 602, 83]),
  (yX5_did, cX5_did, 3, (some .int), 2, 5, [611, 609, 610, 83]),
  (yX5_ends, cX5_ends, 2, (some .int), 1, 5, [619, 617, 618, 83]),
  (yX5_alone, cX5_alone, 4, (some .int), 2, 5, [623, 621, 622, 83]),
  (yX5_back, cX5_back, 1, (some .int), 0, 5, [631, 629, 630, 83]),
  (yX5_told, cX5_told, 2, (some .int), 1, 5, [640, 638, 639, 83]),
  (yX5_digest, cX5_digest, 4, (some .long), 0, 5, [648, 646, 647, 83]),
  (yX5_withLine, cX5_withLine, 7, (some .long), 2, 5, [654, 653, 39, 83]),
  (yX5_ofLine, cX5_ofLine, 3, (some .int), 2, 5, [502, 501, 21, 83]),
  (yX5_ofRun, cX5_ofRun, 2, (some .int), 1, 5, [591, 590, 35, 83]),
  (yX5_ofDone, cX5_ofDone, 3, (some .int), 2, 5, [615, 614, 37, 83]),
  (yX5_ofAll, cX5_ofAll, 2, (some .int), 1, 5, [644, 643, 38, 83]),
  (yX5_sumOfLines, cX5_sumOfLines, 4, (some .int), 1, 5, [599, 598, 36, 83]),
  (yX5_leaveState, cX5_leaveState, 1, none, 0, 5, [451, 450, 19, 83]),
  (yX5_bad, cX5_bad, 1, (some .int), 0, 5, [343, 342, 0, 83]),
  (yX5_isLine, cX5_isLine, 2, (some .boolean), 1, 5, [488, 487, 20, 83]),
  (yX5_isName, cX5_isName, 1, (some .boolean), 1, 99, [405, 404, 0, 83]),
  (yX5_isBelow, cX5_isBelow, 2, (some .boolean), 2, 99, [378, 377, 0, 83]),
  (yX5_isNode, cX5_isNode, 1, (some .boolean), 1, 99, [371, 370, 0, 83]),
  (yX5_isNumber, cX5_isNumber, 2, (some .boolean), 1, 99, [478, 477, 0, 83]),
  (yX6_init, cX6_init, 1, none, 0, 6, [659, 658, 0, 89]),
  (yX6_in, cX6_in, 3, (some .boolean), 3, 99, [793, 792, 0, 89]),
  (yX6_refuses, cX6_refuses, 2, (some .int), 1, 6, [785, 784, 40, 89]),
  (yX6_hold, cX6_hold, 2, none, 0, 6, [886, 885, 57, 89]),
  (yX6_push, cX6_push, 2, none, 0, 6, [890, 889, 58, 89]),
  (yX6_back, cX6_back, 2, (some .int), 0, 6, [780, 778, 779, 89]),
  (yX6_sortOf, cX6_sortOf, 1, (some .int), 1, 99, [919, 918, 0, 89]),
  (yX6_numberOf, cX6_numberOf, 1, (some .int), 1, 99, [860, 859, 0, 89]),
  (yX6_firstOf, cX6_firstOf, 1, (some .int), 1, 99, [946, 945, 0, 89]),
  (yX6_secondOf, cX6_secondOf, 1, (some .int), 1, 99, [949, 948, 0, 89]),
  (yX6_made, cX6_made, 4, (some .int), 4, 99, [838, 837, 0, 89]),
  (yX6_isTwo, cX6_isTwo, 1, (some .boolean), 1, 99, [857, 856, 0, 89]),
  (yX6_begin, cX6_begin, 4, (some .int), 1, 6, [908, 907, 60, 89]),
  (yX6_all, cX6_all, 1, (some .int), 0, 6, [1033, 1032, 80, 89]),
  (yX6_isLine, cX6_isLine, 2, (some .boolean), 1, 6, [904, 903, 59, 89]),
  (yX6_type, cX6_type, 2, (some .int), 1, 6, [790, 788, 789, 89]),
  (yX6_clear, cX6_clear, 2, (some .int), 0, 6, [798, 796, 797, 89]),
  (yX6_here, cX6_here, 1, (some .int), 0, 6, [807, 806, 41, 89]),
  (yX6_must, cX6_must, 2, none, 1, 6, [815, 814, 43, 89]),
  (yX6_sortOfSign, cX6_sortOfSign, 1, (some .int), 1, 99, [879, 878, 0, 89]),
  (yX6_rank, cX6_rank, 1, (some .int), 1, 99, [882, 881, 0, 89]),
  (yX6_add, cX6_add, 2, (some .int), 1, 6, [827, 826, 46, 89]),
  (yX6_pushPart, cX6_pushPart, 3, none, 2, 6, [842, 841, 49, 89]),
  (yX6_pushSign, cX6_pushSign, 3, none, 2, 6, [823, 822, 45, 89]),
  (yX6_topSign, cX6_topSign, 1, (some .int), 0, 6, [850, 849, 51, 89]),
  (yX6_close, cX6_close, 4, none, 0, 6, [854, 853, 52, 89]),
  (yX6_closeNots, cX6_closeNots, 1, none, 0, 6, [846, 845, 50, 89]),
  (yX6_isFigure, cX6_isFigure, 1, (some .boolean), 0, 6, [835, 834, 48, 89]),
  (yX6_readNumber, cX6_readNumber, 4, none, 0, 6, [831, 830, 47, 89]),
  (yX6_isUnit, cX6_isUnit, 2, (some .boolean), 0, 6, [819, 818, 44, 89]),
  (yX6_closeAll, cX6_closeAll, 1, none, 0, 6, [872, 871, 55, 89]),
  (yX6_readFirst, cX6_readFirst, 3, none, 0, 6, [868, 867, 54, 89]),
  (yX6_readSet, cX6_readSet, 5, none, 1, 6, [876, 875, 56, 89]),
  (yX6_isDue, cX6_isDue, 3, (some .boolean), 0, 6, [864, 863, 53, 89]),
  (yX6_readLine, cX6_readLine, 3, none, 0, 6, [811, 810, 42, 89]),
  (yX6_reads, cX6_reads, 2, (some .int), 0, 6, [802, 800, 801, 89]),
  (yX6_value, cX6_value, 4, (some .int), 2, 6, [894, 892, 893, 89]),
  (yX6_drops, cX6_drops, 5, (some .int), 1, 6, [900, 898, 899, 89]),
  (yX6_ofLine, cX6_ofLine, 7, (some .int), 2, 6, [916, 915, 61, 89]),
  (yX6_line, cX6_line, 3, (some .int), 2, 6, [912, 910, 911, 89]),
  (yX6_node, cX6_node, 2, (some .int), 1, 6, [943, 942, 66, 89]),
  (yX6_ask, cX6_ask, 3, none, 2, 6, [973, 972, 72, 89]),
  (yX6_yields, cX6_yields, 2, none, 1, 6, [961, 960, 69, 89]),
  (yX6_hasNone, cX6_hasNone, 1, none, 0, 6, [965, 964, 70, 89]),
  (yX6_isDoneBy, cX6_isDoneBy, 5, (some .boolean), 3, 99, [988, 987, 0, 89]),
  (yX6_doneBy, cX6_doneBy, 3, (some .int), 3, 99, [993, 992, 0, 89]),
  (yX6_asked, cX6_asked, 4, none, 1, 6, [957, 956, 68, 89]),
  (yX6_askedFirst, cX6_askedFirst, 3, none, 2, 6, [969, 968, 71, 89]),
  (yX6_askedRange, cX6_askedRange, 3, none, 2, 6, [977, 976, 73, 89]),
  (yX6_toldTo, cX6_toldTo, 5, none, 2, 6, [981, 980, 74, 89]),
  (yX6_toldSecond, cX6_toldSecond, 4, none, 3, 6, [985, 984, 75, 89]),
  (yX6_endedTo, cX6_endedTo, 4, none, 1, 6, [997, 996, 76, 89]),
  (yX6_beginLine, cX6_beginLine, 4, none, 1, 6, [939, 938, 65, 89]),
  (yX6_isNext, cX6_isNext, 2, (some .boolean), 1, 6, [953, 952, 67, 89]),
  (yX6_goLine, cX6_goLine, 5, none, 2, 6, [935, 934, 64, 89]),
  (yX6_takeValues, cX6_takeValues, 2, none, 0, 6, [931, 930, 63, 89]),
  (yX6_go, cX6_go, 2, none, 0, 6, [927, 926, 62, 89]),
  (yX6_ran, cX6_ran, 4, (some .int), 1, 6, [1001, 1000, 77, 89]),
  (yX6_run, cX6_run, 2, (some .int), 1, 6, [923, 921, 922, 89]),
  (yX6_said, cX6_said, 2, (some .int), 1, 6, [1005, 1003, 1004, 89]),
  (yX6_didOf, cX6_didOf, 5, (some .int), 2, 6, [1013, 1012, 78, 89]),
  (yX6_did, cX6_did, 3, (some .int), 2, 6, [1009, 1007, 1008, 89]),
  (yX6_ends, cX6_ends, 2, (some .int), 1, 6, [1017, 1015, 1016, 89]),
  (yX6_alone, cX6_alone, 3, (some .int), 2, 6, [1021, 1019, 1020, 89]),
  (yX6_toldOf, cX6_toldOf, 2, (some .int), 1, 6, [1029, 1028, 79, 89]),
  (yX6_told, cX6_told, 2, (some .int), 1, 6, [1025, 1023, 1024, 89]),
  (yX6_mix, cX6_mix, 2, none, 1, 6, [1042, 1041, 81, 89]),
  (yX6_digest, cX6_digest, 3, (some .long), 0, 6, [1037, 1035, 1036, 89]),
  (yJ9_floorMod_7cf53, cJ9_floorMod_7cf53, 3, (some .int), 2, 99, [458, 457, 0, 90]),
  (yJ9_max_7cf53, cJ9_max_7cf53, 2, (some .int), 2, 99, [428, 427, 0, 90]),
  (yJ9_min_7cf53, cJ9_min_7cf53, 2, (some .int), 2, 99, [587, 586, 0, 90])]
def yGood : List Nat := [1, 2, 4, 5, 6, 7, 8, 9, 10, 11, 12, 13, 14, 15, 16, 17, 18, 20, 21, 22, 23, 24, 26, 27, 28, 29, 30, 31, 32, 33, 34, 35, 36, 37, 38, 39, 40, 41, 42, 43, 44, 45, 46, 48, 49, 50, 52, 53, 54, 55, 56, 57, 58, 59, 60, 61, 62, 63, 64, 65, 66, 67, 68, 69, 70, 71, 72, 73, 74, 75, 76, 77, 78, 80, 81, 82, 83, 84, 85, 86, 87, 88, 89, 90, 91, 92, 93, 94, 95, 96, 97, 98, 99, 100, 101, 102, 103, 104, 105, 106, 107, 108, 109, 110, 111, 112, 113, 114, 115, 116, 117, 118, 119, 120, 121, 122, 123, 124, 125, 126, 127, 128, 129, 130, 131, 132, 133, 134, 135, 136, 137, 138, 139, 140, 141, 142, 143, 144, 145, 146, 147, 148, 149]
end
section
/-! THE PURE MACHINE: its state is a number at each place of each cell; the cells' kinds and all references are fixed (ysh) -/
abbrev yS : Type := Nat → Nat → Int32
def sgA (σ : yS) (c : Nat) (f : Nat → Int32) : yS := fun c' => if c' = c then f else σ c'
def sg (σ : yS) (c k : Nat) (v : Int32) : yS := fun c' => if c' = c then upd (σ c) k v else σ c'
theorem sg_eq (σ : yS) (c k : Nat) (v : Int32) : sg σ c k v = sgA σ c (upd (σ c) k v) := rfl
def lgOf (a b : Int32) : Int64 := Int64.ofBitVec (a.toBitVec ++ b.toBitVec)
def lgHi (x : Int64) : Int32 := Int32.ofBitVec (x.toBitVec.extractLsb' 32 32)
def lgLo (x : Int64) : Int32 := Int32.ofBitVec (x.toBitVec.extractLsb' 0 32)
theorem lg_hl (x : Int64) : lgOf (lgHi x) (lgLo x) = x := by
  apply Int64.toBitVec_inj.mp
  show (x.toBitVec.extractLsb' 32 32 ++ x.toBitVec.extractLsb' 0 32) = x.toBitVec
  apply BitVec.eq_of_getLsbD_eq
  intro i hi
  rw [BitVec.getLsbD_append]
  by_cases h : i < 32
  · simp [h]
  · have : i - 32 < 32 := by omega
    simp [h, this, show 32 + (i - 32) = i by omega]
/-- a row of the method table -/
def yG (mi : Nat) : yM := yMs.getD mi (⟨"", "", ""⟩, ⟨#[]⟩, 0, none, 0, 0, [])
def yN (mi : Nat) : MethodName := (yG mi).1
def yB (mi : Nat) : ByteArray := (yG mi).2.1
def yL (mi : Nat) : Nat := (yG mi).2.2.1
def yT (mi : Nat) : Option FieldType := (yG mi).2.2.2.1
def yK (mi : Nat) : Nat := (yG mi).2.2.2.2.1
def yI (mi : Nat) : Nat := (yG mi).2.2.2.2.2.1
def yP (mi j : Nat) : Nat := (yG mi).2.2.2.2.2.2.getD j 0
/-- what a cell is in the machine's heap -/
def fv (ad : Nat → Nat) (f : Nat → Int32) (k : Nat) (fd : yF) : Value := match fd with
  | none => .int (f k)
  | some none => .long (lgOf (f k) (f (k + 1000)))
  | some (some j) => .ref (ad j)
/-- what a field is in the pure state -/
def fa (f : Nat → Int32) (k : Nat) (fd : yF) : Value := match fd with
  | none => .int (f k)
  | some none => .long (lgOf (f k) (f (k + 1000)))
  | some (some j) => .ref j
def cv (ad : Nat → Nat) (v : Value) : Value := match v with
  | .ref j => .ref (ad j)
  | w => w
theorem cv_fa (ad : Nat → Nat) (f : Nat → Int32) (k : Nat) (fd : yF) : cv ad (fa f k fd) = fv ad f k fd := by
  match fd with
  | none => rfl
  | some none => rfl
  | some (some j) => rfl
theorem cv_cat (ad : Nat → Nat) (v : Value) : (cv ad v).category = v.category := by cases v <;> rfl
def cellOf (ad : Nat → Nat) (ty : Nat → ClassId) (f : Nat → Int32) (d : yC) : va_E := match d with
  | .inl q => .inl (ty q.1, q.2, .inl f)
  | .inr (.inl q) => .inl (ty 2, q.1, .inr (.inr (.inr (.inr (fun i => (q.2[i]?).map ad)))))
  | .inr (.inr q) => .inr (q.1, q.2.mapIdx (fun k fd => fv ad f k fd))
def wd (ad : Nat → Nat) (ty : Nat → ClassId) (σ : yS) : va_W := ysh.mapIdx (fun c d => (ad c, cellOf ad ty (σ c) d))
theorem wd_at {ad : Nat → Nat} {ty : Nat → ClassId} {σ : yS} {c : Nat} {d : yC} (h : ysh[c]? = some d) : (wd ad ty σ)[c]? = some (ad c, cellOf ad ty (σ c) d) := by
  rw [wd, List.getElem?_mapIdx, h]; rfl
theorem wd_set {ad : Nat → Nat} {ty : Nat → ClassId} {σ : yS} {c : Nat} {d : yC} {f : Nat → Int32} {e : va_E} (h : ysh[c]? = some d) (he : cellOf ad ty f d = e) : (wd ad ty σ).set c (ad c, e) = wd ad ty (sgA σ c f) := by
  apply List.ext_getElem?
  intro j
  rw [List.getElem?_set, wd, wd, List.getElem?_mapIdx, List.getElem?_mapIdx, List.length_mapIdx]
  by_cases hj : c = j
  · subst hj
    have hl : c < ysh.length := (List.getElem?_eq_some_iff.mp h).1
    rw [if_pos rfl, if_pos hl, h, ← he]
    simp [sgA]
  · rw [if_neg hj]
    cases ysh[j]? with
    | none => rfl
    | some d2 => simp [sgA, Ne.symm hj]
theorem fv_set {ad : Nat → Nat} {f : Nat → Int32} {fds : List yF} {k : Nat} {x : Int32} (h : fds[k]? = some none) (hk : k < 1000) : fds.mapIdx (fun k fd => fv ad (upd f k x) k fd) = fds.mapIdx (fun k fd => fv ad (upd f k x) k fd) := rfl
theorem fv_put {ad : Nat → Nat} {f : Nat → Int32} {fds : List yF} {k : Nat} {x : Int32} (h : fds[k]? = some none) (hk : k < 1000) : (fds.mapIdx (fun j fd => fv ad f j fd)).set k (.int x) = fds.mapIdx (fun j fd => fv ad (upd f k x) j fd) := by
  apply List.ext_getElem?
  intro j
  rw [List.getElem?_set, List.getElem?_mapIdx, List.getElem?_mapIdx, List.length_mapIdx]
  by_cases hj : k = j
  · subst hj
    have hl : k < fds.length := (List.getElem?_eq_some_iff.mp h).1
    rw [if_pos rfl, if_pos hl, h]
    simp [fv, upd]
  · rw [if_neg hj]
    cases hf : fds[j]? with
    | none => rfl
    | some d2 =>
      match d2 with
      | none => simp [fv, upd, Ne.symm hj]
      | some none => simp [fv, upd, Ne.symm hj]; congr 1; rw [if_neg (by omega)]
      | some (some i) => simp [fv]
theorem fv_putL {ad : Nat → Nat} {f : Nat → Int32} {fds : List yF} {k : Nat} {x : Int64} (h : fds[k]? = some (some none)) (hl2 : fds.length ≤ 1000) : (fds.mapIdx (fun j fd => fv ad f j fd)).set k (.long x) = fds.mapIdx (fun j fd => fv ad (upd (upd f k (lgHi x)) (k + 1000) (lgLo x)) j fd) := by
  apply List.ext_getElem?
  intro j
  have hl : k < fds.length := (List.getElem?_eq_some_iff.mp h).1
  rw [List.getElem?_set, List.getElem?_mapIdx, List.getElem?_mapIdx, List.length_mapIdx]
  by_cases hj : k = j
  · subst hj
    rw [if_pos rfl, if_pos hl, h]
    simp [fv, upd, lg_hl]
  · rw [if_neg hj]
    cases hf : fds[j]? with
    | none => rfl
    | some d2 =>
      have hl3 : j < fds.length := (List.getElem?_eq_some_iff.mp hf).1
      match d2 with
      | none => simp [fv, upd, Ne.symm hj, show ¬ j = k + 1000 by omega]
      | some none => simp [fv, upd, Ne.symm hj, show ¬ j = k + 1000 by omega, show ¬ j + 1000 = k by omega]
      | some (some i) => simp [fv]
/-- the locals -/
def yLs (ad : Nat → Nat) (ls : Array Slot) (n : Nat) (L : List (Option Value)) : Prop := ls.size = n ∧ lv_wf ls ∧ ∀ (k : Nat) (v : Value), L[k]? = some (some v) → ls[k]? = some (.val (cv ad v))
def asc (ad : Nat → Nat) (L : List (Option Value)) : List (Nat × Value) := (List.range L.length).filterMap (fun k => match L[k]? with
  | some (some v) => some (k, cv ad v)
  | _ => none)
theorem asc_mem {ad : Nat → Nat} {L : List (Option Value)} {k : Nat} {w : Value} : (k, w) ∈ asc ad L ↔ ∃ v, L[k]? = some (some v) ∧ w = cv ad v := by
  unfold asc
  rw [List.mem_filterMap]
  constructor
  · rintro ⟨j, hj, h⟩
    split at h
    · rename_i v hv
      simp only [Option.some.injEq, Prod.mk.injEq] at h
      obtain ⟨rfl, rfl⟩ := h
      exact ⟨v, hv, rfl⟩
    · cases h
  · rintro ⟨v, hv, rfl⟩
    refine ⟨k, List.mem_range.mpr (List.getElem?_eq_some_iff.mp hv).1, ?_⟩
    rw [hv]
theorem yLs.has {ad : Nat → Nat} {ls : Array Slot} {n : Nat} {L : List (Option Value)} (h : yLs ad ls n L) : lv_has ls n (asc ad L) := ⟨h.1, h.2.1, fun q hq => by
  obtain ⟨k, w⟩ := q
  obtain ⟨v, hv, rfl⟩ := asc_mem.mp hq
  exact h.2.2 k v hv⟩
/-- the slot before place i holds no long -/
def okAt (L : List (Option Value)) (i : Nat) : Bool := match i with
  | 0 => true
  | j + 1 => match L[j]? with
    | some (some (.long _)) => false
    | some (some (.double _)) => false
    | _ => true
theorem okAt_cat {L : List (Option Value)} {j : Nat} {v : Value} (h : okAt L (j + 1) = true) (hv : L[j]? = some (some v)) : v.category = 1 := by
  simp only [okAt, hv] at h
  cases v <;> first | rfl | cases h
theorem yLs.store {ad : Nat → Nat} {ls : Array Slot} {n : Nat} {L : List (Option Value)} {i : Nat} {v : Value} (hok : okAt L i = true)
    (h : lv_has ls n ((i, cv ad v) :: (asc ad L).filter (fun q => !(q.1 == i) && !(q.1 + 1 == i && q.2.category == 2)))) : yLs ad ls n (L.set i (some v)) := by
  refine ⟨h.1, h.2.1, fun k w hw => ?_⟩
  rw [List.getElem?_set] at hw
  by_cases hk : i = k
  · subst hk
    rw [if_pos rfl] at hw
    split at hw
    · simp only [Option.some.injEq] at hw
      subst hw
      exact h.2.2 (i, cv ad v) List.mem_cons_self
    · cases hw
  · rw [if_neg hk] at hw
    refine h.2.2 (k, cv ad w) (List.mem_cons_of_mem _ (List.mem_filter.mpr ⟨asc_mem.mpr ⟨w, hw, rfl⟩, ?_⟩))
    have h1 : ¬ k = i := Ne.symm hk
    simp only [Bool.and_eq_true, Bool.not_eq_true', beq_eq_false_iff_ne, Bool.and_eq_false_iff]
    refine ⟨h1, ?_⟩
    by_cases h2 : k + 1 = i
    · subst h2
      right
      rw [cv_cat, okAt_cat hok hw]
      decide
    · exact Or.inl h2
theorem yLs.store2 {ad : Nat → Nat} {ls : Array Slot} {n : Nat} {L : List (Option Value)} {i : Nat} {v : Value} (hok : okAt L i = true)
    (h : lv_has ls n ((i, cv ad v) :: (asc ad L).filter (fun q => !(q.1 == i) && (!(q.1 == i + 1) && !(q.1 + 1 == i && q.2.category == 2))))) : yLs ad ls n ((L.set i (some v)).set (i + 1) none) := by
  refine ⟨h.1, h.2.1, fun k w hw => ?_⟩
  rw [List.getElem?_set] at hw
  by_cases hk0 : i + 1 = k
  · rw [if_pos hk0] at hw
    split at hw <;> cases hw
  rw [if_neg hk0, List.getElem?_set] at hw
  by_cases hk : i = k
  · subst hk
    rw [if_pos rfl] at hw
    split at hw
    · simp only [Option.some.injEq] at hw
      subst hw
      exact h.2.2 (i, cv ad v) List.mem_cons_self
    · cases hw
  · rw [if_neg hk] at hw
    refine h.2.2 (k, cv ad w) (List.mem_cons_of_mem _ (List.mem_filter.mpr ⟨asc_mem.mpr ⟨w, hw, rfl⟩, ?_⟩))
    have h1 : ¬ k = i := Ne.symm hk
    simp only [Bool.and_eq_true, Bool.not_eq_true', beq_eq_false_iff_ne, Bool.and_eq_false_iff]
    refine ⟨h1, Ne.symm hk0, ?_⟩
    by_cases h2 : k + 1 = i
    · subst h2
      right
      rw [cv_cat, okAt_cat hok hw]
      decide
    · exact Or.inl h2
/-- a method's arguments as locals -/
def sl (vs : List Value) : List (Option Value) := vs.flatMap (fun v => if v.category = 2 then [some v, none] else [some v])
def ent (n : Nat) (vs : List Value) : List (Option Value) := sl vs ++ List.replicate (n - (sl vs).length) none
def slS (ad : Nat → Nat) (o : Option Value) : Slot := match o with
  | some v => .val (cv ad v)
  | none => .second
theorem sl_lg (ad : Nat → Nat) (vs : List Value) : lg_sl (vs.map (cv ad)) = (sl vs).map (slS ad) := by
  induction vs with
  | nil => rfl
  | cons v vs ih =>
    have e1 : lg_sl ((v :: vs).map (cv ad)) = (if (cv ad v).category = 2 then [.val (cv ad v), .second] else [.val (cv ad v)]) ++ lg_sl (vs.map (cv ad)) := rfl
    have e2 : sl (v :: vs) = (if v.category = 2 then [some v, none] else [some v]) ++ sl vs := rfl
    rw [e1, e2, ih, List.map_append, cv_cat]
    congr 1
    split <;> rfl
theorem ent_ok {ad : Nat → Nat} {vs : List Value} {n : Nat} (h : (sl vs).length ≤ n) : yLs ad ((lg_sl (vs.map (cv ad)) ++ List.replicate (n - (lg_sl (vs.map (cv ad))).length) Slot.unset).toArray) n (ent n vs) := by
  have hl : (lg_sl (vs.map (cv ad))).length = (sl vs).length := by rw [sl_lg, List.length_map]
  have h0 := lv_entry (vs.map (cv ad)) (n := n) (by rw [hl]; exact h)
  refine ⟨h0.1, h0.2.1, fun k v hk => ?_⟩
  rw [ent] at hk
  have hlt : k < (sl vs).length := by
    rcases Nat.lt_or_ge k (sl vs).length with q | q
    · exact q
    · rw [List.getElem?_append_right q, List.getElem?_replicate] at hk
      split at hk <;> cases hk
  rw [List.getElem?_append_left hlt] at hk
  rw [List.getElem?_toArray, List.getElem?_append_left (by rw [hl]; exact hlt), sl_lg, List.getElem?_map, hk]
  rfl
end
section
/-! THE JUDGEMENT: from a place of a method, with these locals, this stack and this state, the method comes to its end with Q; at most d frames deep -/
def tys (ty : Nat → ClassId) : List (ClassId × FieldType) := [(ty 0, .int), (ty 1, .boolean), (ty 2, .object "YieldLines$State")]
def yRm (d : Nat) : Room := { frames := d, cells := 0, slots := 0, locals := 40 * d }
/-- what holds of the machine in a method's body -/
def yX (p : Program) (s : State) (m : MethodId) (args : Array Value) (meth : Method) (c : Code) (mi : Nat) (ty : Nat → ClassId) (D : va_G) : Prop :=
  p.tables.exec = Jvm.exec ∧ c.code = yB mi ∧ meth.sig.returnType = yT mi ∧ c.maxLocals = yL mi ∧ s.vm.findClass (yN mi).cls = some m.cls ∧ (∀ w ∈ lw_tbl, goodWord w = true → w.before args s = true) ∧ (∀ (o : String) (i : Nat) (y : MethodName) (h : String), Cond.methodLinkNest o i y h ∈ lw_tbl → va_Nw (.methodLinkNest o i y h) s) ∧ meth.locks = false ∧ va_K D vwCl (tys ty) s
/-- a method's end -/
def yQ (ad : Nat → Nat) (ty : Nat → ClassId) (D : va_G) (A : Nat → Prop) (Q : Option Value → yS → Prop) : Array Value → State → Outcome → State → Prop := fun _ st oc t =>
  (∃ (r : Option Value) (σ : yS), oc = .returned (r.map (cv ad)) ∧ Q r σ ∧ va_P D vwCl (wd ad ty σ) t.heap ∧ va_D A (wd ad ty σ)) ∧ va_F A st t
def yR (d mi pc : Nat) (L : List (Option Value)) (st : List Value) (σ : yS) (Q : Option Value → yS → Prop) : Prop :=
  ∀ (l : Launch) (p : Program) (e : Env) (s : State) (m : MethodId) (args : Array Value) (below : List Frame) (meth : Method) (c : Code) (ad : Nat → Nat) (ty : Nat → ClassId) (D : va_G) (A : Nat → Prop) (H : Heap) (locs : List Loc) (ls : Array Slot),
    yX p s m args meth c mi ty D → va_P D vwCl (wd ad ty σ) H → va_D A (wd ad ty σ) → va_S A s.heap H locs → yLs ad ls (yL mi) L →
    W p l e (yRm d) s m args below meth c H locs 0 0 (MQ below (yQ ad ty D A Q) args s 0 0 A) (F0 m pc ls (st.map (cv ad)))
theorem yR.mono {d mi pc : Nat} {L : List (Option Value)} {st : List Value} {σ : yS} {Q Q' : Option Value → yS → Prop} (h : yR d mi pc L st σ Q) (hq : ∀ r τ, Q r τ → Q' r τ) : yR d mi pc L st σ Q' := by
  intro l p e s m args below meth c ad ty D A H locs ls X hP hD hS hl T hT X0
  obtain ⟨t, a1, o, b1, b2, ⟨⟨r, τ, c1, c2, c3⟩, c4⟩, b4⟩ := h l p e s m args below meth c ad ty D A H locs ls X hP hD hS hl T hT X0
  exact ⟨t, a1, o, b1, b2, ⟨⟨r, τ, c1, hq r τ c2, c3⟩, c4⟩, b4⟩
section YR
variable {d mi pc : Nat} {L : List (Option Value)} {r : List Value} {σ : yS} {Q : Option Value → yS → Prop}
theorem yr_iconst {n : Int} {v : Int32} (hd : decode (yB mi) pc = .ok (.iconst n, 1)) (hv : Int32.ofInt n = v) (h : yR d mi (pc + 1) L (.int v :: r) σ Q) : yR d mi pc L r σ Q := by
  intro l p e s m args below meth c ad ty D A H locs ls X hP hD hS hl
  exact lv_iconst X.1 X.2.1 hd hv (h l p e s m args below meth c ad ty D A H locs ls X hP hD hS hl)
theorem yr_bipush {n : Int} {v : Int32} (hd : decode (yB mi) pc = .ok (.bipush n, 2)) (hv : (Int8.ofInt n).toInt32 = v) (h : yR d mi (pc + 2) L (.int v :: r) σ Q) : yR d mi pc L r σ Q := by
  intro l p e s m args below meth c ad ty D A H locs ls X hP hD hS hl
  exact lv_bipush X.1 X.2.1 hd hv (h l p e s m args below meth c ad ty D A H locs ls X hP hD hS hl)
theorem yr_sipush {n : Int} {v : Int32} (hd : decode (yB mi) pc = .ok (.sipush n, 3)) (hv : (Int16.ofInt n).toInt32 = v) (h : yR d mi (pc + 3) L (.int v :: r) σ Q) : yR d mi pc L r σ Q := by
  intro l p e s m args below meth c ad ty D A H locs ls X hP hD hS hl
  exact lv_sipush X.1 X.2.1 hd hv (h l p e s m args below meth c ad ty D A H locs ls X hP hD hS hl)
theorem yr_ldc {i : Nat} {v : Int32} (hd : decode (yB mi) pc = .ok (.ldc i, 2)) (hv : Cond.constant (yN mi).cls i v ∈ lw_tbl) (h : yR d mi (pc + 2) L (.int v :: r) σ Q) : yR d mi pc L r σ Q := by
  intro l p e s m args below meth c ad ty D A H locs ls X hP hD hS hl
  exact lv_ldc X.1 X.2.1 X.2.2.2.2.1 (X.2.2.2.2.2.1 _ hv rfl) hd (h l p e s m args below meth c ad ty D A H locs ls X hP hD hS hl)
theorem yr_ldc2 {i : Nat} {v : Int64} (hd : decode (yB mi) pc = .ok (.ldc2_w i, 3)) (hv : Cond.constantLong (yN mi).cls i v ∈ lw_tbl) (h : yR d mi (pc + 3) L (.long v :: r) σ Q) : yR d mi pc L r σ Q := by
  intro l p e s m args below meth c ad ty D A H locs ls X hP hD hS hl
  exact lv_ldc2 X.1 X.2.1 X.2.2.2.2.1 (X.2.2.2.2.2.1 _ hv rfl) hd (h l p e s m args below meth c ad ty D A H locs ls X hP hD hS hl)
theorem yr_iload_n {k : Fin 4} {x : Int32} (hd : decode (yB mi) pc = .ok (.iload_n k, 1)) (hv : L[(k : Nat)]? = some (some (.int x))) (h : yR d mi (pc + 1) L (.int x :: r) σ Q) : yR d mi pc L r σ Q := by
  intro l p e s m args below meth c ad ty D A H locs ls X hP hD hS hl
  exact lv_iload_n X.1 X.2.1 hd rfl (hl.2.2 _ _ hv) (h l p e s m args below meth c ad ty D A H locs ls X hP hD hS hl)
theorem yr_iload {k : Nat} {x : Int32} (hd : decode (yB mi) pc = .ok (.iload k, 2)) (hv : L[k]? = some (some (.int x))) (h : yR d mi (pc + 2) L (.int x :: r) σ Q) : yR d mi pc L r σ Q := by
  intro l p e s m args below meth c ad ty D A H locs ls X hP hD hS hl
  exact lv_iload X.1 X.2.1 hd (hl.2.2 _ _ hv) (h l p e s m args below meth c ad ty D A H locs ls X hP hD hS hl)
theorem yr_lload_n {k : Fin 4} {x : Int64} (hd : decode (yB mi) pc = .ok (.lload_n k, 1)) (hv : L[(k : Nat)]? = some (some (.long x))) (h : yR d mi (pc + 1) L (.long x :: r) σ Q) : yR d mi pc L r σ Q := by
  intro l p e s m args below meth c ad ty D A H locs ls X hP hD hS hl
  exact lv_lload_n X.1 X.2.1 hd rfl (hl.2.2 _ _ hv) (h l p e s m args below meth c ad ty D A H locs ls X hP hD hS hl)
theorem yr_lload {k : Nat} {x : Int64} (hd : decode (yB mi) pc = .ok (.lload k, 2)) (hv : L[k]? = some (some (.long x))) (h : yR d mi (pc + 2) L (.long x :: r) σ Q) : yR d mi pc L r σ Q := by
  intro l p e s m args below meth c ad ty D A H locs ls X hP hD hS hl
  exact lv_lload X.1 X.2.1 hd (hl.2.2 _ _ hv) (h l p e s m args below meth c ad ty D A H locs ls X hP hD hS hl)
theorem yr_aload_n {k : Fin 4} {x : Nat} (hd : decode (yB mi) pc = .ok (.aload_n k, 1)) (hv : L[(k : Nat)]? = some (some (.ref x))) (h : yR d mi (pc + 1) L (.ref x :: r) σ Q) : yR d mi pc L r σ Q := by
  intro l p e s m args below meth c ad ty D A H locs ls X hP hD hS hl
  exact lv_aload_n X.1 X.2.1 hd rfl (hl.2.2 _ _ hv) (h l p e s m args below meth c ad ty D A H locs ls X hP hD hS hl)
theorem yr_istore_n {k : Fin 4} {x : Int32} (hd : decode (yB mi) pc = .ok (.istore_n k, 1)) (hk : (k : Nat) < yL mi) (hok : okAt L k = true) (h : yR d mi (pc + 1) (L.set k (some (.int x))) r σ Q) : yR d mi pc L (.int x :: r) σ Q := by
  intro l p e s m args below meth c ad ty D A H locs ls X hP hD hS hl
  exact lv_istore_n X.1 X.2.1 hd rfl hl.has hk rfl (fun ls' hl' => h l p e s m args below meth c ad ty D A H locs ls' X hP hD hS (yLs.store (v := .int x) hok hl'))
theorem yr_istore {k : Nat} {x : Int32} (hd : decode (yB mi) pc = .ok (.istore k, 2)) (hk : k < yL mi) (hok : okAt L k = true) (h : yR d mi (pc + 2) (L.set k (some (.int x))) r σ Q) : yR d mi pc L (.int x :: r) σ Q := by
  intro l p e s m args below meth c ad ty D A H locs ls X hP hD hS hl
  exact lv_istore X.1 X.2.1 hd hl.has hk rfl (fun ls' hl' => h l p e s m args below meth c ad ty D A H locs ls' X hP hD hS (yLs.store (v := .int x) hok hl'))
theorem yr_astore_n {k : Fin 4} {x : Nat} (hd : decode (yB mi) pc = .ok (.astore_n k, 1)) (hk : (k : Nat) < yL mi) (hok : okAt L k = true) (h : yR d mi (pc + 1) (L.set k (some (.ref x))) r σ Q) : yR d mi pc L (.ref x :: r) σ Q := by
  intro l p e s m args below meth c ad ty D A H locs ls X hP hD hS hl
  exact lv_astore_n X.1 X.2.1 hd rfl hl.has hk rfl (fun ls' hl' => h l p e s m args below meth c ad ty D A H locs ls' X hP hD hS (yLs.store (v := .ref x) hok hl'))
theorem yr_lstore_n {k : Fin 4} {x : Int64} (hd : decode (yB mi) pc = .ok (.lstore_n k, 1)) (hk : (k : Nat) + 1 < yL mi) (hok : okAt L k = true) (h : yR d mi (pc + 1) ((L.set k (some (.long x))).set (k + 1) none) r σ Q) : yR d mi pc L (.long x :: r) σ Q := by
  intro l p e s m args below meth c ad ty D A H locs ls X hP hD hS hl
  exact lv_lstore_n X.1 X.2.1 hd rfl hl.has hk rfl (fun ls' hl' => h l p e s m args below meth c ad ty D A H locs ls' X hP hD hS (yLs.store2 (v := .long x) hok hl'))
theorem yr_lstore {k : Nat} {x : Int64} (hd : decode (yB mi) pc = .ok (.lstore k, 2)) (hk : k + 1 < yL mi) (hok : okAt L k = true) (h : yR d mi (pc + 2) ((L.set k (some (.long x))).set (k + 1) none) r σ Q) : yR d mi pc L (.long x :: r) σ Q := by
  intro l p e s m args below meth c ad ty D A H locs ls X hP hD hS hl
  exact lv_lstore X.1 X.2.1 hd hl.has hk rfl (fun ls' hl' => h l p e s m args below meth c ad ty D A H locs ls' X hP hD hS (yLs.store2 (v := .long x) hok hl'))
theorem yr_iinc {k : Nat} {n : Int} {x v : Int32} (hd : decode (yB mi) pc = .ok (.iinc k n, 3)) (hn : Int32.ofInt n = v) (hk : k < yL mi) (hok : okAt L k = true) (hv : L[k]? = some (some (.int x))) (h : yR d mi (pc + 3) (L.set k (some (.int (x + v)))) r σ Q) : yR d mi pc L r σ Q := by
  intro l p e s m args below meth c ad ty D A H locs ls X hP hD hS hl
  obtain ⟨j, hj⟩ := List.getElem?_of_mem (asc_mem (ad := ad) (k := k) (w := .int x) |>.mpr ⟨_, hv, rfl⟩)
  exact lv_iinc X.1 X.2.1 hd hl.has hj (by rw [hn]) hk rfl (fun ls' hl' => h l p e s m args below meth c ad ty D A H locs ls' X hP hD hS (yLs.store (v := .int (x + v)) hok hl'))
theorem yr_iadd {x y : Int32} (hd : decode (yB mi) pc = .ok (.iadd, 1)) (h : yR d mi (pc + 1) L (.int (x + y) :: r) σ Q) : yR d mi pc L (.int y :: .int x :: r) σ Q := by
  intro l p e s m args below meth c ad ty D A H locs ls X hP hD hS hl
  exact lv_iadd X.1 X.2.1 hd (h l p e s m args below meth c ad ty D A H locs ls X hP hD hS hl)
theorem yr_isub {x y : Int32} (hd : decode (yB mi) pc = .ok (.isub, 1)) (h : yR d mi (pc + 1) L (.int (x - y) :: r) σ Q) : yR d mi pc L (.int y :: .int x :: r) σ Q := by
  intro l p e s m args below meth c ad ty D A H locs ls X hP hD hS hl
  exact lv_isub X.1 X.2.1 hd (h l p e s m args below meth c ad ty D A H locs ls X hP hD hS hl)
theorem yr_imul {x y : Int32} (hd : decode (yB mi) pc = .ok (.imul, 1)) (h : yR d mi (pc + 1) L (.int (x * y) :: r) σ Q) : yR d mi pc L (.int y :: .int x :: r) σ Q := by
  intro l p e s m args below meth c ad ty D A H locs ls X hP hD hS hl
  exact lv_imul X.1 X.2.1 hd (h l p e s m args below meth c ad ty D A H locs ls X hP hD hS hl)
theorem yr_iand {x y : Int32} (hd : decode (yB mi) pc = .ok (.iand, 1)) (h : yR d mi (pc + 1) L (.int (x &&& y) :: r) σ Q) : yR d mi pc L (.int y :: .int x :: r) σ Q := by
  intro l p e s m args below meth c ad ty D A H locs ls X hP hD hS hl
  exact lv_iand X.1 X.2.1 hd (h l p e s m args below meth c ad ty D A H locs ls X hP hD hS hl)
theorem yr_ior {x y : Int32} (hd : decode (yB mi) pc = .ok (.ior, 1)) (h : yR d mi (pc + 1) L (.int (x ||| y) :: r) σ Q) : yR d mi pc L (.int y :: .int x :: r) σ Q := by
  intro l p e s m args below meth c ad ty D A H locs ls X hP hD hS hl
  exact lv_ior X.1 X.2.1 hd (h l p e s m args below meth c ad ty D A H locs ls X hP hD hS hl)
theorem yr_ixor {x y : Int32} (hd : decode (yB mi) pc = .ok (.ixor, 1)) (h : yR d mi (pc + 1) L (.int (x ^^^ y) :: r) σ Q) : yR d mi pc L (.int y :: .int x :: r) σ Q := by
  intro l p e s m args below meth c ad ty D A H locs ls X hP hD hS hl
  exact lv_ixor X.1 X.2.1 hd (h l p e s m args below meth c ad ty D A H locs ls X hP hD hS hl)
theorem yr_ishl {x y : Int32} (hd : decode (yB mi) pc = .ok (.ishl, 1)) (h : yR d mi (pc + 1) L (.int (x <<< (y &&& 31)) :: r) σ Q) : yR d mi pc L (.int y :: .int x :: r) σ Q := by
  intro l p e s m args below meth c ad ty D A H locs ls X hP hD hS hl
  exact lv_ishl X.1 X.2.1 hd (h l p e s m args below meth c ad ty D A H locs ls X hP hD hS hl)
theorem yr_ishr {x y : Int32} (hd : decode (yB mi) pc = .ok (.ishr, 1)) (h : yR d mi (pc + 1) L (.int (x >>> (y &&& 31)) :: r) σ Q) : yR d mi pc L (.int y :: .int x :: r) σ Q := by
  intro l p e s m args below meth c ad ty D A H locs ls X hP hD hS hl
  exact lv_ishr X.1 X.2.1 hd (h l p e s m args below meth c ad ty D A H locs ls X hP hD hS hl)
theorem yr_irem {x y : Int32} (hd : decode (yB mi) pc = .ok (.irem, 1)) (hne : ¬ y = 0) (h : yR d mi (pc + 1) L (.int (x - x / y * y) :: r) σ Q) : yR d mi pc L (.int y :: .int x :: r) σ Q := by
  intro l p e s m args below meth c ad ty D A H locs ls X hP hD hS hl
  exact lv_irem X.1 X.2.1 hd hne (h l p e s m args below meth c ad ty D A H locs ls X hP hD hS hl)
theorem yr_ladd {x y : Int64} (hd : decode (yB mi) pc = .ok (.ladd, 1)) (h : yR d mi (pc + 1) L (.long (x + y) :: r) σ Q) : yR d mi pc L (.long y :: .long x :: r) σ Q := by
  intro l p e s m args below meth c ad ty D A H locs ls X hP hD hS hl
  exact lv_ladd X.1 X.2.1 hd (h l p e s m args below meth c ad ty D A H locs ls X hP hD hS hl)
theorem yr_lsub {x y : Int64} (hd : decode (yB mi) pc = .ok (.lsub, 1)) (h : yR d mi (pc + 1) L (.long (x - y) :: r) σ Q) : yR d mi pc L (.long y :: .long x :: r) σ Q := by
  intro l p e s m args below meth c ad ty D A H locs ls X hP hD hS hl
  exact lv_lsub X.1 X.2.1 hd (h l p e s m args below meth c ad ty D A H locs ls X hP hD hS hl)
theorem yr_lmul {x y : Int64} (hd : decode (yB mi) pc = .ok (.lmul, 1)) (h : yR d mi (pc + 1) L (.long (x * y) :: r) σ Q) : yR d mi pc L (.long y :: .long x :: r) σ Q := by
  intro l p e s m args below meth c ad ty D A H locs ls X hP hD hS hl
  exact lv_lmul X.1 X.2.1 hd (h l p e s m args below meth c ad ty D A H locs ls X hP hD hS hl)
theorem yr_i2l {x : Int32} (hd : decode (yB mi) pc = .ok (.i2l, 1)) (h : yR d mi (pc + 1) L (.long x.toInt64 :: r) σ Q) : yR d mi pc L (.int x :: r) σ Q := by
  intro l p e s m args below meth c ad ty D A H locs ls X hP hD hS hl
  exact lv_i2l X.1 X.2.1 hd rfl (h l p e s m args below meth c ad ty D A H locs ls X hP hD hS hl)
theorem yr_l2i {x : Int64} (hd : decode (yB mi) pc = .ok (.l2i, 1)) (h : yR d mi (pc + 1) L (.int x.toInt32 :: r) σ Q) : yR d mi pc L (.long x :: r) σ Q := by
  intro l p e s m args below meth c ad ty D A H locs ls X hP hD hS hl
  exact lv_l2i X.1 X.2.1 hd rfl (h l p e s m args below meth c ad ty D A H locs ls X hP hD hS hl)
theorem yr_lcmp {x y : Int64} (hd : decode (yB mi) pc = .ok (.lcmp, 1)) (h : yR d mi (pc + 1) L (.int (lg_cmp x y) :: r) σ Q) : yR d mi pc L (.long y :: .long x :: r) σ Q := by
  intro l p e s m args below meth c ad ty D A H locs ls X hP hD hS hl
  exact W.lcmp X.1 X.2.1 hd (h l p e s m args below meth c ad ty D A H locs ls X hP hD hS hl)
theorem yr_dup {v : Value} (hd : decode (yB mi) pc = .ok (.dup, 1)) (hv : v.category = 1) (h : yR d mi (pc + 1) L (v :: v :: r) σ Q) : yR d mi pc L (v :: r) σ Q := by
  intro l p e s m args below meth c ad ty D A H locs ls X hP hD hS hl
  exact lv_dup X.1 X.2.1 hd (by rw [cv_cat]; exact hv) (h l p e s m args below meth c ad ty D A H locs ls X hP hD hS hl)
theorem yr_dup2 {v w : Value} (hd : decode (yB mi) pc = .ok (.dup2, 1)) (hv : v.category = 1) (hw : w.category = 1) (h : yR d mi (pc + 1) L (v :: w :: v :: w :: r) σ Q) : yR d mi pc L (v :: w :: r) σ Q := by
  intro l p e s m args below meth c ad ty D A H locs ls X hP hD hS hl
  exact lv_dup2_11 X.1 X.2.1 hd (by rw [cv_cat]; exact hv) (by rw [cv_cat]; exact hw) (h l p e s m args below meth c ad ty D A H locs ls X hP hD hS hl)
theorem yr_goto {off : Int} {t : Nat} (hd : decode (yB mi) pc = .ok (.goto off, 3)) (ht : (pc : Int) + off = (t : Int)) (h : yR d mi t L r σ Q) : yR d mi pc L r σ Q := by
  intro l p e s m args below meth c ad ty D A H locs ls X hP hD hS hl
  exact lv_goto X.1 X.2.1 hd ht (h l p e s m args below meth c ad ty D A H locs ls X hP hD hS hl)
theorem yr_ifnull {x : Nat} {off : Int} (hd : decode (yB mi) pc = .ok (.ifnull off, 3)) (h : yR d mi (pc + 3) L r σ Q) : yR d mi pc L (.ref x :: r) σ Q := by
  intro l p e s m args below meth c ad ty D A H locs ls X hP hD hS hl
  exact lv_ifnull X.1 X.2.1 hd (h l p e s m args below meth c ad ty D A H locs ls X hP hD hS hl)
theorem yr_if_eq {x : Int32} {off : Int} {t : Nat} (hd : decode (yB mi) pc = .ok (.ifCond .eq off, 3)) (ht : (pc : Int) + off = (t : Int)) (h : (x = 0 → yR d mi t L r σ Q) ∧ (¬ (x = 0) → yR d mi (pc + 3) L r σ Q)) : yR d mi pc L (.int x :: r) σ Q := by
  intro l p e s m args below meth c ad ty D A H locs ls X hP hD hS hl
  exact lv_if_eq X.1 X.2.1 hd ht (fun q => h.1 q l p e s m args below meth c ad ty D A H locs ls X hP hD hS hl) (fun q => h.2 q l p e s m args below meth c ad ty D A H locs ls X hP hD hS hl)
theorem yr_icmp_eq {x y : Int32} {off : Int} {t : Nat} (hd : decode (yB mi) pc = .ok (.if_icmp .eq off, 3)) (ht : (pc : Int) + off = (t : Int)) (h : (x = y → yR d mi t L r σ Q) ∧ (¬ (x = y) → yR d mi (pc + 3) L r σ Q)) : yR d mi pc L (.int y :: .int x :: r) σ Q := by
  intro l p e s m args below meth c ad ty D A H locs ls X hP hD hS hl
  exact lv_icmp_eq X.1 X.2.1 hd ht (fun q => h.1 q l p e s m args below meth c ad ty D A H locs ls X hP hD hS hl) (fun q => h.2 q l p e s m args below meth c ad ty D A H locs ls X hP hD hS hl)
theorem yr_if_ne {x : Int32} {off : Int} {t : Nat} (hd : decode (yB mi) pc = .ok (.ifCond .ne off, 3)) (ht : (pc : Int) + off = (t : Int)) (h : (¬ x = 0 → yR d mi t L r σ Q) ∧ (x = 0 → yR d mi (pc + 3) L r σ Q)) : yR d mi pc L (.int x :: r) σ Q := by
  intro l p e s m args below meth c ad ty D A H locs ls X hP hD hS hl
  exact lv_if_ne X.1 X.2.1 hd ht (fun q => h.1 q l p e s m args below meth c ad ty D A H locs ls X hP hD hS hl) (fun q => h.2 q l p e s m args below meth c ad ty D A H locs ls X hP hD hS hl)
theorem yr_icmp_ne {x y : Int32} {off : Int} {t : Nat} (hd : decode (yB mi) pc = .ok (.if_icmp .ne off, 3)) (ht : (pc : Int) + off = (t : Int)) (h : (¬ x = y → yR d mi t L r σ Q) ∧ (x = y → yR d mi (pc + 3) L r σ Q)) : yR d mi pc L (.int y :: .int x :: r) σ Q := by
  intro l p e s m args below meth c ad ty D A H locs ls X hP hD hS hl
  exact lv_icmp_ne X.1 X.2.1 hd ht (fun q => h.1 q l p e s m args below meth c ad ty D A H locs ls X hP hD hS hl) (fun q => h.2 q l p e s m args below meth c ad ty D A H locs ls X hP hD hS hl)
theorem yr_if_lt {x : Int32} {off : Int} {t : Nat} (hd : decode (yB mi) pc = .ok (.ifCond .lt off, 3)) (ht : (pc : Int) + off = (t : Int)) (h : (x < 0 → yR d mi t L r σ Q) ∧ (¬ (x < 0) → yR d mi (pc + 3) L r σ Q)) : yR d mi pc L (.int x :: r) σ Q := by
  intro l p e s m args below meth c ad ty D A H locs ls X hP hD hS hl
  exact lv_if_lt X.1 X.2.1 hd ht (fun q => h.1 q l p e s m args below meth c ad ty D A H locs ls X hP hD hS hl) (fun q => h.2 q l p e s m args below meth c ad ty D A H locs ls X hP hD hS hl)
theorem yr_icmp_lt {x y : Int32} {off : Int} {t : Nat} (hd : decode (yB mi) pc = .ok (.if_icmp .lt off, 3)) (ht : (pc : Int) + off = (t : Int)) (h : (x < y → yR d mi t L r σ Q) ∧ (¬ (x < y) → yR d mi (pc + 3) L r σ Q)) : yR d mi pc L (.int y :: .int x :: r) σ Q := by
  intro l p e s m args below meth c ad ty D A H locs ls X hP hD hS hl
  exact lv_icmp_lt X.1 X.2.1 hd ht (fun q => h.1 q l p e s m args below meth c ad ty D A H locs ls X hP hD hS hl) (fun q => h.2 q l p e s m args below meth c ad ty D A H locs ls X hP hD hS hl)
theorem yr_if_ge {x : Int32} {off : Int} {t : Nat} (hd : decode (yB mi) pc = .ok (.ifCond .ge off, 3)) (ht : (pc : Int) + off = (t : Int)) (h : (0 ≤ x → yR d mi t L r σ Q) ∧ (¬ (0 ≤ x) → yR d mi (pc + 3) L r σ Q)) : yR d mi pc L (.int x :: r) σ Q := by
  intro l p e s m args below meth c ad ty D A H locs ls X hP hD hS hl
  exact lv_if_ge X.1 X.2.1 hd ht (fun q => h.1 q l p e s m args below meth c ad ty D A H locs ls X hP hD hS hl) (fun q => h.2 q l p e s m args below meth c ad ty D A H locs ls X hP hD hS hl)
theorem yr_icmp_ge {x y : Int32} {off : Int} {t : Nat} (hd : decode (yB mi) pc = .ok (.if_icmp .ge off, 3)) (ht : (pc : Int) + off = (t : Int)) (h : (y ≤ x → yR d mi t L r σ Q) ∧ (¬ (y ≤ x) → yR d mi (pc + 3) L r σ Q)) : yR d mi pc L (.int y :: .int x :: r) σ Q := by
  intro l p e s m args below meth c ad ty D A H locs ls X hP hD hS hl
  exact lv_icmp_ge X.1 X.2.1 hd ht (fun q => h.1 q l p e s m args below meth c ad ty D A H locs ls X hP hD hS hl) (fun q => h.2 q l p e s m args below meth c ad ty D A H locs ls X hP hD hS hl)
theorem yr_if_gt {x : Int32} {off : Int} {t : Nat} (hd : decode (yB mi) pc = .ok (.ifCond .gt off, 3)) (ht : (pc : Int) + off = (t : Int)) (h : (0 < x → yR d mi t L r σ Q) ∧ (¬ (0 < x) → yR d mi (pc + 3) L r σ Q)) : yR d mi pc L (.int x :: r) σ Q := by
  intro l p e s m args below meth c ad ty D A H locs ls X hP hD hS hl
  exact lv_if_gt X.1 X.2.1 hd ht (fun q => h.1 q l p e s m args below meth c ad ty D A H locs ls X hP hD hS hl) (fun q => h.2 q l p e s m args below meth c ad ty D A H locs ls X hP hD hS hl)
theorem yr_icmp_gt {x y : Int32} {off : Int} {t : Nat} (hd : decode (yB mi) pc = .ok (.if_icmp .gt off, 3)) (ht : (pc : Int) + off = (t : Int)) (h : (y < x → yR d mi t L r σ Q) ∧ (¬ (y < x) → yR d mi (pc + 3) L r σ Q)) : yR d mi pc L (.int y :: .int x :: r) σ Q := by
  intro l p e s m args below meth c ad ty D A H locs ls X hP hD hS hl
  exact lv_icmp_gt X.1 X.2.1 hd ht (fun q => h.1 q l p e s m args below meth c ad ty D A H locs ls X hP hD hS hl) (fun q => h.2 q l p e s m args below meth c ad ty D A H locs ls X hP hD hS hl)
theorem yr_if_le {x : Int32} {off : Int} {t : Nat} (hd : decode (yB mi) pc = .ok (.ifCond .le off, 3)) (ht : (pc : Int) + off = (t : Int)) (h : (x ≤ 0 → yR d mi t L r σ Q) ∧ (¬ (x ≤ 0) → yR d mi (pc + 3) L r σ Q)) : yR d mi pc L (.int x :: r) σ Q := by
  intro l p e s m args below meth c ad ty D A H locs ls X hP hD hS hl
  exact lv_if_le X.1 X.2.1 hd ht (fun q => h.1 q l p e s m args below meth c ad ty D A H locs ls X hP hD hS hl) (fun q => h.2 q l p e s m args below meth c ad ty D A H locs ls X hP hD hS hl)
theorem yr_icmp_le {x y : Int32} {off : Int} {t : Nat} (hd : decode (yB mi) pc = .ok (.if_icmp .le off, 3)) (ht : (pc : Int) + off = (t : Int)) (h : (x ≤ y → yR d mi t L r σ Q) ∧ (¬ (x ≤ y) → yR d mi (pc + 3) L r σ Q)) : yR d mi pc L (.int y :: .int x :: r) σ Q := by
  intro l p e s m args below meth c ad ty D A H locs ls X hP hD hS hl
  exact lv_icmp_le X.1 X.2.1 hd ht (fun q => h.1 q l p e s m args below meth c ad ty D A H locs ls X hP hD hS hl) (fun q => h.2 q l p e s m args below meth c ad ty D A H locs ls X hP hD hS hl)
end YR
end
section
/-! rows for cells, calls, ends and switches -/
theorem mem_at {p : Nat} {w : Cond} (h : lw_tbl[p]? = some w) : w ∈ lw_tbl := List.mem_of_getElem? h
theorem vw_len : vwCl.length = 7 := rfl
/-- what the tables know of a class -/
def clOk (ci : Nat) (C : String) (T : u_T) (N : Nat) : Prop := vwCl[ci]? = some (C, T, N) ∧ (∀ w ∈ u_ws C T N, w ∈ lw_tbl) ∧ (∀ a, a < N → ∀ b, b < N → a ≠ b → (T a).2.1 ≠ (T b).2.1) ∧ ∃ ty0 : Nat → FieldType, ∀ k, k < N → parseFieldDescriptor (T k).2.2.1 = some (ty0 k)
theorem cl_ok {ci : Nat} {C : String} {T : u_T} {N : Nat} (h : vwCl[ci]? = some (C, T, N)) : clOk ci C T N := by
  refine ⟨h, ?_⟩
  match ci, h with
  | 0, h => cases h; exact ⟨inX0, nmX0, _, tyX0_ok⟩
  | 1, h => cases h; exact ⟨inX1, nmX1, _, tyX1_ok⟩
  | 2, h => cases h; exact ⟨inX2, nmX2, _, tyX2_ok⟩
  | 3, h => cases h; exact ⟨inX3, nmX3, _, tyX3_ok⟩
  | 4, h => cases h; exact ⟨inX4, nmX4, _, tyX4_ok⟩
  | 5, h => cases h; exact ⟨inX5, nmX5, _, tyX5_ok⟩
  | 6, h => cases h; exact ⟨inX6, nmX6, _, tyX6_ok⟩
  | n + 7, h => exact absurd h (by simp [vwCl])
theorem gw_lay (C : String) (T : u_T) (k : Nat) : goodWord (u_lay C T k) = true := by
  unfold u_lay; split <;> rfl
theorem filt_in {C : String} {T : u_T} {N : Nat} (h : ∀ w ∈ u_ws C T N, w ∈ lw_tbl) : ∀ w ∈ u_ws C T N, w ∈ lw_tbl.filter goodWord := by
  intro w hw
  refine List.mem_filter.mpr ⟨h w hw, ?_⟩
  obtain ⟨k, -, rfl⟩ := List.mem_map.mp hw
  exact gw_lay C T k
theorem yX.hts {p : Program} {s : State} {m : MethodId} {args : Array Value} {meth : Method} {c : Code} {mi : Nat} {ty : Nat → ClassId} {D : va_G} (X : yX p s m args meth c mi ty D) : ∀ w ∈ lw_tbl.filter goodWord, w.before args s = true := fun w hw => X.2.2.2.2.2.1 w (List.mem_filter.mp hw).1 (List.mem_filter.mp hw).2
section YH
variable {d mi pc : Nat} {L : List (Option Value)} {r : List Value} {σ : yS} {Q : Option Value → yS → Prop}
theorem yr_get {i c ci k : Nat} {fds : List yF} {fd : yF} {C : String} {T : u_T} {N : Nat} (hd : decode (yB mi) pc = .ok (.getfield i, 3)) (hc : ysh[c]? = some (.inr (.inr (ci, fds)))) (hcl : vwCl[ci]? = some (C, T, N)) (hk : k < N) (hf : fds[k]? = some fd) (hlk : Cond.fieldLink (yN mi).cls i (T k).1 (T k).2.1 (T k).2.2.1 ∈ lw_tbl)
    (h : yR d mi (pc + 3) L (fa (σ c) k fd :: r) σ Q) : yR d mi pc L (.ref c :: r) σ Q := by
  intro l p e s m args below meth cc ad ty D A H locs ls X hP hD hS hl
  obtain ⟨h1, h2, h3, ty0, h4⟩ := cl_ok hcl
  refine va_get (k := k) X.1 X.2.1 X.hts (filt_in h2) X.2.2.2.2.1 X.2.2.2.2.2.2.2.2 hP c (wd_at hc) hcl hk (X.2.2.2.2.2.1 _ hlk rfl) (fun _ h9 => h9) (v := cv ad (fa (σ c) k fd)) ?_ hd (h l p e s m args below meth cc ad ty D A H locs ls X hP hD hS hl)
  rw [cv_fa, List.getElem?_mapIdx, hf]
  rfl
/-- a value that fits a field of whole numbers -/
def yFit (desc : String) (x : Int32) : Prop := match parseFieldDescriptor desc with
  | some .int => True
  | some .boolean => x = 0 ∨ x = 1
  | _ => False
theorem yr_put {i c ci k : Nat} {fds : List yF} {x : Int32} {C : String} {T : u_T} {N : Nat} (hd : decode (yB mi) pc = .ok (.putfield i, 3)) (hc : ysh[c]? = some (.inr (.inr (ci, fds)))) (hcl : vwCl[ci]? = some (C, T, N)) (hk : k < N) (hk2 : k < 1000) (hf : fds[k]? = some none) (hlk : Cond.fieldLink (yN mi).cls i (T k).1 (T k).2.1 (T k).2.2.1 ∈ lw_tbl) (hfin : (T k).2.2.2 = false) (hfit : yFit (T k).2.2.1 x)
    (h : yR d mi (pc + 3) L r (sg σ c k x) Q) : yR d mi pc L (.int x :: .ref c :: r) σ Q := by
  intro l p e s m args below meth cc ad ty D A H locs ls X hP hD hS hl
  obtain ⟨h1, h2, h3, ty0, h4⟩ := cl_ok hcl
  have hpd : ∃ t, parseFieldDescriptor (T k).2.2.1 = some t ∧ narrow t (.int x) = .int x ∧ fits t (.int x) = true := by
    unfold yFit at hfit
    split at hfit
    · rename_i e1; exact ⟨_, e1, rfl, rfl⟩
    · rename_i e1
      rcases hfit with rfl | rfl
      · exact ⟨_, e1, by decide, by decide⟩
      · exact ⟨_, e1, by decide, by decide⟩
    · exact hfit.elim
  obtain ⟨t, t1, t2, t3⟩ := hpd
  have hfl : k < (fds.mapIdx (fun k fd => fv ad (σ c) k fd)).length := by rw [List.length_mapIdx]; exact (List.getElem?_eq_some_iff.mp hf).1
  refine va_put (v := .int x) (ty := t) X.1 X.2.1 X.hts (filt_in h2) ty0 h4 h3 X.2.2.2.2.1 X.2.2.2.2.2.2.2.2 hP hD hS c (wd_at hc) hcl k hk (X.2.2.2.2.2.1 _ hlk rfl) (fun _ h9 => h9) hfin t1 t2 t3 hfl hd (fun H1 locs1 hP1 hD1 hS1 => ?_)
  have he : (wd ad ty σ).set c (ad c, .inr (ci, (fds.mapIdx (fun k fd => fv ad (σ c) k fd)).set k (.int x))) = wd ad ty (sg σ c k x) := by
    rw [sg_eq]
    exact wd_set hc (by show Sum.inr (ci, fds.mapIdx (fun j fd => fv ad (upd (σ c) k x) j fd)) = _; rw [fv_put hf hk2])
  rw [he] at hP1 hD1
  exact h l p e s m args below meth cc ad ty D A H1 locs1 ls X hP1 hD1 hS1 hl
theorem yr_putL {i c ci k : Nat} {fds : List yF} {x : Int64} {C : String} {T : u_T} {N : Nat} (hd : decode (yB mi) pc = .ok (.putfield i, 3)) (hc : ysh[c]? = some (.inr (.inr (ci, fds)))) (hcl : vwCl[ci]? = some (C, T, N)) (hk : k < N) (hk2 : fds.length ≤ 1000) (hf : fds[k]? = some (some none)) (hlk : Cond.fieldLink (yN mi).cls i (T k).1 (T k).2.1 (T k).2.2.1 ∈ lw_tbl) (hfin : (T k).2.2.2 = false) (hfit : parseFieldDescriptor (T k).2.2.1 = some .long)
    (h : yR d mi (pc + 3) L r (sgA σ c (upd (upd (σ c) k (lgHi x)) (k + 1000) (lgLo x))) Q) : yR d mi pc L (.long x :: .ref c :: r) σ Q := by
  intro l p e s m args below meth cc ad ty D A H locs ls X hP hD hS hl
  obtain ⟨h1, h2, h3, ty0, h4⟩ := cl_ok hcl
  have hfl : k < (fds.mapIdx (fun k fd => fv ad (σ c) k fd)).length := by rw [List.length_mapIdx]; exact (List.getElem?_eq_some_iff.mp hf).1
  refine va_put (v := .long x) (ty := .long) X.1 X.2.1 X.hts (filt_in h2) ty0 h4 h3 X.2.2.2.2.1 X.2.2.2.2.2.2.2.2 hP hD hS c (wd_at hc) hcl k hk (X.2.2.2.2.2.1 _ hlk rfl) (fun _ h9 => h9) hfin hfit rfl rfl hfl hd (fun H1 locs1 hP1 hD1 hS1 => ?_)
  have he : (wd ad ty σ).set c (ad c, .inr (ci, (fds.mapIdx (fun k fd => fv ad (σ c) k fd)).set k (.long x))) = wd ad ty (sgA σ c (upd (upd (σ c) k (lgHi x)) (k + 1000) (lgLo x))) :=
    wd_set hc (by show Sum.inr (ci, fds.mapIdx (fun j fd => fv ad (upd (upd (σ c) k (lgHi x)) (k + 1000) (lgLo x)) j fd)) = _; rw [fv_putL hf hk2])
  rw [he] at hP1 hD1
  exact h l p e s m args below meth cc ad ty D A H1 locs1 ls X hP1 hD1 hS1 hl
theorem yr_iaload {c n : Nat} {i : Int32} (hd : decode (yB mi) pc = .ok (.iaload, 1)) (hc : ysh[c]? = some (.inl (0, n))) (hin : vp_in i n) (h : yR d mi (pc + 1) L (.int (σ c i.toNatClampNeg) :: r) σ Q) : yR d mi pc L (.int i :: .ref c :: r) σ Q := by
  intro l p e s m args below meth cc ad ty D A H locs ls X hP hD hS hl
  exact va_iald X.1 X.2.1 X.2.2.2.2.2.2.2.2 hP c 0 (wd_at hc) rfl hin hd (h l p e s m args below meth cc ad ty D A H locs ls X hP hD hS hl)
theorem yr_baload {c n : Nat} {i : Int32} (hd : decode (yB mi) pc = .ok (.baload, 1)) (hc : ysh[c]? = some (.inl (1, n))) (hin : vp_in i n) (h : yR d mi (pc + 1) L (.int (σ c i.toNatClampNeg) :: r) σ Q) : yR d mi pc L (.int i :: .ref c :: r) σ Q := by
  intro l p e s m args below meth cc ad ty D A H locs ls X hP hD hS hl
  exact va_zald X.1 X.2.1 X.2.2.2.2.2.2.2.2 hP c 1 (wd_at hc) rfl hin hd (h l p e s m args below meth cc ad ty D A H locs ls X hP hD hS hl)
theorem yr_iastore {c n : Nat} {i x : Int32} (hd : decode (yB mi) pc = .ok (.iastore, 1)) (hc : ysh[c]? = some (.inl (0, n))) (hin : vp_in i n) (h : yR d mi (pc + 1) L r (sg σ c i.toNatClampNeg x) Q) : yR d mi pc L (.int x :: .int i :: .ref c :: r) σ Q := by
  intro l p e s m args below meth cc ad ty D A H locs ls X hP hD hS hl
  refine va_iast X.1 X.2.1 X.2.2.2.2.2.2.2.2 hP hD hS c 0 (wd_at hc) rfl hin hd (fun H1 locs1 hP1 hD1 hS1 => ?_)
  have he : (wd ad ty σ).set c (ad c, .inl (ty 0, n, .inl (upd (σ c) i.toNatClampNeg x))) = wd ad ty (sg σ c i.toNatClampNeg x) := by
    rw [sg_eq]; exact wd_set hc rfl
  have hP2 : va_P D vwCl ((wd ad ty σ).set c (ad c, .inl (ty 0, n, .inl (upd (σ c) i.toNatClampNeg x)))) H1 := hP1
  have hD2 : va_D A ((wd ad ty σ).set c (ad c, .inl (ty 0, n, .inl (upd (σ c) i.toNatClampNeg x)))) := hD1
  rw [he] at hP2 hD2
  exact h l p e s m args below meth cc ad ty D A H1 locs1 ls X hP2 hD2 hS1 hl
theorem yr_bastore {c n : Nat} {i x : Int32} (hd : decode (yB mi) pc = .ok (.bastore, 1)) (hc : ysh[c]? = some (.inl (1, n))) (hin : vp_in i n) (hx : x = 0 ∨ x = 1) (h : yR d mi (pc + 1) L r (sg σ c i.toNatClampNeg x) Q) : yR d mi pc L (.int x :: .int i :: .ref c :: r) σ Q := by
  intro l p e s m args below meth cc ad ty D A H locs ls X hP hD hS hl
  refine va_zast X.1 X.2.1 X.2.2.2.2.2.2.2.2 hP hD hS c 1 (wd_at hc) rfl hin hd (fun H1 locs1 hP1 hD1 hS1 => ?_)
  have hn : vp_nar .boolean x = x := by rcases hx with rfl | rfl <;> decide
  rw [hn] at hP1 hD1
  have he : (wd ad ty σ).set c (ad c, .inl (ty 1, n, .inl (upd (σ c) i.toNatClampNeg x))) = wd ad ty (sg σ c i.toNatClampNeg x) := by
    rw [sg_eq]; exact wd_set hc rfl
  have hP2 : va_P D vwCl ((wd ad ty σ).set c (ad c, .inl (ty 1, n, .inl (upd (σ c) i.toNatClampNeg x)))) H1 := hP1
  have hD2 : va_D A ((wd ad ty σ).set c (ad c, .inl (ty 1, n, .inl (upd (σ c) i.toNatClampNeg x)))) := hD1
  rw [he] at hP2 hD2
  exact h l p e s m args below meth cc ad ty D A H1 locs1 ls X hP2 hD2 hS1 hl
theorem yr_aaload {c n j : Nat} {g : List Nat} {i : Int32} (hd : decode (yB mi) pc = .ok (.aaload, 1)) (hc : ysh[c]? = some (.inr (.inl (n, g)))) (hin : vp_in i n) (hj : g[i.toNatClampNeg]? = some j) (h : yR d mi (pc + 1) L (.ref j :: r) σ Q) : yR d mi pc L (.int i :: .ref c :: r) σ Q := by
  intro l p e s m args below meth cc ad ty D A H locs ls X hP hD hS hl
  refine va_aldq X.1 X.2.1 X.2.2.2.2.2.2.2.2 hP c 2 (wd_at hc) rfl hin hd ?_
  have e1 : va_rf ((g[i.toNatClampNeg]?).map ad) = .ref (ad j) := by rw [hj]; rfl
  rw [e1]
  exact h l p e s m args below meth cc ad ty D A H locs ls X hP hD hS hl
theorem yr_alen {c t n : Nat} {v : Int32} (hd : decode (yB mi) pc = .ok (.arraylength, 1)) (hc : ysh[c]? = some (.inl (t, n))) (ht : t < 2) (hv : Int32.ofNat n = v) (h : yR d mi (pc + 1) L (.int v :: r) σ Q) : yR d mi pc L (.ref c :: r) σ Q := by
  intro l p e s m args below meth cc ad ty D A H locs ls X hP hD hS hl
  have hx : ∃ ft, (tys ty)[t]? = some (ty t, ft) := by
    match t, ht with
    | 0, _ => exact ⟨_, rfl⟩
    | 1, _ => exact ⟨_, rfl⟩
  obtain ⟨ft, hft⟩ := hx
  exact va_alen X.1 X.2.1 X.2.2.2.2.2.2.2.2 hP c t (wd_at hc) hft hv hd (h l p e s m args below meth cc ad ty D A H locs ls X hP hD hS hl)
end YH
end
section
/-- the sides of a copy -/
def yCp (sp dp n : Int32) (n0 n1 : Nat) : Prop := ¬ sp < 0 ∧ ¬ dp < 0 ∧ ¬ n < 0 ∧ sp.toNatClampNeg + n.toNatClampNeg ≤ n0 ∧ dp.toNatClampNeg + n.toNatClampNeg ≤ n1
/-- the places of a method's words, checked by program -/
def chkM (mi : Nat) : Bool :=
  plainFor (yN mi) && decide (lw_tbl[yP mi 0]? = some (.code (yN mi) (yB mi) (yL mi) (yT mi)))
  && (if yI mi = 99 then decide (lw_tbl[yP mi 1]? = some (.static (yN mi))) else decide (lw_tbl[yP mi 1]? = some (.instanceMethod (yN mi))) && decide (lw_tbl[yP mi 2]? = some (.selects (yN mi).cls (yN mi) (yN mi))) && decide ((vwCl[yI mi]?).map (·.1) = some (yN mi).cls))
  && decide (lw_tbl[yP mi 3]? = some (.initialized (yN mi).cls)) && decide ((yN mi).cls ≠ "java/lang/invoke/MethodHandle") && decide ((yN mi).cls ≠ "java/lang/invoke/VarHandle")
  && decide ((parseMethodDescriptor (yN mi).desc).map (fun d => d.parameters.length) = some (yK mi)) && decide (yL mi ≤ 21)
/-- a method's words -/
def yW (mi : Nat) : List Cond := .code (yN mi) (yB mi) (yL mi) (yT mi) :: lw_tbl.filter goodWord
theorem goodIn_yW {mi : Nat} (h : chkM mi = true) : GoodIn (lw_tbl.filter goodWord) (yW mi) := by
  intro w hw
  have h2 : w ∈ lw_tbl.filter goodWord := by
    rcases List.mem_cons.mp hw with rfl | hw
    · simp only [chkM, Bool.and_eq_true, decide_eq_true_eq] at h
      exact List.mem_filter.mpr ⟨mem_at h.1.1.1.1.1.1.2, rfl⟩
    · exact hw
  exact ⟨h2, good_of_word (List.mem_filter.mp h2).2⟩
/-- what a method finds as it begins -/
def yPre (ad : Nat → Nat) (ty : Nat → ClassId) (D : va_G) (A : Nat → Prop) (σ : yS) (U : State) : Prop :=
  va_P D vwCl (wd ad ty σ) U.heap ∧ va_D A (wd ad ty σ) ∧ (∀ (o : String) (i : Nat) (y : MethodName) (h : String), Cond.methodLinkNest o i y h ∈ lw_tbl → va_Nw (.methodLinkNest o i y h) U) ∧ va_K D vwCl (tys ty) U
theorem met_ofWF {l : Launch} {y : MethodName} {ws ws' : List Cond} {rm : Room} {Pc : Array Value → State → Prop} {Qc : Array Value → State → Outcome → State → Prop} {mc ms : Nat} {free : Addr → Prop} {cc : ByteArray} {maxL : Nat} {ret : Option FieldType}
    (hy : plainFor y = true) (hw : ws = Cond.code y cc maxL ret :: ws')
    (body : ∀ p e s m args below meth c s₁, BodyLoose p l y (headSpec ws rm) cc maxL ret e s m args below meth c s₁ → c.maxLocals = maxL → Pc args s →
      W p l e (headSpec ws rm).room s m args below meth c s.heap [] 0 0 (MQ below Qc args s mc ms free) (entryFrame m args maxL)) : Met l y ws rm Pc Qc mc ms free := by
  refine MetFree.of_bodySF (code := cc) (maxLocals := maxL) (ret := ret) hy ?_ ?_
  · intro args s m h hn
    obtain ⟨meth, c, h1, h2, h3, h4, h5, h6, -, -⟩ := Cond.code_spec hn (atoms_spec (ws := ws) h _ (by rw [hw]; exact List.mem_cons_self))
    exact ⟨meth, c, h1, h2, h3, h4, h5, h6⟩
  · intro p e s m args below meth c s₁ B hml hP _
    have hh0 : s₁.heap = s.heap := by rw [B.state]; rfl
    obtain ⟨t, a1, o, b1, b2, b3⟩ := body p e s m args below meth c s₁ B hml hP s₁ hh0 (Stand.of_body B)
    exact ⟨t, o, a1, b1, b2, ⟨b3.1, b3.2⟩⟩
theorem yR.met {d mi : Nat} {vs : List Value} {σ : yS} {Q : Option Value → yS → Prop} (hk : chkM mi = true) (hn : (sl vs).length ≤ yL mi) (h : yR d mi 0 (ent (yL mi) vs) [] σ Q) (l : Launch) (ad : Nat → Nat) (ty : Nat → ClassId) (D : va_G) (A : Nat → Prop) :
    Met l (yN mi) (yW mi) (yRm d) (va_Pc (vs.map (cv ad)) (yPre ad ty D A σ)) (yQ ad ty D A Q) 0 0 A := by
  have hp : plainFor (yN mi) = true := by
    simp only [chkM, Bool.and_eq_true, decide_eq_true_eq] at hk
    exact hk.1.1.1.1.1.1.1
  refine met_ofWF (cc := yB mi) (maxL := yL mi) (ret := yT mi) hp rfl ?_
  intro p e s m args below meth c s₁ B hml hv
  obtain ⟨rfl, hP, hD, hN, hK⟩ := hv
  have hts := atoms_spec (ws := yW mi) B.pre
  rw [lg_entry_eq]
  exact h l p e s m _ below meth c ad ty D A s.heap [] _ ⟨B.exec, B.bytes, B.returns, hml, findClass_of_methodNamed B.named, fun w hw hg => hts w (List.mem_cons_of_mem _ (List.mem_filter.mpr ⟨hw, hg⟩)), hN, B.notSynchronized, hK⟩ hP hD va_S.rf (ent_ok hn)
theorem goodIn_add {big a b : List Cond} (ha : GoodIn big a) (hb : GoodIn big b) : GoodIn big (a ++ b) := fun w h => (List.mem_append.mp h).elim (ha w) (hb w)
theorem yPre_blind {vs : List Value} {ad : Nat → Nat} {ty : Nat → ClassId} {D : va_G} {A : Nat → Prop} {σ : yS} : FrameBlind (va_Pc vs (yPre ad ty D A σ)) := by
  intro a U g mk q
  obtain ⟨q0, qP, qD, qN, qK⟩ := q
  exact ⟨q0, qP, qD, fun o i y h hm => va_Nw.same rfl (u := U) (U := U.calling g mk a) rfl (qN o i y h hm), va_K.moved (u := U) (U := U.calling g mk a) (Vm.Alike.refl U.vm) qK⟩
theorem yPre_of {p : Program} {s : State} {m : MethodId} {args : Array Value} {meth : Method} {c : Code} {mi : Nat} {ad : Nat → Nat} {ty : Nat → ClassId} {D : va_G} {A : Nat → Prop} {σ : yS} {H : Heap} (X : yX p s m args meth c mi ty D) (hP : va_P D vwCl (wd ad ty σ) H) (hD : va_D A (wd ad ty σ)) :
    ∀ U : State, U.heap = H → s.WarmedH U.vm → yPre ad ty D A σ U := fun U hU hW => ⟨by rw [hU]; exact hP, hD, fun o i y h hm => va_Nw.warmM hW (X.2.2.2.2.2.2.1 o i y h hm), va_K.moved hW.alike X.2.2.2.2.2.2.2.2⟩
/-- behind a call -/
theorem yq_call {p : Program} {l : Launch} {e : Env} {R : Room} {s : State} {m : MethodId} {args : Array Value} {below : List Frame} {meth : Method} {c : Code} {H : Heap} {locs : List Loc} {Q0 : State → Prop} {pc : Nat} {ls : Array Slot} {rest st0 : List Value} {a : Array Value} {A : Nat → Prop} {ad : Nat → Nat} {ty : Nat → ClassId} {D : va_G} {Q : Option Value → yS → Prop}
    (hr : va_Run p l e R s m args below meth c H locs 0 0 0 0 (F0 m pc ls st0) rest (yQ ad ty D A Q a) A) (hS : va_S A s.heap H locs)
    (kk : ∀ (r : Option Value) (σ : yS) (H1 : Heap) (locs1 : List Loc), Q r σ → va_P D vwCl (wd ad ty σ) H1 → va_D A (wd ad ty σ) → va_S A s.heap H1 locs1 → W p l e R s m args below meth c H1 locs1 0 0 Q0 (F0 m (pc + 3) ls ((r.map (cv ad)).toList ++ rest))) : W p l e R s m args below meth c H locs 0 0 Q0 (F0 m pc ls st0) := by
  intro T hT X
  obtain ⟨v, st₀, t, T', L, h0, X', hL, e1, e2, ⟨⟨r, τ, hv, hq, hP1, hD1⟩, hz, hk⟩, st⟩ := hr T hT X
  cases hv
  rw [h0] at hz hk
  obtain ⟨t2, a1, b1⟩ := kk r τ T'.heap (locs ++ L) hq (by rw [e1]; exact hP1) hD1
    ⟨Nat.le_trans hS.1 (by rw [e1]; exact hz), fun q h1 h2 => by rw [e1, hk q (Nat.lt_of_lt_of_le h1 hS.1) h2]; exact hS.2.1 q h1 h2, fun q hq => by
      rcases List.mem_append.mp hq with h | h
      · exact hS.2.2 q h
      · exact hL q h⟩ T' rfl X'
  exact ⟨t2, st t2 a1, b1⟩
theorem cat_sum (ad : Nat → Nat) (r : List Value) : ((r.map (cv ad)).map fun v => v.category).sum = (r.map fun v => v.category).sum := by
  congr 1
  rw [List.map_map]
  apply List.map_congr_left
  intro v _
  exact cv_cat ad v
section YC
variable {d mi pc : Nat} {L : List (Option Value)} {r : List Value} {σ : yS} {Q : Option Value → yS → Prop}
theorem yRm_ok {d mi : Nat} (h : chkM mi = true) : (yRm d).frames + 1 ≤ (yRm (d + 1)).frames ∧ 8 + (yL mi + 11) + (yRm d).locals ≤ (yRm (d + 1)).locals := by
  simp only [chkM, Bool.and_eq_true, decide_eq_true_eq] at h
  have := h.2
  constructor
  · show d + 1 ≤ d + 1; omega
  · show 8 + (yL mi + 11) + 40 * d ≤ 40 * (d + 1); omega
theorem yr_callS {i cal : Nat} {vs : List Value} {Q2 : Option Value → yS → Prop} (hd : decode (yB mi) pc = .ok (.invokestatic i, 3)) (hk : chkM cal = true) (hst : yI cal = 99) (hlk : Cond.methodLink (yN mi).cls i (yN cal) ∈ lw_tbl) (hn : vs.length = yK cal) (hsl : (sl vs).length ≤ yL cal) (hc : (r.map fun v => v.category).sum ≤ 8)
    (h : yR d cal 0 (ent (yL cal) vs) [] σ Q2) (hq : ∀ v τ, Q2 v τ → yR (d + 1) mi (pc + 3) L (v.toList ++ r) τ Q) : yR (d + 1) mi pc L (vs.reverse ++ r) σ Q := by
  intro l p e s m args below meth c ad ty D A H locs ls X hP hD hS hl
  have hM := h.met hk hsl l ad ty D A
  have hk2 := hk
  simp only [chkM, Bool.and_eq_true, decide_eq_true_eq, hst, if_true] at hk2
  have hG : GoodIn (lw_tbl.filter goodWord) (va_wsS (yN mi).cls i (yN cal) (yW cal)) := by
    refine goodIn_add ?_ (goodIn_yW hk)
    intro w hw
    simp only [List.mem_cons, List.not_mem_nil, or_false] at hw
    rcases hw with rfl | rfl | rfl
    · exact ⟨List.mem_filter.mpr ⟨hlk, rfl⟩, good_of_word rfl⟩
    · exact ⟨List.mem_filter.mpr ⟨mem_at hk2.1.1.1.1.1.2, rfl⟩, good_of_word rfl⟩
    · exact ⟨List.mem_filter.mpr ⟨mem_at hk2.1.1.1.1.2, rfl⟩, good_of_word rfl⟩
  have cw := va_cwS (R := yRm (d + 1)) (rm := yRm d) (mc := 0) (ms := 0) (args := args) (s := s) (yK cal) X.hts hG rfl rfl rfl ⟨hk2.1.1.1.2, hk2.1.1.2, hk2.1.2⟩ (yRm_ok hk)
  have hrun := va_runS (p := p) (l := l) (e := e) (below := below) (meth := meth) (H := H) (locs := locs) (cells := 0) (slots := 0) (As := vs.map (cv ad)) (rest := r.map (cv ad)) (g := F0 m pc ls ((vs.reverse ++ r).map (cv ad))) ⟨X.1, X.2.1, X.2.2.2.1, X.2.2.2.2.1, X.hts⟩ hM cw ⟨yPre_blind, fun U hU hW => ⟨rfl, yPre_of X hP hD U hU hW⟩⟩ rfl (by rw [List.length_map, hn]) hl.1 (by simp) (lv_room (by rw [cat_sum]; exact hc)) hd ⟨Nat.le_refl 0, Nat.le_refl 0⟩
  refine yq_call hrun hS (fun v τ H1 locs1 h1 hP1 hD1 hS1 => ?_)
  have := hq v τ h1 l p e s m args below meth c ad ty D A H1 locs1 ls X hP1 hD1 hS1 hl
  rw [List.map_append] at this
  have e1 : (v.map (cv ad)).toList = v.toList.map (cv ad) := by cases v <;> rfl
  rw [e1]
  exact this
theorem yr_callSN {i cal : Nat} {vs : List Value} {ho : String} {Q2 : Option Value → yS → Prop} (hd : decode (yB mi) pc = .ok (.invokestatic i, 3)) (hk : chkM cal = true) (hst : yI cal = 99) (hlk : Cond.methodLinkNest (yN mi).cls i (yN cal) ho ∈ lw_tbl) (hn : vs.length = yK cal) (hsl : (sl vs).length ≤ yL cal) (hc : (r.map fun v => v.category).sum ≤ 8)
    (h : yR d cal 0 (ent (yL cal) vs) [] σ Q2) (hq : ∀ v τ, Q2 v τ → yR (d + 1) mi (pc + 3) L (v.toList ++ r) τ Q) : yR (d + 1) mi pc L (vs.reverse ++ r) σ Q := by
  intro l p e s m args below meth c ad ty D A H locs ls X hP hD hS hl
  have hM := h.met hk hsl l ad ty D A
  have hk2 := hk
  simp only [chkM, Bool.and_eq_true, decide_eq_true_eq, hst, if_true] at hk2
  have cw := va_cnB (R := yRm (d + 1)) (rm := yRm d) (mc := 0) (ms := 0) (args := args) (s := s) (yK cal) X.hts (goodIn_yW hk) rfl rfl rfl (X.2.2.2.2.2.2.1 _ _ _ _ hlk) (X.2.2.2.2.2.1 _ (mem_at hk2.1.1.1.1.2) rfl) ⟨hk2.1.1.1.2, hk2.1.1.2, hk2.1.2⟩ (yRm_ok hk)
  have hrun := va_runSN (p := p) (l := l) (e := e) (below := below) (meth := meth) (H := H) (locs := locs) (cells := 0) (slots := 0) (As := vs.map (cv ad)) (rest := r.map (cv ad)) (g := F0 m pc ls ((vs.reverse ++ r).map (cv ad))) ⟨X.1, X.2.1, X.2.2.2.1, X.2.2.2.2.1, X.hts⟩ hM ⟨cw, X.2.2.2.2.2.1 _ (mem_at hk2.1.1.1.1.1.2) rfl, trivial⟩ ⟨yPre_blind, fun U hU hW => ⟨rfl, yPre_of X hP hD U hU hW⟩⟩ rfl (by rw [List.length_map, hn]) hl.1 (by simp) (lv_room (by rw [cat_sum]; exact hc)) hd ⟨Nat.le_refl 0, Nat.le_refl 0⟩
  refine yq_call hrun hS (fun v τ H1 locs1 h1 hP1 hD1 hS1 => ?_)
  have := hq v τ h1 l p e s m args below meth c ad ty D A H1 locs1 ls X hP1 hD1 hS1 hl
  rw [List.map_append] at this
  have e1 : (v.map (cv ad)).toList = v.toList.map (cv ad) := by cases v <;> rfl
  rw [e1]
  exact this
theorem yr_callV {i cal b : Nat} {vs : List Value} {fds : List yF} {Q2 : Option Value → yS → Prop} (hd : decode (yB mi) pc = .ok (.invokevirtual i, 3)) (hk : chkM cal = true) (hst : yI cal ≠ 99) (hb : ysh[b]? = some (.inr (.inr (yI cal, fds)))) (hlk : Cond.methodLink (yN mi).cls i (yN cal) ∈ lw_tbl) (hn : vs.length = yK cal) (hsl : (sl (.ref b :: vs)).length ≤ yL cal) (hc : (r.map fun v => v.category).sum ≤ 8)
    (h : yR d cal 0 (ent (yL cal) (.ref b :: vs)) [] σ Q2) (hq : ∀ v τ, Q2 v τ → yR (d + 1) mi (pc + 3) L (v.toList ++ r) τ Q) : yR (d + 1) mi pc L (vs.reverse ++ .ref b :: r) σ Q := by
  intro l p e s m args below meth c ad ty D A H locs ls X hP hD hS hl
  have hM := h.met hk hsl l ad ty D A
  have hk2 := hk
  simp only [chkM, Bool.and_eq_true, decide_eq_true_eq, hst, if_false] at hk2
  have hG : GoodIn (lw_tbl.filter goodWord) (wsV (yN mi).cls i (yN cal).cls (yN cal) (yW cal)) := by
    refine goodIn_add ?_ (goodIn_yW hk)
    intro w hw
    simp only [List.mem_cons, List.not_mem_nil, or_false] at hw
    rcases hw with rfl | rfl | rfl | rfl
    · exact ⟨List.mem_filter.mpr ⟨hlk, rfl⟩, good_of_word rfl⟩
    · exact ⟨List.mem_filter.mpr ⟨mem_at hk2.1.1.1.1.1.2.1.1, rfl⟩, good_of_word rfl⟩
    · exact ⟨List.mem_filter.mpr ⟨mem_at hk2.1.1.1.1.1.2.1.2, rfl⟩, good_of_word rfl⟩
    · exact ⟨List.mem_filter.mpr ⟨mem_at hk2.1.1.1.1.2, rfl⟩, good_of_word rfl⟩
  have cw := cwV (R := yRm (d + 1)) (rm := yRm d) (mc := 0) (ms := 0) (args := args) (s := s) (yK cal) X.hts hG rfl rfl rfl ⟨rfl, hk2.1.1.1.2, hk2.1.1.2, hk2.1.2⟩ (yRm_ok hk)
  obtain ⟨q, hq1, hq2⟩ := Option.map_eq_some_iff.mp hk2.1.1.1.1.1.2.2
  have hrec := va_recv X.2.2.2.2.2.2.2.2 hP hq1 (wd_at hb)
  rw [hq2] at hrec
  have hrun := va_runV (p := p) (l := l) (e := e) (below := below) (meth := meth) (H := H) (locs := locs) (cells := 0) (slots := 0) (As := vs.map (cv ad)) (rest := r.map (cv ad)) (b := ad b) (g := F0 m pc ls ((vs.reverse ++ .ref b :: r).map (cv ad))) ⟨X.1, X.2.1, X.2.2.2.1, X.2.2.2.2.1, X.hts⟩ hM cw ⟨yPre_blind, hrec, fun U hU hW => ⟨rfl, yPre_of X hP hD U hU hW⟩⟩ rfl (by rw [List.length_map, hn]) hl.1 (by simp [cv]) (lv_room (by rw [cat_sum]; exact hc)) hd ⟨Nat.le_refl 0, Nat.le_refl 0⟩
  refine yq_call hrun hS (fun v τ H1 locs1 h1 hP1 hD1 hS1 => ?_)
  have := hq v τ h1 l p e s m args below meth c ad ty D A H1 locs1 ls X hP1 hD1 hS1 hl
  rw [List.map_append] at this
  have e1 : (v.map (cv ad)).toList = v.toList.map (cv ad) := by cases v <;> rfl
  rw [e1]
  exact this
theorem yr_callVN {i cal b : Nat} {vs : List Value} {fds : List yF} {ho : String} {Q2 : Option Value → yS → Prop} (hd : decode (yB mi) pc = .ok (.invokevirtual i, 3)) (hk : chkM cal = true) (hst : yI cal ≠ 99) (hb : ysh[b]? = some (.inr (.inr (yI cal, fds)))) (hlk : Cond.methodLinkNest (yN mi).cls i (yN cal) ho ∈ lw_tbl) (hn : vs.length = yK cal) (hsl : (sl (.ref b :: vs)).length ≤ yL cal) (hc : (r.map fun v => v.category).sum ≤ 8)
    (h : yR d cal 0 (ent (yL cal) (.ref b :: vs)) [] σ Q2) (hq : ∀ v τ, Q2 v τ → yR (d + 1) mi (pc + 3) L (v.toList ++ r) τ Q) : yR (d + 1) mi pc L (vs.reverse ++ .ref b :: r) σ Q := by
  intro l p e s m args below meth c ad ty D A H locs ls X hP hD hS hl
  have hM := h.met hk hsl l ad ty D A
  have hk2 := hk
  simp only [chkM, Bool.and_eq_true, decide_eq_true_eq, hst, if_false] at hk2
  have cw := va_cnB (R := yRm (d + 1)) (rm := yRm d) (mc := 0) (ms := 0) (args := args) (s := s) (yK cal) X.hts (goodIn_yW hk) rfl rfl rfl (X.2.2.2.2.2.2.1 _ _ _ _ hlk) (X.2.2.2.2.2.1 _ (mem_at hk2.1.1.1.1.2) rfl) ⟨hk2.1.1.1.2, hk2.1.1.2, hk2.1.2⟩ (yRm_ok hk)
  obtain ⟨q, hq1, hq2⟩ := Option.map_eq_some_iff.mp hk2.1.1.1.1.1.2.2
  have hrec := va_recv X.2.2.2.2.2.2.2.2 hP hq1 (wd_at hb)
  rw [hq2] at hrec
  have hrun := va_runVN (p := p) (l := l) (e := e) (below := below) (meth := meth) (H := H) (locs := locs) (cells := 0) (slots := 0) (As := vs.map (cv ad)) (rest := r.map (cv ad)) (b := ad b) (g := F0 m pc ls ((vs.reverse ++ .ref b :: r).map (cv ad))) ⟨X.1, X.2.1, X.2.2.2.1, X.2.2.2.2.1, X.hts⟩ hM ⟨cw, X.2.2.2.2.2.1 _ (mem_at hk2.1.1.1.1.1.2.1.1) rfl, X.2.2.2.2.2.1 _ (mem_at hk2.1.1.1.1.1.2.1.2) rfl⟩ ⟨yPre_blind, hrec, fun U hU hW => ⟨rfl, yPre_of X hP hD U hU hW⟩⟩ rfl (by rw [List.length_map, hn]) hl.1 (by simp [cv]) (lv_room (by rw [cat_sum]; exact hc)) hd ⟨Nat.le_refl 0, Nat.le_refl 0⟩
  refine yq_call hrun hS (fun v τ H1 locs1 h1 hP1 hD1 hS1 => ?_)
  have := hq v τ h1 l p e s m args below meth c ad ty D A H1 locs1 ls X hP1 hD1 hS1 hl
  rw [List.map_append] at this
  have e1 : (v.map (cv ad)).toList = v.toList.map (cv ad) := by cases v <;> rfl
  rw [e1]
  exact this
end YC
end
section
theorem fit_int (x : Int32) : fits .int (.int x) = true := rfl
section YE
variable {d mi pc : Nat} {L : List (Option Value)} {r : List Value} {σ : yS} {Q : Option Value → yS → Prop}
theorem yr_copy {i c0 c1 n0 n1 p0 p1 p2 p3 : Nat} {sp dp n : Int32} (hd : decode (yB mi) pc = .ok (.invokestatic i, 3)) (hlk : lw_tbl[p0]? = some (.methodLink (yN mi).cls i arraycopyName)) (h1 : lw_tbl[p1]? = some (.native arraycopyName)) (h2 : lw_tbl[p2]? = some (.static arraycopyName)) (h3 : lw_tbl[p3]? = some (.initialized "java/lang/System"))
    (hc0 : ysh[c0]? = some (.inl (0, n0))) (hc1 : ysh[c1]? = some (.inl (0, n1))) (hcp : yCp sp dp n n0 n1) (hc : (r.map fun v => v.category).sum ≤ 8)
    (h : yR (d + 1) mi (pc + 3) L r (sgA σ c1 (va_cpy (σ c0) (σ c1) sp.toNatClampNeg dp.toNatClampNeg n.toNatClampNeg)) Q) : yR (d + 1) mi pc L (.int n :: .int dp :: .ref c1 :: .int sp :: .ref c0 :: r) σ Q := by
  intro l p e s m args below meth cc ad ty D A H locs ls X hP hD hS hl
  obtain ⟨k1, k2, k3, k4, k5⟩ := hcp
  refine va_copyi X.1 X.2.1 (by rw [X.2.2.2.1]; exact hl.1.symm) X.2.2.2.2.1 (X.2.2.2.2.2.1 _ (mem_at hlk) rfl) (X.2.2.2.2.2.1 _ (mem_at h1) rfl) (X.2.2.2.2.2.1 _ (mem_at h2) rfl) (X.2.2.2.2.2.1 _ (mem_at h3) rfl) X.2.2.2.2.2.2.2.2 hP hD hS c0 c1 0 0 (wd_at hc0) (wd_at hc1) rfl rfl rfl k1 k2 k3 k4 k5 (fun i _ => fit_int _) (by show 1 ≤ d + 1; omega) ?_ hd (fun H1 locs1 hP1 hD1 hS1 => ?_)
  · rw [cat_sum]
    show _ + (nativeFrameWords "java/lang/System" "arraycopy" 5 + 11) ≤ 40 * (d + 1)
    have : nativeFrameWords "java/lang/System" "arraycopy" 5 = 7 := by decide +kernel
    omega
  · have he : (wd ad ty σ).set c1 (ad c1, .inl (ty 0, n1, .inl (va_cpy (σ c0) (σ c1) sp.toNatClampNeg dp.toNatClampNeg n.toNatClampNeg))) = wd ad ty (sgA σ c1 (va_cpy (σ c0) (σ c1) sp.toNatClampNeg dp.toNatClampNeg n.toNatClampNeg)) := wd_set hc1 rfl
    have hP2 : va_P D vwCl ((wd ad ty σ).set c1 (ad c1, .inl (ty 0, n1, .inl (va_cpy (σ c0) (σ c1) sp.toNatClampNeg dp.toNatClampNeg n.toNatClampNeg)))) H1 := hP1
    have hD2 : va_D A ((wd ad ty σ).set c1 (ad c1, .inl (ty 0, n1, .inl (va_cpy (σ c0) (σ c1) sp.toNatClampNeg dp.toNatClampNeg n.toNatClampNeg)))) := hD1
    rw [he] at hP2 hD2
    exact h l p e s m args below meth cc ad ty D A H1 locs1 ls X hP2 hD2 hS1 hl
theorem yr_iret {x : Int32} (hd : decode (yB mi) pc = .ok (.ireturn, 1)) (ht : yT mi = some .int ∨ (yT mi = some .boolean ∧ (x = 0 ∨ x = 1))) (h : Q (some (.int x)) σ) : yR d mi pc L [.int x] σ Q := by
  intro l p e s m args below meth cc ad ty D A H locs ls X hP hD hS hl
  have hlocks := X.2.2.2.2.2.2.2.1
  rcases ht with ht | ⟨ht, hx⟩
  · exact W.iret (v := x) X.1 X.2.1 (X.2.2.1.trans ht) (fun t e1 hW => ⟨⟨some (.int x), σ, rfl, h, by rw [e1]; exact hP, hD⟩, hS.F e1⟩) hS.2.2 hd
  · exact W.zret (v := x) (ty := .boolean) X.1 X.2.1 (X.2.2.1.trans ht) (by rcases hx with rfl | rfl <;> decide) (fun t e1 hW => ⟨⟨some (.int x), σ, rfl, h, by rw [e1]; exact hP, hD⟩, hS.F e1⟩) hS.2.2 hd
theorem yr_lret {x : Int64} (hd : decode (yB mi) pc = .ok (.lreturn, 1)) (ht : yT mi = some .long) (h : Q (some (.long x)) σ) : yR d mi pc L [.long x] σ Q := by
  intro l p e s m args below meth cc ad ty D A H locs ls X hP hD hS hl
  have hlocks := X.2.2.2.2.2.2.2.1
  exact W.lret (v := x) X.1 X.2.1 (X.2.2.1.trans ht) (fun t e1 hW => ⟨⟨some (.long x), σ, rfl, h, by rw [e1]; exact hP, hD⟩, hS.F e1⟩) hS.2.2 hd
theorem yr_vret (hd : decode (yB mi) pc = .ok (.return_, 1)) (ht : yT mi = none) (h : Q none σ) : yR d mi pc L [] σ Q := by
  intro l p e s m args below meth cc ad ty D A H locs ls X hP hD hS hl
  have hlocks := X.2.2.2.2.2.2.2.1
  exact W.vret X.1 X.2.1 (X.2.2.1.trans ht) (fun t e1 hW => ⟨⟨none, σ, rfl, h, by rw [e1]; exact hP, hD⟩, hS.F e1⟩) hS.2.2 hd
/-- a switch: its ways one by one -/
def ySw (x : Int32) (k : Nat → Prop) (a : Nat) : List (Int32 × Nat) → Prop
  | [] => k a
  | q :: r => (x = q.1 → k q.2) ∧ (¬ x = q.1 → ySw x k a r)
theorem ySw.out {x : Int32} {k : Nat → Prop} {a : Nat} : ∀ {sw : List (Int32 × Nat)}, ySw x k a sw → (∃ (j : Nat) (q : Int32 × Nat), sw[j]? = some q ∧ x = q.1 ∧ k q.2) ∨ ((∀ q ∈ sw, ¬ x = q.1) ∧ k a)
  | [], h => Or.inr ⟨fun _ h => absurd h List.not_mem_nil, h⟩
  | q :: r, h => by
    by_cases hx : x = q.1
    · exact Or.inl ⟨0, q, rfl, hx, h.1 hx⟩
    · rcases ySw.out (h.2 hx) with ⟨j, q2, h1, h2⟩ | ⟨h1, h2⟩
      · exact Or.inl ⟨j + 1, q2, h1, h2⟩
      · refine Or.inr ⟨fun q3 h3 => ?_, h2⟩
        rcases List.mem_cons.mp h3 with rfl | h3
        · exact hx
        · exact h1 q3 h3
def chkLk (pc : Nat) (df : Int) (a : Nat) (ps : List (Int × Int)) (sw : List (Int32 × Nat)) : Bool :=
  decide ((pc : Int) + df = (a : Int)) && (ps.zip (ps.drop 1)).all (fun (a, next) => a.1 < next.1) && decide (ps.length = sw.length) && (ps.zip sw).all (fun q => decide (q.2.1.toInt = q.1.1) && decide ((pc : Int) + q.1.2 = (q.2.2 : Int)))
theorem lk_go {pc : Nat} {df : Int} {a : Nat} {x : Int32} {k : Nat → Prop} : ∀ {ps : List (Int × Int)} {sw : List (Int32 × Nat)}, (pc : Int) + df = (a : Int) → ps.length = sw.length → ((ps.zip sw).all (fun q => decide (q.2.1.toInt = q.1.1) && decide ((pc : Int) + q.1.2 = (q.2.2 : Int)))) = true → ySw x k a sw →
    ∃ t : Nat, (pc : Int) + Op.lookupswitch.offset ps df x.toInt = (t : Int) ∧ k t
  | [], [], h1, _, _, h => ⟨a, by simpa [Op.lookupswitch.offset] using h1, h⟩
  | (k0, o) :: ps, q :: sw, h1, h2, h3, h => by
    simp only [List.zip_cons_cons, List.all_cons, Bool.and_eq_true, decide_eq_true_eq] at h3
    by_cases hx : x = q.1
    · refine ⟨q.2, ?_, h.1 hx⟩
      rw [Op.lookupswitch.offset_cons, if_pos (by rw [hx]; exact h3.1.1.symm)]
      exact h3.1.2
    · obtain ⟨t, t1, t2⟩ := lk_go (k := k) h1 (by simpa using h2) h3.2 (h.2 hx)
      refine ⟨t, ?_, t2⟩
      rw [lv_osw hx h3.1.1]
      exact t1
theorem yr_lookup {df : Int} {a len : Nat} {ps : Array (Int × Int)} {sw : List (Int32 × Nat)} {x : Int32} (hd : decode (yB mi) pc = .ok (.lookupswitch df ps, len)) (hk : chkLk pc df a ps.toList sw = true) (h : ySw x (fun t => yR d mi t L r σ Q) a sw) : yR d mi pc L (.int x :: r) σ Q := by
  simp only [chkLk, Bool.and_eq_true, decide_eq_true_eq] at hk
  obtain ⟨⟨⟨k1, k2⟩, k3⟩, k4⟩ := hk
  obtain ⟨t, t1, t2⟩ := lk_go k1 k3 (by simpa using k4) h
  intro l p e s m args below meth cc ad ty D A H locs ls X hP hD hS hl
  exact lv_lookup X.1 X.2.1 hd k2 rfl t1 (t2 l p e s m args below meth cc ad ty D A H locs ls X hP hD hS hl)
def chkTb (pc : Nat) (df lo hi : Int) (a : Nat) (os : List Int) (sw : List (Int32 × Nat)) : Bool :=
  decide ((pc : Int) + df = (a : Int)) && decide (os.length = sw.length) && decide (hi = lo + os.length - 1) && (os.zip sw).zipIdx.all (fun q => decide (q.1.2.1.toInt = lo + (q.2 : Int)) && decide ((pc : Int) + q.1.1 = (q.1.2.2 : Int)))
theorem yr_table {df lo hi : Int} {a len : Nat} {os : Array Int} {sw : List (Int32 × Nat)} {x : Int32} (hd : decode (yB mi) pc = .ok (.tableswitch df lo hi os, len)) (hk : chkTb pc df lo hi a os.toList sw = true) (h : ySw x (fun t => yR d mi t L r σ Q) a sw) : yR d mi pc L (.int x :: r) σ Q := by
  simp only [chkTb, Bool.and_eq_true, decide_eq_true_eq] at hk
  obtain ⟨⟨⟨k1, k2⟩, k3⟩, k4⟩ := hk
  have key : ∀ (j : Nat) (q : Int32 × Nat), sw[j]? = some q → ∃ o : Int, os[j]? = some o ∧ q.1.toInt = lo + (j : Int) ∧ (pc : Int) + o = (q.2 : Int) := by
    intro j q hj
    have hl : j < sw.length := (List.getElem?_eq_some_iff.mp hj).1
    have hl2 : j < os.toList.length := by rw [k2]; exact hl
    have ho : os.toList[j]? = some (os.toList[j]) := List.getElem?_eq_getElem hl2
    have hz : (os.toList.zip sw)[j]? = some (os.toList[j], q) := by rw [List.getElem?_zip_eq_some]; exact ⟨ho, hj⟩
    have hz2 : ((os.toList.zip sw).zipIdx)[j]? = some ((os.toList[j], q), j) := by rw [List.getElem?_zipIdx, hz]; simp
    have := List.all_eq_true.mp k4 _ (List.mem_of_getElem? hz2)
    simp only [Bool.and_eq_true, decide_eq_true_eq] at this
    exact ⟨_, by rw [← Array.getElem?_toList]; exact ho, this.1, this.2⟩
  intro l p e s m args below meth cc ad ty D A H locs ls X hP hD hS hl
  rcases h.out with ⟨j, q, h1, h2, h3⟩ | ⟨h1, h2⟩
  · obtain ⟨o, o1, o2, o3⟩ := key j q h1
    have hj0 : j < os.toList.length := by rw [k2]; exact (List.getElem?_eq_some_iff.mp h1).1
    rw [← h2] at o2
    exact lv_tableIn X.1 X.2.1 hd (by omega) (by omega) (off := o) (by rw [show (x.toInt - lo).toNat = j by omega]; exact o1) o3 (h3 l p e s m args below meth cc ad ty D A H locs ls X hP hD hS hl)
  · refine lv_tableOut X.1 X.2.1 hd ?_ k1 (h2 l p e s m args below meth cc ad ty D A H locs ls X hP hD hS hl)
    rcases Int.lt_or_le x.toInt lo with q | q
    · exact Or.inl q
    · right
      rcases Int.lt_or_le hi x.toInt with q2 | q2
      · exact q2
      · exfalso
        have hj : (x.toInt - lo).toNat < sw.length := by omega
        obtain ⟨o, o1, o2, o3⟩ := key _ _ (List.getElem?_eq_getElem hj)
        exact h1 _ (List.getElem_mem hj) (Int32.toInt_inj.mp (by rw [o2]; omega))
end YE
end
section
theorem acp_ok : lw_tbl[469]? = some (.native arraycopyName) ∧ lw_tbl[468]? = some (.static arraycopyName) ∧ lw_tbl[91]? = some (.initialized "java/lang/System") := by decide +kernel
def qI (K : Int32 → yS → Prop) : Option Value → yS → Prop := fun r τ => match r with
  | some (.int x) => K x τ
  | _ => False
def qL (K : Int64 → yS → Prop) : Option Value → yS → Prop := fun r τ => match r with
  | some (.long x) => K x τ
  | _ => False
def qV (K : yS → Prop) : Option Value → yS → Prop := fun r τ => match r with
  | none => K τ
  | _ => False
theorem qI_mono {K K' : Int32 → yS → Prop} (h : ∀ x τ, K x τ → K' x τ) (r : Option Value) (τ : yS) (hq : qI K r τ) : qI K' r τ := by
  unfold qI at hq ⊢
  split at hq
  · exact h _ _ hq
  · exact hq.elim
theorem qL_mono {K K' : Int64 → yS → Prop} (h : ∀ x τ, K x τ → K' x τ) (r : Option Value) (τ : yS) (hq : qL K r τ) : qL K' r τ := by
  unfold qL at hq ⊢
  split at hq
  · exact h _ _ hq
  · exact hq.elim
theorem qV_mono {K K' : yS → Prop} (h : ∀ τ, K τ → K' τ) (r : Option Value) (τ : yS) (hq : qV K r τ) : qV K' r τ := by
  unfold qV at hq ⊢
  split at hq
  · exact h _ hq
  · exact hq.elim
/-- a truth value -/
def yBo (x : Int32) : Prop := x = 0 ∨ x = 1
theorem yB0 : yBo 0 := Or.inl rfl
theorem yB1 : yBo 1 := Or.inr rfl
def yPost (t : Option FieldType) (k : List Value → yS → Prop) : Option Value → yS → Prop := match t with
  | none => qV (fun τ => k [] τ)
  | some .long => qL (fun x τ => k [.long x] τ)
  | _ => qI (fun x τ => k [.int x] τ)
theorem yPost.go {t : Option FieldType} {k : List Value → yS → Prop} {v : Option Value} {τ : yS} (h : yPost t k v τ) : k v.toList τ := by
  unfold yPost at h
  split at h
  · unfold qV at h; split at h
    · exact h
    · exact h.elim
  · unfold qL at h; split at h
    · exact h
    · exact h.elim
  · unfold qI at h; split at h
    · exact h
    · exact h.elim
/-- the way through a row of cells -/
def yAl (i : Int32) (g : List Nat) (k : Nat → Prop) : Nat → Prop
  | 0 => True
  | n + 1 => yAl i g k n ∧ (i = Int32.ofNat n → match g[n]? with
    | some c => k c
    | none => False)
def yCok (vs r : List Value) (n nL : Nat) : Bool := decide (vs.length = n) && decide ((sl vs).length ≤ nL) && decide ((r.map fun v => v.category).sum ≤ 8)
/-- one step: what must hold for the judgement here -/
def yStep (d mi : Nat) (k : Nat → List (Option Value) → List Value → yS → Prop) (Q : Option Value → yS → Prop) (pc : Nat) (e : yE) (L : List (Option Value)) (st : List Value) (σ : yS) : Prop :=
  match e with
  | (i, _, a, b, v, sw, _) =>
    match i with
    | .iconst n => k (pc + 1) L (v :: st) σ
    | .bipush n => k (pc + 2) L (v :: st) σ
    | .sipush n => k (pc + 3) L (v :: st) σ
    | .ldc n => k (pc + 2) L (v :: st) σ
    | .ldc2_w n => k (pc + 3) L (v :: st) σ
    | .iload_n n => match L[(n : Nat)]? with
      | some (some (.int x)) => k (pc + 1) L (.int x :: st) σ
      | _ => False
    | .iload n => match L[(n : Nat)]? with
      | some (some (.int x)) => k (pc + 2) L (.int x :: st) σ
      | _ => False
    | .lload_n n => match L[(n : Nat)]? with
      | some (some (.long x)) => k (pc + 1) L (.long x :: st) σ
      | _ => False
    | .lload n => match L[(n : Nat)]? with
      | some (some (.long x)) => k (pc + 2) L (.long x :: st) σ
      | _ => False
    | .aload_n n => match L[(n : Nat)]? with
      | some (some (.ref x)) => k (pc + 1) L (.ref x :: st) σ
      | _ => False
    | .istore_n n => match st with
      | .int x :: r => (match okAt L n with
        | true => k (pc + 1) (L.set n (some (.int x))) r σ
        | false => False)
      | _ => False
    | .istore n => match st with
      | .int x :: r => (match okAt L n with
        | true => k (pc + 2) (L.set n (some (.int x))) r σ
        | false => False)
      | _ => False
    | .astore_n n => match st with
      | .ref x :: r => (match okAt L n with
        | true => k (pc + 1) (L.set n (some (.ref x))) r σ
        | false => False)
      | _ => False
    | .lstore_n n => match st with
      | .long x :: r => (match okAt L n with
        | true => k (pc + 1) ((L.set n (some (.long x))).set (n + 1) none) r σ
        | false => False)
      | _ => False
    | .lstore n => match st with
      | .long x :: r => (match okAt L n with
        | true => k (pc + 2) ((L.set n (some (.long x))).set (n + 1) none) r σ
        | false => False)
      | _ => False
    | .iinc n z => match v, L[n]? with
      | .int w, some (some (.int x)) => (match okAt L n with
        | true => k (pc + 3) (L.set n (some (.int (x + w)))) st σ
        | false => False)
      | _, _ => False
    | .iadd => match st with
      | .int y :: .int x :: r => k (pc + 1) L (.int (x + y) :: r) σ
      | _ => False
    | .isub => match st with
      | .int y :: .int x :: r => k (pc + 1) L (.int (x - y) :: r) σ
      | _ => False
    | .imul => match st with
      | .int y :: .int x :: r => k (pc + 1) L (.int (x * y) :: r) σ
      | _ => False
    | .iand => match st with
      | .int y :: .int x :: r => k (pc + 1) L (.int (x &&& y) :: r) σ
      | _ => False
    | .ior => match st with
      | .int y :: .int x :: r => k (pc + 1) L (.int (x ||| y) :: r) σ
      | _ => False
    | .ixor => match st with
      | .int y :: .int x :: r => k (pc + 1) L (.int (x ^^^ y) :: r) σ
      | _ => False
    | .ishl => match st with
      | .int y :: .int x :: r => k (pc + 1) L (.int (x <<< (y &&& 31)) :: r) σ
      | _ => False
    | .ishr => match st with
      | .int y :: .int x :: r => k (pc + 1) L (.int (x >>> (y &&& 31)) :: r) σ
      | _ => False
    | .irem => match st with
      | .int y :: .int x :: r => ¬ y = 0 ∧ k (pc + 1) L (.int (x - x / y * y) :: r) σ
      | _ => False
    | .ladd => match st with
      | .long y :: .long x :: r => k (pc + 1) L (.long (x + y) :: r) σ
      | _ => False
    | .lsub => match st with
      | .long y :: .long x :: r => k (pc + 1) L (.long (x - y) :: r) σ
      | _ => False
    | .lmul => match st with
      | .long y :: .long x :: r => k (pc + 1) L (.long (x * y) :: r) σ
      | _ => False
    | .i2l => match st with
      | .int x :: r => k (pc + 1) L (.long x.toInt64 :: r) σ
      | _ => False
    | .l2i => match st with
      | .long x :: r => k (pc + 1) L (.int x.toInt32 :: r) σ
      | _ => False
    | .lcmp => match st with
      | .long y :: .long x :: r => k (pc + 1) L (.int (lg_cmp x y) :: r) σ
      | _ => False
    | .dup => match st with
      | x :: r => (match decide (x.category = 1) with
        | true => k (pc + 1) L (x :: x :: r) σ
        | false => False)
      | _ => False
    | .dup2 => match st with
      | x :: y :: r => (match decide (x.category = 1) && decide (y.category = 1) with
        | true => k (pc + 1) L (x :: y :: x :: y :: r) σ
        | false => False)
      | _ => False
    | .goto z => k a L st σ
    | .ifnull z => match st with
      | .ref _ :: r => k (pc + 3) L r σ
      | _ => False
    | .ifCond .eq z => match st with
      | .int x :: r => ((x = 0) → k a L r σ) ∧ (¬ (x = 0) → k (pc + 3) L r σ)
      | _ => False
    | .ifCond .ne z => match st with
      | .int x :: r => (¬ (x = 0) → k a L r σ) ∧ ((x = 0) → k (pc + 3) L r σ)
      | _ => False
    | .ifCond .lt z => match st with
      | .int x :: r => ((x < 0) → k a L r σ) ∧ (¬ (x < 0) → k (pc + 3) L r σ)
      | _ => False
    | .ifCond .ge z => match st with
      | .int x :: r => ((0 ≤ x) → k a L r σ) ∧ (¬ (0 ≤ x) → k (pc + 3) L r σ)
      | _ => False
    | .ifCond .gt z => match st with
      | .int x :: r => ((0 < x) → k a L r σ) ∧ (¬ (0 < x) → k (pc + 3) L r σ)
      | _ => False
    | .ifCond .le z => match st with
      | .int x :: r => ((x ≤ 0) → k a L r σ) ∧ (¬ (x ≤ 0) → k (pc + 3) L r σ)
      | _ => False
    | .if_icmp .eq z => match st with
      | .int y :: .int x :: r => ((x = y) → k a L r σ) ∧ (¬ (x = y) → k (pc + 3) L r σ)
      | _ => False
    | .if_icmp .ne z => match st with
      | .int y :: .int x :: r => (¬ (x = y) → k a L r σ) ∧ ((x = y) → k (pc + 3) L r σ)
      | _ => False
    | .if_icmp .lt z => match st with
      | .int y :: .int x :: r => ((x < y) → k a L r σ) ∧ (¬ (x < y) → k (pc + 3) L r σ)
      | _ => False
    | .if_icmp .ge z => match st with
      | .int y :: .int x :: r => ((y ≤ x) → k a L r σ) ∧ (¬ (y ≤ x) → k (pc + 3) L r σ)
      | _ => False
    | .if_icmp .gt z => match st with
      | .int y :: .int x :: r => ((y < x) → k a L r σ) ∧ (¬ (y < x) → k (pc + 3) L r σ)
      | _ => False
    | .if_icmp .le z => match st with
      | .int y :: .int x :: r => ((x ≤ y) → k a L r σ) ∧ (¬ (x ≤ y) → k (pc + 3) L r σ)
      | _ => False
    | .getfield n => match st with
      | .ref c :: r => (match ysh[c]? with
        | some (.inr (.inr (ci, fds))) => (match decide (ci = a), fds[b]? with
          | true, some fd => k (pc + 3) L (fa (σ c) b fd :: r) σ
          | _, _ => False)
        | _ => False)
      | _ => False
    | .putfield n => match st with
      | .int x :: .ref c :: r => (match ysh[c]? with
        | some (.inr (.inr (ci, fds))) => (match decide (ci = a), fds[b]?, v with
          | true, some none, .ref 0 => k (pc + 3) L r (sg σ c b x)
          | true, some none, .ref 1 => yBo x ∧ k (pc + 3) L r (sg σ c b x)
          | _, _, _ => False)
        | _ => False)
      | .long x :: .ref c :: r => (match ysh[c]? with
        | some (.inr (.inr (ci, fds))) => (match decide (ci = a) && decide (fds.length ≤ 1000), fds[b]?, v with
          | true, some (some none), .ref 2 => k (pc + 3) L r (sgA σ c (upd (upd (σ c) b (lgHi x)) (b + 1000) (lgLo x)))
          | _, _, _ => False)
        | _ => False)
      | _ => False
    | .iaload => match st with
      | .int i :: .ref c :: r => (match ysh[c]? with
        | some (.inl (t, n)) => (match decide (t = 0) with
          | true => vp_in i n ∧ k (pc + 1) L (.int (σ c i.toNatClampNeg) :: r) σ
          | false => False)
        | _ => False)
      | _ => False
    | .baload => match st with
      | .int i :: .ref c :: r => (match ysh[c]? with
        | some (.inl (t, n)) => (match decide (t = 1) with
          | true => vp_in i n ∧ k (pc + 1) L (.int (σ c i.toNatClampNeg) :: r) σ
          | false => False)
        | _ => False)
      | _ => False
    | .iastore => match st with
      | .int x :: .int i :: .ref c :: r => (match ysh[c]? with
        | some (.inl (t, n)) => (match decide (t = 0) with
          | true => vp_in i n ∧ k (pc + 1) L r (sg σ c i.toNatClampNeg x)
          | false => False)
        | _ => False)
      | _ => False
    | .bastore => match st with
      | .int x :: .int i :: .ref c :: r => (match ysh[c]? with
        | some (.inl (t, n)) => (match decide (t = 1) with
          | true => vp_in i n ∧ yBo x ∧ k (pc + 1) L r (sg σ c i.toNatClampNeg x)
          | false => False)
        | _ => False)
      | _ => False
    | .aaload => match st with
      | .int i :: .ref c :: r => (match ysh[c]? with
        | some (.inr (.inl (n, g))) => vp_in i n ∧ yAl i g (fun j => k (pc + 1) L (.ref j :: r) σ) n
        | _ => False)
      | _ => False
    | .arraylength => match st with
      | .ref c :: r => (match ysh[c]? with
        | some (.inl (t, n)) => (match decide (t < 2) with
          | true => k (pc + 1) L (.int (Int32.ofNat n) :: r) σ
          | false => False)
        | _ => False)
      | _ => False
    | .lookupswitch df ps => match st with
      | .int x :: r => ySw x (fun t => k t L r σ) a sw
      | _ => False
    | .tableswitch df lo hi os => match st with
      | .int x :: r => ySw x (fun t => k t L r σ) a sw
      | _ => False
    | .ireturn => match st, yT mi with
      | [.int x], some .int => Q (some (.int x)) σ
      | [.int x], some .boolean => yBo x ∧ Q (some (.int x)) σ
      | _, _ => False
    | .lreturn => match st, yT mi with
      | [.long x], some .long => Q (some (.long x)) σ
      | _, _ => False
    | .return_ => match st, yT mi with
      | [], none => Q none σ
      | _, _ => False
    | .invokestatic n => match d with
      | 0 => False
      | d' + 1 => (match decide (a = 999) with
        | true => (match st with
          | .int n :: .int dp :: .ref c1 :: .int sp :: .ref c0 :: r => (match ysh[c0]?, ysh[c1]? with
            | some (.inl (t0, n0)), some (.inl (t1, n1)) => (match decide (t0 = 0) && decide (t1 = 0) && decide ((r.map fun v => v.category).sum ≤ 8) with
              | true => yCp sp dp n n0 n1 ∧ k (pc + 3) L r (sgA σ c1 (va_cpy (σ c0) (σ c1) sp.toNatClampNeg dp.toNatClampNeg n.toNatClampNeg))
              | false => False)
            | _, _ => False)
          | _ => False)
        | false => (match yCok (st.take (yK a)).reverse (st.drop (yK a)) (yK a) (yL a) with
          | true => yR d' a 0 (ent (yL a) (st.take (yK a)).reverse) [] σ (yPost (yT a) (fun vs τ => k (pc + 3) L (vs ++ st.drop (yK a)) τ))
          | false => False))
    | .invokevirtual n => match d with
      | 0 => False
      | d' + 1 => (match st.drop (yK a) with
        | .ref c :: r => (match ysh[c]? with
          | some (.inr (.inr (ci, fds))) => (match decide (ci = yI a) && yCok (.ref c :: (st.take (yK a)).reverse) r (yK a + 1) (yL a) with
            | true => yR d' a 0 (ent (yL a) (.ref c :: (st.take (yK a)).reverse)) [] σ (yPost (yT a) (fun vs τ => k (pc + 3) L (vs ++ r) τ))
            | false => False)
          | _ => False)
        | _ => False)
    | _ => False
theorem yAl.out {i : Int32} {g : List Nat} {k : Nat → Prop} : ∀ {n : Nat}, vp_in i n → yAl i g k n → ∃ j, g[i.toNatClampNeg]? = some j ∧ k j
  | 0, h, _ => absurd (Or.inr (Nat.zero_le _)) h
  | n + 1, h, hy => by
    by_cases hi : i.toNatClampNeg = n
    · have h0 : i = Int32.ofNat n := by
        have hn : ¬ i < 0 := fun q => h (Or.inl q)
        obtain ⟨j, hj, rfl⟩ := nI_of hn
        rw [nI_clamp hj] at hi
        rw [hi]; rfl
      have := hy.2 h0
      split at this
      · rename_i c hc; exact ⟨c, by rw [hi]; exact hc, this⟩
      · exact this.elim
    · exact yAl.out (fun q => h (q.elim Or.inl (fun q => by
        have : i.toNatClampNeg < n + 1 := Nat.not_le.mp fun q2 => h (Or.inr q2)
        omega))) hy.1
theorem ySw.imp {x : Int32} {k k' : Nat → Prop} {a : Nat} (hk : ∀ t, k t → k' t) : ∀ {sw : List (Int32 × Nat)}, ySw x k a sw → ySw x k' a sw
  | [], h => hk a h
  | _ :: _, h => ⟨fun q => hk _ (h.1 q), fun q => ySw.imp hk (h.2 q)⟩
/-- an entry is what the code has there, and names what the tables say -/
def chkE (mi pc : Nat) (e : yE) : Bool := match e with
  | (i, len, a, b, v, sw, pos) => decide (decode (yB mi) pc = .ok (i, len)) && (match i with
    | .iconst n => decide (len = 1) && decide (v = .int (Int32.ofInt n))
    | .bipush n => decide (len = 2) && decide (v = .int (Int8.ofInt n).toInt32)
    | .sipush n => decide (len = 3) && decide (v = .int (Int16.ofInt n).toInt32)
    | .ldc n => decide (len = 2) && (match v with
      | .int x => decide (lw_tbl[pos]? = some (.constant (yN mi).cls n x))
      | _ => false)
    | .ldc2_w n => decide (len = 3) && (match v with
      | .long x => decide (lw_tbl[pos]? = some (.constantLong (yN mi).cls n x))
      | _ => false)
    | .iload_n n => decide (len = 1)
    | .iload n => decide (len = 2)
    | .lload_n n => decide (len = 1)
    | .lload n => decide (len = 2)
    | .aload_n n => decide (len = 1)
    | .istore_n n => decide (len = 1) && decide ((n : Nat) < yL mi)
    | .istore n => decide (len = 2) && decide ((n : Nat) < yL mi)
    | .astore_n n => decide (len = 1) && decide ((n : Nat) < yL mi)
    | .lstore_n n => decide (len = 1) && decide ((n : Nat) + 1 < yL mi)
    | .lstore n => decide (len = 2) && decide ((n : Nat) + 1 < yL mi)
    | .iinc n z => decide (len = 3) && decide (v = .int (Int32.ofInt z)) && decide (n < yL mi)
    | .iadd => decide (len = 1)
    | .isub => decide (len = 1)
    | .imul => decide (len = 1)
    | .iand => decide (len = 1)
    | .ior => decide (len = 1)
    | .ixor => decide (len = 1)
    | .ishl => decide (len = 1)
    | .ishr => decide (len = 1)
    | .irem => decide (len = 1)
    | .ladd => decide (len = 1)
    | .lsub => decide (len = 1)
    | .lmul => decide (len = 1)
    | .i2l => decide (len = 1)
    | .l2i => decide (len = 1)
    | .lcmp => decide (len = 1)
    | .dup => decide (len = 1)
    | .dup2 => decide (len = 1)
    | .goto z => decide (len = 3) && decide ((pc : Int) + z = (a : Int))
    | .ifnull z => decide (len = 3)
    | .ifCond .eq z => decide (len = 3) && decide ((pc : Int) + z = (a : Int))
    | .ifCond .ne z => decide (len = 3) && decide ((pc : Int) + z = (a : Int))
    | .ifCond .lt z => decide (len = 3) && decide ((pc : Int) + z = (a : Int))
    | .ifCond .ge z => decide (len = 3) && decide ((pc : Int) + z = (a : Int))
    | .ifCond .gt z => decide (len = 3) && decide ((pc : Int) + z = (a : Int))
    | .ifCond .le z => decide (len = 3) && decide ((pc : Int) + z = (a : Int))
    | .if_icmp .eq z => decide (len = 3) && decide ((pc : Int) + z = (a : Int))
    | .if_icmp .ne z => decide (len = 3) && decide ((pc : Int) + z = (a : Int))
    | .if_icmp .lt z => decide (len = 3) && decide ((pc : Int) + z = (a : Int))
    | .if_icmp .ge z => decide (len = 3) && decide ((pc : Int) + z = (a : Int))
    | .if_icmp .gt z => decide (len = 3) && decide ((pc : Int) + z = (a : Int))
    | .if_icmp .le z => decide (len = 3) && decide ((pc : Int) + z = (a : Int))
    | .getfield n => decide (len = 3) && (match vwCl[a]? with
      | some q => decide (b < q.2.2) && decide (lw_tbl[pos]? = some (.fieldLink (yN mi).cls n (q.2.1 b).1 (q.2.1 b).2.1 (q.2.1 b).2.2.1))
      | none => false)
    | .putfield n => decide (len = 3) && (match vwCl[a]? with
      | some q => decide (b < q.2.2) && decide (lw_tbl[pos]? = some (.fieldLink (yN mi).cls n (q.2.1 b).1 (q.2.1 b).2.1 (q.2.1 b).2.2.1)) && decide ((q.2.1 b).2.2.2 = false) && decide (b < 1000) && decide (parseFieldDescriptor (q.2.1 b).2.2.1 = (match v with
        | .ref 0 => some .int
        | .ref 1 => some .boolean
        | .ref 2 => some .long
        | _ => none))
      | none => false)
    | .iaload => decide (len = 1)
    | .baload => decide (len = 1)
    | .iastore => decide (len = 1)
    | .bastore => decide (len = 1)
    | .aaload => decide (len = 1)
    | .arraylength => decide (len = 1)
    | .lookupswitch df ps => chkLk pc df a ps.toList sw
    | .tableswitch df lo hi os => chkTb pc df lo hi a os.toList sw
    | .ireturn => decide (len = 1)
    | .lreturn => decide (len = 1)
    | .return_ => decide (len = 1)
    | .invokestatic n => decide (len = 3) && (if a = 999 then decide (lw_tbl[pos]? = some (.methodLink (yN mi).cls n arraycopyName)) else yGood.contains a && decide (yI a = 99) && (if b = 0 then decide (lw_tbl[pos]? = some (.methodLink (yN mi).cls n (yN a))) else decide (lw_tbl[pos]? = some (.methodLinkNest (yN mi).cls n (yN a) "YieldLines"))))
    | .invokevirtual n => decide (len = 3) && (yGood.contains a && decide (yI a ≠ 99) && (if b = 0 then decide (lw_tbl[pos]? = some (.methodLink (yN mi).cls n (yN a))) else decide (lw_tbl[pos]? = some (.methodLinkNest (yN mi).cls n (yN a) "YieldLines"))))
    | _ => false)
set_option maxHeartbeats 4000000 in
theorem yStep_sound {d mi pc : Nat} {e : yE} {L : List (Option Value)} {st : List Value} {σ : yS} {Q : Option Value → yS → Prop} {k : Nat → List (Option Value) → List Value → yS → Prop} (hG : ∀ c ∈ yGood, chkM c = true) (hk : chkE mi pc e = true) (hQ : ∀ pc' L' st' σ', k pc' L' st' σ' → yR d mi pc' L' st' σ' Q) (h : yStep d mi k Q pc e L st σ) : yR d mi pc L st σ Q := by
  obtain ⟨i, len, a, b, v, sw, pos⟩ := e
  simp only [chkE, Bool.and_eq_true, decide_eq_true_eq] at hk
  obtain ⟨hdc, hk⟩ := hk
  unfold yStep at h
  simp only at h
  split at h
  · -- .iconst n
    simp only [Bool.and_eq_true, decide_eq_true_eq] at hk
    obtain ⟨rfl, rfl⟩ := hk
    exact yr_iconst hdc rfl (hQ _ _ _ _ h)
  · -- .bipush n
    simp only [Bool.and_eq_true, decide_eq_true_eq] at hk
    obtain ⟨rfl, rfl⟩ := hk
    exact yr_bipush hdc rfl (hQ _ _ _ _ h)
  · -- .sipush n
    simp only [Bool.and_eq_true, decide_eq_true_eq] at hk
    obtain ⟨rfl, rfl⟩ := hk
    exact yr_sipush hdc rfl (hQ _ _ _ _ h)
  · -- .ldc n
    simp only [Bool.and_eq_true, decide_eq_true_eq] at hk
    obtain ⟨rfl, hk⟩ := hk
    split at hk
    · exact yr_ldc hdc (mem_at (of_decide_eq_true hk)) (hQ _ _ _ _ h)
    · cases hk
  · -- .ldc2_w n
    simp only [Bool.and_eq_true, decide_eq_true_eq] at hk
    obtain ⟨rfl, hk⟩ := hk
    split at hk
    · exact yr_ldc2 hdc (mem_at (of_decide_eq_true hk)) (hQ _ _ _ _ h)
    · cases hk
  · -- .iload_n n
    simp only [Bool.and_eq_true, decide_eq_true_eq] at hk
    subst hk
    split at h
    · rename_i hv; exact yr_iload_n hdc hv (hQ _ _ _ _ h)
    · exact h.elim
  · -- .iload n
    simp only [Bool.and_eq_true, decide_eq_true_eq] at hk
    subst hk
    split at h
    · rename_i hv; exact yr_iload hdc hv (hQ _ _ _ _ h)
    · exact h.elim
  · -- .lload_n n
    simp only [Bool.and_eq_true, decide_eq_true_eq] at hk
    subst hk
    split at h
    · rename_i hv; exact yr_lload_n hdc hv (hQ _ _ _ _ h)
    · exact h.elim
  · -- .lload n
    simp only [Bool.and_eq_true, decide_eq_true_eq] at hk
    subst hk
    split at h
    · rename_i hv; exact yr_lload hdc hv (hQ _ _ _ _ h)
    · exact h.elim
  · -- .aload_n n
    simp only [Bool.and_eq_true, decide_eq_true_eq] at hk
    subst hk
    split at h
    · rename_i hv; exact yr_aload_n hdc hv (hQ _ _ _ _ h)
    · exact h.elim
  · -- .istore_n n
    simp only [Bool.and_eq_true, decide_eq_true_eq] at hk
    obtain ⟨rfl, hk⟩ := hk
    split at h
    · split at h
      · rename_i hv; exact yr_istore_n hdc hk hv (hQ _ _ _ _ h)
      · exact h.elim
    · exact h.elim
  · -- .istore n
    simp only [Bool.and_eq_true, decide_eq_true_eq] at hk
    obtain ⟨rfl, hk⟩ := hk
    split at h
    · split at h
      · rename_i hv; exact yr_istore hdc hk hv (hQ _ _ _ _ h)
      · exact h.elim
    · exact h.elim
  · -- .astore_n n
    simp only [Bool.and_eq_true, decide_eq_true_eq] at hk
    obtain ⟨rfl, hk⟩ := hk
    split at h
    · split at h
      · rename_i hv; exact yr_astore_n hdc hk hv (hQ _ _ _ _ h)
      · exact h.elim
    · exact h.elim
  · -- .lstore_n n
    simp only [Bool.and_eq_true, decide_eq_true_eq] at hk
    obtain ⟨rfl, hk⟩ := hk
    split at h
    · split at h
      · rename_i hv; exact yr_lstore_n hdc hk hv (hQ _ _ _ _ h)
      · exact h.elim
    · exact h.elim
  · -- .lstore n
    simp only [Bool.and_eq_true, decide_eq_true_eq] at hk
    obtain ⟨rfl, hk⟩ := hk
    split at h
    · split at h
      · rename_i hv; exact yr_lstore hdc hk hv (hQ _ _ _ _ h)
      · exact h.elim
    · exact h.elim
  · -- .iinc n z
    simp only [Bool.and_eq_true, decide_eq_true_eq] at hk
    obtain ⟨⟨rfl, hv⟩, hk⟩ := hk
    split at h
    · split at h
      · rename_i hx _ hok
        cases hv
        exact yr_iinc hdc rfl hk hok hx (hQ _ _ _ _ h)
      · exact h.elim
    · exact h.elim
  · -- .iadd
    simp only [Bool.and_eq_true, decide_eq_true_eq] at hk
    subst hk
    split at h
    · exact yr_iadd hdc (hQ _ _ _ _ h)
    · exact h.elim
  · -- .isub
    simp only [Bool.and_eq_true, decide_eq_true_eq] at hk
    subst hk
    split at h
    · exact yr_isub hdc (hQ _ _ _ _ h)
    · exact h.elim
  · -- .imul
    simp only [Bool.and_eq_true, decide_eq_true_eq] at hk
    subst hk
    split at h
    · exact yr_imul hdc (hQ _ _ _ _ h)
    · exact h.elim
  · -- .iand
    simp only [Bool.and_eq_true, decide_eq_true_eq] at hk
    subst hk
    split at h
    · exact yr_iand hdc (hQ _ _ _ _ h)
    · exact h.elim
  · -- .ior
    simp only [Bool.and_eq_true, decide_eq_true_eq] at hk
    subst hk
    split at h
    · exact yr_ior hdc (hQ _ _ _ _ h)
    · exact h.elim
  · -- .ixor
    simp only [Bool.and_eq_true, decide_eq_true_eq] at hk
    subst hk
    split at h
    · exact yr_ixor hdc (hQ _ _ _ _ h)
    · exact h.elim
  · -- .ishl
    simp only [Bool.and_eq_true, decide_eq_true_eq] at hk
    subst hk
    split at h
    · exact yr_ishl hdc (hQ _ _ _ _ h)
    · exact h.elim
  · -- .ishr
    simp only [Bool.and_eq_true, decide_eq_true_eq] at hk
    subst hk
    split at h
    · exact yr_ishr hdc (hQ _ _ _ _ h)
    · exact h.elim
  · -- .irem
    simp only [Bool.and_eq_true, decide_eq_true_eq] at hk
    subst hk
    split at h
    · exact yr_irem hdc h.1 (hQ _ _ _ _ h.2)
    · exact h.elim
  · -- .ladd
    simp only [Bool.and_eq_true, decide_eq_true_eq] at hk
    subst hk
    split at h
    · exact yr_ladd hdc (hQ _ _ _ _ h)
    · exact h.elim
  · -- .lsub
    simp only [Bool.and_eq_true, decide_eq_true_eq] at hk
    subst hk
    split at h
    · exact yr_lsub hdc (hQ _ _ _ _ h)
    · exact h.elim
  · -- .lmul
    simp only [Bool.and_eq_true, decide_eq_true_eq] at hk
    subst hk
    split at h
    · exact yr_lmul hdc (hQ _ _ _ _ h)
    · exact h.elim
  · -- .i2l
    simp only [Bool.and_eq_true, decide_eq_true_eq] at hk
    subst hk
    split at h
    · exact yr_i2l hdc (hQ _ _ _ _ h)
    · exact h.elim
  · -- .l2i
    simp only [Bool.and_eq_true, decide_eq_true_eq] at hk
    subst hk
    split at h
    · exact yr_l2i hdc (hQ _ _ _ _ h)
    · exact h.elim
  · -- .lcmp
    simp only [Bool.and_eq_true, decide_eq_true_eq] at hk
    subst hk
    split at h
    · exact yr_lcmp hdc (hQ _ _ _ _ h)
    · exact h.elim
  · -- .dup
    simp only [Bool.and_eq_true, decide_eq_true_eq] at hk
    subst hk
    split at h
    · split at h
      · rename_i hx; exact yr_dup hdc (of_decide_eq_true hx) (hQ _ _ _ _ h)
      · exact h.elim
    · exact h.elim
  · -- .dup2
    simp only [Bool.and_eq_true, decide_eq_true_eq] at hk
    subst hk
    split at h
    · split at h
      · rename_i hx
        simp only [Bool.and_eq_true, decide_eq_true_eq] at hx
        exact yr_dup2 hdc hx.1 hx.2 (hQ _ _ _ _ h)
      · exact h.elim
    · exact h.elim
  · -- .goto z
    simp only [Bool.and_eq_true, decide_eq_true_eq] at hk
    obtain ⟨rfl, hk⟩ := hk
    exact yr_goto hdc hk (hQ _ _ _ _ h)
  · -- .ifnull z
    simp only [Bool.and_eq_true, decide_eq_true_eq] at hk
    subst hk
    split at h
    · exact yr_ifnull hdc (hQ _ _ _ _ h)
    · exact h.elim
  · -- .ifCond .eq z
    simp only [Bool.and_eq_true, decide_eq_true_eq] at hk
    obtain ⟨rfl, hk⟩ := hk
    split at h
    · exact yr_if_eq hdc hk ⟨fun q => hQ _ _ _ _ (h.1 q), fun q => hQ _ _ _ _ (h.2 q)⟩
    · exact h.elim
  · -- .ifCond .ne z
    simp only [Bool.and_eq_true, decide_eq_true_eq] at hk
    obtain ⟨rfl, hk⟩ := hk
    split at h
    · exact yr_if_ne hdc hk ⟨fun q => hQ _ _ _ _ (h.1 q), fun q => hQ _ _ _ _ (h.2 q)⟩
    · exact h.elim
  · -- .ifCond .lt z
    simp only [Bool.and_eq_true, decide_eq_true_eq] at hk
    obtain ⟨rfl, hk⟩ := hk
    split at h
    · exact yr_if_lt hdc hk ⟨fun q => hQ _ _ _ _ (h.1 q), fun q => hQ _ _ _ _ (h.2 q)⟩
    · exact h.elim
  · -- .ifCond .ge z
    simp only [Bool.and_eq_true, decide_eq_true_eq] at hk
    obtain ⟨rfl, hk⟩ := hk
    split at h
    · exact yr_if_ge hdc hk ⟨fun q => hQ _ _ _ _ (h.1 q), fun q => hQ _ _ _ _ (h.2 q)⟩
    · exact h.elim
  · -- .ifCond .gt z
    simp only [Bool.and_eq_true, decide_eq_true_eq] at hk
    obtain ⟨rfl, hk⟩ := hk
    split at h
    · exact yr_if_gt hdc hk ⟨fun q => hQ _ _ _ _ (h.1 q), fun q => hQ _ _ _ _ (h.2 q)⟩
    · exact h.elim
  · -- .ifCond .le z
    simp only [Bool.and_eq_true, decide_eq_true_eq] at hk
    obtain ⟨rfl, hk⟩ := hk
    split at h
    · exact yr_if_le hdc hk ⟨fun q => hQ _ _ _ _ (h.1 q), fun q => hQ _ _ _ _ (h.2 q)⟩
    · exact h.elim
  · -- .if_icmp .eq z
    simp only [Bool.and_eq_true, decide_eq_true_eq] at hk
    obtain ⟨rfl, hk⟩ := hk
    split at h
    · exact yr_icmp_eq hdc hk ⟨fun q => hQ _ _ _ _ (h.1 q), fun q => hQ _ _ _ _ (h.2 q)⟩
    · exact h.elim
  · -- .if_icmp .ne z
    simp only [Bool.and_eq_true, decide_eq_true_eq] at hk
    obtain ⟨rfl, hk⟩ := hk
    split at h
    · exact yr_icmp_ne hdc hk ⟨fun q => hQ _ _ _ _ (h.1 q), fun q => hQ _ _ _ _ (h.2 q)⟩
    · exact h.elim
  · -- .if_icmp .lt z
    simp only [Bool.and_eq_true, decide_eq_true_eq] at hk
    obtain ⟨rfl, hk⟩ := hk
    split at h
    · exact yr_icmp_lt hdc hk ⟨fun q => hQ _ _ _ _ (h.1 q), fun q => hQ _ _ _ _ (h.2 q)⟩
    · exact h.elim
  · -- .if_icmp .ge z
    simp only [Bool.and_eq_true, decide_eq_true_eq] at hk
    obtain ⟨rfl, hk⟩ := hk
    split at h
    · exact yr_icmp_ge hdc hk ⟨fun q => hQ _ _ _ _ (h.1 q), fun q => hQ _ _ _ _ (h.2 q)⟩
    · exact h.elim
  · -- .if_icmp .gt z
    simp only [Bool.and_eq_true, decide_eq_true_eq] at hk
    obtain ⟨rfl, hk⟩ := hk
    split at h
    · exact yr_icmp_gt hdc hk ⟨fun q => hQ _ _ _ _ (h.1 q), fun q => hQ _ _ _ _ (h.2 q)⟩
    · exact h.elim
  · -- .if_icmp .le z
    simp only [Bool.and_eq_true, decide_eq_true_eq] at hk
    obtain ⟨rfl, hk⟩ := hk
    split at h
    · exact yr_icmp_le hdc hk ⟨fun q => hQ _ _ _ _ (h.1 q), fun q => hQ _ _ _ _ (h.2 q)⟩
    · exact h.elim
  · -- .getfield n
    simp only [Bool.and_eq_true, decide_eq_true_eq] at hk
    obtain ⟨rfl, hk⟩ := hk
    split at hk
    · rename_i q hq
      obtain ⟨C, T, N⟩ := q
      simp only [Bool.and_eq_true, decide_eq_true_eq] at hk
      split at h
      · split at h
        · rename_i hc
          split at h
          · rename_i e1 e2
            have e3 := of_decide_eq_true e1
            subst e3
            exact yr_get hdc hc hq hk.1 e2 (mem_at hk.2) (hQ _ _ _ _ h)
          · exact h.elim
        · exact h.elim
      · exact h.elim
    · cases hk
  · -- .putfield n
    simp only [Bool.and_eq_true, decide_eq_true_eq] at hk
    obtain ⟨rfl, hk⟩ := hk
    split at hk
    · rename_i q hq
      obtain ⟨C, T, N⟩ := q
      simp only [Bool.and_eq_true, decide_eq_true_eq] at hk
      obtain ⟨⟨⟨⟨k1, k2⟩, k3⟩, k4⟩, k5⟩ := hk
      split at h
      · split at h
        · rename_i hc
          split at h
          · rename_i e1 e2
            have e3 := of_decide_eq_true e1
            subst e3
            exact yr_put hdc hc hq k1 k4 e2 (mem_at k2) k3 (by unfold yFit; rw [k5]; trivial) (hQ _ _ _ _ h)
          · rename_i e1 e2
            have e3 := of_decide_eq_true e1
            subst e3
            exact yr_put hdc hc hq k1 k4 e2 (mem_at k2) k3 (by unfold yFit; rw [k5]; exact h.1) (hQ _ _ _ _ h.2)
          · exact h.elim
        · exact h.elim
      · split at h
        · rename_i hc
          split at h
          · rename_i e1 e2
            simp only [Bool.and_eq_true, decide_eq_true_eq] at e1
            obtain ⟨e3, e4⟩ := e1
            subst e3
            exact yr_putL hdc hc hq k1 e4 e2 (mem_at k2) k3 k5 (hQ _ _ _ _ h)
          · exact h.elim
        · exact h.elim
      · exact h.elim
    · cases hk
  · -- .iaload
    simp only [Bool.and_eq_true, decide_eq_true_eq] at hk
    subst hk
    split at h
    · split at h
      · rename_i hc
        split at h
        · rename_i e1
          have e3 := of_decide_eq_true e1
          subst e3
          exact yr_iaload hdc hc h.1 (hQ _ _ _ _ h.2)
        · exact h.elim
      · exact h.elim
    · exact h.elim
  · -- .baload
    simp only [Bool.and_eq_true, decide_eq_true_eq] at hk
    subst hk
    split at h
    · split at h
      · rename_i hc
        split at h
        · rename_i e1
          have e3 := of_decide_eq_true e1
          subst e3
          exact yr_baload hdc hc h.1 (hQ _ _ _ _ h.2)
        · exact h.elim
      · exact h.elim
    · exact h.elim
  · -- .iastore
    simp only [Bool.and_eq_true, decide_eq_true_eq] at hk
    subst hk
    split at h
    · split at h
      · rename_i hc
        split at h
        · rename_i e1
          have e3 := of_decide_eq_true e1
          subst e3
          exact yr_iastore hdc hc h.1 (hQ _ _ _ _ h.2)
        · exact h.elim
      · exact h.elim
    · exact h.elim
  · -- .bastore
    simp only [Bool.and_eq_true, decide_eq_true_eq] at hk
    subst hk
    split at h
    · split at h
      · rename_i hc
        split at h
        · rename_i e1
          have e3 := of_decide_eq_true e1
          subst e3
          exact yr_bastore hdc hc h.1 h.2.1 (hQ _ _ _ _ h.2.2)
        · exact h.elim
      · exact h.elim
    · exact h.elim
  · -- .aaload
    simp only [Bool.and_eq_true, decide_eq_true_eq] at hk
    subst hk
    split at h
    · split at h
      · rename_i hc
        obtain ⟨h1, h2⟩ := h
        obtain ⟨j, j1, j2⟩ := yAl.out h1 h2
        exact yr_aaload hdc hc h1 j1 (hQ _ _ _ _ j2)
      · exact h.elim
    · exact h.elim
  · -- .arraylength
    simp only [Bool.and_eq_true, decide_eq_true_eq] at hk
    subst hk
    split at h
    · split at h
      · rename_i hc
        split at h
        · rename_i e1
          exact yr_alen hdc hc (of_decide_eq_true e1) rfl (hQ _ _ _ _ h)
        · exact h.elim
      · exact h.elim
    · exact h.elim
  · -- .lookupswitch df ps
    simp only [Bool.and_eq_true, decide_eq_true_eq] at hk
    split at h
    · exact yr_lookup hdc hk (h.imp fun t ht => hQ _ _ _ _ ht)
    · exact h.elim
  · -- .tableswitch df lo hi os
    simp only [Bool.and_eq_true, decide_eq_true_eq] at hk
    split at h
    · exact yr_table hdc hk (h.imp fun t ht => hQ _ _ _ _ ht)
    · exact h.elim
  · -- .ireturn
    simp only [Bool.and_eq_true, decide_eq_true_eq] at hk
    subst hk
    split at h
    · rename_i e1; exact yr_iret hdc (Or.inl e1) h
    · rename_i e1; exact yr_iret hdc (Or.inr ⟨e1, h.1⟩) h.2
    · exact h.elim
  · -- .lreturn
    simp only [Bool.and_eq_true, decide_eq_true_eq] at hk
    subst hk
    split at h
    · rename_i e1; exact yr_lret hdc e1 h
    · exact h.elim
  · -- .return_
    simp only [Bool.and_eq_true, decide_eq_true_eq] at hk
    subst hk
    split at h
    · rename_i e1; exact yr_vret hdc e1 h
    · exact h.elim
  · -- .invokestatic n
    simp only [Bool.and_eq_true, decide_eq_true_eq] at hk
    obtain ⟨rfl, hk⟩ := hk
    cases d with
    | zero => exact h.elim
    | succ d' =>
      simp only at h
      split at h
      · rename_i ea
        have ea := of_decide_eq_true ea
        rw [if_pos ea] at hk
        split at h
        · split at h
          · rename_i h0 h1
            split at h
            · rename_i e1
              simp only [Bool.and_eq_true, decide_eq_true_eq] at e1
              obtain ⟨⟨rfl, rfl⟩, e4⟩ := e1
              exact yr_copy hdc (of_decide_eq_true hk) acp_ok.1 acp_ok.2.1 acp_ok.2.2 h0 h1 h.1 e4 (hQ _ _ _ _ h.2)
            · exact h.elim
          · exact h.elim
        · exact h.elim
      · rename_i ea
        have ea := of_decide_eq_false ea
        rw [if_neg ea] at hk
        simp only [Bool.and_eq_true, decide_eq_true_eq] at hk
        split at h
        · rename_i ec
          simp only [yCok, Bool.and_eq_true, decide_eq_true_eq] at ec
          have hM := hG a (by simpa using hk.1.1)
          have est : st = (st.take (yK a)).reverse.reverse ++ st.drop (yK a) := by rw [List.reverse_reverse, List.take_append_drop]
          rw [est]
          by_cases hb : b = 0
          · have hk2 := hk.2
            rw [if_pos hb] at hk2
            exact yr_callS hdc hM hk.1.2 (mem_at (of_decide_eq_true hk2)) ec.1.1 ec.1.2 ec.2 h (fun v τ hv => hQ _ _ _ _ hv.go)
          · have hk2 := hk.2
            rw [if_neg hb] at hk2
            exact yr_callSN hdc hM hk.1.2 (mem_at (of_decide_eq_true hk2)) ec.1.1 ec.1.2 ec.2 h (fun v τ hv => hQ _ _ _ _ hv.go)
        · exact h.elim
  · -- .invokevirtual n
    simp only [Bool.and_eq_true, decide_eq_true_eq] at hk
    obtain ⟨rfl, hk⟩ := hk
    cases d with
    | zero => exact h.elim
    | succ d' =>
      simp only at h
      split at h
      · rename_i hdrop
        split at h
        · rename_i hc
          split at h
          · rename_i ec
            simp only [yCok, Bool.and_eq_true, decide_eq_true_eq, List.length_cons] at ec
            obtain ⟨e0, ⟨e1, e2⟩, e3⟩ := ec
            subst e0
            have hM := hG a (by simpa using hk.1.1)
            have est : st = (st.take (yK a)).reverse.reverse ++ st.drop (yK a) := by rw [List.reverse_reverse, List.take_append_drop]
            rw [est, hdrop]
            by_cases hb : b = 0
            · have hk2 := hk.2
              rw [if_pos hb] at hk2
              exact yr_callV hdc hM hk.1.2 hc (mem_at (of_decide_eq_true hk2)) (by omega) e2 e3 h (fun v τ hv => hQ _ _ _ _ hv.go)
            · have hk2 := hk.2
              rw [if_neg hb] at hk2
              exact yr_callVN hdc hM hk.1.2 hc (mem_at (of_decide_eq_true hk2)) (by omega) e2 e3 h (fun v τ hv => hQ _ _ _ _ hv.go)
          · exact h.elim
        · exact h.elim
      · exact h.elim
  · exact h.elim
end
section
/-- many steps, up to the places S -/
def yWp : Nat → Nat → Nat → List (Nat × yE) → List Nat → Nat → List (Option Value) → List Value → yS → (Option Value → yS → Prop) → Prop
  | 0, d, mi, _, _, pc, L, st, σ, Q => yR d mi pc L st σ Q
  | n + 1, d, mi, C, S, pc, L, st, σ, Q => match C.lookup pc with
    | none => False
    | some e => yStep d mi (fun pc' L' st' σ' => match S.contains pc' with
      | true => yR d mi pc' L' st' σ' Q
      | false => yWp n d mi C S pc' L' st' σ' Q) Q pc e L st σ
def chkC (mi : Nat) (C : List (Nat × yE)) : Bool := C.all (fun q => chkE mi q.1 q.2)
theorem lookup_mem {C : List (Nat × yE)} {pc : Nat} {e : yE} (h : C.lookup pc = some e) : (pc, e) ∈ C := by
  induction C with
  | nil => cases h
  | cons q C ih =>
    obtain ⟨a, b⟩ := q
    rw [List.lookup_cons] at h
    split at h
    · rename_i hq
      have := eq_of_beq hq
      cases h
      subst this
      exact List.mem_cons_self
    · exact List.mem_cons_of_mem _ (ih h)
theorem yWp_sound {mi : Nat} {C : List (Nat × yE)} {d : Nat} {S : List Nat} {Q : Option Value → yS → Prop} (hG : ∀ c ∈ yGood, chkM c = true) (hC : chkC mi C = true) : ∀ (n : Nat) {pc : Nat} {L : List (Option Value)} {st : List Value} {σ : yS}, yWp n d mi C S pc L st σ Q → yR d mi pc L st σ Q
  | 0, _, _, _, _, h => h
  | n + 1, pc, L, st, σ, h => by
    unfold yWp at h
    split at h
    · exact h.elim
    · rename_i e he
      have h1 : (fun q : Nat × yE => chkE mi q.1 q.2) (pc, e) = true := List.all_eq_true.mp hC (pc, e) (lookup_mem he)
      have h2 : chkE mi pc e = true := by simpa only using h1
      generalize hk0 : (fun pc' L' st' σ' => match S.contains pc' with
        | true => yR d mi pc' L' st' σ' Q
        | false => yWp n d mi C S pc' L' st' σ' Q) = k at h
      refine yStep_sound hG h2 (fun pc' L' st' σ' hk => ?_) h
      rw [← hk0] at hk
      try dsimp only at hk
      split at hk
      · exact hk
      · exact yWp_sound hG hC n hk
theorem gd_1 : chkM 1 = true := by decide +kernel
theorem gd_2 : chkM 2 = true := by decide +kernel
theorem gd_4 : chkM 4 = true := by decide +kernel
theorem gd_5 : chkM 5 = true := by decide +kernel
theorem gd_6 : chkM 6 = true := by decide +kernel
theorem gd_7 : chkM 7 = true := by decide +kernel
theorem gd_8 : chkM 8 = true := by decide +kernel
theorem gd_9 : chkM 9 = true := by decide +kernel
theorem gd_10 : chkM 10 = true := by decide +kernel
theorem gd_11 : chkM 11 = true := by decide +kernel
theorem gd_12 : chkM 12 = true := by decide +kernel
theorem gd_13 : chkM 13 = true := by decide +kernel
theorem gd_14 : chkM 14 = true := by decide +kernel
theorem gd_15 : chkM 15 = true := by decide +kernel
theorem gd_16 : chkM 16 = true := by decide +kernel
theorem gd_17 : chkM 17 = true := by decide +kernel
theorem gd_18 : chkM 18 = true := by decide +kernel
theorem gd_20 : chkM 20 = true := by decide +kernel
theorem gd_21 : chkM 21 = true := by decide +kernel
theorem gd_22 : chkM 22 = true := by decide +kernel
theorem gd_23 : chkM 23 = true := by decide +kernel
theorem gd_24 : chkM 24 = true := by decide +kernel
theorem gd_26 : chkM 26 = true := by decide +kernel
theorem gd_27 : chkM 27 = true := by decide +kernel
theorem gd_28 : chkM 28 = true := by decide +kernel
theorem gd_29 : chkM 29 = true := by decide +kernel
theorem gd_30 : chkM 30 = true := by decide +kernel
theorem gd_31 : chkM 31 = true := by decide +kernel
theorem gd_32 : chkM 32 = true := by decide +kernel
theorem gd_33 : chkM 33 = true := by decide +kernel
theorem gd_34 : chkM 34 = true := by decide +kernel
theorem gd_35 : chkM 35 = true := by decide +kernel
theorem gd_36 : chkM 36 = true := by decide +kernel
theorem gd_37 : chkM 37 = true := by decide +kernel
theorem gd_38 : chkM 38 = true := by decide +kernel
theorem gd_39 : chkM 39 = true := by decide +kernel
theorem gd_40 : chkM 40 = true := by decide +kernel
theorem gd_41 : chkM 41 = true := by decide +kernel
theorem gd_42 : chkM 42 = true := by decide +kernel
theorem gd_43 : chkM 43 = true := by decide +kernel
theorem gd_44 : chkM 44 = true := by decide +kernel
theorem gd_45 : chkM 45 = true := by decide +kernel
theorem gd_46 : chkM 46 = true := by decide +kernel
theorem gd_48 : chkM 48 = true := by decide +kernel
theorem gd_49 : chkM 49 = true := by decide +kernel
theorem gd_50 : chkM 50 = true := by decide +kernel
theorem gd_52 : chkM 52 = true := by decide +kernel
theorem gd_53 : chkM 53 = true := by decide +kernel
theorem gd_54 : chkM 54 = true := by decide +kernel
theorem gd_55 : chkM 55 = true := by decide +kernel
theorem gd_56 : chkM 56 = true := by decide +kernel
theorem gd_57 : chkM 57 = true := by decide +kernel
theorem gd_58 : chkM 58 = true := by decide +kernel
theorem gd_59 : chkM 59 = true := by decide +kernel
theorem gd_60 : chkM 60 = true := by decide +kernel
theorem gd_61 : chkM 61 = true := by decide +kernel
theorem gd_62 : chkM 62 = true := by decide +kernel
theorem gd_63 : chkM 63 = true := by decide +kernel
theorem gd_64 : chkM 64 = true := by decide +kernel
theorem gd_65 : chkM 65 = true := by decide +kernel
theorem gd_66 : chkM 66 = true := by decide +kernel
theorem gd_67 : chkM 67 = true := by decide +kernel
theorem gd_68 : chkM 68 = true := by decide +kernel
theorem gd_69 : chkM 69 = true := by decide +kernel
theorem gd_70 : chkM 70 = true := by decide +kernel
theorem gd_71 : chkM 71 = true := by decide +kernel
theorem gd_72 : chkM 72 = true := by decide +kernel
theorem gd_73 : chkM 73 = true := by decide +kernel
theorem gd_74 : chkM 74 = true := by decide +kernel
theorem gd_75 : chkM 75 = true := by decide +kernel
theorem gd_76 : chkM 76 = true := by decide +kernel
theorem gd_77 : chkM 77 = true := by decide +kernel
theorem gd_78 : chkM 78 = true := by decide +kernel
theorem gd_80 : chkM 80 = true := by decide +kernel
theorem gd_81 : chkM 81 = true := by decide +kernel
theorem gd_82 : chkM 82 = true := by decide +kernel
theorem gd_83 : chkM 83 = true := by decide +kernel
theorem gd_84 : chkM 84 = true := by decide +kernel
theorem gd_85 : chkM 85 = true := by decide +kernel
theorem gd_86 : chkM 86 = true := by decide +kernel
theorem gd_87 : chkM 87 = true := by decide +kernel
theorem gd_88 : chkM 88 = true := by decide +kernel
theorem gd_89 : chkM 89 = true := by decide +kernel
theorem gd_90 : chkM 90 = true := by decide +kernel
theorem gd_91 : chkM 91 = true := by decide +kernel
theorem gd_92 : chkM 92 = true := by decide +kernel
theorem gd_93 : chkM 93 = true := by decide +kernel
theorem gd_94 : chkM 94 = true := by decide +kernel
theorem gd_95 : chkM 95 = true := by decide +kernel
theorem gd_96 : chkM 96 = true := by decide +kernel
theorem gd_97 : chkM 97 = true := by decide +kernel
theorem gd_98 : chkM 98 = true := by decide +kernel
theorem gd_99 : chkM 99 = true := by decide +kernel
theorem gd_100 : chkM 100 = true := by decide +kernel
theorem gd_101 : chkM 101 = true := by decide +kernel
theorem gd_102 : chkM 102 = true := by decide +kernel
theorem gd_103 : chkM 103 = true := by decide +kernel
theorem gd_104 : chkM 104 = true := by decide +kernel
theorem gd_105 : chkM 105 = true := by decide +kernel
theorem gd_106 : chkM 106 = true := by decide +kernel
theorem gd_107 : chkM 107 = true := by decide +kernel
theorem gd_108 : chkM 108 = true := by decide +kernel
theorem gd_109 : chkM 109 = true := by decide +kernel
theorem gd_110 : chkM 110 = true := by decide +kernel
theorem gd_111 : chkM 111 = true := by decide +kernel
theorem gd_112 : chkM 112 = true := by decide +kernel
theorem gd_113 : chkM 113 = true := by decide +kernel
theorem gd_114 : chkM 114 = true := by decide +kernel
theorem gd_115 : chkM 115 = true := by decide +kernel
theorem gd_116 : chkM 116 = true := by decide +kernel
theorem gd_117 : chkM 117 = true := by decide +kernel
theorem gd_118 : chkM 118 = true := by decide +kernel
theorem gd_119 : chkM 119 = true := by decide +kernel
theorem gd_120 : chkM 120 = true := by decide +kernel
theorem gd_121 : chkM 121 = true := by decide +kernel
theorem gd_122 : chkM 122 = true := by decide +kernel
theorem gd_123 : chkM 123 = true := by decide +kernel
theorem gd_124 : chkM 124 = true := by decide +kernel
theorem gd_125 : chkM 125 = true := by decide +kernel
theorem gd_126 : chkM 126 = true := by decide +kernel
theorem gd_127 : chkM 127 = true := by decide +kernel
theorem gd_128 : chkM 128 = true := by decide +kernel
theorem gd_129 : chkM 129 = true := by decide +kernel
theorem gd_130 : chkM 130 = true := by decide +kernel
theorem gd_131 : chkM 131 = true := by decide +kernel
theorem gd_132 : chkM 132 = true := by decide +kernel
theorem gd_133 : chkM 133 = true := by decide +kernel
theorem gd_134 : chkM 134 = true := by decide +kernel
theorem gd_135 : chkM 135 = true := by decide +kernel
theorem gd_136 : chkM 136 = true := by decide +kernel
theorem gd_137 : chkM 137 = true := by decide +kernel
theorem gd_138 : chkM 138 = true := by decide +kernel
theorem gd_139 : chkM 139 = true := by decide +kernel
theorem gd_140 : chkM 140 = true := by decide +kernel
theorem gd_141 : chkM 141 = true := by decide +kernel
theorem gd_142 : chkM 142 = true := by decide +kernel
theorem gd_143 : chkM 143 = true := by decide +kernel
theorem gd_144 : chkM 144 = true := by decide +kernel
theorem gd_145 : chkM 145 = true := by decide +kernel
theorem gd_146 : chkM 146 = true := by decide +kernel
theorem gd_147 : chkM 147 = true := by decide +kernel
theorem gd_148 : chkM 148 = true := by decide +kernel
theorem gd_149 : chkM 149 = true := by decide +kernel
theorem yGood_ok : ∀ c ∈ yGood, chkM c = true := by
  intro c hc
  simp only [yGood, List.mem_cons, List.not_mem_nil, or_false] at hc
  rcases hc with rfl | rfl | rfl | rfl | rfl | rfl | rfl | rfl | rfl | rfl | rfl | rfl | rfl | rfl | rfl | rfl | rfl | rfl | rfl | rfl | rfl | rfl | rfl | rfl | rfl | rfl | rfl | rfl | rfl | rfl | rfl | rfl | rfl | rfl | rfl | rfl | rfl | rfl | rfl | rfl | rfl | rfl | rfl | rfl | rfl | rfl | rfl | rfl | rfl | rfl | rfl | rfl | rfl | rfl | rfl | rfl | rfl | rfl | rfl | rfl | rfl | rfl | rfl | rfl | rfl | rfl | rfl | rfl | rfl | rfl | rfl | rfl | rfl | rfl | rfl | rfl | rfl | rfl | rfl | rfl | rfl | rfl | rfl | rfl | rfl | rfl | rfl | rfl | rfl | rfl | rfl | rfl | rfl | rfl | rfl | rfl | rfl | rfl | rfl | rfl | rfl | rfl | rfl | rfl | rfl | rfl | rfl | rfl | rfl | rfl | rfl | rfl | rfl | rfl | rfl | rfl | rfl | rfl | rfl | rfl | rfl | rfl | rfl | rfl | rfl | rfl | rfl | rfl | rfl | rfl | rfl | rfl | rfl | rfl | rfl | rfl | rfl | rfl | rfl | rfl | rfl | rfl | rfl
  · exact gd_1
  · exact gd_2
  · exact gd_4
  · exact gd_5
  · exact gd_6
  · exact gd_7
  · exact gd_8
  · exact gd_9
  · exact gd_10
  · exact gd_11
  · exact gd_12
  · exact gd_13
  · exact gd_14
  · exact gd_15
  · exact gd_16
  · exact gd_17
  · exact gd_18
  · exact gd_20
  · exact gd_21
  · exact gd_22
  · exact gd_23
  · exact gd_24
  · exact gd_26
  · exact gd_27
  · exact gd_28
  · exact gd_29
  · exact gd_30
  · exact gd_31
  · exact gd_32
  · exact gd_33
  · exact gd_34
  · exact gd_35
  · exact gd_36
  · exact gd_37
  · exact gd_38
  · exact gd_39
  · exact gd_40
  · exact gd_41
  · exact gd_42
  · exact gd_43
  · exact gd_44
  · exact gd_45
  · exact gd_46
  · exact gd_48
  · exact gd_49
  · exact gd_50
  · exact gd_52
  · exact gd_53
  · exact gd_54
  · exact gd_55
  · exact gd_56
  · exact gd_57
  · exact gd_58
  · exact gd_59
  · exact gd_60
  · exact gd_61
  · exact gd_62
  · exact gd_63
  · exact gd_64
  · exact gd_65
  · exact gd_66
  · exact gd_67
  · exact gd_68
  · exact gd_69
  · exact gd_70
  · exact gd_71
  · exact gd_72
  · exact gd_73
  · exact gd_74
  · exact gd_75
  · exact gd_76
  · exact gd_77
  · exact gd_78
  · exact gd_80
  · exact gd_81
  · exact gd_82
  · exact gd_83
  · exact gd_84
  · exact gd_85
  · exact gd_86
  · exact gd_87
  · exact gd_88
  · exact gd_89
  · exact gd_90
  · exact gd_91
  · exact gd_92
  · exact gd_93
  · exact gd_94
  · exact gd_95
  · exact gd_96
  · exact gd_97
  · exact gd_98
  · exact gd_99
  · exact gd_100
  · exact gd_101
  · exact gd_102
  · exact gd_103
  · exact gd_104
  · exact gd_105
  · exact gd_106
  · exact gd_107
  · exact gd_108
  · exact gd_109
  · exact gd_110
  · exact gd_111
  · exact gd_112
  · exact gd_113
  · exact gd_114
  · exact gd_115
  · exact gd_116
  · exact gd_117
  · exact gd_118
  · exact gd_119
  · exact gd_120
  · exact gd_121
  · exact gd_122
  · exact gd_123
  · exact gd_124
  · exact gd_125
  · exact gd_126
  · exact gd_127
  · exact gd_128
  · exact gd_129
  · exact gd_130
  · exact gd_131
  · exact gd_132
  · exact gd_133
  · exact gd_134
  · exact gd_135
  · exact gd_136
  · exact gd_137
  · exact gd_138
  · exact gd_139
  · exact gd_140
  · exact gd_141
  · exact gd_142
  · exact gd_143
  · exact gd_144
  · exact gd_145
  · exact gd_146
  · exact gd_147
  · exact gd_148
  · exact gd_149
end
section
theorem ck_1 : chkC 1 kd_1 = true := by decide +kernel
theorem wp_1 (n : Nat) {d : Nat} (S : List Nat) {pc : Nat} {L : List (Option Value)} {st : List Value} {σ : yS} {Q : Option Value → yS → Prop} (h : yWp n d 1 kd_1 S pc L st σ Q) : yR d 1 pc L st σ Q := yWp_sound yGood_ok ck_1 n h
theorem ck_2 : chkC 2 kd_2 = true := by decide +kernel
theorem wp_2 (n : Nat) {d : Nat} (S : List Nat) {pc : Nat} {L : List (Option Value)} {st : List Value} {σ : yS} {Q : Option Value → yS → Prop} (h : yWp n d 2 kd_2 S pc L st σ Q) : yR d 2 pc L st σ Q := yWp_sound yGood_ok ck_2 n h
theorem ck_4 : chkC 4 kd_4 = true := by decide +kernel
theorem wp_4 (n : Nat) {d : Nat} (S : List Nat) {pc : Nat} {L : List (Option Value)} {st : List Value} {σ : yS} {Q : Option Value → yS → Prop} (h : yWp n d 4 kd_4 S pc L st σ Q) : yR d 4 pc L st σ Q := yWp_sound yGood_ok ck_4 n h
theorem ck_5 : chkC 5 kd_5 = true := by decide +kernel
theorem wp_5 (n : Nat) {d : Nat} (S : List Nat) {pc : Nat} {L : List (Option Value)} {st : List Value} {σ : yS} {Q : Option Value → yS → Prop} (h : yWp n d 5 kd_5 S pc L st σ Q) : yR d 5 pc L st σ Q := yWp_sound yGood_ok ck_5 n h
theorem ck_6 : chkC 6 kd_6 = true := by decide +kernel
theorem wp_6 (n : Nat) {d : Nat} (S : List Nat) {pc : Nat} {L : List (Option Value)} {st : List Value} {σ : yS} {Q : Option Value → yS → Prop} (h : yWp n d 6 kd_6 S pc L st σ Q) : yR d 6 pc L st σ Q := yWp_sound yGood_ok ck_6 n h
theorem ck_7 : chkC 7 kd_7 = true := by decide +kernel
theorem wp_7 (n : Nat) {d : Nat} (S : List Nat) {pc : Nat} {L : List (Option Value)} {st : List Value} {σ : yS} {Q : Option Value → yS → Prop} (h : yWp n d 7 kd_7 S pc L st σ Q) : yR d 7 pc L st σ Q := yWp_sound yGood_ok ck_7 n h
theorem ck_8 : chkC 8 kd_8 = true := by decide +kernel
theorem wp_8 (n : Nat) {d : Nat} (S : List Nat) {pc : Nat} {L : List (Option Value)} {st : List Value} {σ : yS} {Q : Option Value → yS → Prop} (h : yWp n d 8 kd_8 S pc L st σ Q) : yR d 8 pc L st σ Q := yWp_sound yGood_ok ck_8 n h
theorem ck_9 : chkC 9 kd_9 = true := by decide +kernel
theorem wp_9 (n : Nat) {d : Nat} (S : List Nat) {pc : Nat} {L : List (Option Value)} {st : List Value} {σ : yS} {Q : Option Value → yS → Prop} (h : yWp n d 9 kd_9 S pc L st σ Q) : yR d 9 pc L st σ Q := yWp_sound yGood_ok ck_9 n h
theorem ck_10 : chkC 10 kd_10 = true := by decide +kernel
theorem wp_10 (n : Nat) {d : Nat} (S : List Nat) {pc : Nat} {L : List (Option Value)} {st : List Value} {σ : yS} {Q : Option Value → yS → Prop} (h : yWp n d 10 kd_10 S pc L st σ Q) : yR d 10 pc L st σ Q := yWp_sound yGood_ok ck_10 n h
theorem ck_11 : chkC 11 kd_11 = true := by decide +kernel
theorem wp_11 (n : Nat) {d : Nat} (S : List Nat) {pc : Nat} {L : List (Option Value)} {st : List Value} {σ : yS} {Q : Option Value → yS → Prop} (h : yWp n d 11 kd_11 S pc L st σ Q) : yR d 11 pc L st σ Q := yWp_sound yGood_ok ck_11 n h
theorem ck_12 : chkC 12 kd_12 = true := by decide +kernel
theorem wp_12 (n : Nat) {d : Nat} (S : List Nat) {pc : Nat} {L : List (Option Value)} {st : List Value} {σ : yS} {Q : Option Value → yS → Prop} (h : yWp n d 12 kd_12 S pc L st σ Q) : yR d 12 pc L st σ Q := yWp_sound yGood_ok ck_12 n h
theorem ck_13 : chkC 13 kd_13 = true := by decide +kernel
theorem wp_13 (n : Nat) {d : Nat} (S : List Nat) {pc : Nat} {L : List (Option Value)} {st : List Value} {σ : yS} {Q : Option Value → yS → Prop} (h : yWp n d 13 kd_13 S pc L st σ Q) : yR d 13 pc L st σ Q := yWp_sound yGood_ok ck_13 n h
theorem ck_14 : chkC 14 kd_14 = true := by decide +kernel
theorem wp_14 (n : Nat) {d : Nat} (S : List Nat) {pc : Nat} {L : List (Option Value)} {st : List Value} {σ : yS} {Q : Option Value → yS → Prop} (h : yWp n d 14 kd_14 S pc L st σ Q) : yR d 14 pc L st σ Q := yWp_sound yGood_ok ck_14 n h
theorem ck_15 : chkC 15 kd_15 = true := by decide +kernel
theorem wp_15 (n : Nat) {d : Nat} (S : List Nat) {pc : Nat} {L : List (Option Value)} {st : List Value} {σ : yS} {Q : Option Value → yS → Prop} (h : yWp n d 15 kd_15 S pc L st σ Q) : yR d 15 pc L st σ Q := yWp_sound yGood_ok ck_15 n h
theorem ck_16 : chkC 16 kd_16 = true := by decide +kernel
theorem wp_16 (n : Nat) {d : Nat} (S : List Nat) {pc : Nat} {L : List (Option Value)} {st : List Value} {σ : yS} {Q : Option Value → yS → Prop} (h : yWp n d 16 kd_16 S pc L st σ Q) : yR d 16 pc L st σ Q := yWp_sound yGood_ok ck_16 n h
theorem ck_17 : chkC 17 kd_17 = true := by decide +kernel
theorem wp_17 (n : Nat) {d : Nat} (S : List Nat) {pc : Nat} {L : List (Option Value)} {st : List Value} {σ : yS} {Q : Option Value → yS → Prop} (h : yWp n d 17 kd_17 S pc L st σ Q) : yR d 17 pc L st σ Q := yWp_sound yGood_ok ck_17 n h
theorem ck_18 : chkC 18 kd_18 = true := by decide +kernel
theorem wp_18 (n : Nat) {d : Nat} (S : List Nat) {pc : Nat} {L : List (Option Value)} {st : List Value} {σ : yS} {Q : Option Value → yS → Prop} (h : yWp n d 18 kd_18 S pc L st σ Q) : yR d 18 pc L st σ Q := yWp_sound yGood_ok ck_18 n h
theorem ck_20 : chkC 20 kd_20 = true := by decide +kernel
theorem wp_20 (n : Nat) {d : Nat} (S : List Nat) {pc : Nat} {L : List (Option Value)} {st : List Value} {σ : yS} {Q : Option Value → yS → Prop} (h : yWp n d 20 kd_20 S pc L st σ Q) : yR d 20 pc L st σ Q := yWp_sound yGood_ok ck_20 n h
theorem ck_21 : chkC 21 kd_21 = true := by decide +kernel
theorem wp_21 (n : Nat) {d : Nat} (S : List Nat) {pc : Nat} {L : List (Option Value)} {st : List Value} {σ : yS} {Q : Option Value → yS → Prop} (h : yWp n d 21 kd_21 S pc L st σ Q) : yR d 21 pc L st σ Q := yWp_sound yGood_ok ck_21 n h
theorem ck_22 : chkC 22 kd_22 = true := by decide +kernel
theorem wp_22 (n : Nat) {d : Nat} (S : List Nat) {pc : Nat} {L : List (Option Value)} {st : List Value} {σ : yS} {Q : Option Value → yS → Prop} (h : yWp n d 22 kd_22 S pc L st σ Q) : yR d 22 pc L st σ Q := yWp_sound yGood_ok ck_22 n h
theorem ck_23 : chkC 23 kd_23 = true := by decide +kernel
theorem wp_23 (n : Nat) {d : Nat} (S : List Nat) {pc : Nat} {L : List (Option Value)} {st : List Value} {σ : yS} {Q : Option Value → yS → Prop} (h : yWp n d 23 kd_23 S pc L st σ Q) : yR d 23 pc L st σ Q := yWp_sound yGood_ok ck_23 n h
theorem ck_24 : chkC 24 kd_24 = true := by decide +kernel
theorem wp_24 (n : Nat) {d : Nat} (S : List Nat) {pc : Nat} {L : List (Option Value)} {st : List Value} {σ : yS} {Q : Option Value → yS → Prop} (h : yWp n d 24 kd_24 S pc L st σ Q) : yR d 24 pc L st σ Q := yWp_sound yGood_ok ck_24 n h
theorem ck_26 : chkC 26 kd_26 = true := by decide +kernel
theorem wp_26 (n : Nat) {d : Nat} (S : List Nat) {pc : Nat} {L : List (Option Value)} {st : List Value} {σ : yS} {Q : Option Value → yS → Prop} (h : yWp n d 26 kd_26 S pc L st σ Q) : yR d 26 pc L st σ Q := yWp_sound yGood_ok ck_26 n h
theorem ck_27 : chkC 27 kd_27 = true := by decide +kernel
theorem wp_27 (n : Nat) {d : Nat} (S : List Nat) {pc : Nat} {L : List (Option Value)} {st : List Value} {σ : yS} {Q : Option Value → yS → Prop} (h : yWp n d 27 kd_27 S pc L st σ Q) : yR d 27 pc L st σ Q := yWp_sound yGood_ok ck_27 n h
theorem ck_28 : chkC 28 kd_28 = true := by decide +kernel
theorem wp_28 (n : Nat) {d : Nat} (S : List Nat) {pc : Nat} {L : List (Option Value)} {st : List Value} {σ : yS} {Q : Option Value → yS → Prop} (h : yWp n d 28 kd_28 S pc L st σ Q) : yR d 28 pc L st σ Q := yWp_sound yGood_ok ck_28 n h
theorem ck_29 : chkC 29 kd_29 = true := by decide +kernel
theorem wp_29 (n : Nat) {d : Nat} (S : List Nat) {pc : Nat} {L : List (Option Value)} {st : List Value} {σ : yS} {Q : Option Value → yS → Prop} (h : yWp n d 29 kd_29 S pc L st σ Q) : yR d 29 pc L st σ Q := yWp_sound yGood_ok ck_29 n h
theorem ck_30 : chkC 30 kd_30 = true := by decide +kernel
theorem wp_30 (n : Nat) {d : Nat} (S : List Nat) {pc : Nat} {L : List (Option Value)} {st : List Value} {σ : yS} {Q : Option Value → yS → Prop} (h : yWp n d 30 kd_30 S pc L st σ Q) : yR d 30 pc L st σ Q := yWp_sound yGood_ok ck_30 n h
theorem ck_31 : chkC 31 kd_31 = true := by decide +kernel
theorem wp_31 (n : Nat) {d : Nat} (S : List Nat) {pc : Nat} {L : List (Option Value)} {st : List Value} {σ : yS} {Q : Option Value → yS → Prop} (h : yWp n d 31 kd_31 S pc L st σ Q) : yR d 31 pc L st σ Q := yWp_sound yGood_ok ck_31 n h
theorem ck_32 : chkC 32 kd_32 = true := by decide +kernel
theorem wp_32 (n : Nat) {d : Nat} (S : List Nat) {pc : Nat} {L : List (Option Value)} {st : List Value} {σ : yS} {Q : Option Value → yS → Prop} (h : yWp n d 32 kd_32 S pc L st σ Q) : yR d 32 pc L st σ Q := yWp_sound yGood_ok ck_32 n h
theorem ck_33 : chkC 33 kd_33 = true := by decide +kernel
theorem wp_33 (n : Nat) {d : Nat} (S : List Nat) {pc : Nat} {L : List (Option Value)} {st : List Value} {σ : yS} {Q : Option Value → yS → Prop} (h : yWp n d 33 kd_33 S pc L st σ Q) : yR d 33 pc L st σ Q := yWp_sound yGood_ok ck_33 n h
theorem ck_34 : chkC 34 kd_34 = true := by decide +kernel
theorem wp_34 (n : Nat) {d : Nat} (S : List Nat) {pc : Nat} {L : List (Option Value)} {st : List Value} {σ : yS} {Q : Option Value → yS → Prop} (h : yWp n d 34 kd_34 S pc L st σ Q) : yR d 34 pc L st σ Q := yWp_sound yGood_ok ck_34 n h
theorem ck_35 : chkC 35 kd_35 = true := by decide +kernel
theorem wp_35 (n : Nat) {d : Nat} (S : List Nat) {pc : Nat} {L : List (Option Value)} {st : List Value} {σ : yS} {Q : Option Value → yS → Prop} (h : yWp n d 35 kd_35 S pc L st σ Q) : yR d 35 pc L st σ Q := yWp_sound yGood_ok ck_35 n h
theorem ck_36 : chkC 36 kd_36 = true := by decide +kernel
theorem wp_36 (n : Nat) {d : Nat} (S : List Nat) {pc : Nat} {L : List (Option Value)} {st : List Value} {σ : yS} {Q : Option Value → yS → Prop} (h : yWp n d 36 kd_36 S pc L st σ Q) : yR d 36 pc L st σ Q := yWp_sound yGood_ok ck_36 n h
theorem ck_37 : chkC 37 kd_37 = true := by decide +kernel
theorem wp_37 (n : Nat) {d : Nat} (S : List Nat) {pc : Nat} {L : List (Option Value)} {st : List Value} {σ : yS} {Q : Option Value → yS → Prop} (h : yWp n d 37 kd_37 S pc L st σ Q) : yR d 37 pc L st σ Q := yWp_sound yGood_ok ck_37 n h
theorem ck_38 : chkC 38 kd_38 = true := by decide +kernel
theorem wp_38 (n : Nat) {d : Nat} (S : List Nat) {pc : Nat} {L : List (Option Value)} {st : List Value} {σ : yS} {Q : Option Value → yS → Prop} (h : yWp n d 38 kd_38 S pc L st σ Q) : yR d 38 pc L st σ Q := yWp_sound yGood_ok ck_38 n h
theorem ck_39 : chkC 39 kd_39 = true := by decide +kernel
theorem wp_39 (n : Nat) {d : Nat} (S : List Nat) {pc : Nat} {L : List (Option Value)} {st : List Value} {σ : yS} {Q : Option Value → yS → Prop} (h : yWp n d 39 kd_39 S pc L st σ Q) : yR d 39 pc L st σ Q := yWp_sound yGood_ok ck_39 n h
theorem ck_40 : chkC 40 kd_40 = true := by decide +kernel
theorem wp_40 (n : Nat) {d : Nat} (S : List Nat) {pc : Nat} {L : List (Option Value)} {st : List Value} {σ : yS} {Q : Option Value → yS → Prop} (h : yWp n d 40 kd_40 S pc L st σ Q) : yR d 40 pc L st σ Q := yWp_sound yGood_ok ck_40 n h
theorem ck_41 : chkC 41 kd_41 = true := by decide +kernel
theorem wp_41 (n : Nat) {d : Nat} (S : List Nat) {pc : Nat} {L : List (Option Value)} {st : List Value} {σ : yS} {Q : Option Value → yS → Prop} (h : yWp n d 41 kd_41 S pc L st σ Q) : yR d 41 pc L st σ Q := yWp_sound yGood_ok ck_41 n h
theorem ck_42 : chkC 42 kd_42 = true := by decide +kernel
theorem wp_42 (n : Nat) {d : Nat} (S : List Nat) {pc : Nat} {L : List (Option Value)} {st : List Value} {σ : yS} {Q : Option Value → yS → Prop} (h : yWp n d 42 kd_42 S pc L st σ Q) : yR d 42 pc L st σ Q := yWp_sound yGood_ok ck_42 n h
theorem ck_43 : chkC 43 kd_43 = true := by decide +kernel
theorem wp_43 (n : Nat) {d : Nat} (S : List Nat) {pc : Nat} {L : List (Option Value)} {st : List Value} {σ : yS} {Q : Option Value → yS → Prop} (h : yWp n d 43 kd_43 S pc L st σ Q) : yR d 43 pc L st σ Q := yWp_sound yGood_ok ck_43 n h
theorem ck_44 : chkC 44 kd_44 = true := by decide +kernel
theorem wp_44 (n : Nat) {d : Nat} (S : List Nat) {pc : Nat} {L : List (Option Value)} {st : List Value} {σ : yS} {Q : Option Value → yS → Prop} (h : yWp n d 44 kd_44 S pc L st σ Q) : yR d 44 pc L st σ Q := yWp_sound yGood_ok ck_44 n h
theorem ck_45 : chkC 45 kd_45 = true := by decide +kernel
theorem wp_45 (n : Nat) {d : Nat} (S : List Nat) {pc : Nat} {L : List (Option Value)} {st : List Value} {σ : yS} {Q : Option Value → yS → Prop} (h : yWp n d 45 kd_45 S pc L st σ Q) : yR d 45 pc L st σ Q := yWp_sound yGood_ok ck_45 n h
theorem ck_46 : chkC 46 kd_46 = true := by decide +kernel
theorem wp_46 (n : Nat) {d : Nat} (S : List Nat) {pc : Nat} {L : List (Option Value)} {st : List Value} {σ : yS} {Q : Option Value → yS → Prop} (h : yWp n d 46 kd_46 S pc L st σ Q) : yR d 46 pc L st σ Q := yWp_sound yGood_ok ck_46 n h
theorem ck_48 : chkC 48 kd_48 = true := by decide +kernel
theorem wp_48 (n : Nat) {d : Nat} (S : List Nat) {pc : Nat} {L : List (Option Value)} {st : List Value} {σ : yS} {Q : Option Value → yS → Prop} (h : yWp n d 48 kd_48 S pc L st σ Q) : yR d 48 pc L st σ Q := yWp_sound yGood_ok ck_48 n h
theorem ck_49 : chkC 49 kd_49 = true := by decide +kernel
theorem wp_49 (n : Nat) {d : Nat} (S : List Nat) {pc : Nat} {L : List (Option Value)} {st : List Value} {σ : yS} {Q : Option Value → yS → Prop} (h : yWp n d 49 kd_49 S pc L st σ Q) : yR d 49 pc L st σ Q := yWp_sound yGood_ok ck_49 n h
theorem ck_50 : chkC 50 kd_50 = true := by decide +kernel
theorem wp_50 (n : Nat) {d : Nat} (S : List Nat) {pc : Nat} {L : List (Option Value)} {st : List Value} {σ : yS} {Q : Option Value → yS → Prop} (h : yWp n d 50 kd_50 S pc L st σ Q) : yR d 50 pc L st σ Q := yWp_sound yGood_ok ck_50 n h
theorem ck_52 : chkC 52 kd_52 = true := by decide +kernel
theorem wp_52 (n : Nat) {d : Nat} (S : List Nat) {pc : Nat} {L : List (Option Value)} {st : List Value} {σ : yS} {Q : Option Value → yS → Prop} (h : yWp n d 52 kd_52 S pc L st σ Q) : yR d 52 pc L st σ Q := yWp_sound yGood_ok ck_52 n h
theorem ck_53 : chkC 53 kd_53 = true := by decide +kernel
theorem wp_53 (n : Nat) {d : Nat} (S : List Nat) {pc : Nat} {L : List (Option Value)} {st : List Value} {σ : yS} {Q : Option Value → yS → Prop} (h : yWp n d 53 kd_53 S pc L st σ Q) : yR d 53 pc L st σ Q := yWp_sound yGood_ok ck_53 n h
theorem ck_54 : chkC 54 kd_54 = true := by decide +kernel
theorem wp_54 (n : Nat) {d : Nat} (S : List Nat) {pc : Nat} {L : List (Option Value)} {st : List Value} {σ : yS} {Q : Option Value → yS → Prop} (h : yWp n d 54 kd_54 S pc L st σ Q) : yR d 54 pc L st σ Q := yWp_sound yGood_ok ck_54 n h
theorem ck_55 : chkC 55 kd_55 = true := by decide +kernel
theorem wp_55 (n : Nat) {d : Nat} (S : List Nat) {pc : Nat} {L : List (Option Value)} {st : List Value} {σ : yS} {Q : Option Value → yS → Prop} (h : yWp n d 55 kd_55 S pc L st σ Q) : yR d 55 pc L st σ Q := yWp_sound yGood_ok ck_55 n h
theorem ck_56 : chkC 56 kd_56 = true := by decide +kernel
theorem wp_56 (n : Nat) {d : Nat} (S : List Nat) {pc : Nat} {L : List (Option Value)} {st : List Value} {σ : yS} {Q : Option Value → yS → Prop} (h : yWp n d 56 kd_56 S pc L st σ Q) : yR d 56 pc L st σ Q := yWp_sound yGood_ok ck_56 n h
theorem ck_57 : chkC 57 kd_57 = true := by decide +kernel
theorem wp_57 (n : Nat) {d : Nat} (S : List Nat) {pc : Nat} {L : List (Option Value)} {st : List Value} {σ : yS} {Q : Option Value → yS → Prop} (h : yWp n d 57 kd_57 S pc L st σ Q) : yR d 57 pc L st σ Q := yWp_sound yGood_ok ck_57 n h
theorem ck_58 : chkC 58 kd_58 = true := by decide +kernel
theorem wp_58 (n : Nat) {d : Nat} (S : List Nat) {pc : Nat} {L : List (Option Value)} {st : List Value} {σ : yS} {Q : Option Value → yS → Prop} (h : yWp n d 58 kd_58 S pc L st σ Q) : yR d 58 pc L st σ Q := yWp_sound yGood_ok ck_58 n h
theorem ck_59 : chkC 59 kd_59 = true := by decide +kernel
theorem wp_59 (n : Nat) {d : Nat} (S : List Nat) {pc : Nat} {L : List (Option Value)} {st : List Value} {σ : yS} {Q : Option Value → yS → Prop} (h : yWp n d 59 kd_59 S pc L st σ Q) : yR d 59 pc L st σ Q := yWp_sound yGood_ok ck_59 n h
theorem ck_60 : chkC 60 kd_60 = true := by decide +kernel
theorem wp_60 (n : Nat) {d : Nat} (S : List Nat) {pc : Nat} {L : List (Option Value)} {st : List Value} {σ : yS} {Q : Option Value → yS → Prop} (h : yWp n d 60 kd_60 S pc L st σ Q) : yR d 60 pc L st σ Q := yWp_sound yGood_ok ck_60 n h
theorem ck_61 : chkC 61 kd_61 = true := by decide +kernel
theorem wp_61 (n : Nat) {d : Nat} (S : List Nat) {pc : Nat} {L : List (Option Value)} {st : List Value} {σ : yS} {Q : Option Value → yS → Prop} (h : yWp n d 61 kd_61 S pc L st σ Q) : yR d 61 pc L st σ Q := yWp_sound yGood_ok ck_61 n h
theorem ck_62 : chkC 62 kd_62 = true := by decide +kernel
theorem wp_62 (n : Nat) {d : Nat} (S : List Nat) {pc : Nat} {L : List (Option Value)} {st : List Value} {σ : yS} {Q : Option Value → yS → Prop} (h : yWp n d 62 kd_62 S pc L st σ Q) : yR d 62 pc L st σ Q := yWp_sound yGood_ok ck_62 n h
theorem ck_63 : chkC 63 kd_63 = true := by decide +kernel
theorem wp_63 (n : Nat) {d : Nat} (S : List Nat) {pc : Nat} {L : List (Option Value)} {st : List Value} {σ : yS} {Q : Option Value → yS → Prop} (h : yWp n d 63 kd_63 S pc L st σ Q) : yR d 63 pc L st σ Q := yWp_sound yGood_ok ck_63 n h
theorem ck_64 : chkC 64 kd_64 = true := by decide +kernel
theorem wp_64 (n : Nat) {d : Nat} (S : List Nat) {pc : Nat} {L : List (Option Value)} {st : List Value} {σ : yS} {Q : Option Value → yS → Prop} (h : yWp n d 64 kd_64 S pc L st σ Q) : yR d 64 pc L st σ Q := yWp_sound yGood_ok ck_64 n h
theorem ck_65 : chkC 65 kd_65 = true := by decide +kernel
theorem wp_65 (n : Nat) {d : Nat} (S : List Nat) {pc : Nat} {L : List (Option Value)} {st : List Value} {σ : yS} {Q : Option Value → yS → Prop} (h : yWp n d 65 kd_65 S pc L st σ Q) : yR d 65 pc L st σ Q := yWp_sound yGood_ok ck_65 n h
theorem ck_66 : chkC 66 kd_66 = true := by decide +kernel
theorem wp_66 (n : Nat) {d : Nat} (S : List Nat) {pc : Nat} {L : List (Option Value)} {st : List Value} {σ : yS} {Q : Option Value → yS → Prop} (h : yWp n d 66 kd_66 S pc L st σ Q) : yR d 66 pc L st σ Q := yWp_sound yGood_ok ck_66 n h
theorem ck_67 : chkC 67 kd_67 = true := by decide +kernel
theorem wp_67 (n : Nat) {d : Nat} (S : List Nat) {pc : Nat} {L : List (Option Value)} {st : List Value} {σ : yS} {Q : Option Value → yS → Prop} (h : yWp n d 67 kd_67 S pc L st σ Q) : yR d 67 pc L st σ Q := yWp_sound yGood_ok ck_67 n h
theorem ck_68 : chkC 68 kd_68 = true := by decide +kernel
theorem wp_68 (n : Nat) {d : Nat} (S : List Nat) {pc : Nat} {L : List (Option Value)} {st : List Value} {σ : yS} {Q : Option Value → yS → Prop} (h : yWp n d 68 kd_68 S pc L st σ Q) : yR d 68 pc L st σ Q := yWp_sound yGood_ok ck_68 n h
theorem ck_69 : chkC 69 kd_69 = true := by decide +kernel
theorem wp_69 (n : Nat) {d : Nat} (S : List Nat) {pc : Nat} {L : List (Option Value)} {st : List Value} {σ : yS} {Q : Option Value → yS → Prop} (h : yWp n d 69 kd_69 S pc L st σ Q) : yR d 69 pc L st σ Q := yWp_sound yGood_ok ck_69 n h
theorem ck_70 : chkC 70 kd_70 = true := by decide +kernel
theorem wp_70 (n : Nat) {d : Nat} (S : List Nat) {pc : Nat} {L : List (Option Value)} {st : List Value} {σ : yS} {Q : Option Value → yS → Prop} (h : yWp n d 70 kd_70 S pc L st σ Q) : yR d 70 pc L st σ Q := yWp_sound yGood_ok ck_70 n h
theorem ck_71 : chkC 71 kd_71 = true := by decide +kernel
theorem wp_71 (n : Nat) {d : Nat} (S : List Nat) {pc : Nat} {L : List (Option Value)} {st : List Value} {σ : yS} {Q : Option Value → yS → Prop} (h : yWp n d 71 kd_71 S pc L st σ Q) : yR d 71 pc L st σ Q := yWp_sound yGood_ok ck_71 n h
theorem ck_72 : chkC 72 kd_72 = true := by decide +kernel
theorem wp_72 (n : Nat) {d : Nat} (S : List Nat) {pc : Nat} {L : List (Option Value)} {st : List Value} {σ : yS} {Q : Option Value → yS → Prop} (h : yWp n d 72 kd_72 S pc L st σ Q) : yR d 72 pc L st σ Q := yWp_sound yGood_ok ck_72 n h
theorem ck_73 : chkC 73 kd_73 = true := by decide +kernel
theorem wp_73 (n : Nat) {d : Nat} (S : List Nat) {pc : Nat} {L : List (Option Value)} {st : List Value} {σ : yS} {Q : Option Value → yS → Prop} (h : yWp n d 73 kd_73 S pc L st σ Q) : yR d 73 pc L st σ Q := yWp_sound yGood_ok ck_73 n h
theorem ck_74 : chkC 74 kd_74 = true := by decide +kernel
theorem wp_74 (n : Nat) {d : Nat} (S : List Nat) {pc : Nat} {L : List (Option Value)} {st : List Value} {σ : yS} {Q : Option Value → yS → Prop} (h : yWp n d 74 kd_74 S pc L st σ Q) : yR d 74 pc L st σ Q := yWp_sound yGood_ok ck_74 n h
theorem ck_75 : chkC 75 kd_75 = true := by decide +kernel
theorem wp_75 (n : Nat) {d : Nat} (S : List Nat) {pc : Nat} {L : List (Option Value)} {st : List Value} {σ : yS} {Q : Option Value → yS → Prop} (h : yWp n d 75 kd_75 S pc L st σ Q) : yR d 75 pc L st σ Q := yWp_sound yGood_ok ck_75 n h
theorem ck_76 : chkC 76 kd_76 = true := by decide +kernel
theorem wp_76 (n : Nat) {d : Nat} (S : List Nat) {pc : Nat} {L : List (Option Value)} {st : List Value} {σ : yS} {Q : Option Value → yS → Prop} (h : yWp n d 76 kd_76 S pc L st σ Q) : yR d 76 pc L st σ Q := yWp_sound yGood_ok ck_76 n h
theorem ck_77 : chkC 77 kd_77 = true := by decide +kernel
theorem wp_77 (n : Nat) {d : Nat} (S : List Nat) {pc : Nat} {L : List (Option Value)} {st : List Value} {σ : yS} {Q : Option Value → yS → Prop} (h : yWp n d 77 kd_77 S pc L st σ Q) : yR d 77 pc L st σ Q := yWp_sound yGood_ok ck_77 n h
theorem ck_78 : chkC 78 kd_78 = true := by decide +kernel
theorem wp_78 (n : Nat) {d : Nat} (S : List Nat) {pc : Nat} {L : List (Option Value)} {st : List Value} {σ : yS} {Q : Option Value → yS → Prop} (h : yWp n d 78 kd_78 S pc L st σ Q) : yR d 78 pc L st σ Q := yWp_sound yGood_ok ck_78 n h
theorem ck_80 : chkC 80 kd_80 = true := by decide +kernel
theorem wp_80 (n : Nat) {d : Nat} (S : List Nat) {pc : Nat} {L : List (Option Value)} {st : List Value} {σ : yS} {Q : Option Value → yS → Prop} (h : yWp n d 80 kd_80 S pc L st σ Q) : yR d 80 pc L st σ Q := yWp_sound yGood_ok ck_80 n h
theorem ck_81 : chkC 81 kd_81 = true := by decide +kernel
theorem wp_81 (n : Nat) {d : Nat} (S : List Nat) {pc : Nat} {L : List (Option Value)} {st : List Value} {σ : yS} {Q : Option Value → yS → Prop} (h : yWp n d 81 kd_81 S pc L st σ Q) : yR d 81 pc L st σ Q := yWp_sound yGood_ok ck_81 n h
theorem ck_82 : chkC 82 kd_82 = true := by decide +kernel
theorem wp_82 (n : Nat) {d : Nat} (S : List Nat) {pc : Nat} {L : List (Option Value)} {st : List Value} {σ : yS} {Q : Option Value → yS → Prop} (h : yWp n d 82 kd_82 S pc L st σ Q) : yR d 82 pc L st σ Q := yWp_sound yGood_ok ck_82 n h
theorem ck_83 : chkC 83 kd_83 = true := by decide +kernel
theorem wp_83 (n : Nat) {d : Nat} (S : List Nat) {pc : Nat} {L : List (Option Value)} {st : List Value} {σ : yS} {Q : Option Value → yS → Prop} (h : yWp n d 83 kd_83 S pc L st σ Q) : yR d 83 pc L st σ Q := yWp_sound yGood_ok ck_83 n h
theorem ck_84 : chkC 84 kd_84 = true := by decide +kernel
theorem wp_84 (n : Nat) {d : Nat} (S : List Nat) {pc : Nat} {L : List (Option Value)} {st : List Value} {σ : yS} {Q : Option Value → yS → Prop} (h : yWp n d 84 kd_84 S pc L st σ Q) : yR d 84 pc L st σ Q := yWp_sound yGood_ok ck_84 n h
theorem ck_85 : chkC 85 kd_85 = true := by decide +kernel
theorem wp_85 (n : Nat) {d : Nat} (S : List Nat) {pc : Nat} {L : List (Option Value)} {st : List Value} {σ : yS} {Q : Option Value → yS → Prop} (h : yWp n d 85 kd_85 S pc L st σ Q) : yR d 85 pc L st σ Q := yWp_sound yGood_ok ck_85 n h
theorem ck_86 : chkC 86 kd_86 = true := by decide +kernel
theorem wp_86 (n : Nat) {d : Nat} (S : List Nat) {pc : Nat} {L : List (Option Value)} {st : List Value} {σ : yS} {Q : Option Value → yS → Prop} (h : yWp n d 86 kd_86 S pc L st σ Q) : yR d 86 pc L st σ Q := yWp_sound yGood_ok ck_86 n h
theorem ck_87 : chkC 87 kd_87 = true := by decide +kernel
theorem wp_87 (n : Nat) {d : Nat} (S : List Nat) {pc : Nat} {L : List (Option Value)} {st : List Value} {σ : yS} {Q : Option Value → yS → Prop} (h : yWp n d 87 kd_87 S pc L st σ Q) : yR d 87 pc L st σ Q := yWp_sound yGood_ok ck_87 n h
theorem ck_88 : chkC 88 kd_88 = true := by decide +kernel
theorem wp_88 (n : Nat) {d : Nat} (S : List Nat) {pc : Nat} {L : List (Option Value)} {st : List Value} {σ : yS} {Q : Option Value → yS → Prop} (h : yWp n d 88 kd_88 S pc L st σ Q) : yR d 88 pc L st σ Q := yWp_sound yGood_ok ck_88 n h
theorem ck_89 : chkC 89 kd_89 = true := by decide +kernel
theorem wp_89 (n : Nat) {d : Nat} (S : List Nat) {pc : Nat} {L : List (Option Value)} {st : List Value} {σ : yS} {Q : Option Value → yS → Prop} (h : yWp n d 89 kd_89 S pc L st σ Q) : yR d 89 pc L st σ Q := yWp_sound yGood_ok ck_89 n h
theorem ck_90 : chkC 90 kd_90 = true := by decide +kernel
theorem wp_90 (n : Nat) {d : Nat} (S : List Nat) {pc : Nat} {L : List (Option Value)} {st : List Value} {σ : yS} {Q : Option Value → yS → Prop} (h : yWp n d 90 kd_90 S pc L st σ Q) : yR d 90 pc L st σ Q := yWp_sound yGood_ok ck_90 n h
theorem ck_91 : chkC 91 kd_91 = true := by decide +kernel
theorem wp_91 (n : Nat) {d : Nat} (S : List Nat) {pc : Nat} {L : List (Option Value)} {st : List Value} {σ : yS} {Q : Option Value → yS → Prop} (h : yWp n d 91 kd_91 S pc L st σ Q) : yR d 91 pc L st σ Q := yWp_sound yGood_ok ck_91 n h
theorem ck_92 : chkC 92 kd_92 = true := by decide +kernel
theorem wp_92 (n : Nat) {d : Nat} (S : List Nat) {pc : Nat} {L : List (Option Value)} {st : List Value} {σ : yS} {Q : Option Value → yS → Prop} (h : yWp n d 92 kd_92 S pc L st σ Q) : yR d 92 pc L st σ Q := yWp_sound yGood_ok ck_92 n h
theorem ck_93 : chkC 93 kd_93 = true := by decide +kernel
theorem wp_93 (n : Nat) {d : Nat} (S : List Nat) {pc : Nat} {L : List (Option Value)} {st : List Value} {σ : yS} {Q : Option Value → yS → Prop} (h : yWp n d 93 kd_93 S pc L st σ Q) : yR d 93 pc L st σ Q := yWp_sound yGood_ok ck_93 n h
theorem ck_94 : chkC 94 kd_94 = true := by decide +kernel
theorem wp_94 (n : Nat) {d : Nat} (S : List Nat) {pc : Nat} {L : List (Option Value)} {st : List Value} {σ : yS} {Q : Option Value → yS → Prop} (h : yWp n d 94 kd_94 S pc L st σ Q) : yR d 94 pc L st σ Q := yWp_sound yGood_ok ck_94 n h
theorem ck_95 : chkC 95 kd_95 = true := by decide +kernel
theorem wp_95 (n : Nat) {d : Nat} (S : List Nat) {pc : Nat} {L : List (Option Value)} {st : List Value} {σ : yS} {Q : Option Value → yS → Prop} (h : yWp n d 95 kd_95 S pc L st σ Q) : yR d 95 pc L st σ Q := yWp_sound yGood_ok ck_95 n h
theorem ck_96 : chkC 96 kd_96 = true := by decide +kernel
theorem wp_96 (n : Nat) {d : Nat} (S : List Nat) {pc : Nat} {L : List (Option Value)} {st : List Value} {σ : yS} {Q : Option Value → yS → Prop} (h : yWp n d 96 kd_96 S pc L st σ Q) : yR d 96 pc L st σ Q := yWp_sound yGood_ok ck_96 n h
theorem ck_97 : chkC 97 kd_97 = true := by decide +kernel
theorem wp_97 (n : Nat) {d : Nat} (S : List Nat) {pc : Nat} {L : List (Option Value)} {st : List Value} {σ : yS} {Q : Option Value → yS → Prop} (h : yWp n d 97 kd_97 S pc L st σ Q) : yR d 97 pc L st σ Q := yWp_sound yGood_ok ck_97 n h
theorem ck_98 : chkC 98 kd_98 = true := by decide +kernel
theorem wp_98 (n : Nat) {d : Nat} (S : List Nat) {pc : Nat} {L : List (Option Value)} {st : List Value} {σ : yS} {Q : Option Value → yS → Prop} (h : yWp n d 98 kd_98 S pc L st σ Q) : yR d 98 pc L st σ Q := yWp_sound yGood_ok ck_98 n h
theorem ck_99 : chkC 99 kd_99 = true := by decide +kernel
theorem wp_99 (n : Nat) {d : Nat} (S : List Nat) {pc : Nat} {L : List (Option Value)} {st : List Value} {σ : yS} {Q : Option Value → yS → Prop} (h : yWp n d 99 kd_99 S pc L st σ Q) : yR d 99 pc L st σ Q := yWp_sound yGood_ok ck_99 n h
theorem ck_100 : chkC 100 kd_100 = true := by decide +kernel
theorem wp_100 (n : Nat) {d : Nat} (S : List Nat) {pc : Nat} {L : List (Option Value)} {st : List Value} {σ : yS} {Q : Option Value → yS → Prop} (h : yWp n d 100 kd_100 S pc L st σ Q) : yR d 100 pc L st σ Q := yWp_sound yGood_ok ck_100 n h
theorem ck_101 : chkC 101 kd_101 = true := by decide +kernel
theorem wp_101 (n : Nat) {d : Nat} (S : List Nat) {pc : Nat} {L : List (Option Value)} {st : List Value} {σ : yS} {Q : Option Value → yS → Prop} (h : yWp n d 101 kd_101 S pc L st σ Q) : yR d 101 pc L st σ Q := yWp_sound yGood_ok ck_101 n h
theorem ck_102 : chkC 102 kd_102 = true := by decide +kernel
theorem wp_102 (n : Nat) {d : Nat} (S : List Nat) {pc : Nat} {L : List (Option Value)} {st : List Value} {σ : yS} {Q : Option Value → yS → Prop} (h : yWp n d 102 kd_102 S pc L st σ Q) : yR d 102 pc L st σ Q := yWp_sound yGood_ok ck_102 n h
theorem ck_103 : chkC 103 kd_103 = true := by decide +kernel
theorem wp_103 (n : Nat) {d : Nat} (S : List Nat) {pc : Nat} {L : List (Option Value)} {st : List Value} {σ : yS} {Q : Option Value → yS → Prop} (h : yWp n d 103 kd_103 S pc L st σ Q) : yR d 103 pc L st σ Q := yWp_sound yGood_ok ck_103 n h
theorem ck_104 : chkC 104 kd_104 = true := by decide +kernel
theorem wp_104 (n : Nat) {d : Nat} (S : List Nat) {pc : Nat} {L : List (Option Value)} {st : List Value} {σ : yS} {Q : Option Value → yS → Prop} (h : yWp n d 104 kd_104 S pc L st σ Q) : yR d 104 pc L st σ Q := yWp_sound yGood_ok ck_104 n h
theorem ck_105 : chkC 105 kd_105 = true := by decide +kernel
theorem wp_105 (n : Nat) {d : Nat} (S : List Nat) {pc : Nat} {L : List (Option Value)} {st : List Value} {σ : yS} {Q : Option Value → yS → Prop} (h : yWp n d 105 kd_105 S pc L st σ Q) : yR d 105 pc L st σ Q := yWp_sound yGood_ok ck_105 n h
theorem ck_106 : chkC 106 kd_106 = true := by decide +kernel
theorem wp_106 (n : Nat) {d : Nat} (S : List Nat) {pc : Nat} {L : List (Option Value)} {st : List Value} {σ : yS} {Q : Option Value → yS → Prop} (h : yWp n d 106 kd_106 S pc L st σ Q) : yR d 106 pc L st σ Q := yWp_sound yGood_ok ck_106 n h
theorem ck_107 : chkC 107 kd_107 = true := by decide +kernel
theorem wp_107 (n : Nat) {d : Nat} (S : List Nat) {pc : Nat} {L : List (Option Value)} {st : List Value} {σ : yS} {Q : Option Value → yS → Prop} (h : yWp n d 107 kd_107 S pc L st σ Q) : yR d 107 pc L st σ Q := yWp_sound yGood_ok ck_107 n h
theorem ck_108 : chkC 108 kd_108 = true := by decide +kernel
theorem wp_108 (n : Nat) {d : Nat} (S : List Nat) {pc : Nat} {L : List (Option Value)} {st : List Value} {σ : yS} {Q : Option Value → yS → Prop} (h : yWp n d 108 kd_108 S pc L st σ Q) : yR d 108 pc L st σ Q := yWp_sound yGood_ok ck_108 n h
theorem ck_109 : chkC 109 kd_109 = true := by decide +kernel
theorem wp_109 (n : Nat) {d : Nat} (S : List Nat) {pc : Nat} {L : List (Option Value)} {st : List Value} {σ : yS} {Q : Option Value → yS → Prop} (h : yWp n d 109 kd_109 S pc L st σ Q) : yR d 109 pc L st σ Q := yWp_sound yGood_ok ck_109 n h
theorem ck_110 : chkC 110 kd_110 = true := by decide +kernel
theorem wp_110 (n : Nat) {d : Nat} (S : List Nat) {pc : Nat} {L : List (Option Value)} {st : List Value} {σ : yS} {Q : Option Value → yS → Prop} (h : yWp n d 110 kd_110 S pc L st σ Q) : yR d 110 pc L st σ Q := yWp_sound yGood_ok ck_110 n h
theorem ck_111 : chkC 111 kd_111 = true := by decide +kernel
theorem wp_111 (n : Nat) {d : Nat} (S : List Nat) {pc : Nat} {L : List (Option Value)} {st : List Value} {σ : yS} {Q : Option Value → yS → Prop} (h : yWp n d 111 kd_111 S pc L st σ Q) : yR d 111 pc L st σ Q := yWp_sound yGood_ok ck_111 n h
theorem ck_112 : chkC 112 kd_112 = true := by decide +kernel
theorem wp_112 (n : Nat) {d : Nat} (S : List Nat) {pc : Nat} {L : List (Option Value)} {st : List Value} {σ : yS} {Q : Option Value → yS → Prop} (h : yWp n d 112 kd_112 S pc L st σ Q) : yR d 112 pc L st σ Q := yWp_sound yGood_ok ck_112 n h
theorem ck_113 : chkC 113 kd_113 = true := by decide +kernel
theorem wp_113 (n : Nat) {d : Nat} (S : List Nat) {pc : Nat} {L : List (Option Value)} {st : List Value} {σ : yS} {Q : Option Value → yS → Prop} (h : yWp n d 113 kd_113 S pc L st σ Q) : yR d 113 pc L st σ Q := yWp_sound yGood_ok ck_113 n h
theorem ck_114 : chkC 114 kd_114 = true := by decide +kernel
theorem wp_114 (n : Nat) {d : Nat} (S : List Nat) {pc : Nat} {L : List (Option Value)} {st : List Value} {σ : yS} {Q : Option Value → yS → Prop} (h : yWp n d 114 kd_114 S pc L st σ Q) : yR d 114 pc L st σ Q := yWp_sound yGood_ok ck_114 n h
theorem ck_115 : chkC 115 kd_115 = true := by decide +kernel
theorem wp_115 (n : Nat) {d : Nat} (S : List Nat) {pc : Nat} {L : List (Option Value)} {st : List Value} {σ : yS} {Q : Option Value → yS → Prop} (h : yWp n d 115 kd_115 S pc L st σ Q) : yR d 115 pc L st σ Q := yWp_sound yGood_ok ck_115 n h
theorem ck_116 : chkC 116 kd_116 = true := by decide +kernel
theorem wp_116 (n : Nat) {d : Nat} (S : List Nat) {pc : Nat} {L : List (Option Value)} {st : List Value} {σ : yS} {Q : Option Value → yS → Prop} (h : yWp n d 116 kd_116 S pc L st σ Q) : yR d 116 pc L st σ Q := yWp_sound yGood_ok ck_116 n h
theorem ck_117 : chkC 117 kd_117 = true := by decide +kernel
theorem wp_117 (n : Nat) {d : Nat} (S : List Nat) {pc : Nat} {L : List (Option Value)} {st : List Value} {σ : yS} {Q : Option Value → yS → Prop} (h : yWp n d 117 kd_117 S pc L st σ Q) : yR d 117 pc L st σ Q := yWp_sound yGood_ok ck_117 n h
theorem ck_118 : chkC 118 kd_118 = true := by decide +kernel
theorem wp_118 (n : Nat) {d : Nat} (S : List Nat) {pc : Nat} {L : List (Option Value)} {st : List Value} {σ : yS} {Q : Option Value → yS → Prop} (h : yWp n d 118 kd_118 S pc L st σ Q) : yR d 118 pc L st σ Q := yWp_sound yGood_ok ck_118 n h
theorem ck_119 : chkC 119 kd_119 = true := by decide +kernel
theorem wp_119 (n : Nat) {d : Nat} (S : List Nat) {pc : Nat} {L : List (Option Value)} {st : List Value} {σ : yS} {Q : Option Value → yS → Prop} (h : yWp n d 119 kd_119 S pc L st σ Q) : yR d 119 pc L st σ Q := yWp_sound yGood_ok ck_119 n h
theorem ck_120 : chkC 120 kd_120 = true := by decide +kernel
theorem wp_120 (n : Nat) {d : Nat} (S : List Nat) {pc : Nat} {L : List (Option Value)} {st : List Value} {σ : yS} {Q : Option Value → yS → Prop} (h : yWp n d 120 kd_120 S pc L st σ Q) : yR d 120 pc L st σ Q := yWp_sound yGood_ok ck_120 n h
theorem ck_121 : chkC 121 kd_121 = true := by decide +kernel
theorem wp_121 (n : Nat) {d : Nat} (S : List Nat) {pc : Nat} {L : List (Option Value)} {st : List Value} {σ : yS} {Q : Option Value → yS → Prop} (h : yWp n d 121 kd_121 S pc L st σ Q) : yR d 121 pc L st σ Q := yWp_sound yGood_ok ck_121 n h
theorem ck_122 : chkC 122 kd_122 = true := by decide +kernel
theorem wp_122 (n : Nat) {d : Nat} (S : List Nat) {pc : Nat} {L : List (Option Value)} {st : List Value} {σ : yS} {Q : Option Value → yS → Prop} (h : yWp n d 122 kd_122 S pc L st σ Q) : yR d 122 pc L st σ Q := yWp_sound yGood_ok ck_122 n h
theorem ck_123 : chkC 123 kd_123 = true := by decide +kernel
theorem wp_123 (n : Nat) {d : Nat} (S : List Nat) {pc : Nat} {L : List (Option Value)} {st : List Value} {σ : yS} {Q : Option Value → yS → Prop} (h : yWp n d 123 kd_123 S pc L st σ Q) : yR d 123 pc L st σ Q := yWp_sound yGood_ok ck_123 n h
theorem ck_124 : chkC 124 kd_124 = true := by decide +kernel
theorem wp_124 (n : Nat) {d : Nat} (S : List Nat) {pc : Nat} {L : List (Option Value)} {st : List Value} {σ : yS} {Q : Option Value → yS → Prop} (h : yWp n d 124 kd_124 S pc L st σ Q) : yR d 124 pc L st σ Q := yWp_sound yGood_ok ck_124 n h
theorem ck_125 : chkC 125 kd_125 = true := by decide +kernel
theorem wp_125 (n : Nat) {d : Nat} (S : List Nat) {pc : Nat} {L : List (Option Value)} {st : List Value} {σ : yS} {Q : Option Value → yS → Prop} (h : yWp n d 125 kd_125 S pc L st σ Q) : yR d 125 pc L st σ Q := yWp_sound yGood_ok ck_125 n h
theorem ck_126 : chkC 126 kd_126 = true := by decide +kernel
theorem wp_126 (n : Nat) {d : Nat} (S : List Nat) {pc : Nat} {L : List (Option Value)} {st : List Value} {σ : yS} {Q : Option Value → yS → Prop} (h : yWp n d 126 kd_126 S pc L st σ Q) : yR d 126 pc L st σ Q := yWp_sound yGood_ok ck_126 n h
theorem ck_127 : chkC 127 kd_127 = true := by decide +kernel
theorem wp_127 (n : Nat) {d : Nat} (S : List Nat) {pc : Nat} {L : List (Option Value)} {st : List Value} {σ : yS} {Q : Option Value → yS → Prop} (h : yWp n d 127 kd_127 S pc L st σ Q) : yR d 127 pc L st σ Q := yWp_sound yGood_ok ck_127 n h
theorem ck_128 : chkC 128 kd_128 = true := by decide +kernel
theorem wp_128 (n : Nat) {d : Nat} (S : List Nat) {pc : Nat} {L : List (Option Value)} {st : List Value} {σ : yS} {Q : Option Value → yS → Prop} (h : yWp n d 128 kd_128 S pc L st σ Q) : yR d 128 pc L st σ Q := yWp_sound yGood_ok ck_128 n h
theorem ck_129 : chkC 129 kd_129 = true := by decide +kernel
theorem wp_129 (n : Nat) {d : Nat} (S : List Nat) {pc : Nat} {L : List (Option Value)} {st : List Value} {σ : yS} {Q : Option Value → yS → Prop} (h : yWp n d 129 kd_129 S pc L st σ Q) : yR d 129 pc L st σ Q := yWp_sound yGood_ok ck_129 n h
theorem ck_130 : chkC 130 kd_130 = true := by decide +kernel
theorem wp_130 (n : Nat) {d : Nat} (S : List Nat) {pc : Nat} {L : List (Option Value)} {st : List Value} {σ : yS} {Q : Option Value → yS → Prop} (h : yWp n d 130 kd_130 S pc L st σ Q) : yR d 130 pc L st σ Q := yWp_sound yGood_ok ck_130 n h
theorem ck_131 : chkC 131 kd_131 = true := by decide +kernel
theorem wp_131 (n : Nat) {d : Nat} (S : List Nat) {pc : Nat} {L : List (Option Value)} {st : List Value} {σ : yS} {Q : Option Value → yS → Prop} (h : yWp n d 131 kd_131 S pc L st σ Q) : yR d 131 pc L st σ Q := yWp_sound yGood_ok ck_131 n h
theorem ck_132 : chkC 132 kd_132 = true := by decide +kernel
theorem wp_132 (n : Nat) {d : Nat} (S : List Nat) {pc : Nat} {L : List (Option Value)} {st : List Value} {σ : yS} {Q : Option Value → yS → Prop} (h : yWp n d 132 kd_132 S pc L st σ Q) : yR d 132 pc L st σ Q := yWp_sound yGood_ok ck_132 n h
theorem ck_133 : chkC 133 kd_133 = true := by decide +kernel
theorem wp_133 (n : Nat) {d : Nat} (S : List Nat) {pc : Nat} {L : List (Option Value)} {st : List Value} {σ : yS} {Q : Option Value → yS → Prop} (h : yWp n d 133 kd_133 S pc L st σ Q) : yR d 133 pc L st σ Q := yWp_sound yGood_ok ck_133 n h
theorem ck_134 : chkC 134 kd_134 = true := by decide +kernel
theorem wp_134 (n : Nat) {d : Nat} (S : List Nat) {pc : Nat} {L : List (Option Value)} {st : List Value} {σ : yS} {Q : Option Value → yS → Prop} (h : yWp n d 134 kd_134 S pc L st σ Q) : yR d 134 pc L st σ Q := yWp_sound yGood_ok ck_134 n h
theorem ck_135 : chkC 135 kd_135 = true := by decide +kernel
theorem wp_135 (n : Nat) {d : Nat} (S : List Nat) {pc : Nat} {L : List (Option Value)} {st : List Value} {σ : yS} {Q : Option Value → yS → Prop} (h : yWp n d 135 kd_135 S pc L st σ Q) : yR d 135 pc L st σ Q := yWp_sound yGood_ok ck_135 n h
theorem ck_136 : chkC 136 kd_136 = true := by decide +kernel
theorem wp_136 (n : Nat) {d : Nat} (S : List Nat) {pc : Nat} {L : List (Option Value)} {st : List Value} {σ : yS} {Q : Option Value → yS → Prop} (h : yWp n d 136 kd_136 S pc L st σ Q) : yR d 136 pc L st σ Q := yWp_sound yGood_ok ck_136 n h
theorem ck_137 : chkC 137 kd_137 = true := by decide +kernel
theorem wp_137 (n : Nat) {d : Nat} (S : List Nat) {pc : Nat} {L : List (Option Value)} {st : List Value} {σ : yS} {Q : Option Value → yS → Prop} (h : yWp n d 137 kd_137 S pc L st σ Q) : yR d 137 pc L st σ Q := yWp_sound yGood_ok ck_137 n h
theorem ck_138 : chkC 138 kd_138 = true := by decide +kernel
theorem wp_138 (n : Nat) {d : Nat} (S : List Nat) {pc : Nat} {L : List (Option Value)} {st : List Value} {σ : yS} {Q : Option Value → yS → Prop} (h : yWp n d 138 kd_138 S pc L st σ Q) : yR d 138 pc L st σ Q := yWp_sound yGood_ok ck_138 n h
theorem ck_139 : chkC 139 kd_139 = true := by decide +kernel
theorem wp_139 (n : Nat) {d : Nat} (S : List Nat) {pc : Nat} {L : List (Option Value)} {st : List Value} {σ : yS} {Q : Option Value → yS → Prop} (h : yWp n d 139 kd_139 S pc L st σ Q) : yR d 139 pc L st σ Q := yWp_sound yGood_ok ck_139 n h
theorem ck_140 : chkC 140 kd_140 = true := by decide +kernel
theorem wp_140 (n : Nat) {d : Nat} (S : List Nat) {pc : Nat} {L : List (Option Value)} {st : List Value} {σ : yS} {Q : Option Value → yS → Prop} (h : yWp n d 140 kd_140 S pc L st σ Q) : yR d 140 pc L st σ Q := yWp_sound yGood_ok ck_140 n h
theorem ck_141 : chkC 141 kd_141 = true := by decide +kernel
theorem wp_141 (n : Nat) {d : Nat} (S : List Nat) {pc : Nat} {L : List (Option Value)} {st : List Value} {σ : yS} {Q : Option Value → yS → Prop} (h : yWp n d 141 kd_141 S pc L st σ Q) : yR d 141 pc L st σ Q := yWp_sound yGood_ok ck_141 n h
theorem ck_142 : chkC 142 kd_142 = true := by decide +kernel
theorem wp_142 (n : Nat) {d : Nat} (S : List Nat) {pc : Nat} {L : List (Option Value)} {st : List Value} {σ : yS} {Q : Option Value → yS → Prop} (h : yWp n d 142 kd_142 S pc L st σ Q) : yR d 142 pc L st σ Q := yWp_sound yGood_ok ck_142 n h
theorem ck_143 : chkC 143 kd_143 = true := by decide +kernel
theorem wp_143 (n : Nat) {d : Nat} (S : List Nat) {pc : Nat} {L : List (Option Value)} {st : List Value} {σ : yS} {Q : Option Value → yS → Prop} (h : yWp n d 143 kd_143 S pc L st σ Q) : yR d 143 pc L st σ Q := yWp_sound yGood_ok ck_143 n h
theorem ck_144 : chkC 144 kd_144 = true := by decide +kernel
theorem wp_144 (n : Nat) {d : Nat} (S : List Nat) {pc : Nat} {L : List (Option Value)} {st : List Value} {σ : yS} {Q : Option Value → yS → Prop} (h : yWp n d 144 kd_144 S pc L st σ Q) : yR d 144 pc L st σ Q := yWp_sound yGood_ok ck_144 n h
theorem ck_145 : chkC 145 kd_145 = true := by decide +kernel
theorem wp_145 (n : Nat) {d : Nat} (S : List Nat) {pc : Nat} {L : List (Option Value)} {st : List Value} {σ : yS} {Q : Option Value → yS → Prop} (h : yWp n d 145 kd_145 S pc L st σ Q) : yR d 145 pc L st σ Q := yWp_sound yGood_ok ck_145 n h
theorem ck_146 : chkC 146 kd_146 = true := by decide +kernel
theorem wp_146 (n : Nat) {d : Nat} (S : List Nat) {pc : Nat} {L : List (Option Value)} {st : List Value} {σ : yS} {Q : Option Value → yS → Prop} (h : yWp n d 146 kd_146 S pc L st σ Q) : yR d 146 pc L st σ Q := yWp_sound yGood_ok ck_146 n h
theorem ck_147 : chkC 147 kd_147 = true := by decide +kernel
theorem wp_147 (n : Nat) {d : Nat} (S : List Nat) {pc : Nat} {L : List (Option Value)} {st : List Value} {σ : yS} {Q : Option Value → yS → Prop} (h : yWp n d 147 kd_147 S pc L st σ Q) : yR d 147 pc L st σ Q := yWp_sound yGood_ok ck_147 n h
theorem ck_148 : chkC 148 kd_148 = true := by decide +kernel
theorem wp_148 (n : Nat) {d : Nat} (S : List Nat) {pc : Nat} {L : List (Option Value)} {st : List Value} {σ : yS} {Q : Option Value → yS → Prop} (h : yWp n d 148 kd_148 S pc L st σ Q) : yR d 148 pc L st σ Q := yWp_sound yGood_ok ck_148 n h
theorem ck_149 : chkC 149 kd_149 = true := by decide +kernel
theorem wp_149 (n : Nat) {d : Nat} (S : List Nat) {pc : Nat} {L : List (Option Value)} {st : List Value} {σ : yS} {Q : Option Value → yS → Prop} (h : yWp n d 149 kd_149 S pc L st σ Q) : yR d 149 pc L st σ Q := yWp_sound yGood_ok ck_149 n h
end
section
/-- fewer known locals -/
def mask : List Bool → List (Option Value) → List (Option Value)
  | true :: m, v :: L => v :: mask m L
  | false :: m, _ :: L => none :: mask m L
  | _, _ => []
theorem mask_at : ∀ {m : List Bool} {L : List (Option Value)} {k : Nat} {v : Value}, (mask m L)[k]? = some (some v) → L[k]? = some (some v)
  | [], _, k, v, h => by simp [mask] at h
  | true :: m, [], k, v, h => by simp [mask] at h
  | false :: m, [], k, v, h => by simp [mask] at h
  | true :: m, w :: L, 0, v, h => by simpa [mask] using h
  | true :: m, w :: L, k + 1, v, h => by
    have h2 : (mask m L)[k]? = some (some v) := by simpa [mask] using h
    simpa using mask_at h2
  | false :: m, w :: L, 0, v, h => by simp [mask] at h
  | false :: m, w :: L, k + 1, v, h => by
    have h2 : (mask m L)[k]? = some (some v) := by simpa [mask] using h
    simpa using mask_at h2
theorem yR.mask (m : List Bool) {d mi pc : Nat} {L : List (Option Value)} {st : List Value} {σ : yS} {Q : Option Value → yS → Prop} (h : yR d mi pc (mask m L) st σ Q) : yR d mi pc L st σ Q := by
  intro l p e s mm args below meth c ad ty D A H locs ls X hP hD hS hl
  exact h l p e s mm args below meth c ad ty D A H locs ls X hP hD hS ⟨hl.1, hl.2.1, fun k v hk => hl.2.2 k v (mask_at hk)⟩
theorem w_1_0 {d : Nat} {σ : yS} {K : yS → Prop} (h : yR d 147 0 [some (.int ((σ 27 1) + (σ 27 2))), some (.int 5), none] [] σ (qI (fun x1 σ1 => (vp_in x1 5 ∧ ((x1 = 0 → yR d 48 0 [some (.ref 29), some (.ref 2)] [] σ1 (qV (fun σ2 => (((5 ≤ (σ2 27 2)) → yR d 147 0 [some (.int ((σ2 27 1) + 1)), some (.int 5), none] [] σ2 (qI (fun x3 σ3 => K (sg σ3 27 1 x3)))) ∧ (¬ (5 ≤ (σ2 27 2)) → K (sg σ2 27 2 ((σ2 27 2) + 1))))))) ∧ (x1 = 1 → yR d 48 0 [some (.ref 40), some (.ref 2)] [] σ1 (qV (fun σ4 => (((5 ≤ (σ4 27 2)) → yR d 147 0 [some (.int ((σ4 27 1) + 1)), some (.int 5), none] [] σ4 (qI (fun x5 σ5 => K (sg σ5 27 1 x5)))) ∧ (¬ (5 ≤ (σ4 27 2)) → K (sg σ4 27 2 ((σ4 27 2) + 1))))))) ∧ (x1 = 2 → yR d 48 0 [some (.ref 51), some (.ref 2)] [] σ1 (qV (fun σ6 => (((5 ≤ (σ6 27 2)) → yR d 147 0 [some (.int ((σ6 27 1) + 1)), some (.int 5), none] [] σ6 (qI (fun x7 σ7 => K (sg σ7 27 1 x7)))) ∧ (¬ (5 ≤ (σ6 27 2)) → K (sg σ6 27 2 ((σ6 27 2) + 1))))))) ∧ (x1 = 3 → yR d 48 0 [some (.ref 62), some (.ref 2)] [] σ1 (qV (fun σ8 => (((5 ≤ (σ8 27 2)) → yR d 147 0 [some (.int ((σ8 27 1) + 1)), some (.int 5), none] [] σ8 (qI (fun x9 σ9 => K (sg σ9 27 1 x9)))) ∧ (¬ (5 ≤ (σ8 27 2)) → K (sg σ8 27 2 ((σ8 27 2) + 1))))))) ∧ (x1 = 4 → yR d 48 0 [some (.ref 73), some (.ref 2)] [] σ1 (qV (fun σ10 => (((5 ≤ (σ10 27 2)) → yR d 147 0 [some (.int ((σ10 27 1) + 1)), some (.int 5), none] [] σ10 (qI (fun x11 σ11 => K (sg σ11 27 1 x11)))) ∧ (¬ (5 ≤ (σ10 27 2)) → K (sg σ10 27 2 ((σ10 27 2) + 1)))))))))))) : yR (d + 1) 1 0 [some (.ref 27), some (.ref 2), none] [] σ (qV K) := wp_1 30 [] (show yR d 147 0 [some (.int ((σ 27 1) + (σ 27 2))), some (.int 5), none] [] σ (qI (fun x1 σ1 => (vp_in x1 5 ∧ (((((True ∧ (x1 = 0 → yR d 48 0 [some (.ref 29), some (.ref 2)] [] σ1 (qV (fun σ2 => (((5 ≤ (σ2 27 2)) → yR d 147 0 [some (.int ((σ2 27 1) + 1)), some (.int 5), none] [] σ2 (qI (fun x3 σ3 => K (sg σ3 27 1 x3)))) ∧ (¬ (5 ≤ (σ2 27 2)) → K (sg σ2 27 2 ((σ2 27 2) + 1)))))))) ∧ (x1 = 1 → yR d 48 0 [some (.ref 40), some (.ref 2)] [] σ1 (qV (fun σ4 => (((5 ≤ (σ4 27 2)) → yR d 147 0 [some (.int ((σ4 27 1) + 1)), some (.int 5), none] [] σ4 (qI (fun x5 σ5 => K (sg σ5 27 1 x5)))) ∧ (¬ (5 ≤ (σ4 27 2)) → K (sg σ4 27 2 ((σ4 27 2) + 1)))))))) ∧ (x1 = 2 → yR d 48 0 [some (.ref 51), some (.ref 2)] [] σ1 (qV (fun σ6 => (((5 ≤ (σ6 27 2)) → yR d 147 0 [some (.int ((σ6 27 1) + 1)), some (.int 5), none] [] σ6 (qI (fun x7 σ7 => K (sg σ7 27 1 x7)))) ∧ (¬ (5 ≤ (σ6 27 2)) → K (sg σ6 27 2 ((σ6 27 2) + 1)))))))) ∧ (x1 = 3 → yR d 48 0 [some (.ref 62), some (.ref 2)] [] σ1 (qV (fun σ8 => (((5 ≤ (σ8 27 2)) → yR d 147 0 [some (.int ((σ8 27 1) + 1)), some (.int 5), none] [] σ8 (qI (fun x9 σ9 => K (sg σ9 27 1 x9)))) ∧ (¬ (5 ≤ (σ8 27 2)) → K (sg σ8 27 2 ((σ8 27 2) + 1)))))))) ∧ (x1 = 4 → yR d 48 0 [some (.ref 73), some (.ref 2)] [] σ1 (qV (fun σ10 => (((5 ≤ (σ10 27 2)) → yR d 147 0 [some (.int ((σ10 27 1) + 1)), some (.int 5), none] [] σ10 (qI (fun x11 σ11 => K (sg σ11 27 1 x11)))) ∧ (¬ (5 ≤ (σ10 27 2)) → K (sg σ10 27 2 ((σ10 27 2) + 1))))))))))) from (yR.mono h (qI_mono (fun x1 σ1 q1 => ⟨q1.1, ⟨⟨⟨⟨⟨trivial, fun q2 => (yR.mono (q1.2.1 q2) (qV_mono (fun σ2 q3 => ⟨fun q4 => (q3.1 q4), fun q4 => (q3.2 q4)⟩)))⟩, fun q6 => (yR.mono (q1.2.2.1 q6) (qV_mono (fun σ4 q7 => ⟨fun q8 => (q7.1 q8), fun q8 => (q7.2 q8)⟩)))⟩, fun q10 => (yR.mono (q1.2.2.2.1 q10) (qV_mono (fun σ6 q11 => ⟨fun q12 => (q11.1 q12), fun q12 => (q11.2 q12)⟩)))⟩, fun q14 => (yR.mono (q1.2.2.2.2.1 q14) (qV_mono (fun σ8 q15 => ⟨fun q16 => (q15.1 q16), fun q16 => (q15.2 q16)⟩)))⟩, fun q18 => (yR.mono (q1.2.2.2.2.2 q18) (qV_mono (fun σ10 q19 => ⟨fun q20 => (q19.1 q20), fun q20 => (q19.2 q20)⟩)))⟩⟩))))
theorem w_2_0 {d : Nat} {σ : yS} {K : yS → Prop} (h : ((¬ ((σ 27 2) = 0) → yR d 147 0 [some (.int ((σ 27 1) + ((σ 27 2) - 1))), some (.int 5), none] [] (sg σ 27 2 ((σ 27 2) - 1)) (qI (fun x1 σ1 => (vp_in x1 5 ∧ ((x1 = 0 → yR d 48 0 [some (.ref 2), some (.ref 29)] [] σ1 (qV (fun σ2 => K σ2))) ∧ (x1 = 1 → yR d 48 0 [some (.ref 2), some (.ref 40)] [] σ1 (qV (fun σ3 => K σ3))) ∧ (x1 = 2 → yR d 48 0 [some (.ref 2), some (.ref 51)] [] σ1 (qV (fun σ4 => K σ4))) ∧ (x1 = 3 → yR d 48 0 [some (.ref 2), some (.ref 62)] [] σ1 (qV (fun σ5 => K σ5))) ∧ (x1 = 4 → yR d 48 0 [some (.ref 2), some (.ref 73)] [] σ1 (qV (fun σ6 => K σ6)))))))) ∧ (((σ 27 2) = 0) → K σ))) : yR (d + 1) 2 0 [some (.ref 27), some (.ref 2), none] [] σ (qV K) := wp_2 27 [] (show ((¬ ((σ 27 2) = 0) → yR d 147 0 [some (.int ((σ 27 1) + ((σ 27 2) - 1))), some (.int 5), none] [] (sg σ 27 2 ((σ 27 2) - 1)) (qI (fun x1 σ1 => (vp_in x1 5 ∧ (((((True ∧ (x1 = 0 → yR d 48 0 [some (.ref 2), some (.ref 29)] [] σ1 (qV (fun σ2 => K σ2)))) ∧ (x1 = 1 → yR d 48 0 [some (.ref 2), some (.ref 40)] [] σ1 (qV (fun σ3 => K σ3)))) ∧ (x1 = 2 → yR d 48 0 [some (.ref 2), some (.ref 51)] [] σ1 (qV (fun σ4 => K σ4)))) ∧ (x1 = 3 → yR d 48 0 [some (.ref 2), some (.ref 62)] [] σ1 (qV (fun σ5 => K σ5)))) ∧ (x1 = 4 → yR d 48 0 [some (.ref 2), some (.ref 73)] [] σ1 (qV (fun σ6 => K σ6)))))))) ∧ (((σ 27 2) = 0) → K σ)) from ⟨fun q1 => (yR.mono (h.1 q1) (qI_mono (fun x1 σ1 q2 => ⟨q2.1, ⟨⟨⟨⟨⟨trivial, fun q3 => (q2.2.1 q3)⟩, fun q5 => (q2.2.2.1 q5)⟩, fun q7 => (q2.2.2.2.1 q7)⟩, fun q9 => (q2.2.2.2.2.1 q9)⟩, fun q11 => (q2.2.2.2.2.2 q11)⟩⟩))), fun q1 => (h.2 q1)⟩)
theorem w_4_0 {d : Nat} {σ : yS} {K : yS → Prop} (h : K (sgA σ 85 (va_cpy (σ 12) (σ 85) 0 0 4))) : yR (d + 1) 4 0 [some (.ref 84)] [] σ (qV K) := wp_4 11 [] (show (yCp 0 0 4 4 4 ∧ K (sgA σ 85 (va_cpy (σ 12) (σ 85) 0 0 4))) from ⟨(by unfold yCp; decide), h⟩)
theorem w_5_0 {d : Nat} {σ : yS} {v1 : Int32} {K : yS → Prop} (h : yR d 9 0 [some (.ref 84), some (.int v1)] [] (sg (sg σ 84 7 0) 84 8 0) (qV (fun σ1 => K σ1))) : yR (d + 1) 5 0 [some (.ref 84), some (.int v1)] [] σ (qV K) := wp_5 11 [] (show (yBo 0 ∧ yR d 9 0 [some (.ref 84), some (.int v1)] [] (sg (sg σ 84 7 0) 84 8 0) (qV (fun σ1 => K σ1))) from ⟨yB0, h⟩)
theorem w_6_0 {d : Nat} {σ : yS} {K : yS → Prop} (h : yR d 149 0 [some (.int 4), some (.int 4)] [] σ (qI (fun x1 σ1 => (yCp 0 0 x1 4 4 ∧ K (sgA σ1 96 (va_cpy (σ1 85) (σ1 96) 0 0 x1.toNatClampNeg)))))) : yR (d + 1) 6 0 [some (.ref 84), some (.ref 96)] [] σ (qV K) := wp_6 12 [] (show yR d 149 0 [some (.int 4), some (.int 4)] [] σ (qI (fun x1 σ1 => (yCp 0 0 x1 4 4 ∧ K (sgA σ1 96 (va_cpy (σ1 85) (σ1 96) 0 0 x1.toNatClampNeg))))) from (yR.mono h (qI_mono (fun x1 σ1 q1 => ⟨q1.1, q1.2⟩))))
theorem w_7_0 {d : Nat} {σ : yS} {v1 v2 : Int32} {K : Int32 → yS → Prop} (h : ((¬ ((σ 84 8) = 0) → K 0 σ) ∧ (((σ 84 8) = 0) → (((60 < v2) → K 0 σ) ∧ (¬ (60 < v2) → yR d 77 0 [some (.int v1)] [] σ (qI (fun x1 σ1 => ((¬ (x1 = 0) → (vp_in v1 60 ∧ ((((σ1 3 v1.toNatClampNeg) = 33) → yR d 13 0 [some (.ref 84), some (.int v1), some (.int v2)] [] σ1 (qI (fun x2 σ2 => (yBo x2 ∧ K x2 σ2)))) ∧ (¬ ((σ1 3 v1.toNatClampNeg) = 33) → ((((σ1 3 v1.toNatClampNeg) = 48) → yR d 10 0 [some (.ref 84), some (.int v1), none] [] σ1 (qI (fun x3 σ3 => (yBo x3 ∧ K x3 σ3)))) ∧ (¬ ((σ1 3 v1.toNatClampNeg) = 48) → ((((σ1 3 v1.toNatClampNeg) = 58) → yR d 14 0 [some (.ref 84), some (.int v1), some (.int v2), none] [] σ1 (qI (fun x4 σ4 => (yBo x4 ∧ K x4 σ4)))) ∧ (¬ ((σ1 3 v1.toNatClampNeg) = 58) → ((((σ1 3 v1.toNatClampNeg) = 92) → yR d 12 0 [some (.ref 84), some (.int v1), some (.int v2)] [] σ1 (qI (fun x5 σ5 => (yBo x5 ∧ K x5 σ5)))) ∧ (¬ ((σ1 3 v1.toNatClampNeg) = 92) → ((((σ1 3 v1.toNatClampNeg) = 94) → yR d 14 0 [some (.ref 84), some (.int v1), some (.int v2), none] [] σ1 (qI (fun x6 σ6 => (yBo x6 ∧ K x6 σ6)))) ∧ (¬ ((σ1 3 v1.toNatClampNeg) = 94) → ((((σ1 3 v1.toNatClampNeg) = 97) → yR d 10 0 [some (.ref 84), some (.int v1), none] [] σ1 (qI (fun x7 σ7 => (yBo x7 ∧ K x7 σ7)))) ∧ (¬ ((σ1 3 v1.toNatClampNeg) = 97) → ((((σ1 3 v1.toNatClampNeg) = 124) → yR d 11 0 [some (.ref 84), some (.int v1), some (.int v2)] [] σ1 (qI (fun x8 σ8 => (yBo x8 ∧ K x8 σ8)))) ∧ (¬ ((σ1 3 v1.toNatClampNeg) = 124) → yR d 15 0 [some (.ref 84), some (.int v1), some (.int v2), none] [] σ1 (qI (fun x9 σ9 => (yBo x9 ∧ K x9 σ9))))))))))))))))))) ∧ ((x1 = 0) → K 0 σ1))))))))) : yR (d + 1) 7 0 [some (.ref 84), some (.int v1), some (.int v2)] [] σ (qI K) := wp_7 21 [] (show ((¬ ((σ 84 8) = 0) → (yBo 0 ∧ K 0 σ)) ∧ (((σ 84 8) = 0) → (((60 < v2) → (yBo 0 ∧ K 0 σ)) ∧ (¬ (60 < v2) → yR d 77 0 [some (.int v1)] [] σ (qI (fun x1 σ1 => ((¬ (x1 = 0) → (vp_in v1 60 ∧ ((((σ1 3 v1.toNatClampNeg) = 33) → yR d 13 0 [some (.ref 84), some (.int v1), some (.int v2)] [] σ1 (qI (fun x2 σ2 => (yBo x2 ∧ K x2 σ2)))) ∧ (¬ ((σ1 3 v1.toNatClampNeg) = 33) → ((((σ1 3 v1.toNatClampNeg) = 48) → yR d 10 0 [some (.ref 84), some (.int v1), none] [] σ1 (qI (fun x3 σ3 => (yBo x3 ∧ K x3 σ3)))) ∧ (¬ ((σ1 3 v1.toNatClampNeg) = 48) → ((((σ1 3 v1.toNatClampNeg) = 58) → yR d 14 0 [some (.ref 84), some (.int v1), some (.int v2), none] [] σ1 (qI (fun x4 σ4 => (yBo x4 ∧ K x4 σ4)))) ∧ (¬ ((σ1 3 v1.toNatClampNeg) = 58) → ((((σ1 3 v1.toNatClampNeg) = 92) → yR d 12 0 [some (.ref 84), some (.int v1), some (.int v2)] [] σ1 (qI (fun x5 σ5 => (yBo x5 ∧ K x5 σ5)))) ∧ (¬ ((σ1 3 v1.toNatClampNeg) = 92) → ((((σ1 3 v1.toNatClampNeg) = 94) → yR d 14 0 [some (.ref 84), some (.int v1), some (.int v2), none] [] σ1 (qI (fun x6 σ6 => (yBo x6 ∧ K x6 σ6)))) ∧ (¬ ((σ1 3 v1.toNatClampNeg) = 94) → ((((σ1 3 v1.toNatClampNeg) = 97) → yR d 10 0 [some (.ref 84), some (.int v1), none] [] σ1 (qI (fun x7 σ7 => (yBo x7 ∧ K x7 σ7)))) ∧ (¬ ((σ1 3 v1.toNatClampNeg) = 97) → ((((σ1 3 v1.toNatClampNeg) = 124) → yR d 11 0 [some (.ref 84), some (.int v1), some (.int v2)] [] σ1 (qI (fun x8 σ8 => (yBo x8 ∧ K x8 σ8)))) ∧ (¬ ((σ1 3 v1.toNatClampNeg) = 124) → yR d 15 0 [some (.ref 84), some (.int v1), some (.int v2), none] [] σ1 (qI (fun x9 σ9 => (yBo x9 ∧ K x9 σ9))))))))))))))))))) ∧ ((x1 = 0) → (yBo 0 ∧ K 0 σ1))))))))) from ⟨fun q1 => ⟨yB0, (h.1 q1)⟩, fun q1 => ⟨fun q2 => ⟨yB0, ((h.2 q1).1 q2)⟩, fun q2 => (yR.mono ((h.2 q1).2 q2) (qI_mono (fun x1 σ1 q3 => ⟨fun q4 => ⟨(q3.1 q4).1, ⟨fun q5 => (yR.mono ((q3.1 q4).2.1 q5) (qI_mono (fun x2 σ2 q6 => ⟨q6.1, q6.2⟩))), fun q5 => ⟨fun q7 => (yR.mono (((q3.1 q4).2.2 q5).1 q7) (qI_mono (fun x3 σ3 q8 => ⟨q8.1, q8.2⟩))), fun q7 => ⟨fun q9 => (yR.mono ((((q3.1 q4).2.2 q5).2 q7).1 q9) (qI_mono (fun x4 σ4 q10 => ⟨q10.1, q10.2⟩))), fun q9 => ⟨fun q11 => (yR.mono (((((q3.1 q4).2.2 q5).2 q7).2 q9).1 q11) (qI_mono (fun x5 σ5 q12 => ⟨q12.1, q12.2⟩))), fun q11 => ⟨fun q13 => (yR.mono ((((((q3.1 q4).2.2 q5).2 q7).2 q9).2 q11).1 q13) (qI_mono (fun x6 σ6 q14 => ⟨q14.1, q14.2⟩))), fun q13 => ⟨fun q15 => (yR.mono (((((((q3.1 q4).2.2 q5).2 q7).2 q9).2 q11).2 q13).1 q15) (qI_mono (fun x7 σ7 q16 => ⟨q16.1, q16.2⟩))), fun q15 => ⟨fun q17 => (yR.mono ((((((((q3.1 q4).2.2 q5).2 q7).2 q9).2 q11).2 q13).2 q15).1 q17) (qI_mono (fun x8 σ8 q18 => ⟨q18.1, q18.2⟩))), fun q17 => (yR.mono ((((((((q3.1 q4).2.2 q5).2 q7).2 q9).2 q11).2 q13).2 q15).2 q17) (qI_mono (fun x9 σ9 q19 => ⟨q19.1, q19.2⟩)))⟩⟩⟩⟩⟩⟩⟩⟩, fun q4 => ⟨yB0, (q3.2 q4)⟩⟩)))⟩⟩)
theorem w_8_0 {d : Nat} {σ : yS} {v1 : Int32} {K : Int32 → yS → Prop} (h : ((((σ 84 7) < 1000) → K 1 (sg (sg σ 84 7 ((σ 84 7) + 1)) 84 6 v1)) ∧ (¬ ((σ 84 7) < 1000) → K 0 (sg σ 84 8 1)))) : yR d 8 0 [some (.ref 84), some (.int v1)] [] σ (qI K) := wp_8 16 [] (show ((((σ 84 7) < 1000) → (yBo 1 ∧ K 1 (sg (sg σ 84 7 ((σ 84 7) + 1)) 84 6 v1))) ∧ (¬ ((σ 84 7) < 1000) → (yBo 1 ∧ (yBo 0 ∧ K 0 (sg σ 84 8 1))))) from ⟨fun q1 => ⟨yB1, (h.1 q1)⟩, fun q1 => ⟨yB1, ⟨yB0, (h.2 q1)⟩⟩⟩)
theorem w_9_0 {d : Nat} {σ : yS} {v1 : Int32} {K : yS → Prop} (h : yR d 77 0 [some (.int v1)] [] σ (qI (fun x1 σ1 => (((x1 = 0) → K σ1) ∧ (¬ (x1 = 0) → (vp_in v1 60 ∧ K (sg σ1 86 v1.toNatClampNeg 0))))))) : yR (d + 1) 9 0 [some (.ref 84), some (.int v1)] [] σ (qV K) := wp_9 10 [] (show yR d 77 0 [some (.int v1)] [] σ (qI (fun x1 σ1 => (((x1 = 0) → K σ1) ∧ (¬ (x1 = 0) → (vp_in v1 60 ∧ K (sg σ1 86 v1.toNatClampNeg 0)))))) from (yR.mono h (qI_mono (fun x1 σ1 q1 => ⟨fun q2 => (q1.1 q2), fun q2 => ⟨(q1.2 q2).1, (q1.2 q2).2⟩⟩))))
theorem w_10_0 {d : Nat} {σ : yS} {v1 : Int32} {K : Int32 → yS → Prop} (h : (vp_in v1 60 ∧ ((((σ 86 v1.toNatClampNeg) = 0) → ((¬ ((σ 3 v1.toNatClampNeg) = 48) → yR d 75 0 [some (.int (σ 6 v1.toNatClampNeg))] [] (sg σ 86 v1.toNatClampNeg 4) (qI (fun x1 σ1 => (((x1 = 0) → K 0 σ1) ∧ (¬ (x1 = 0) → (vp_in (σ 6 v1.toNatClampNeg) 4 ∧ yR d 8 0 [some (.ref 84), some (.int (σ1 85 (σ 6 v1.toNatClampNeg).toNatClampNeg))] [] σ1 (qI (fun x2 σ2 => (((x2 = 0) → K 0 σ2) ∧ (¬ (x2 = 0) → K 1 σ2)))))))))) ∧ (((σ 3 v1.toNatClampNeg) = 48) → yR d 8 0 [some (.ref 84), some (.int (σ 6 v1.toNatClampNeg))] [] (sg σ 86 v1.toNatClampNeg 4) (qI (fun x3 σ3 => (yBo x3 ∧ K x3 σ3)))))) ∧ (¬ ((σ 86 v1.toNatClampNeg) = 0) → K 0 σ)))) : yR (d + 1) 10 0 [some (.ref 84), some (.int v1), none] [] σ (qI K) := wp_10 37 [] (show (vp_in v1 60 ∧ ((((σ 86 v1.toNatClampNeg) = 0) → (vp_in v1 60 ∧ (vp_in v1 60 ∧ (vp_in v1 60 ∧ ((¬ ((σ 3 v1.toNatClampNeg) = 48) → yR d 75 0 [some (.int (σ 6 v1.toNatClampNeg))] [] (sg σ 86 v1.toNatClampNeg 4) (qI (fun x1 σ1 => (((x1 = 0) → (yBo 0 ∧ K 0 σ1)) ∧ (¬ (x1 = 0) → (vp_in (σ 6 v1.toNatClampNeg) 4 ∧ yR d 8 0 [some (.ref 84), some (.int (σ1 85 (σ 6 v1.toNatClampNeg).toNatClampNeg))] [] σ1 (qI (fun x2 σ2 => (((x2 = 0) → (yBo 0 ∧ K 0 σ2)) ∧ (¬ (x2 = 0) → (yBo 1 ∧ K 1 σ2))))))))))) ∧ (((σ 3 v1.toNatClampNeg) = 48) → yR d 8 0 [some (.ref 84), some (.int (σ 6 v1.toNatClampNeg))] [] (sg σ 86 v1.toNatClampNeg 4) (qI (fun x3 σ3 => (yBo x3 ∧ K x3 σ3))))))))) ∧ (¬ ((σ 86 v1.toNatClampNeg) = 0) → (yBo 0 ∧ K 0 σ)))) from ⟨h.1, ⟨fun q1 => ⟨h.1, ⟨h.1, ⟨h.1, ⟨fun q2 => (yR.mono ((h.2.1 q1).1 q2) (qI_mono (fun x1 σ1 q3 => ⟨fun q4 => ⟨yB0, (q3.1 q4)⟩, fun q4 => ⟨(q3.2 q4).1, (yR.mono (q3.2 q4).2 (qI_mono (fun x2 σ2 q5 => ⟨fun q6 => ⟨yB0, (q5.1 q6)⟩, fun q6 => ⟨yB1, (q5.2 q6)⟩⟩)))⟩⟩))), fun q2 => (yR.mono ((h.2.1 q1).2 q2) (qI_mono (fun x3 σ3 q7 => ⟨q7.1, q7.2⟩)))⟩⟩⟩⟩, fun q1 => ⟨yB0, (h.2.2 q1)⟩⟩⟩)
theorem w_11_0 {d : Nat} {σ : yS} {v1 v2 : Int32} {K : Int32 → yS → Prop} (h : (vp_in v1 60 ∧ ((¬ ((σ 86 v1.toNatClampNeg) = 0) → ((¬ ((σ 86 v1.toNatClampNeg) = 1) → yR d 7 0 [some (.ref 84), some (.int (σ 5 v1.toNatClampNeg)), some (.int (v2 + 1))] [] σ (qI (fun x1 σ1 => (((x1 = 0) → K 0 σ1) ∧ (¬ (x1 = 0) → yR d 8 0 [some (.ref 84), some (.int (σ1 84 6))] [] σ1 (qI (fun x2 σ2 => (((x2 = 0) → K 0 σ2) ∧ (¬ (x2 = 0) → K 1 σ2))))))))) ∧ (((σ 86 v1.toNatClampNeg) = 1) → yR d 7 0 [some (.ref 84), some (.int (σ 4 v1.toNatClampNeg)), some (.int (v2 + 1))] [] σ (qI (fun x3 σ3 => (((x3 = 0) → yR d 9 0 [some (.ref 84), some (.int (σ3 5 v1.toNatClampNeg))] [] (sg σ3 86 v1.toNatClampNeg 2) (qV (fun σ4 => yR d 7 0 [some (.ref 84), some (.int (σ4 5 v1.toNatClampNeg)), some (.int (v2 + 1))] [] σ4 (qI (fun x5 σ5 => (((x5 = 0) → K 0 σ5) ∧ (¬ (x5 = 0) → yR d 8 0 [some (.ref 84), some (.int (σ5 84 6))] [] σ5 (qI (fun x6 σ6 => (((x6 = 0) → K 0 σ6) ∧ (¬ (x6 = 0) → K 1 σ6))))))))))) ∧ (¬ (x3 = 0) → yR d 8 0 [some (.ref 84), some (.int (σ3 84 6))] [] σ3 (qI (fun x7 σ7 => (yBo x7 ∧ K x7 σ7)))))))))) ∧ (((σ 86 v1.toNatClampNeg) = 0) → yR d 9 0 [some (.ref 84), some (.int (σ 4 v1.toNatClampNeg))] [] (sg σ 86 v1.toNatClampNeg 1) (qV (fun σ8 => ((¬ ((σ8 86 v1.toNatClampNeg) = 1) → yR d 7 0 [some (.ref 84), some (.int (σ8 5 v1.toNatClampNeg)), some (.int (v2 + 1))] [] σ8 (qI (fun x9 σ9 => (((x9 = 0) → K 0 σ9) ∧ (¬ (x9 = 0) → yR d 8 0 [some (.ref 84), some (.int (σ9 84 6))] [] σ9 (qI (fun x10 σ10 => (((x10 = 0) → K 0 σ10) ∧ (¬ (x10 = 0) → K 1 σ10))))))))) ∧ (((σ8 86 v1.toNatClampNeg) = 1) → yR d 7 0 [some (.ref 84), some (.int (σ8 4 v1.toNatClampNeg)), some (.int (v2 + 1))] [] σ8 (qI (fun x11 σ11 => (((x11 = 0) → yR d 9 0 [some (.ref 84), some (.int (σ11 5 v1.toNatClampNeg))] [] (sg σ11 86 v1.toNatClampNeg 2) (qV (fun σ12 => yR d 7 0 [some (.ref 84), some (.int (σ12 5 v1.toNatClampNeg)), some (.int (v2 + 1))] [] σ12 (qI (fun x13 σ13 => (((x13 = 0) → K 0 σ13) ∧ (¬ (x13 = 0) → yR d 8 0 [some (.ref 84), some (.int (σ13 84 6))] [] σ13 (qI (fun x14 σ14 => (((x14 = 0) → K 0 σ14) ∧ (¬ (x14 = 0) → K 1 σ14))))))))))) ∧ (¬ (x11 = 0) → yR d 8 0 [some (.ref 84), some (.int (σ11 84 6))] [] σ11 (qI (fun x15 σ15 => (yBo x15 ∧ K x15 σ15))))))))))))))) : yR (d + 1) 11 0 [some (.ref 84), some (.int v1), some (.int v2)] [] σ (qI K) := wp_11 66 [] (show (vp_in v1 60 ∧ ((¬ ((σ 86 v1.toNatClampNeg) = 0) → (vp_in v1 60 ∧ ((¬ ((σ 86 v1.toNatClampNeg) = 1) → (vp_in v1 60 ∧ yR d 7 0 [some (.ref 84), some (.int (σ 5 v1.toNatClampNeg)), some (.int (v2 + 1))] [] σ (qI (fun x1 σ1 => (((x1 = 0) → (yBo 0 ∧ K 0 σ1)) ∧ (¬ (x1 = 0) → yR d 8 0 [some (.ref 84), some (.int (σ1 84 6))] [] σ1 (qI (fun x2 σ2 => (((x2 = 0) → (yBo 0 ∧ K 0 σ2)) ∧ (¬ (x2 = 0) → (yBo 1 ∧ K 1 σ2))))))))))) ∧ (((σ 86 v1.toNatClampNeg) = 1) → (vp_in v1 60 ∧ yR d 7 0 [some (.ref 84), some (.int (σ 4 v1.toNatClampNeg)), some (.int (v2 + 1))] [] σ (qI (fun x3 σ3 => (((x3 = 0) → (vp_in v1 60 ∧ (vp_in v1 60 ∧ yR d 9 0 [some (.ref 84), some (.int (σ3 5 v1.toNatClampNeg))] [] (sg σ3 86 v1.toNatClampNeg 2) (qV (fun σ4 => (vp_in v1 60 ∧ yR d 7 0 [some (.ref 84), some (.int (σ4 5 v1.toNatClampNeg)), some (.int (v2 + 1))] [] σ4 (qI (fun x5 σ5 => (((x5 = 0) → (yBo 0 ∧ K 0 σ5)) ∧ (¬ (x5 = 0) → yR d 8 0 [some (.ref 84), some (.int (σ5 84 6))] [] σ5 (qI (fun x6 σ6 => (((x6 = 0) → (yBo 0 ∧ K 0 σ6)) ∧ (¬ (x6 = 0) → (yBo 1 ∧ K 1 σ6))))))))))))))) ∧ (¬ (x3 = 0) → yR d 8 0 [some (.ref 84), some (.int (σ3 84 6))] [] σ3 (qI (fun x7 σ7 => (yBo x7 ∧ K x7 σ7)))))))))))) ∧ (((σ 86 v1.toNatClampNeg) = 0) → (vp_in v1 60 ∧ (vp_in v1 60 ∧ yR d 9 0 [some (.ref 84), some (.int (σ 4 v1.toNatClampNeg))] [] (sg σ 86 v1.toNatClampNeg 1) (qV (fun σ8 => (vp_in v1 60 ∧ ((¬ ((σ8 86 v1.toNatClampNeg) = 1) → (vp_in v1 60 ∧ yR d 7 0 [some (.ref 84), some (.int (σ8 5 v1.toNatClampNeg)), some (.int (v2 + 1))] [] σ8 (qI (fun x9 σ9 => (((x9 = 0) → (yBo 0 ∧ K 0 σ9)) ∧ (¬ (x9 = 0) → yR d 8 0 [some (.ref 84), some (.int (σ9 84 6))] [] σ9 (qI (fun x10 σ10 => (((x10 = 0) → (yBo 0 ∧ K 0 σ10)) ∧ (¬ (x10 = 0) → (yBo 1 ∧ K 1 σ10))))))))))) ∧ (((σ8 86 v1.toNatClampNeg) = 1) → (vp_in v1 60 ∧ yR d 7 0 [some (.ref 84), some (.int (σ8 4 v1.toNatClampNeg)), some (.int (v2 + 1))] [] σ8 (qI (fun x11 σ11 => (((x11 = 0) → (vp_in v1 60 ∧ (vp_in v1 60 ∧ yR d 9 0 [some (.ref 84), some (.int (σ11 5 v1.toNatClampNeg))] [] (sg σ11 86 v1.toNatClampNeg 2) (qV (fun σ12 => (vp_in v1 60 ∧ yR d 7 0 [some (.ref 84), some (.int (σ12 5 v1.toNatClampNeg)), some (.int (v2 + 1))] [] σ12 (qI (fun x13 σ13 => (((x13 = 0) → (yBo 0 ∧ K 0 σ13)) ∧ (¬ (x13 = 0) → yR d 8 0 [some (.ref 84), some (.int (σ13 84 6))] [] σ13 (qI (fun x14 σ14 => (((x14 = 0) → (yBo 0 ∧ K 0 σ14)) ∧ (¬ (x14 = 0) → (yBo 1 ∧ K 1 σ14))))))))))))))) ∧ (¬ (x11 = 0) → yR d 8 0 [some (.ref 84), some (.int (σ11 84 6))] [] σ11 (qI (fun x15 σ15 => (yBo x15 ∧ K x15 σ15)))))))))))))))))) from ⟨h.1, ⟨fun q1 => ⟨h.1, ⟨fun q2 => ⟨h.1, (yR.mono ((h.2.1 q1).1 q2) (qI_mono (fun x1 σ1 q3 => ⟨fun q4 => ⟨yB0, (q3.1 q4)⟩, fun q4 => (yR.mono (q3.2 q4) (qI_mono (fun x2 σ2 q5 => ⟨fun q6 => ⟨yB0, (q5.1 q6)⟩, fun q6 => ⟨yB1, (q5.2 q6)⟩⟩)))⟩)))⟩, fun q2 => ⟨h.1, (yR.mono ((h.2.1 q1).2 q2) (qI_mono (fun x3 σ3 q7 => ⟨fun q8 => ⟨h.1, ⟨h.1, (yR.mono (q7.1 q8) (qV_mono (fun σ4 q9 => ⟨h.1, (yR.mono q9 (qI_mono (fun x5 σ5 q10 => ⟨fun q11 => ⟨yB0, (q10.1 q11)⟩, fun q11 => (yR.mono (q10.2 q11) (qI_mono (fun x6 σ6 q12 => ⟨fun q13 => ⟨yB0, (q12.1 q13)⟩, fun q13 => ⟨yB1, (q12.2 q13)⟩⟩)))⟩)))⟩)))⟩⟩, fun q8 => (yR.mono (q7.2 q8) (qI_mono (fun x7 σ7 q14 => ⟨q14.1, q14.2⟩)))⟩)))⟩⟩⟩, fun q1 => ⟨h.1, ⟨h.1, (yR.mono (h.2.2 q1) (qV_mono (fun σ8 q15 => ⟨h.1, ⟨fun q16 => ⟨h.1, (yR.mono (q15.1 q16) (qI_mono (fun x9 σ9 q17 => ⟨fun q18 => ⟨yB0, (q17.1 q18)⟩, fun q18 => (yR.mono (q17.2 q18) (qI_mono (fun x10 σ10 q19 => ⟨fun q20 => ⟨yB0, (q19.1 q20)⟩, fun q20 => ⟨yB1, (q19.2 q20)⟩⟩)))⟩)))⟩, fun q16 => ⟨h.1, (yR.mono (q15.2 q16) (qI_mono (fun x11 σ11 q21 => ⟨fun q22 => ⟨h.1, ⟨h.1, (yR.mono (q21.1 q22) (qV_mono (fun σ12 q23 => ⟨h.1, (yR.mono q23 (qI_mono (fun x13 σ13 q24 => ⟨fun q25 => ⟨yB0, (q24.1 q25)⟩, fun q25 => (yR.mono (q24.2 q25) (qI_mono (fun x14 σ14 q26 => ⟨fun q27 => ⟨yB0, (q26.1 q27)⟩, fun q27 => ⟨yB1, (q26.2 q27)⟩⟩)))⟩)))⟩)))⟩⟩, fun q22 => (yR.mono (q21.2 q22) (qI_mono (fun x15 σ15 q28 => ⟨q28.1, q28.2⟩)))⟩)))⟩⟩⟩)))⟩⟩⟩⟩)
theorem w_12_0 {d : Nat} {σ : yS} {v1 v2 : Int32} {K : Int32 → yS → Prop} (h : (vp_in v1 60 ∧ ((¬ ((σ 86 v1.toNatClampNeg) = 0) → ((((σ 6 v1.toNatClampNeg) ≤ (σ 89 v1.toNatClampNeg)) → K 0 σ) ∧ (¬ ((σ 6 v1.toNatClampNeg) ≤ (σ 89 v1.toNatClampNeg)) → yR d 7 0 [some (.ref 84), some (.int (σ 5 v1.toNatClampNeg)), some (.int (v2 + 1))] [] σ (qI (fun x1 σ1 => ((¬ (x1 = 0) → yR d 8 0 [some (.ref 84), some (.int (σ1 84 6))] [] (sg σ1 89 v1.toNatClampNeg ((σ1 89 v1.toNatClampNeg) + 1)) (qI (fun x2 σ2 => (yBo x2 ∧ K x2 σ2)))) ∧ ((x1 = 0) → K 0 σ1))))))) ∧ (((σ 86 v1.toNatClampNeg) = 0) → yR d 9 0 [some (.ref 84), some (.int (σ 5 v1.toNatClampNeg))] [] (sg (sg σ 86 v1.toNatClampNeg 2) 89 v1.toNatClampNeg 0) (qV (fun σ3 => ((((σ3 6 v1.toNatClampNeg) ≤ (σ3 89 v1.toNatClampNeg)) → K 0 σ3) ∧ (¬ ((σ3 6 v1.toNatClampNeg) ≤ (σ3 89 v1.toNatClampNeg)) → yR d 7 0 [some (.ref 84), some (.int (σ3 5 v1.toNatClampNeg)), some (.int (v2 + 1))] [] σ3 (qI (fun x4 σ4 => ((¬ (x4 = 0) → yR d 8 0 [some (.ref 84), some (.int (σ4 84 6))] [] (sg σ4 89 v1.toNatClampNeg ((σ4 89 v1.toNatClampNeg) + 1)) (qI (fun x5 σ5 => (yBo x5 ∧ K x5 σ5)))) ∧ ((x4 = 0) → K 0 σ4)))))))))))) : yR (d + 1) 12 0 [some (.ref 84), some (.int v1), some (.int v2)] [] σ (qI K) := wp_12 57 [] (show (vp_in v1 60 ∧ ((¬ ((σ 86 v1.toNatClampNeg) = 0) → (vp_in v1 60 ∧ (vp_in v1 60 ∧ ((((σ 6 v1.toNatClampNeg) ≤ (σ 89 v1.toNatClampNeg)) → (yBo 0 ∧ K 0 σ)) ∧ (¬ ((σ 6 v1.toNatClampNeg) ≤ (σ 89 v1.toNatClampNeg)) → (vp_in v1 60 ∧ yR d 7 0 [some (.ref 84), some (.int (σ 5 v1.toNatClampNeg)), some (.int (v2 + 1))] [] σ (qI (fun x1 σ1 => ((¬ (x1 = 0) → (vp_in v1 60 ∧ (vp_in v1 60 ∧ yR d 8 0 [some (.ref 84), some (.int (σ1 84 6))] [] (sg σ1 89 v1.toNatClampNeg ((σ1 89 v1.toNatClampNeg) + 1)) (qI (fun x2 σ2 => (yBo x2 ∧ K x2 σ2)))))) ∧ ((x1 = 0) → (yBo 0 ∧ K 0 σ1))))))))))) ∧ (((σ 86 v1.toNatClampNeg) = 0) → (vp_in v1 60 ∧ (vp_in v1 60 ∧ (vp_in v1 60 ∧ yR d 9 0 [some (.ref 84), some (.int (σ 5 v1.toNatClampNeg))] [] (sg (sg σ 86 v1.toNatClampNeg 2) 89 v1.toNatClampNeg 0) (qV (fun σ3 => (vp_in v1 60 ∧ (vp_in v1 60 ∧ ((((σ3 6 v1.toNatClampNeg) ≤ (σ3 89 v1.toNatClampNeg)) → (yBo 0 ∧ K 0 σ3)) ∧ (¬ ((σ3 6 v1.toNatClampNeg) ≤ (σ3 89 v1.toNatClampNeg)) → (vp_in v1 60 ∧ yR d 7 0 [some (.ref 84), some (.int (σ3 5 v1.toNatClampNeg)), some (.int (v2 + 1))] [] σ3 (qI (fun x4 σ4 => ((¬ (x4 = 0) → (vp_in v1 60 ∧ (vp_in v1 60 ∧ yR d 8 0 [some (.ref 84), some (.int (σ4 84 6))] [] (sg σ4 89 v1.toNatClampNeg ((σ4 89 v1.toNatClampNeg) + 1)) (qI (fun x5 σ5 => (yBo x5 ∧ K x5 σ5)))))) ∧ ((x4 = 0) → (yBo 0 ∧ K 0 σ4)))))))))))))))))) from ⟨h.1, ⟨fun q1 => ⟨h.1, ⟨h.1, ⟨fun q2 => ⟨yB0, ((h.2.1 q1).1 q2)⟩, fun q2 => ⟨h.1, (yR.mono ((h.2.1 q1).2 q2) (qI_mono (fun x1 σ1 q3 => ⟨fun q4 => ⟨h.1, ⟨h.1, (yR.mono (q3.1 q4) (qI_mono (fun x2 σ2 q5 => ⟨q5.1, q5.2⟩)))⟩⟩, fun q4 => ⟨yB0, (q3.2 q4)⟩⟩)))⟩⟩⟩⟩, fun q1 => ⟨h.1, ⟨h.1, ⟨h.1, (yR.mono (h.2.2 q1) (qV_mono (fun σ3 q6 => ⟨h.1, ⟨h.1, ⟨fun q7 => ⟨yB0, (q6.1 q7)⟩, fun q7 => ⟨h.1, (yR.mono (q6.2 q7) (qI_mono (fun x4 σ4 q8 => ⟨fun q9 => ⟨h.1, ⟨h.1, (yR.mono (q8.1 q9) (qI_mono (fun x5 σ5 q10 => ⟨q10.1, q10.2⟩)))⟩⟩, fun q9 => ⟨yB0, (q8.2 q9)⟩⟩)))⟩⟩⟩⟩)))⟩⟩⟩⟩⟩)
theorem w_13_0 {d : Nat} {σ : yS} {v1 v2 : Int32} {K : Int32 → yS → Prop} (h : (vp_in v1 60 ∧ ((((σ 86 v1.toNatClampNeg) = 0) → yR d 9 0 [some (.ref 84), some (.int (σ 5 v1.toNatClampNeg))] [] (sg σ 86 v1.toNatClampNeg 4) (qV (fun σ1 => yR d 7 0 [some (.ref 84), some (.int (σ1 5 v1.toNatClampNeg)), some (.int (v2 + 1))] [] σ1 (qI (fun x2 σ2 => ((¬ (x2 = 0) → K 0 σ2) ∧ ((x2 = 0) → yR d 8 0 [some (.ref 84), some (.int 0)] [] σ2 (qI (fun x3 σ3 => (((x3 = 0) → K 0 σ3) ∧ (¬ (x3 = 0) → K 1 σ3))))))))))) ∧ (¬ ((σ 86 v1.toNatClampNeg) = 0) → K 0 σ)))) : yR (d + 1) 13 0 [some (.ref 84), some (.int v1), some (.int v2)] [] σ (qI K) := wp_13 36 [] (show (vp_in v1 60 ∧ ((((σ 86 v1.toNatClampNeg) = 0) → (vp_in v1 60 ∧ (vp_in v1 60 ∧ yR d 9 0 [some (.ref 84), some (.int (σ 5 v1.toNatClampNeg))] [] (sg σ 86 v1.toNatClampNeg 4) (qV (fun σ1 => (vp_in v1 60 ∧ yR d 7 0 [some (.ref 84), some (.int (σ1 5 v1.toNatClampNeg)), some (.int (v2 + 1))] [] σ1 (qI (fun x2 σ2 => ((¬ (x2 = 0) → (yBo 0 ∧ K 0 σ2)) ∧ ((x2 = 0) → yR d 8 0 [some (.ref 84), some (.int 0)] [] σ2 (qI (fun x3 σ3 => (((x3 = 0) → (yBo 0 ∧ K 0 σ3)) ∧ (¬ (x3 = 0) → (yBo 1 ∧ K 1 σ3))))))))))))))) ∧ (¬ ((σ 86 v1.toNatClampNeg) = 0) → (yBo 0 ∧ K 0 σ)))) from ⟨h.1, ⟨fun q1 => ⟨h.1, ⟨h.1, (yR.mono (h.2.1 q1) (qV_mono (fun σ1 q2 => ⟨h.1, (yR.mono q2 (qI_mono (fun x2 σ2 q3 => ⟨fun q4 => ⟨yB0, (q3.1 q4)⟩, fun q4 => (yR.mono (q3.2 q4) (qI_mono (fun x3 σ3 q5 => ⟨fun q6 => ⟨yB0, (q5.1 q6)⟩, fun q6 => ⟨yB1, (q5.2 q6)⟩⟩)))⟩)))⟩)))⟩⟩, fun q1 => ⟨yB0, (h.2.2 q1)⟩⟩⟩)
theorem w_14_0 {d : Nat} {σ : yS} {v1 v2 : Int32} {K : Int32 → yS → Prop} (h : (vp_in v1 60 ∧ yR d 75 0 [some (.int (σ 6 v1.toNatClampNeg))] [] σ (qI (fun x1 σ1 => ((¬ (x1 = 0) → ((¬ ((σ1 86 v1.toNatClampNeg) = 0) → ((¬ ((σ1 3 v1.toNatClampNeg) = 94) → yR d 7 0 [some (.ref 84), some (.int (σ1 5 v1.toNatClampNeg)), some (.int (v2 + 1))] [] (sg σ1 86 v1.toNatClampNeg 2) (qI (fun x2 σ2 => ((¬ (x2 = 0) → (vp_in (σ 6 v1.toNatClampNeg) 4 ∧ yR d 8 0 [some (.ref 84), some (.int (σ2 84 6))] [] (sg (sg σ2 89 v1.toNatClampNeg (σ2 85 (σ 6 v1.toNatClampNeg).toNatClampNeg)) 85 (σ 6 v1.toNatClampNeg).toNatClampNeg (σ2 84 6)) (qI (fun x3 σ3 => (yBo x3 ∧ K x3 σ3))))) ∧ ((x2 = 0) → K 0 σ2))))) ∧ (((σ1 3 v1.toNatClampNeg) = 94) → (vp_in (σ 6 v1.toNatClampNeg) 4 ∧ yR d 7 0 [some (.ref 84), some (.int (σ1 5 v1.toNatClampNeg)), some (.int (v2 + 1))] [] (sg (sg σ1 85 (σ 6 v1.toNatClampNeg).toNatClampNeg (σ1 89 v1.toNatClampNeg)) 86 v1.toNatClampNeg 2) (qI (fun x4 σ4 => ((¬ (x4 = 0) → yR d 8 0 [some (.ref 84), some (.int (σ4 84 6))] [] (sg (sg σ4 89 v1.toNatClampNeg (σ4 85 (σ 6 v1.toNatClampNeg).toNatClampNeg)) 85 (σ 6 v1.toNatClampNeg).toNatClampNeg (σ4 84 6)) (qI (fun x5 σ5 => (yBo x5 ∧ K x5 σ5)))) ∧ ((x4 = 0) → K 0 σ4)))))))) ∧ (((σ1 86 v1.toNatClampNeg) = 0) → yR d 9 0 [some (.ref 84), some (.int (σ1 5 v1.toNatClampNeg))] [] σ1 (qV (fun σ6 => yR d 7 0 [some (.ref 84), some (.int (σ6 5 v1.toNatClampNeg)), some (.int (v2 + 1))] [] (sg σ6 86 v1.toNatClampNeg 2) (qI (fun x7 σ7 => ((¬ (x7 = 0) → (vp_in (σ 6 v1.toNatClampNeg) 4 ∧ yR d 8 0 [some (.ref 84), some (.int (σ7 84 6))] [] (sg (sg σ7 89 v1.toNatClampNeg (σ7 85 (σ 6 v1.toNatClampNeg).toNatClampNeg)) 85 (σ 6 v1.toNatClampNeg).toNatClampNeg (σ7 84 6)) (qI (fun x8 σ8 => (yBo x8 ∧ K x8 σ8))))) ∧ ((x7 = 0) → K 0 σ7))))))))) ∧ ((x1 = 0) → K 0 σ1)))))) : yR (d + 1) 14 0 [some (.ref 84), some (.int v1), some (.int v2), none] [] σ (qI K) := wp_14 65 [] (show (vp_in v1 60 ∧ yR d 75 0 [some (.int (σ 6 v1.toNatClampNeg))] [] σ (qI (fun x1 σ1 => ((¬ (x1 = 0) → (vp_in v1 60 ∧ ((¬ ((σ1 86 v1.toNatClampNeg) = 0) → (vp_in v1 60 ∧ ((¬ ((σ1 3 v1.toNatClampNeg) = 94) → (vp_in v1 60 ∧ (vp_in v1 60 ∧ yR d 7 0 [some (.ref 84), some (.int (σ1 5 v1.toNatClampNeg)), some (.int (v2 + 1))] [] (sg σ1 86 v1.toNatClampNeg 2) (qI (fun x2 σ2 => ((¬ (x2 = 0) → (vp_in (σ 6 v1.toNatClampNeg) 4 ∧ (vp_in v1 60 ∧ (vp_in (σ 6 v1.toNatClampNeg) 4 ∧ yR d 8 0 [some (.ref 84), some (.int (σ2 84 6))] [] (sg (sg σ2 89 v1.toNatClampNeg (σ2 85 (σ 6 v1.toNatClampNeg).toNatClampNeg)) 85 (σ 6 v1.toNatClampNeg).toNatClampNeg (σ2 84 6)) (qI (fun x3 σ3 => (yBo x3 ∧ K x3 σ3))))))) ∧ ((x2 = 0) → (yBo 0 ∧ K 0 σ2)))))))) ∧ (((σ1 3 v1.toNatClampNeg) = 94) → (vp_in v1 60 ∧ (vp_in (σ 6 v1.toNatClampNeg) 4 ∧ (vp_in v1 60 ∧ (vp_in v1 60 ∧ yR d 7 0 [some (.ref 84), some (.int (σ1 5 v1.toNatClampNeg)), some (.int (v2 + 1))] [] (sg (sg σ1 85 (σ 6 v1.toNatClampNeg).toNatClampNeg (σ1 89 v1.toNatClampNeg)) 86 v1.toNatClampNeg 2) (qI (fun x4 σ4 => ((¬ (x4 = 0) → (vp_in (σ 6 v1.toNatClampNeg) 4 ∧ (vp_in v1 60 ∧ (vp_in (σ 6 v1.toNatClampNeg) 4 ∧ yR d 8 0 [some (.ref 84), some (.int (σ4 84 6))] [] (sg (sg σ4 89 v1.toNatClampNeg (σ4 85 (σ 6 v1.toNatClampNeg).toNatClampNeg)) 85 (σ 6 v1.toNatClampNeg).toNatClampNeg (σ4 84 6)) (qI (fun x5 σ5 => (yBo x5 ∧ K x5 σ5))))))) ∧ ((x4 = 0) → (yBo 0 ∧ K 0 σ4))))))))))))) ∧ (((σ1 86 v1.toNatClampNeg) = 0) → (vp_in v1 60 ∧ yR d 9 0 [some (.ref 84), some (.int (σ1 5 v1.toNatClampNeg))] [] σ1 (qV (fun σ6 => (vp_in v1 60 ∧ (vp_in v1 60 ∧ yR d 7 0 [some (.ref 84), some (.int (σ6 5 v1.toNatClampNeg)), some (.int (v2 + 1))] [] (sg σ6 86 v1.toNatClampNeg 2) (qI (fun x7 σ7 => ((¬ (x7 = 0) → (vp_in (σ 6 v1.toNatClampNeg) 4 ∧ (vp_in v1 60 ∧ (vp_in (σ 6 v1.toNatClampNeg) 4 ∧ yR d 8 0 [some (.ref 84), some (.int (σ7 84 6))] [] (sg (sg σ7 89 v1.toNatClampNeg (σ7 85 (σ 6 v1.toNatClampNeg).toNatClampNeg)) 85 (σ 6 v1.toNatClampNeg).toNatClampNeg (σ7 84 6)) (qI (fun x8 σ8 => (yBo x8 ∧ K x8 σ8))))))) ∧ ((x7 = 0) → (yBo 0 ∧ K 0 σ7)))))))))))))) ∧ ((x1 = 0) → (yBo 0 ∧ K 0 σ1)))))) from ⟨h.1, (yR.mono h.2 (qI_mono (fun x1 σ1 q1 => ⟨fun q2 => ⟨h.1, ⟨fun q3 => ⟨h.1, ⟨fun q4 => ⟨h.1, ⟨h.1, (yR.mono (((q1.1 q2).1 q3).1 q4) (qI_mono (fun x2 σ2 q5 => ⟨fun q6 => ⟨(q5.1 q6).1, ⟨h.1, ⟨(q5.1 q6).1, (yR.mono (q5.1 q6).2 (qI_mono (fun x3 σ3 q7 => ⟨q7.1, q7.2⟩)))⟩⟩⟩, fun q6 => ⟨yB0, (q5.2 q6)⟩⟩)))⟩⟩, fun q4 => ⟨h.1, ⟨(((q1.1 q2).1 q3).2 q4).1, ⟨h.1, ⟨h.1, (yR.mono (((q1.1 q2).1 q3).2 q4).2 (qI_mono (fun x4 σ4 q8 => ⟨fun q9 => ⟨(((q1.1 q2).1 q3).2 q4).1, ⟨h.1, ⟨(((q1.1 q2).1 q3).2 q4).1, (yR.mono (q8.1 q9) (qI_mono (fun x5 σ5 q10 => ⟨q10.1, q10.2⟩)))⟩⟩⟩, fun q9 => ⟨yB0, (q8.2 q9)⟩⟩)))⟩⟩⟩⟩⟩⟩, fun q3 => ⟨h.1, (yR.mono ((q1.1 q2).2 q3) (qV_mono (fun σ6 q11 => ⟨h.1, ⟨h.1, (yR.mono q11 (qI_mono (fun x7 σ7 q12 => ⟨fun q13 => ⟨(q12.1 q13).1, ⟨h.1, ⟨(q12.1 q13).1, (yR.mono (q12.1 q13).2 (qI_mono (fun x8 σ8 q14 => ⟨q14.1, q14.2⟩)))⟩⟩⟩, fun q13 => ⟨yB0, (q12.2 q13)⟩⟩)))⟩⟩)))⟩⟩⟩, fun q2 => ⟨yB0, (q1.2 q2)⟩⟩)))⟩)
theorem w_15_0 {d : Nat} {σ : yS} {v1 v2 : Int32} {K : Int32 → yS → Prop} (h : (vp_in v1 60 ∧ ((¬ ((σ 86 v1.toNatClampNeg) = 0) → ((¬ ((σ 86 v1.toNatClampNeg) = 3) → yR (d + 1) 15 84 [some (.ref 84), some (.int v1), some (.int v2), some (.int 0)] [] σ (qI K)) ∧ (((σ 86 v1.toNatClampNeg) = 3) → ((((σ 88 v1.toNatClampNeg) ≤ (σ 89 v1.toNatClampNeg)) → yR (d + 1) 15 84 [some (.ref 84), some (.int v1), some (.int v2), some (.int 0)] [] (sg σ 86 v1.toNatClampNeg 2) (qI K)) ∧ (¬ ((σ 88 v1.toNatClampNeg) ≤ (σ 89 v1.toNatClampNeg)) → yR d 8 0 [some (.ref 84), some (.int ((sg σ 89 v1.toNatClampNeg ((σ 89 v1.toNatClampNeg) + 1)) 89 v1.toNatClampNeg))] [] (sg σ 89 v1.toNatClampNeg ((σ 89 v1.toNatClampNeg) + 1)) (qI (fun x1 σ1 => (yBo x1 ∧ K x1 σ1)))))))) ∧ (((σ 86 v1.toNatClampNeg) = 0) → yR d 9 0 [some (.ref 84), some (.int (σ 4 v1.toNatClampNeg))] [] (sg σ 86 v1.toNatClampNeg 1) (qV (fun σ2 => ((¬ ((σ2 86 v1.toNatClampNeg) = 3) → yR (d + 1) 15 84 [some (.ref 84), some (.int v1), some (.int v2), some (.int 0)] [] σ2 (qI K)) ∧ (((σ2 86 v1.toNatClampNeg) = 3) → ((((σ2 88 v1.toNatClampNeg) ≤ (σ2 89 v1.toNatClampNeg)) → yR (d + 1) 15 84 [some (.ref 84), some (.int v1), some (.int v2), some (.int 0)] [] (sg σ2 86 v1.toNatClampNeg 2) (qI K)) ∧ (¬ ((σ2 88 v1.toNatClampNeg) ≤ (σ2 89 v1.toNatClampNeg)) → yR d 8 0 [some (.ref 84), some (.int ((sg σ2 89 v1.toNatClampNeg ((σ2 89 v1.toNatClampNeg) + 1)) 89 v1.toNatClampNeg))] [] (sg σ2 89 v1.toNatClampNeg ((σ2 89 v1.toNatClampNeg) + 1)) (qI (fun x3 σ3 => (yBo x3 ∧ K x3 σ3))))))))))))) : yR (d + 1) 15 0 [some (.ref 84), some (.int v1), some (.int v2), none] [] σ (qI K) := wp_15 48 [84] (show (vp_in v1 60 ∧ ((¬ ((σ 86 v1.toNatClampNeg) = 0) → (vp_in v1 60 ∧ ((¬ ((σ 86 v1.toNatClampNeg) = 3) → yR (d + 1) 15 84 [some (.ref 84), some (.int v1), some (.int v2), some (.int 0)] [] σ (qI K)) ∧ (((σ 86 v1.toNatClampNeg) = 3) → (vp_in v1 60 ∧ (vp_in v1 60 ∧ ((((σ 88 v1.toNatClampNeg) ≤ (σ 89 v1.toNatClampNeg)) → (vp_in v1 60 ∧ yR (d + 1) 15 84 [some (.ref 84), some (.int v1), some (.int v2), some (.int 0)] [] (sg σ 86 v1.toNatClampNeg 2) (qI K))) ∧ (¬ ((σ 88 v1.toNatClampNeg) ≤ (σ 89 v1.toNatClampNeg)) → (vp_in v1 60 ∧ (vp_in v1 60 ∧ (vp_in v1 60 ∧ yR d 8 0 [some (.ref 84), some (.int ((sg σ 89 v1.toNatClampNeg ((σ 89 v1.toNatClampNeg) + 1)) 89 v1.toNatClampNeg))] [] (sg σ 89 v1.toNatClampNeg ((σ 89 v1.toNatClampNeg) + 1)) (qI (fun x1 σ1 => (yBo x1 ∧ K x1 σ1)))))))))))))) ∧ (((σ 86 v1.toNatClampNeg) = 0) → (vp_in v1 60 ∧ (vp_in v1 60 ∧ yR d 9 0 [some (.ref 84), some (.int (σ 4 v1.toNatClampNeg))] [] (sg σ 86 v1.toNatClampNeg 1) (qV (fun σ2 => (vp_in v1 60 ∧ ((¬ ((σ2 86 v1.toNatClampNeg) = 3) → yR (d + 1) 15 84 [some (.ref 84), some (.int v1), some (.int v2), some (.int 0)] [] σ2 (qI K)) ∧ (((σ2 86 v1.toNatClampNeg) = 3) → (vp_in v1 60 ∧ (vp_in v1 60 ∧ ((((σ2 88 v1.toNatClampNeg) ≤ (σ2 89 v1.toNatClampNeg)) → (vp_in v1 60 ∧ yR (d + 1) 15 84 [some (.ref 84), some (.int v1), some (.int v2), some (.int 0)] [] (sg σ2 86 v1.toNatClampNeg 2) (qI K))) ∧ (¬ ((σ2 88 v1.toNatClampNeg) ≤ (σ2 89 v1.toNatClampNeg)) → (vp_in v1 60 ∧ (vp_in v1 60 ∧ (vp_in v1 60 ∧ yR d 8 0 [some (.ref 84), some (.int ((sg σ2 89 v1.toNatClampNeg ((σ2 89 v1.toNatClampNeg) + 1)) 89 v1.toNatClampNeg))] [] (sg σ2 89 v1.toNatClampNeg ((σ2 89 v1.toNatClampNeg) + 1)) (qI (fun x3 σ3 => (yBo x3 ∧ K x3 σ3)))))))))))))))))))) from ⟨h.1, ⟨fun q1 => ⟨h.1, ⟨fun q2 => ((h.2.1 q1).1 q2), fun q2 => ⟨h.1, ⟨h.1, ⟨fun q3 => ⟨h.1, (((h.2.1 q1).2 q2).1 q3)⟩, fun q3 => ⟨h.1, ⟨h.1, ⟨h.1, (yR.mono (((h.2.1 q1).2 q2).2 q3) (qI_mono (fun x1 σ1 q4 => ⟨q4.1, q4.2⟩)))⟩⟩⟩⟩⟩⟩⟩⟩, fun q1 => ⟨h.1, ⟨h.1, (yR.mono (h.2.2 q1) (qV_mono (fun σ2 q5 => ⟨h.1, ⟨fun q6 => (q5.1 q6), fun q6 => ⟨h.1, ⟨h.1, ⟨fun q7 => ⟨h.1, ((q5.2 q6).1 q7)⟩, fun q7 => ⟨h.1, ⟨h.1, ⟨h.1, (yR.mono ((q5.2 q6).2 q7) (qI_mono (fun x3 σ3 q8 => ⟨q8.1, q8.2⟩)))⟩⟩⟩⟩⟩⟩⟩⟩)))⟩⟩⟩⟩)
theorem w_15_84 {d : Nat} {σ : yS} {v1 v2 v3 : Int32} {K : Int32 → yS → Prop} (h : (((2002 ≤ v3) → K 0 σ) ∧ (¬ (2002 ≤ v3) → (vp_in v1 60 ∧ ((¬ ((σ 86 v1.toNatClampNeg) = 1) → yR d 7 0 [some (.ref 84), some (.int (σ 5 v1.toNatClampNeg)), some (.int (v2 + 1))] [] σ (qI (fun x1 σ1 => ((¬ (x1 = 0) → yR d 16 0 [some (.ref 84), some (.int v1), some (.int (σ1 87 v1.toNatClampNeg)), some (.int (σ1 84 6))] [] σ1 (qI (fun x2 σ2 => (((x2 = 0) → yR (d + 1) 15 84 [some (.ref 84), some (.int v1), some (.int v2), some (.int (v3 + 1))] [] σ2 (qI K)) ∧ (¬ (x2 = 0) → yR d 17 0 [some (.ref 84), some (.int v1), some (.int (σ2 87 v1.toNatClampNeg)), some (.int (σ2 84 6))] [] σ2 (qI (fun x3 σ3 => (yBo x3 ∧ K x3 σ3)))))))) ∧ ((x1 = 0) → yR (d + 1) 15 84 [some (.ref 84), some (.int v1), some (.int v2), some (.int (v3 + 1))] [] (sg σ1 86 v1.toNatClampNeg 1) (qI K)))))) ∧ (((σ 86 v1.toNatClampNeg) = 1) → yR d 7 0 [some (.ref 84), some (.int (σ 4 v1.toNatClampNeg)), some (.int (v2 + 1))] [] σ (qI (fun x4 σ4 => ((¬ (x4 = 0) → yR d 9 0 [some (.ref 84), some (.int (σ4 5 v1.toNatClampNeg))] [] (sg (sg σ4 87 v1.toNatClampNeg (σ4 84 6)) 86 v1.toNatClampNeg 2) (qV (fun σ5 => yR d 7 0 [some (.ref 84), some (.int (σ5 5 v1.toNatClampNeg)), some (.int (v2 + 1))] [] σ5 (qI (fun x6 σ6 => ((¬ (x6 = 0) → yR d 16 0 [some (.ref 84), some (.int v1), some (.int (σ6 87 v1.toNatClampNeg)), some (.int (σ6 84 6))] [] σ6 (qI (fun x7 σ7 => (((x7 = 0) → yR (d + 1) 15 84 [some (.ref 84), some (.int v1), some (.int v2), some (.int (v3 + 1))] [] σ7 (qI K)) ∧ (¬ (x7 = 0) → yR d 17 0 [some (.ref 84), some (.int v1), some (.int (σ7 87 v1.toNatClampNeg)), some (.int (σ7 84 6))] [] σ7 (qI (fun x8 σ8 => (yBo x8 ∧ K x8 σ8)))))))) ∧ ((x6 = 0) → yR (d + 1) 15 84 [some (.ref 84), some (.int v1), some (.int v2), some (.int (v3 + 1))] [] (sg σ6 86 v1.toNatClampNeg 1) (qI K)))))))) ∧ ((x4 = 0) → K 0 σ4)))))))))) : yR (d + 1) 15 84 [some (.ref 84), some (.int v1), some (.int v2), some (.int v3)] [] σ (qI K) := wp_15 70 [84] (show (((2002 ≤ v3) → (yBo 0 ∧ K 0 σ)) ∧ (¬ (2002 ≤ v3) → (vp_in v1 60 ∧ ((¬ ((σ 86 v1.toNatClampNeg) = 1) → (vp_in v1 60 ∧ yR d 7 0 [some (.ref 84), some (.int (σ 5 v1.toNatClampNeg)), some (.int (v2 + 1))] [] σ (qI (fun x1 σ1 => ((¬ (x1 = 0) → (vp_in v1 60 ∧ yR d 16 0 [some (.ref 84), some (.int v1), some (.int (σ1 87 v1.toNatClampNeg)), some (.int (σ1 84 6))] [] σ1 (qI (fun x2 σ2 => (((x2 = 0) → yR (d + 1) 15 84 [some (.ref 84), some (.int v1), some (.int v2), some (.int (v3 + 1))] [] σ2 (qI K)) ∧ (¬ (x2 = 0) → (vp_in v1 60 ∧ yR d 17 0 [some (.ref 84), some (.int v1), some (.int (σ2 87 v1.toNatClampNeg)), some (.int (σ2 84 6))] [] σ2 (qI (fun x3 σ3 => (yBo x3 ∧ K x3 σ3)))))))))) ∧ ((x1 = 0) → (vp_in v1 60 ∧ yR (d + 1) 15 84 [some (.ref 84), some (.int v1), some (.int v2), some (.int (v3 + 1))] [] (sg σ1 86 v1.toNatClampNeg 1) (qI K)))))))) ∧ (((σ 86 v1.toNatClampNeg) = 1) → (vp_in v1 60 ∧ yR d 7 0 [some (.ref 84), some (.int (σ 4 v1.toNatClampNeg)), some (.int (v2 + 1))] [] σ (qI (fun x4 σ4 => ((¬ (x4 = 0) → (vp_in v1 60 ∧ (vp_in v1 60 ∧ (vp_in v1 60 ∧ yR d 9 0 [some (.ref 84), some (.int (σ4 5 v1.toNatClampNeg))] [] (sg (sg σ4 87 v1.toNatClampNeg (σ4 84 6)) 86 v1.toNatClampNeg 2) (qV (fun σ5 => (vp_in v1 60 ∧ yR d 7 0 [some (.ref 84), some (.int (σ5 5 v1.toNatClampNeg)), some (.int (v2 + 1))] [] σ5 (qI (fun x6 σ6 => ((¬ (x6 = 0) → (vp_in v1 60 ∧ yR d 16 0 [some (.ref 84), some (.int v1), some (.int (σ6 87 v1.toNatClampNeg)), some (.int (σ6 84 6))] [] σ6 (qI (fun x7 σ7 => (((x7 = 0) → yR (d + 1) 15 84 [some (.ref 84), some (.int v1), some (.int v2), some (.int (v3 + 1))] [] σ7 (qI K)) ∧ (¬ (x7 = 0) → (vp_in v1 60 ∧ yR d 17 0 [some (.ref 84), some (.int v1), some (.int (σ7 87 v1.toNatClampNeg)), some (.int (σ7 84 6))] [] σ7 (qI (fun x8 σ8 => (yBo x8 ∧ K x8 σ8)))))))))) ∧ ((x6 = 0) → (vp_in v1 60 ∧ yR (d + 1) 15 84 [some (.ref 84), some (.int v1), some (.int v2), some (.int (v3 + 1))] [] (sg σ6 86 v1.toNatClampNeg 1) (qI K))))))))))))) ∧ ((x4 = 0) → (yBo 0 ∧ K 0 σ4))))))))))) from ⟨fun q1 => ⟨yB0, (h.1 q1)⟩, fun q1 => ⟨(h.2 q1).1, ⟨fun q2 => ⟨(h.2 q1).1, (yR.mono ((h.2 q1).2.1 q2) (qI_mono (fun x1 σ1 q3 => ⟨fun q4 => ⟨(h.2 q1).1, (yR.mono (q3.1 q4) (qI_mono (fun x2 σ2 q5 => ⟨fun q6 => (q5.1 q6), fun q6 => ⟨(h.2 q1).1, (yR.mono (q5.2 q6) (qI_mono (fun x3 σ3 q7 => ⟨q7.1, q7.2⟩)))⟩⟩)))⟩, fun q4 => ⟨(h.2 q1).1, (q3.2 q4)⟩⟩)))⟩, fun q2 => ⟨(h.2 q1).1, (yR.mono ((h.2 q1).2.2 q2) (qI_mono (fun x4 σ4 q8 => ⟨fun q9 => ⟨(h.2 q1).1, ⟨(h.2 q1).1, ⟨(h.2 q1).1, (yR.mono (q8.1 q9) (qV_mono (fun σ5 q10 => ⟨(h.2 q1).1, (yR.mono q10 (qI_mono (fun x6 σ6 q11 => ⟨fun q12 => ⟨(h.2 q1).1, (yR.mono (q11.1 q12) (qI_mono (fun x7 σ7 q13 => ⟨fun q14 => (q13.1 q14), fun q14 => ⟨(h.2 q1).1, (yR.mono (q13.2 q14) (qI_mono (fun x8 σ8 q15 => ⟨q15.1, q15.2⟩)))⟩⟩)))⟩, fun q12 => ⟨(h.2 q1).1, (q11.2 q12)⟩⟩)))⟩)))⟩⟩⟩, fun q9 => ⟨yB0, (q8.2 q9)⟩⟩)))⟩⟩⟩⟩)
theorem w_16_0 {d : Nat} {σ : yS} {v1 v2 v3 : Int32} {K : Int32 → yS → Prop} (h : (vp_in v1 60 ∧ ((((σ 3 v1.toNatClampNeg) = 60) → (((v3 ≤ v2) → K 0 σ) ∧ (¬ (v3 ≤ v2) → K 1 σ))) ∧ (¬ ((σ 3 v1.toNatClampNeg) = 60) → ((((σ 3 v1.toNatClampNeg) = 61) → ((¬ (v2 = v3) → K 0 σ) ∧ ((v2 = v3) → K 1 σ))) ∧ (¬ ((σ 3 v1.toNatClampNeg) = 61) → ((((σ 3 v1.toNatClampNeg) = 62) → (((v2 ≤ v3) → K 0 σ) ∧ (¬ (v2 ≤ v3) → K 1 σ))) ∧ (¬ ((σ 3 v1.toNatClampNeg) = 62) → ((((σ 3 v1.toNatClampNeg) = 126) → (((v3 < v2) → K 0 σ) ∧ (¬ (v3 < v2) → K 1 σ))) ∧ (¬ ((σ 3 v1.toNatClampNeg) = 126) → yR d 18 0 [some (.int (σ 3 v1.toNatClampNeg)), some (.long (Int32.toInt64 v2)), none, some (.long (Int32.toInt64 v3)), none] [] σ (qL (fun x1 σ1 => yR d 78 0 [some (.long x1), none] [] σ1 (qI (fun x2 σ2 => (yBo x2 ∧ K x2 σ2))))))))))))))) : yR (d + 1) 16 0 [some (.ref 84), some (.int v1), some (.int v2), some (.int v3)] [] σ (qI K) := wp_16 19 [] (show (vp_in v1 60 ∧ ((((σ 3 v1.toNatClampNeg) = 60) → (((v3 ≤ v2) → (yBo 0 ∧ K 0 σ)) ∧ (¬ (v3 ≤ v2) → (yBo 1 ∧ K 1 σ)))) ∧ (¬ ((σ 3 v1.toNatClampNeg) = 60) → ((((σ 3 v1.toNatClampNeg) = 61) → ((¬ (v2 = v3) → (yBo 0 ∧ K 0 σ)) ∧ ((v2 = v3) → (yBo 1 ∧ K 1 σ)))) ∧ (¬ ((σ 3 v1.toNatClampNeg) = 61) → ((((σ 3 v1.toNatClampNeg) = 62) → (((v2 ≤ v3) → (yBo 0 ∧ K 0 σ)) ∧ (¬ (v2 ≤ v3) → (yBo 1 ∧ K 1 σ)))) ∧ (¬ ((σ 3 v1.toNatClampNeg) = 62) → ((((σ 3 v1.toNatClampNeg) = 126) → (((v3 < v2) → (yBo 0 ∧ K 0 σ)) ∧ (¬ (v3 < v2) → (yBo 1 ∧ K 1 σ)))) ∧ (¬ ((σ 3 v1.toNatClampNeg) = 126) → (vp_in v1 60 ∧ yR d 18 0 [some (.int (σ 3 v1.toNatClampNeg)), some (.long (Int32.toInt64 v2)), none, some (.long (Int32.toInt64 v3)), none] [] σ (qL (fun x1 σ1 => yR d 78 0 [some (.long x1), none] [] σ1 (qI (fun x2 σ2 => (yBo x2 ∧ K x2 σ2))))))))))))))) from ⟨h.1, ⟨fun q1 => ⟨fun q2 => ⟨yB0, ((h.2.1 q1).1 q2)⟩, fun q2 => ⟨yB1, ((h.2.1 q1).2 q2)⟩⟩, fun q1 => ⟨fun q3 => ⟨fun q4 => ⟨yB0, (((h.2.2 q1).1 q3).1 q4)⟩, fun q4 => ⟨yB1, (((h.2.2 q1).1 q3).2 q4)⟩⟩, fun q3 => ⟨fun q5 => ⟨fun q6 => ⟨yB0, ((((h.2.2 q1).2 q3).1 q5).1 q6)⟩, fun q6 => ⟨yB1, ((((h.2.2 q1).2 q3).1 q5).2 q6)⟩⟩, fun q5 => ⟨fun q7 => ⟨fun q8 => ⟨yB0, (((((h.2.2 q1).2 q3).2 q5).1 q7).1 q8)⟩, fun q8 => ⟨yB1, (((((h.2.2 q1).2 q3).2 q5).1 q7).2 q8)⟩⟩, fun q7 => ⟨h.1, (yR.mono ((((h.2.2 q1).2 q3).2 q5).2 q7) (qL_mono (fun x1 σ1 q9 => (yR.mono q9 (qI_mono (fun x2 σ2 q10 => ⟨q10.1, q10.2⟩))))))⟩⟩⟩⟩⟩⟩)
theorem w_17_0 {d : Nat} {σ : yS} {v1 v2 v3 : Int32} {K : Int32 → yS → Prop} (h : (vp_in v1 60 ∧ ((¬ ((σ 3 v1.toNatClampNeg) = 126) → yR d 18 0 [some (.int (σ 3 v1.toNatClampNeg)), some (.long (Int32.toInt64 v2)), none, some (.long (Int32.toInt64 v3)), none] [] σ (qL (fun x1 σ1 => yR d 8 0 [some (.ref 84), some (.int (Int64.toInt32 x1))] [] σ1 (qI (fun x2 σ2 => (yBo x2 ∧ K x2 σ2)))))) ∧ (((σ 3 v1.toNatClampNeg) = 126) → yR d 8 0 [some (.ref 84), some (.int v2)] [] (sg (sg (sg σ 86 v1.toNatClampNeg 3) 89 v1.toNatClampNeg v2) 88 v1.toNatClampNeg v3) (qI (fun x3 σ3 => (yBo x3 ∧ K x3 σ3))))))) : yR (d + 1) 17 0 [some (.ref 84), some (.int v1), some (.int v2), some (.int v3)] [] σ (qI K) := wp_17 27 [] (show (vp_in v1 60 ∧ ((¬ ((σ 3 v1.toNatClampNeg) = 126) → (vp_in v1 60 ∧ yR d 18 0 [some (.int (σ 3 v1.toNatClampNeg)), some (.long (Int32.toInt64 v2)), none, some (.long (Int32.toInt64 v3)), none] [] σ (qL (fun x1 σ1 => yR d 8 0 [some (.ref 84), some (.int (Int64.toInt32 x1))] [] σ1 (qI (fun x2 σ2 => (yBo x2 ∧ K x2 σ2))))))) ∧ (((σ 3 v1.toNatClampNeg) = 126) → (vp_in v1 60 ∧ (vp_in v1 60 ∧ (vp_in v1 60 ∧ yR d 8 0 [some (.ref 84), some (.int v2)] [] (sg (sg (sg σ 86 v1.toNatClampNeg 3) 89 v1.toNatClampNeg v2) 88 v1.toNatClampNeg v3) (qI (fun x3 σ3 => (yBo x3 ∧ K x3 σ3))))))))) from ⟨h.1, ⟨fun q1 => ⟨h.1, (yR.mono (h.2.1 q1) (qL_mono (fun x1 σ1 q2 => (yR.mono q2 (qI_mono (fun x2 σ2 q3 => ⟨q3.1, q3.2⟩))))))⟩, fun q1 => ⟨h.1, ⟨h.1, ⟨h.1, (yR.mono (h.2.2 q1) (qI_mono (fun x3 σ3 q4 => ⟨q4.1, q4.2⟩)))⟩⟩⟩⟩⟩)
theorem w_18_0 {d : Nat} {σ : yS} {v0 : Int32} {w1 w3 : Int64} {K : Int64 → yS → Prop} (h : (((v0 = 42) → K (w1 * w3) σ) ∧ (¬ (v0 = 42) → (((v0 = 43) → K (w1 + w3) σ) ∧ (¬ (v0 = 43) → (((v0 = 44) → K w3 σ) ∧ (¬ (v0 = 44) → (((v0 = 45) → K (w1 - w3) σ) ∧ (¬ (v0 = 45) → K w3 σ))))))))) : yR d 18 0 [some (.int v0), some (.long w1), none, some (.long w3), none] [] σ (qL K) := wp_18 7 [] (show (((v0 = 42) → K (w1 * w3) σ) ∧ (¬ (v0 = 42) → (((v0 = 43) → K (w1 + w3) σ) ∧ (¬ (v0 = 43) → (((v0 = 44) → K w3 σ) ∧ (¬ (v0 = 44) → (((v0 = 45) → K (w1 - w3) σ) ∧ (¬ (v0 = 45) → K w3 σ)))))))) from ⟨fun q1 => (h.1 q1), fun q1 => ⟨fun q2 => ((h.2 q1).1 q2), fun q2 => ⟨fun q3 => (((h.2 q1).2 q2).1 q3), fun q3 => ⟨fun q4 => ((((h.2 q1).2 q2).2 q3).1 q4), fun q4 => ((((h.2 q1).2 q2).2 q3).2 q4)⟩⟩⟩⟩)
theorem w_20_0 {d : Nat} {σ : yS} {K : yS → Prop} (h : ((((σ 90 0) = 0) → yR d 4 0 [some (.ref 84)] [] (sg σ 90 2 0) (qV (fun σ1 => yR (d + 1) 20 19 [some (.ref 90), some (.ref 84), some (.ref 2), some (.int 0)] [] σ1 (qV K)))) ∧ (¬ ((σ 90 0) = 0) → K σ))) : yR (d + 1) 20 0 [some (.ref 90), some (.ref 84), some (.ref 2), none] [] σ (qV K) := wp_20 12 [19] (show ((((σ 90 0) = 0) → yR d 4 0 [some (.ref 84)] [] (sg σ 90 2 0) (qV (fun σ1 => yR (d + 1) 20 19 [some (.ref 90), some (.ref 84), some (.ref 2), some (.int 0)] [] σ1 (qV K)))) ∧ (¬ ((σ 90 0) = 0) → K σ)) from ⟨fun q1 => (h.1 q1), fun q1 => (h.2 q1)⟩)
theorem w_20_19 {d : Nat} {σ : yS} {v3 : Int32} {K : yS → Prop} (h : ((((σ 2 10) ≤ v3) → yR d 6 0 [some (.ref 84), some (.ref 96)] [] σ (qV (fun σ1 => K (sg σ1 90 0 1)))) ∧ (¬ ((σ 2 10) ≤ v3) → (((8 ≤ v3) → yR d 6 0 [some (.ref 84), some (.ref 96)] [] σ (qV (fun σ2 => K (sg σ2 90 0 1)))) ∧ (¬ (8 ≤ v3) → yR d 21 0 [some (.ref 90), some (.int v3), some (.ref 84), some (.ref 2), none, none, none] [] σ (qV (fun σ3 => yR (d + 1) 20 19 [some (.ref 90), some (.ref 84), some (.ref 2), some (.int (v3 + 1))] [] σ3 (qV K)))))))) : yR (d + 1) 20 19 [some (.ref 90), some (.ref 84), some (.ref 2), some (.int v3)] [] σ (qV K) := wp_20 16 [19] (show ((((σ 2 10) ≤ v3) → yR d 6 0 [some (.ref 84), some (.ref 96)] [] σ (qV (fun σ1 => (yBo 1 ∧ K (sg σ1 90 0 1))))) ∧ (¬ ((σ 2 10) ≤ v3) → (((8 ≤ v3) → yR d 6 0 [some (.ref 84), some (.ref 96)] [] σ (qV (fun σ2 => (yBo 1 ∧ K (sg σ2 90 0 1))))) ∧ (¬ (8 ≤ v3) → yR d 21 0 [some (.ref 90), some (.int v3), some (.ref 84), some (.ref 2), none, none, none] [] σ (qV (fun σ3 => yR (d + 1) 20 19 [some (.ref 90), some (.ref 84), some (.ref 2), some (.int (v3 + 1))] [] σ3 (qV K))))))) from ⟨fun q1 => (yR.mono (h.1 q1) (qV_mono (fun σ1 q2 => ⟨yB1, q2⟩))), fun q1 => ⟨fun q3 => (yR.mono ((h.2 q1).1 q3) (qV_mono (fun σ2 q4 => ⟨yB1, q4⟩))), fun q3 => ((h.2 q1).2 q3)⟩⟩)
theorem w_21_0 {d : Nat} {σ : yS} {v1 : Int32} {K : yS → Prop} (h : (vp_in v1 8 ∧ ((¬ ((σ 8 v1.toNatClampNeg) = 1) → yR d 5 0 [some (.ref 84), some (.int (σ 7 v1.toNatClampNeg))] [] (sg (sg σ 92 v1.toNatClampNeg 0) 95 v1.toNatClampNeg (-1999999)) (qV (fun σ1 => yR (d + 1) 21 50 [some (.ref 90), some (.int v1), some (.ref 84), some (.ref 2), some (.int (σ 7 v1.toNatClampNeg)), some (.int 1), some (.int 0)] [] σ1 (qV K)))) ∧ (((σ 8 v1.toNatClampNeg) = 1) → yR d 5 0 [some (.ref 84), some (.int (σ 7 v1.toNatClampNeg))] [] (sg (sg σ 92 v1.toNatClampNeg 0) 95 v1.toNatClampNeg (-1999999)) (qV (fun σ2 => yR (d + 1) 21 50 [some (.ref 90), some (.int v1), some (.ref 84), some (.ref 2), some (.int (σ 7 v1.toNatClampNeg)), some (.int 30), some (.int 0)] [] σ2 (qV K))))))) : yR (d + 1) 21 0 [some (.ref 90), some (.int v1), some (.ref 84), some (.ref 2), none, none, none] [] σ (qV K) := wp_21 31 [50] (show (vp_in v1 8 ∧ (vp_in v1 8 ∧ ((¬ ((σ 8 v1.toNatClampNeg) = 1) → (vp_in v1 8 ∧ (vp_in v1 8 ∧ yR d 5 0 [some (.ref 84), some (.int (σ 7 v1.toNatClampNeg))] [] (sg (sg σ 92 v1.toNatClampNeg 0) 95 v1.toNatClampNeg (-1999999)) (qV (fun σ1 => yR (d + 1) 21 50 [some (.ref 90), some (.int v1), some (.ref 84), some (.ref 2), some (.int (σ 7 v1.toNatClampNeg)), some (.int 1), some (.int 0)] [] σ1 (qV K)))))) ∧ (((σ 8 v1.toNatClampNeg) = 1) → (vp_in v1 8 ∧ (vp_in v1 8 ∧ yR d 5 0 [some (.ref 84), some (.int (σ 7 v1.toNatClampNeg))] [] (sg (sg σ 92 v1.toNatClampNeg 0) 95 v1.toNatClampNeg (-1999999)) (qV (fun σ2 => yR (d + 1) 21 50 [some (.ref 90), some (.int v1), some (.ref 84), some (.ref 2), some (.int (σ 7 v1.toNatClampNeg)), some (.int 30), some (.int 0)] [] σ2 (qV K))))))))) from ⟨h.1, ⟨h.1, ⟨fun q1 => ⟨h.1, ⟨h.1, (h.2.1 q1)⟩⟩, fun q1 => ⟨h.1, ⟨h.1, (h.2.2 q1)⟩⟩⟩⟩⟩)
theorem w_21_50 {d : Nat} {σ : yS} {v1 v4 v5 v6 : Int32} {K : yS → Prop} (h : (((v5 ≤ v6) → (vp_in v1 8 ∧ ((((σ 84 8) = 0) → K (sg (sg σ 93 v1.toNatClampNeg (σ 84 7)) 94 v1.toNatClampNeg 0)) ∧ (¬ ((σ 84 8) = 0) → K (sg (sg σ 93 v1.toNatClampNeg (σ 84 7)) 94 v1.toNatClampNeg 1))))) ∧ (¬ (v5 ≤ v6) → yR d 7 0 [some (.ref 84), some (.int v4), some (.int 0)] [] σ (qI (fun x1 σ1 => (((x1 = 0) → (vp_in v1 8 ∧ ((((σ1 84 8) = 0) → K (sg (sg σ1 93 v1.toNatClampNeg (σ1 84 7)) 94 v1.toNatClampNeg 0)) ∧ (¬ ((σ1 84 8) = 0) → K (sg (sg σ1 93 v1.toNatClampNeg (σ1 84 7)) 94 v1.toNatClampNeg 1))))) ∧ (¬ (x1 = 0) → yR d 22 0 [some (.ref 90), some (.int (σ1 84 6))] [] σ1 (qV (fun σ2 => (vp_in v1 8 ∧ yR (d + 1) 21 50 [some (.ref 90), some (.int v1), some (.ref 84), some (.ref 2), some (.int v4), some (.int v5), some (.int (v6 + 1))] [] (sg (sg σ2 92 v1.toNatClampNeg (v6 + 1)) 95 v1.toNatClampNeg (σ2 84 6)) (qV K))))))))))) : yR (d + 1) 21 50 [some (.ref 90), some (.int v1), some (.ref 84), some (.ref 2), some (.int v4), some (.int v5), some (.int v6)] [] σ (qV K) := wp_21 29 [50] (show (((v5 ≤ v6) → (vp_in v1 8 ∧ ((((σ 84 8) = 0) → (vp_in v1 8 ∧ K (sg (sg σ 93 v1.toNatClampNeg (σ 84 7)) 94 v1.toNatClampNeg 0))) ∧ (¬ ((σ 84 8) = 0) → (vp_in v1 8 ∧ K (sg (sg σ 93 v1.toNatClampNeg (σ 84 7)) 94 v1.toNatClampNeg 1)))))) ∧ (¬ (v5 ≤ v6) → yR d 7 0 [some (.ref 84), some (.int v4), some (.int 0)] [] σ (qI (fun x1 σ1 => (((x1 = 0) → (vp_in v1 8 ∧ ((((σ1 84 8) = 0) → (vp_in v1 8 ∧ K (sg (sg σ1 93 v1.toNatClampNeg (σ1 84 7)) 94 v1.toNatClampNeg 0))) ∧ (¬ ((σ1 84 8) = 0) → (vp_in v1 8 ∧ K (sg (sg σ1 93 v1.toNatClampNeg (σ1 84 7)) 94 v1.toNatClampNeg 1)))))) ∧ (¬ (x1 = 0) → yR d 22 0 [some (.ref 90), some (.int (σ1 84 6))] [] σ1 (qV (fun σ2 => (vp_in v1 8 ∧ (vp_in v1 8 ∧ yR (d + 1) 21 50 [some (.ref 90), some (.int v1), some (.ref 84), some (.ref 2), some (.int v4), some (.int v5), some (.int (v6 + 1))] [] (sg (sg σ2 92 v1.toNatClampNeg (v6 + 1)) 95 v1.toNatClampNeg (σ2 84 6)) (qV K))))))))))) from ⟨fun q1 => ⟨(h.1 q1).1, ⟨fun q2 => ⟨(h.1 q1).1, ((h.1 q1).2.1 q2)⟩, fun q2 => ⟨(h.1 q1).1, ((h.1 q1).2.2 q2)⟩⟩⟩, fun q1 => (yR.mono (h.2 q1) (qI_mono (fun x1 σ1 q3 => ⟨fun q4 => ⟨(q3.1 q4).1, ⟨fun q5 => ⟨(q3.1 q4).1, ((q3.1 q4).2.1 q5)⟩, fun q5 => ⟨(q3.1 q4).1, ((q3.1 q4).2.2 q5)⟩⟩⟩, fun q4 => (yR.mono (q3.2 q4) (qV_mono (fun σ2 q6 => ⟨q6.1, ⟨q6.1, q6.2⟩⟩)))⟩)))⟩)
theorem w_22_0 {d : Nat} {σ : yS} {v1 : Int32} {K : yS → Prop} (h : yR d 76 0 [some (.int (σ 90 2)), some (.int 240)] [] σ (qI (fun x1 σ1 => (((x1 = 0) → K σ1) ∧ (¬ (x1 = 0) → (vp_in (σ1 90 2) 240 ∧ K (sg (sg σ1 91 (σ1 90 2).toNatClampNeg v1) 90 2 ((σ1 90 2) + 1)))))))) : yR (d + 1) 22 0 [some (.ref 90), some (.int v1)] [] σ (qV K) := wp_22 21 [] (show yR d 76 0 [some (.int (σ 90 2)), some (.int 240)] [] σ (qI (fun x1 σ1 => (((x1 = 0) → K σ1) ∧ (¬ (x1 = 0) → (vp_in (σ1 90 2) 240 ∧ K (sg (sg σ1 91 (σ1 90 2).toNatClampNeg v1) 90 2 ((σ1 90 2) + 1))))))) from (yR.mono h (qI_mono (fun x1 σ1 q1 => ⟨fun q2 => (q1.1 q2), fun q2 => ⟨(q1.2 q2).1, (q1.2 q2).2⟩⟩))))
theorem w_23_0 {d : Nat} {σ : yS} {v1 : Int32} {K : Int32 → yS → Prop} (h : yR d 76 0 [some (.int v1), some (.int (σ 90 2))] [] σ (qI (fun x1 σ1 => (((x1 = 0) → K (-1999999) σ1) ∧ (¬ (x1 = 0) → (((240 ≤ v1) → K (-1999999) σ1) ∧ (¬ (240 ≤ v1) → (vp_in v1 240 ∧ K (σ1 91 v1.toNatClampNeg) σ1)))))))) : yR (d + 1) 23 0 [some (.ref 90), some (.int v1)] [] σ (qI K) := wp_23 17 [] (show yR d 76 0 [some (.int v1), some (.int (σ 90 2))] [] σ (qI (fun x1 σ1 => (((x1 = 0) → K (-1999999) σ1) ∧ (¬ (x1 = 0) → (((240 ≤ v1) → K (-1999999) σ1) ∧ (¬ (240 ≤ v1) → (vp_in v1 240 ∧ K (σ1 91 v1.toNatClampNeg) σ1))))))) from (yR.mono h (qI_mono (fun x1 σ1 q1 => ⟨fun q2 => (q1.1 q2), fun q2 => ⟨fun q3 => ((q1.2 q2).1 q3), fun q3 => ⟨((q1.2 q2).2 q3).1, ((q1.2 q2).2 q3).2⟩⟩⟩))))
theorem w_24_0 {d : Nat} {σ : yS} {v1 : Int32} {K : Int32 → yS → Prop} (h : yR d 24 4 [some (.ref 90), some (.int v1), some (.int 0), some (.int 0)] [] σ (qI K)) : yR d 24 0 [some (.ref 90), some (.int v1), none, none] [] σ (qI K) := wp_24 6 [4] h
theorem w_24_4 {d : Nat} {σ : yS} {v1 v2 v3 : Int32} {K : Int32 → yS → Prop} (h : (((v1 ≤ v3) → K v2 σ) ∧ (¬ (v1 ≤ v3) → (((8 ≤ v3) → K v2 σ) ∧ (¬ (8 ≤ v3) → (vp_in v3 8 ∧ ((¬ ((σ 92 v3.toNatClampNeg) = 0) → yR d 24 4 [some (.ref 90), some (.int v1), some (.int v2), some (.int (v3 + 1))] [] σ (qI K)) ∧ (((σ 92 v3.toNatClampNeg) = 0) → yR d 24 4 [some (.ref 90), some (.int v1), some (.int (v2 + 1)), some (.int (v3 + 1))] [] σ (qI K))))))))) : yR d 24 4 [some (.ref 90), some (.int v1), some (.int v2), some (.int v3)] [] σ (qI K) := wp_24 16 [4] (show (((v1 ≤ v3) → K v2 σ) ∧ (¬ (v1 ≤ v3) → (((8 ≤ v3) → K v2 σ) ∧ (¬ (8 ≤ v3) → (vp_in v3 8 ∧ ((¬ ((σ 92 v3.toNatClampNeg) = 0) → yR d 24 4 [some (.ref 90), some (.int v1), some (.int v2), some (.int (v3 + 1))] [] σ (qI K)) ∧ (((σ 92 v3.toNatClampNeg) = 0) → yR d 24 4 [some (.ref 90), some (.int v1), some (.int (v2 + 1)), some (.int (v3 + 1))] [] σ (qI K)))))))) from ⟨fun q1 => (h.1 q1), fun q1 => ⟨fun q2 => ((h.2 q1).1 q2), fun q2 => ⟨((h.2 q1).2 q2).1, ⟨fun q3 => (((h.2 q1).2 q2).2.1 q3), fun q3 => (((h.2 q1).2 q2).2.2 q3)⟩⟩⟩⟩)
theorem w_26_0 {d : Nat} {σ : yS} {v2 : Int32} {K : Int32 → yS → Prop} (h : yR (d + 1) 26 35 [some (.ref 13), some (.ref 1), some (.int v2), some (.int 0)] [] (sg (sg (sg (sg (sg (sg σ 14 10 0) 13 3 0) 13 4 0) 13 5 0) 13 6 0) 13 10 0) (qI K)) : yR (d + 1) 26 0 [some (.ref 13), some (.ref 1), some (.int v2), none] [] σ (qI K) := wp_26 23 [35] h
theorem w_26_35 {d : Nat} {σ : yS} {v2 v3 : Int32} {K : Int32 → yS → Prop} (h : (((v2 ≤ v3) → ((¬ ((σ 13 5) = 0) → K v2 σ) ∧ (((σ 13 5) = 0) → K (-1) σ))) ∧ (¬ (v2 ≤ v3) → (((150 ≤ v3) → ((¬ ((σ 13 5) = 0) → K v2 σ) ∧ (((σ 13 5) = 0) → K (-1) σ))) ∧ (¬ (150 ≤ v3) → (vp_in v3 150 ∧ yR d 27 0 [some (.ref 13), some (.int (σ 1 v3.toNatClampNeg))] [] σ (qI (fun x1 σ1 => ((¬ (x1 = 0) → yR (d + 1) 26 35 [some (.ref 13), some (.ref 1), some (.int v2), some (.int (v3 + 1))] [] σ1 (qI K)) ∧ ((x1 = 0) → K v3 σ1)))))))))) : yR (d + 1) 26 35 [some (.ref 13), some (.ref 1), some (.int v2), some (.int v3)] [] σ (qI K) := wp_26 17 [35] (show (((v2 ≤ v3) → ((¬ ((σ 13 5) = 0) → K v2 σ) ∧ (((σ 13 5) = 0) → K (-1) σ))) ∧ (¬ (v2 ≤ v3) → (((150 ≤ v3) → ((¬ ((σ 13 5) = 0) → K v2 σ) ∧ (((σ 13 5) = 0) → K (-1) σ))) ∧ (¬ (150 ≤ v3) → (vp_in v3 150 ∧ yR d 27 0 [some (.ref 13), some (.int (σ 1 v3.toNatClampNeg))] [] σ (qI (fun x1 σ1 => ((¬ (x1 = 0) → yR (d + 1) 26 35 [some (.ref 13), some (.ref 1), some (.int v2), some (.int (v3 + 1))] [] σ1 (qI K)) ∧ ((x1 = 0) → K v3 σ1))))))))) from ⟨fun q1 => ⟨fun q2 => ((h.1 q1).1 q2), fun q2 => ((h.1 q1).2 q2)⟩, fun q1 => ⟨fun q3 => ⟨fun q4 => (((h.2 q1).1 q3).1 q4), fun q4 => (((h.2 q1).1 q3).2 q4)⟩, fun q3 => ⟨((h.2 q1).2 q3).1, (yR.mono ((h.2 q1).2 q3).2 (qI_mono (fun x1 σ1 q5 => ⟨fun q6 => (q5.1 q6), fun q6 => (q5.2 q6)⟩)))⟩⟩⟩)
theorem w_27_0 {d : Nat} {σ : yS} {v1 : Int32} {K : Int32 → yS → Prop} (h : ((((σ 13 10) ≤ 0) → ((¬ (v1 = 32) → ((((σ 13 5) = 0) → ((¬ (v1 = 42) → yR d 29 0 [some (.ref 13), some (.int 0), none] [] (sg σ 13 10 0) (qI (fun x1 σ1 => (((x1 = 0) → K 0 σ1) ∧ (¬ (x1 = 0) → yR d 30 0 [some (.ref 13), some (.int v1)] [] σ1 (qI (fun x2 σ2 => (((x2 = 0) → K 0 σ2) ∧ (¬ (x2 = 0) → K 1 σ2))))))))) ∧ ((v1 = 42) → yR d 29 0 [some (.ref 13), some (.int 1), none] [] (sg σ 13 10 0) (qI (fun x3 σ3 => (((x3 = 0) → K 0 σ3) ∧ (¬ (x3 = 0) → K 1 σ3))))))) ∧ (¬ ((σ 13 5) = 0) → ((((σ 13 5) = 1) → yR d 30 0 [some (.ref 13), some (.int v1)] [] (sg σ 13 10 0) (qI (fun x5 σ5 => (yBo x5 ∧ K x5 σ5)))) ∧ (¬ ((σ 13 5) = 1) → ((((σ 13 5) = 2) → yR d 32 0 [some (.ref 13), some (.int v1)] [] (sg σ 13 10 0) (qI (fun x6 σ6 => (yBo x6 ∧ K x6 σ6)))) ∧ (¬ ((σ 13 5) = 2) → yR d 33 0 [some (.ref 13), some (.int v1)] [] (sg σ 13 10 0) (qI (fun x7 σ7 => (yBo x7 ∧ K x7 σ7)))))))))) ∧ ((v1 = 32) → K 1 (sg σ 13 10 0)))) ∧ (¬ ((σ 13 10) ≤ 0) → yR d 46 0 [some (.int v1)] [] σ (qI (fun x8 σ8 => (((x8 = 0) → ((¬ (v1 = 32) → ((((σ8 13 5) = 0) → ((¬ (v1 = 42) → yR d 29 0 [some (.ref 13), some (.int 0), none] [] (sg σ8 13 10 0) (qI (fun x9 σ9 => (((x9 = 0) → K 0 σ9) ∧ (¬ (x9 = 0) → yR d 30 0 [some (.ref 13), some (.int v1)] [] σ9 (qI (fun x10 σ10 => (((x10 = 0) → K 0 σ10) ∧ (¬ (x10 = 0) → K 1 σ10))))))))) ∧ ((v1 = 42) → yR d 29 0 [some (.ref 13), some (.int 1), none] [] (sg σ8 13 10 0) (qI (fun x11 σ11 => (((x11 = 0) → K 0 σ11) ∧ (¬ (x11 = 0) → K 1 σ11))))))) ∧ (¬ ((σ8 13 5) = 0) → ((((σ8 13 5) = 1) → yR d 30 0 [some (.ref 13), some (.int v1)] [] (sg σ8 13 10 0) (qI (fun x13 σ13 => (yBo x13 ∧ K x13 σ13)))) ∧ (¬ ((σ8 13 5) = 1) → ((((σ8 13 5) = 2) → yR d 32 0 [some (.ref 13), some (.int v1)] [] (sg σ8 13 10 0) (qI (fun x14 σ14 => (yBo x14 ∧ K x14 σ14)))) ∧ (¬ ((σ8 13 5) = 2) → yR d 33 0 [some (.ref 13), some (.int v1)] [] (sg σ8 13 10 0) (qI (fun x15 σ15 => (yBo x15 ∧ K x15 σ15)))))))))) ∧ ((v1 = 32) → K 1 (sg σ8 13 10 0)))) ∧ (¬ (x8 = 0) → yR d 28 0 [some (.ref 13), some (.int v1)] [] σ8 (qI (fun x16 σ16 => (yBo x16 ∧ K x16 σ16)))))))))) : yR (d + 1) 27 0 [some (.ref 13), some (.int v1)] [] σ (qI K) := wp_27 34 [] (show ((((σ 13 10) ≤ 0) → ((¬ (v1 = 32) → ((((σ 13 5) = 0) → ((¬ (v1 = 42) → yR d 29 0 [some (.ref 13), some (.int 0), none] [] (sg σ 13 10 0) (qI (fun x1 σ1 => (((x1 = 0) → (yBo 0 ∧ K 0 σ1)) ∧ (¬ (x1 = 0) → (((v1 = 42) → (yBo 1 ∧ K 1 σ1)) ∧ (¬ (v1 = 42) → yR d 30 0 [some (.ref 13), some (.int v1)] [] σ1 (qI (fun x2 σ2 => (((x2 = 0) → (yBo 0 ∧ K 0 σ2)) ∧ (¬ (x2 = 0) → (yBo 1 ∧ K 1 σ2)))))))))))) ∧ ((v1 = 42) → yR d 29 0 [some (.ref 13), some (.int 1), none] [] (sg σ 13 10 0) (qI (fun x3 σ3 => (((x3 = 0) → (yBo 0 ∧ K 0 σ3)) ∧ (¬ (x3 = 0) → (((v1 = 42) → (yBo 1 ∧ K 1 σ3)) ∧ (¬ (v1 = 42) → yR d 30 0 [some (.ref 13), some (.int v1)] [] σ3 (qI (fun x4 σ4 => (((x4 = 0) → (yBo 0 ∧ K 0 σ4)) ∧ (¬ (x4 = 0) → (yBo 1 ∧ K 1 σ4)))))))))))))) ∧ (¬ ((σ 13 5) = 0) → ((((σ 13 5) = 1) → yR d 30 0 [some (.ref 13), some (.int v1)] [] (sg σ 13 10 0) (qI (fun x5 σ5 => (yBo x5 ∧ K x5 σ5)))) ∧ (¬ ((σ 13 5) = 1) → ((((σ 13 5) = 2) → yR d 32 0 [some (.ref 13), some (.int v1)] [] (sg σ 13 10 0) (qI (fun x6 σ6 => (yBo x6 ∧ K x6 σ6)))) ∧ (¬ ((σ 13 5) = 2) → yR d 33 0 [some (.ref 13), some (.int v1)] [] (sg σ 13 10 0) (qI (fun x7 σ7 => (yBo x7 ∧ K x7 σ7)))))))))) ∧ ((v1 = 32) → (yBo 1 ∧ K 1 (sg σ 13 10 0))))) ∧ (¬ ((σ 13 10) ≤ 0) → yR d 46 0 [some (.int v1)] [] σ (qI (fun x8 σ8 => (((x8 = 0) → ((¬ (v1 = 32) → ((((σ8 13 5) = 0) → ((¬ (v1 = 42) → yR d 29 0 [some (.ref 13), some (.int 0), none] [] (sg σ8 13 10 0) (qI (fun x9 σ9 => (((x9 = 0) → (yBo 0 ∧ K 0 σ9)) ∧ (¬ (x9 = 0) → (((v1 = 42) → (yBo 1 ∧ K 1 σ9)) ∧ (¬ (v1 = 42) → yR d 30 0 [some (.ref 13), some (.int v1)] [] σ9 (qI (fun x10 σ10 => (((x10 = 0) → (yBo 0 ∧ K 0 σ10)) ∧ (¬ (x10 = 0) → (yBo 1 ∧ K 1 σ10)))))))))))) ∧ ((v1 = 42) → yR d 29 0 [some (.ref 13), some (.int 1), none] [] (sg σ8 13 10 0) (qI (fun x11 σ11 => (((x11 = 0) → (yBo 0 ∧ K 0 σ11)) ∧ (¬ (x11 = 0) → (((v1 = 42) → (yBo 1 ∧ K 1 σ11)) ∧ (¬ (v1 = 42) → yR d 30 0 [some (.ref 13), some (.int v1)] [] σ11 (qI (fun x12 σ12 => (((x12 = 0) → (yBo 0 ∧ K 0 σ12)) ∧ (¬ (x12 = 0) → (yBo 1 ∧ K 1 σ12)))))))))))))) ∧ (¬ ((σ8 13 5) = 0) → ((((σ8 13 5) = 1) → yR d 30 0 [some (.ref 13), some (.int v1)] [] (sg σ8 13 10 0) (qI (fun x13 σ13 => (yBo x13 ∧ K x13 σ13)))) ∧ (¬ ((σ8 13 5) = 1) → ((((σ8 13 5) = 2) → yR d 32 0 [some (.ref 13), some (.int v1)] [] (sg σ8 13 10 0) (qI (fun x14 σ14 => (yBo x14 ∧ K x14 σ14)))) ∧ (¬ ((σ8 13 5) = 2) → yR d 33 0 [some (.ref 13), some (.int v1)] [] (sg σ8 13 10 0) (qI (fun x15 σ15 => (yBo x15 ∧ K x15 σ15)))))))))) ∧ ((v1 = 32) → (yBo 1 ∧ K 1 (sg σ8 13 10 0))))) ∧ (¬ (x8 = 0) → yR d 28 0 [some (.ref 13), some (.int v1)] [] σ8 (qI (fun x16 σ16 => (yBo x16 ∧ K x16 σ16))))))))) from ⟨fun q1 => ⟨fun q2 => ⟨fun q3 => ⟨fun q4 => (yR.mono ((((h.1 q1).1 q2).1 q3).1 q4) (qI_mono (fun x1 σ1 q5 => ⟨fun q6 => ⟨yB0, (q5.1 q6)⟩, fun q6 => ⟨fun q => absurd q q4, fun _ => (yR.mono (q5.2 q6) (qI_mono (fun x2 σ2 q7 => ⟨fun q8 => ⟨yB0, (q7.1 q8)⟩, fun q8 => ⟨yB1, (q7.2 q8)⟩⟩)))⟩⟩))), fun q4 => (yR.mono ((((h.1 q1).1 q2).1 q3).2 q4) (qI_mono (fun x3 σ3 q9 => ⟨fun q10 => ⟨yB0, (q9.1 q10)⟩, fun q10 => ⟨fun _ => ⟨yB1, (q9.2 q10)⟩, fun q => absurd q4 q⟩⟩)))⟩, fun q3 => ⟨fun q11 => (yR.mono ((((h.1 q1).1 q2).2 q3).1 q11) (qI_mono (fun x5 σ5 q12 => ⟨q12.1, q12.2⟩))), fun q11 => ⟨fun q13 => (yR.mono (((((h.1 q1).1 q2).2 q3).2 q11).1 q13) (qI_mono (fun x6 σ6 q14 => ⟨q14.1, q14.2⟩))), fun q13 => (yR.mono (((((h.1 q1).1 q2).2 q3).2 q11).2 q13) (qI_mono (fun x7 σ7 q15 => ⟨q15.1, q15.2⟩)))⟩⟩⟩, fun q2 => ⟨yB1, ((h.1 q1).2 q2)⟩⟩, fun q1 => (yR.mono (h.2 q1) (qI_mono (fun x8 σ8 q16 => ⟨fun q17 => ⟨fun q18 => ⟨fun q19 => ⟨fun q20 => (yR.mono ((((q16.1 q17).1 q18).1 q19).1 q20) (qI_mono (fun x9 σ9 q21 => ⟨fun q22 => ⟨yB0, (q21.1 q22)⟩, fun q22 => ⟨fun q => absurd q q20, fun _ => (yR.mono (q21.2 q22) (qI_mono (fun x10 σ10 q23 => ⟨fun q24 => ⟨yB0, (q23.1 q24)⟩, fun q24 => ⟨yB1, (q23.2 q24)⟩⟩)))⟩⟩))), fun q20 => (yR.mono ((((q16.1 q17).1 q18).1 q19).2 q20) (qI_mono (fun x11 σ11 q25 => ⟨fun q26 => ⟨yB0, (q25.1 q26)⟩, fun q26 => ⟨fun _ => ⟨yB1, (q25.2 q26)⟩, fun q => absurd q20 q⟩⟩)))⟩, fun q19 => ⟨fun q27 => (yR.mono ((((q16.1 q17).1 q18).2 q19).1 q27) (qI_mono (fun x13 σ13 q28 => ⟨q28.1, q28.2⟩))), fun q27 => ⟨fun q29 => (yR.mono (((((q16.1 q17).1 q18).2 q19).2 q27).1 q29) (qI_mono (fun x14 σ14 q30 => ⟨q30.1, q30.2⟩))), fun q29 => (yR.mono (((((q16.1 q17).1 q18).2 q19).2 q27).2 q29) (qI_mono (fun x15 σ15 q31 => ⟨q31.1, q31.2⟩)))⟩⟩⟩, fun q18 => ⟨yB1, ((q16.1 q17).2 q18)⟩⟩, fun q17 => (yR.mono (q16.2 q17) (qI_mono (fun x16 σ16 q32 => ⟨q32.1, q32.2⟩)))⟩)))⟩)
theorem w_28_0 {d : Nat} {σ : yS} {v1 : Int32} {K : Int32 → yS → Prop} (h : (((3 ≤ (σ 13 10)) → K 0 σ) ∧ (¬ (3 ≤ (σ 13 10)) → yR d 77 0 [some (.int (σ 13 9))] [] σ (qI (fun x1 σ1 => ((¬ (x1 = 0) → (vp_in (σ1 13 9) 60 ∧ K 1 (sg (sg σ1 18 (σ1 13 9).toNatClampNeg ((10 * (σ1 18 (σ1 13 9).toNatClampNeg)) + (v1 - 48))) 13 10 ((σ1 13 10) + 1)))) ∧ ((x1 = 0) → K 0 σ1))))))) : yR (d + 1) 28 0 [some (.ref 13), some (.int v1)] [] σ (qI K) := wp_28 35 [] (show (((3 ≤ (σ 13 10)) → (yBo 0 ∧ K 0 σ)) ∧ (¬ (3 ≤ (σ 13 10)) → yR d 77 0 [some (.int (σ 13 9))] [] σ (qI (fun x1 σ1 => ((¬ (x1 = 0) → (vp_in (σ1 13 9) 60 ∧ (vp_in (σ1 13 9) 60 ∧ (yBo 1 ∧ K 1 (sg (sg σ1 18 (σ1 13 9).toNatClampNeg ((10 * (σ1 18 (σ1 13 9).toNatClampNeg)) + (v1 - 48))) 13 10 ((σ1 13 10) + 1)))))) ∧ ((x1 = 0) → (yBo 0 ∧ K 0 σ1))))))) from ⟨fun q1 => ⟨yB0, (h.1 q1)⟩, fun q1 => (yR.mono (h.2 q1) (qI_mono (fun x1 σ1 q2 => ⟨fun q3 => ⟨(q2.1 q3).1, ⟨(q2.1 q3).1, ⟨yB1, (q2.1 q3).2⟩⟩⟩, fun q3 => ⟨yB0, (q2.2 q3)⟩⟩)))⟩)
theorem w_29_0 {d : Nat} {σ : yS} {v1 : Int32} {K : Int32 → yS → Prop} (h : yR d 76 0 [some (.int (σ 14 10)), some (.int 8)] [] σ (qI (fun x1 σ1 => ((¬ (x1 = 0) → (((v1 = 0) → (vp_in (σ 14 10) 8 ∧ K 1 (sg (sg (sg (sg (sg σ1 13 7 (σ1 13 6)) 20 (σ 14 10).toNatClampNeg 0) 22 (σ 14 10).toNatClampNeg 0) 23 (σ 14 10).toNatClampNeg 0) 13 5 1))) ∧ (¬ (v1 = 0) → (vp_in (σ 14 10) 8 ∧ K 1 (sg (sg (sg (sg (sg σ1 13 7 (σ1 13 6)) 20 (σ 14 10).toNatClampNeg 1) 22 (σ 14 10).toNatClampNeg 0) 23 (σ 14 10).toNatClampNeg 0) 13 5 1))))) ∧ ((x1 = 0) → K 0 σ1))))) : yR (d + 1) 29 0 [some (.ref 13), some (.int v1), none] [] σ (qI K) := wp_29 39 [] (show yR d 76 0 [some (.int (σ 14 10)), some (.int 8)] [] σ (qI (fun x1 σ1 => ((¬ (x1 = 0) → (((v1 = 0) → (vp_in (σ 14 10) 8 ∧ (vp_in (σ 14 10) 8 ∧ (vp_in (σ 14 10) 8 ∧ (yBo 1 ∧ K 1 (sg (sg (sg (sg (sg σ1 13 7 (σ1 13 6)) 20 (σ 14 10).toNatClampNeg 0) 22 (σ 14 10).toNatClampNeg 0) 23 (σ 14 10).toNatClampNeg 0) 13 5 1)))))) ∧ (¬ (v1 = 0) → (vp_in (σ 14 10) 8 ∧ (vp_in (σ 14 10) 8 ∧ (vp_in (σ 14 10) 8 ∧ (yBo 1 ∧ K 1 (sg (sg (sg (sg (sg σ1 13 7 (σ1 13 6)) 20 (σ 14 10).toNatClampNeg 1) 22 (σ 14 10).toNatClampNeg 0) 23 (σ 14 10).toNatClampNeg 0) 13 5 1)))))))) ∧ ((x1 = 0) → (yBo 0 ∧ K 0 σ1))))) from (yR.mono h (qI_mono (fun x1 σ1 q1 => ⟨fun q2 => ⟨fun q3 => ⟨((q1.1 q2).1 q3).1, ⟨((q1.1 q2).1 q3).1, ⟨((q1.1 q2).1 q3).1, ⟨yB1, ((q1.1 q2).1 q3).2⟩⟩⟩⟩, fun q3 => ⟨((q1.1 q2).2 q3).1, ⟨((q1.1 q2).2 q3).1, ⟨((q1.1 q2).2 q3).1, ⟨yB1, ((q1.1 q2).2 q3).2⟩⟩⟩⟩⟩, fun q2 => ⟨yB0, (q1.2 q2)⟩⟩))))
theorem w_30_0 {d : Nat} {σ : yS} {v1 : Int32} {K : Int32 → yS → Prop} (h : yR d 46 0 [some (.int v1)] [] σ (qI (fun x1 σ1 => (((x1 = 0) → (((v1 < 97) → ((¬ (v1 = 33) → ((¬ (v1 = 40) → K 0 σ1) ∧ ((v1 = 40) → (((9 ≤ (σ1 13 4)) → K 0 σ1) ∧ (¬ (9 ≤ (σ1 13 4)) → yR d 42 0 [some (.ref 13), some (.int (-1)), some (.int 0)] [] (sg σ1 13 4 ((σ1 13 4) + 1)) (qI (fun x2 σ2 => (yBo x2 ∧ K x2 σ2)))))))) ∧ ((v1 = 33) → yR d 43 0 [some (.ref 13)] [] σ1 (qI (fun x3 σ3 => (((x3 = 0) → K 0 σ3) ∧ (¬ (x3 = 0) → yR d 44 0 [some (.ref 13), some (.int 33), some (.int 0), none] [] σ3 (qI (fun x4 σ4 => yR d 42 0 [some (.ref 13), some (.int x4), some (.int 8)] [] σ4 (qI (fun x5 σ5 => (((x5 = 0) → K 0 σ5) ∧ (¬ (x5 = 0) → K 1 σ5))))))))))))) ∧ (¬ (v1 < 97) → yR d 75 0 [some (.int (v1 - 97))] [] σ1 (qI (fun x6 σ6 => (((x6 = 0) → ((¬ (v1 = 33) → ((¬ (v1 = 40) → K 0 σ6) ∧ ((v1 = 40) → (((9 ≤ (σ6 13 4)) → K 0 σ6) ∧ (¬ (9 ≤ (σ6 13 4)) → yR d 42 0 [some (.ref 13), some (.int (-1)), some (.int 0)] [] (sg σ6 13 4 ((σ6 13 4) + 1)) (qI (fun x7 σ7 => (yBo x7 ∧ K x7 σ7)))))))) ∧ ((v1 = 33) → yR d 43 0 [some (.ref 13)] [] σ6 (qI (fun x8 σ8 => (((x8 = 0) → K 0 σ8) ∧ (¬ (x8 = 0) → yR d 44 0 [some (.ref 13), some (.int 33), some (.int 0), none] [] σ8 (qI (fun x9 σ9 => yR d 42 0 [some (.ref 13), some (.int x9), some (.int 8)] [] σ9 (qI (fun x10 σ10 => (((x10 = 0) → K 0 σ10) ∧ (¬ (x10 = 0) → K 1 σ10))))))))))))) ∧ (¬ (x6 = 0) → yR d 31 0 [some (.ref 13), some (.int 97), some (.int (v1 - 97)), none] [] σ6 (qI (fun x11 σ11 => (yBo x11 ∧ K x11 σ11)))))))))) ∧ (¬ (x1 = 0) → yR d 31 0 [some (.ref 13), some (.int 48), some (.int (v1 - 48)), none] [] σ1 (qI (fun x12 σ12 => (yBo x12 ∧ K x12 σ12)))))))) : yR (d + 1) 30 0 [some (.ref 13), some (.int v1)] [] σ (qI K) := wp_30 33 [] (show yR d 46 0 [some (.int v1)] [] σ (qI (fun x1 σ1 => (((x1 = 0) → (((v1 < 97) → ((¬ (v1 = 33) → ((¬ (v1 = 40) → (yBo 0 ∧ K 0 σ1)) ∧ ((v1 = 40) → (((9 ≤ (σ1 13 4)) → (yBo 0 ∧ K 0 σ1)) ∧ (¬ (9 ≤ (σ1 13 4)) → yR d 42 0 [some (.ref 13), some (.int (-1)), some (.int 0)] [] (sg σ1 13 4 ((σ1 13 4) + 1)) (qI (fun x2 σ2 => (yBo x2 ∧ K x2 σ2)))))))) ∧ ((v1 = 33) → yR d 43 0 [some (.ref 13)] [] σ1 (qI (fun x3 σ3 => (((x3 = 0) → (yBo 0 ∧ K 0 σ3)) ∧ (¬ (x3 = 0) → yR d 44 0 [some (.ref 13), some (.int 33), some (.int 0), none] [] σ3 (qI (fun x4 σ4 => yR d 42 0 [some (.ref 13), some (.int x4), some (.int 8)] [] σ4 (qI (fun x5 σ5 => (((x5 = 0) → (yBo 0 ∧ K 0 σ5)) ∧ (¬ (x5 = 0) → (yBo 1 ∧ K 1 σ5)))))))))))))) ∧ (¬ (v1 < 97) → yR d 75 0 [some (.int (v1 - 97))] [] σ1 (qI (fun x6 σ6 => (((x6 = 0) → ((¬ (v1 = 33) → ((¬ (v1 = 40) → (yBo 0 ∧ K 0 σ6)) ∧ ((v1 = 40) → (((9 ≤ (σ6 13 4)) → (yBo 0 ∧ K 0 σ6)) ∧ (¬ (9 ≤ (σ6 13 4)) → yR d 42 0 [some (.ref 13), some (.int (-1)), some (.int 0)] [] (sg σ6 13 4 ((σ6 13 4) + 1)) (qI (fun x7 σ7 => (yBo x7 ∧ K x7 σ7)))))))) ∧ ((v1 = 33) → yR d 43 0 [some (.ref 13)] [] σ6 (qI (fun x8 σ8 => (((x8 = 0) → (yBo 0 ∧ K 0 σ8)) ∧ (¬ (x8 = 0) → yR d 44 0 [some (.ref 13), some (.int 33), some (.int 0), none] [] σ8 (qI (fun x9 σ9 => yR d 42 0 [some (.ref 13), some (.int x9), some (.int 8)] [] σ9 (qI (fun x10 σ10 => (((x10 = 0) → (yBo 0 ∧ K 0 σ10)) ∧ (¬ (x10 = 0) → (yBo 1 ∧ K 1 σ10)))))))))))))) ∧ (¬ (x6 = 0) → yR d 31 0 [some (.ref 13), some (.int 97), some (.int (v1 - 97)), none] [] σ6 (qI (fun x11 σ11 => (yBo x11 ∧ K x11 σ11)))))))))) ∧ (¬ (x1 = 0) → yR d 31 0 [some (.ref 13), some (.int 48), some (.int (v1 - 48)), none] [] σ1 (qI (fun x12 σ12 => (yBo x12 ∧ K x12 σ12))))))) from (yR.mono h (qI_mono (fun x1 σ1 q1 => ⟨fun q2 => ⟨fun q3 => ⟨fun q4 => ⟨fun q5 => ⟨yB0, ((((q1.1 q2).1 q3).1 q4).1 q5)⟩, fun q5 => ⟨fun q6 => ⟨yB0, (((((q1.1 q2).1 q3).1 q4).2 q5).1 q6)⟩, fun q6 => (yR.mono (((((q1.1 q2).1 q3).1 q4).2 q5).2 q6) (qI_mono (fun x2 σ2 q7 => ⟨q7.1, q7.2⟩)))⟩⟩, fun q4 => (yR.mono (((q1.1 q2).1 q3).2 q4) (qI_mono (fun x3 σ3 q8 => ⟨fun q9 => ⟨yB0, (q8.1 q9)⟩, fun q9 => (yR.mono (q8.2 q9) (qI_mono (fun x4 σ4 q10 => (yR.mono q10 (qI_mono (fun x5 σ5 q11 => ⟨fun q12 => ⟨yB0, (q11.1 q12)⟩, fun q12 => ⟨yB1, (q11.2 q12)⟩⟩))))))⟩)))⟩, fun q3 => (yR.mono ((q1.1 q2).2 q3) (qI_mono (fun x6 σ6 q13 => ⟨fun q14 => ⟨fun q15 => ⟨fun q16 => ⟨yB0, (((q13.1 q14).1 q15).1 q16)⟩, fun q16 => ⟨fun q17 => ⟨yB0, ((((q13.1 q14).1 q15).2 q16).1 q17)⟩, fun q17 => (yR.mono ((((q13.1 q14).1 q15).2 q16).2 q17) (qI_mono (fun x7 σ7 q18 => ⟨q18.1, q18.2⟩)))⟩⟩, fun q15 => (yR.mono ((q13.1 q14).2 q15) (qI_mono (fun x8 σ8 q19 => ⟨fun q20 => ⟨yB0, (q19.1 q20)⟩, fun q20 => (yR.mono (q19.2 q20) (qI_mono (fun x9 σ9 q21 => (yR.mono q21 (qI_mono (fun x10 σ10 q22 => ⟨fun q23 => ⟨yB0, (q22.1 q23)⟩, fun q23 => ⟨yB1, (q22.2 q23)⟩⟩))))))⟩)))⟩, fun q14 => (yR.mono (q13.2 q14) (qI_mono (fun x11 σ11 q24 => ⟨q24.1, q24.2⟩)))⟩)))⟩, fun q2 => (yR.mono (q1.2 q2) (qI_mono (fun x12 σ12 q25 => ⟨q25.1, q25.2⟩)))⟩))))
theorem w_31_0 {d : Nat} {σ : yS} {v1 v2 : Int32} {K : Int32 → yS → Prop} (h : yR d 43 0 [some (.ref 13)] [] σ (qI (fun x1 σ1 => ((¬ (x1 = 0) → yR d 44 0 [some (.ref 13), some (.int v1), some (.int v2), none] [] σ1 (qI (fun x2 σ2 => ((¬ (v1 = 48) → yR d 45 0 [some (.ref 13), some (.ref 22), some (.int v2)] [] σ2 (qV (fun σ3 => yR d 41 0 [some (.ref 13), some (.int x2), some (.int 8), none] [] σ3 (qV (fun σ4 => K 1 σ4))))) ∧ ((v1 = 48) → yR d 41 0 [some (.ref 13), some (.int x2), some (.int 8), none] [] (sg (sg σ2 13 9 x2) 13 10 1) (qV (fun σ5 => K 1 σ5))))))) ∧ ((x1 = 0) → K 0 σ1))))) : yR (d + 1) 31 0 [some (.ref 13), some (.int v1), some (.int v2), none] [] σ (qI K) := wp_31 25 [] (show yR d 43 0 [some (.ref 13)] [] σ (qI (fun x1 σ1 => ((¬ (x1 = 0) → yR d 44 0 [some (.ref 13), some (.int v1), some (.int v2), none] [] σ1 (qI (fun x2 σ2 => ((¬ (v1 = 48) → yR d 45 0 [some (.ref 13), some (.ref 22), some (.int v2)] [] σ2 (qV (fun σ3 => yR d 41 0 [some (.ref 13), some (.int x2), some (.int 8), none] [] σ3 (qV (fun σ4 => (yBo 1 ∧ K 1 σ4)))))) ∧ ((v1 = 48) → yR d 41 0 [some (.ref 13), some (.int x2), some (.int 8), none] [] (sg (sg σ2 13 9 x2) 13 10 1) (qV (fun σ5 => (yBo 1 ∧ K 1 σ5)))))))) ∧ ((x1 = 0) → (yBo 0 ∧ K 0 σ1))))) from (yR.mono h (qI_mono (fun x1 σ1 q1 => ⟨fun q2 => (yR.mono (q1.1 q2) (qI_mono (fun x2 σ2 q3 => ⟨fun q4 => (yR.mono (q3.1 q4) (qV_mono (fun σ3 q5 => (yR.mono q5 (qV_mono (fun σ4 q6 => ⟨yB1, q6⟩)))))), fun q4 => (yR.mono (q3.2 q4) (qV_mono (fun σ5 q7 => ⟨yB1, q7⟩)))⟩))), fun q2 => ⟨yB0, (q1.2 q2)⟩⟩))))
theorem w_32_0 {d : Nat} {σ : yS} {v1 : Int32} {K : Int32 → yS → Prop} (h : yR d 46 0 [some (.int v1)] [] σ (qI (fun x1 σ1 => (((x1 = 0) → K 0 σ1) ∧ (¬ (x1 = 0) → yR d 77 0 [some (.int (σ1 13 8))] [] σ1 (qI (fun x2 σ2 => ((¬ (x2 = 0) → (vp_in (σ2 13 8) 60 ∧ K 1 (sg (sg σ2 18 (σ2 13 8).toNatClampNeg (v1 - 48)) 13 5 3))) ∧ ((x2 = 0) → K 0 σ2))))))))) : yR (d + 1) 32 0 [some (.ref 13), some (.int v1)] [] σ (qI K) := wp_32 22 [] (show yR d 46 0 [some (.int v1)] [] σ (qI (fun x1 σ1 => (((x1 = 0) → (yBo 0 ∧ K 0 σ1)) ∧ (¬ (x1 = 0) → yR d 77 0 [some (.int (σ1 13 8))] [] σ1 (qI (fun x2 σ2 => ((¬ (x2 = 0) → (vp_in (σ2 13 8) 60 ∧ (yBo 1 ∧ K 1 (sg (sg σ2 18 (σ2 13 8).toNatClampNeg (v1 - 48)) 13 5 3)))) ∧ ((x2 = 0) → (yBo 0 ∧ K 0 σ2))))))))) from (yR.mono h (qI_mono (fun x1 σ1 q1 => ⟨fun q2 => ⟨yB0, (q1.1 q2)⟩, fun q2 => (yR.mono (q1.2 q2) (qI_mono (fun x2 σ2 q3 => ⟨fun q4 => ⟨(q3.1 q4).1, ⟨yB1, (q3.1 q4).2⟩⟩, fun q4 => ⟨yB0, (q3.2 q4)⟩⟩)))⟩))))
theorem w_33_0 {d : Nat} {σ : yS} {v1 : Int32} {K : Int32 → yS → Prop} (h : (((v1 = 41) → yR d 35 0 [some (.ref 13)] [] σ (qI (fun x1 σ1 => (yBo x1 ∧ K x1 σ1)))) ∧ (¬ (v1 = 41) → (((v1 = 58) → yR d 37 0 [some (.ref 13), some (.int v1)] [] σ (qI (fun x2 σ2 => (yBo x2 ∧ K x2 σ2)))) ∧ (¬ (v1 = 58) → (((v1 = 59) → yR d 34 0 [some (.ref 13), none] [] σ (qI (fun x3 σ3 => (yBo x3 ∧ K x3 σ3)))) ∧ (¬ (v1 = 59) → (((v1 = 92) → yR d 36 0 [some (.ref 13), none] [] σ (qI (fun x4 σ4 => (yBo x4 ∧ K x4 σ4)))) ∧ (¬ (v1 = 92) → (((v1 = 94) → yR d 37 0 [some (.ref 13), some (.int v1)] [] σ (qI (fun x5 σ5 => (yBo x5 ∧ K x5 σ5)))) ∧ (¬ (v1 = 94) → yR d 39 0 [some (.ref 13), some (.int v1), none, none] [] σ (qI (fun x6 σ6 => (yBo x6 ∧ K x6 σ6)))))))))))))) : yR (d + 1) 33 0 [some (.ref 13), some (.int v1)] [] σ (qI K) := wp_33 7 [] (show (((v1 = 41) → yR d 35 0 [some (.ref 13)] [] σ (qI (fun x1 σ1 => (yBo x1 ∧ K x1 σ1)))) ∧ (¬ (v1 = 41) → (((v1 = 58) → yR d 37 0 [some (.ref 13), some (.int v1)] [] σ (qI (fun x2 σ2 => (yBo x2 ∧ K x2 σ2)))) ∧ (¬ (v1 = 58) → (((v1 = 59) → yR d 34 0 [some (.ref 13), none] [] σ (qI (fun x3 σ3 => (yBo x3 ∧ K x3 σ3)))) ∧ (¬ (v1 = 59) → (((v1 = 92) → yR d 36 0 [some (.ref 13), none] [] σ (qI (fun x4 σ4 => (yBo x4 ∧ K x4 σ4)))) ∧ (¬ (v1 = 92) → (((v1 = 94) → yR d 37 0 [some (.ref 13), some (.int v1)] [] σ (qI (fun x5 σ5 => (yBo x5 ∧ K x5 σ5)))) ∧ (¬ (v1 = 94) → yR d 39 0 [some (.ref 13), some (.int v1), none, none] [] σ (qI (fun x6 σ6 => (yBo x6 ∧ K x6 σ6))))))))))))) from ⟨fun q1 => (yR.mono (h.1 q1) (qI_mono (fun x1 σ1 q2 => ⟨q2.1, q2.2⟩))), fun q1 => ⟨fun q3 => (yR.mono ((h.2 q1).1 q3) (qI_mono (fun x2 σ2 q4 => ⟨q4.1, q4.2⟩))), fun q3 => ⟨fun q5 => (yR.mono (((h.2 q1).2 q3).1 q5) (qI_mono (fun x3 σ3 q6 => ⟨q6.1, q6.2⟩))), fun q5 => ⟨fun q7 => (yR.mono ((((h.2 q1).2 q3).2 q5).1 q7) (qI_mono (fun x4 σ4 q8 => ⟨q8.1, q8.2⟩))), fun q7 => ⟨fun q9 => (yR.mono (((((h.2 q1).2 q3).2 q5).2 q7).1 q9) (qI_mono (fun x5 σ5 q10 => ⟨q10.1, q10.2⟩))), fun q9 => (yR.mono (((((h.2 q1).2 q3).2 q5).2 q7).2 q9) (qI_mono (fun x6 σ6 q11 => ⟨q11.1, q11.2⟩)))⟩⟩⟩⟩⟩)
theorem w_34_0 {d : Nat} {σ : yS} {K : Int32 → yS → Prop} (h : (((0 < (σ 13 4)) → K 0 σ) ∧ (¬ (0 < (σ 13 4)) → yR d 76 0 [some (.int (σ 14 10)), some (.int 8)] [] σ (qI (fun x1 σ1 => ((¬ (x1 = 0) → yR d 41 0 [some (.ref 13), some (.int (σ1 13 8)), some (.int 1), none] [] σ1 (qV (fun σ2 => (vp_in (σ 14 10) 8 ∧ K 1 (sg (sg (sg (sg σ2 19 (σ 14 10).toNatClampNeg (σ2 13 8)) 21 (σ 14 10).toNatClampNeg ((σ2 13 6) - (σ2 13 7))) 14 10 ((σ2 14 10) + 1)) 13 5 0))))) ∧ ((x1 = 0) → K 0 σ1))))))) : yR (d + 1) 34 0 [some (.ref 13), none] [] σ (qI K) := wp_34 46 [] (show (((0 < (σ 13 4)) → (yBo 0 ∧ K 0 σ)) ∧ (¬ (0 < (σ 13 4)) → yR d 76 0 [some (.int (σ 14 10)), some (.int 8)] [] σ (qI (fun x1 σ1 => ((¬ (x1 = 0) → yR d 41 0 [some (.ref 13), some (.int (σ1 13 8)), some (.int 1), none] [] σ1 (qV (fun σ2 => (vp_in (σ 14 10) 8 ∧ (vp_in (σ 14 10) 8 ∧ (yBo 1 ∧ K 1 (sg (sg (sg (sg σ2 19 (σ 14 10).toNatClampNeg (σ2 13 8)) 21 (σ 14 10).toNatClampNeg ((σ2 13 6) - (σ2 13 7))) 14 10 ((σ2 14 10) + 1)) 13 5 0))))))) ∧ ((x1 = 0) → (yBo 0 ∧ K 0 σ1))))))) from ⟨fun q1 => ⟨yB0, (h.1 q1)⟩, fun q1 => (yR.mono (h.2 q1) (qI_mono (fun x1 σ1 q2 => ⟨fun q3 => (yR.mono (q2.1 q3) (qV_mono (fun σ2 q4 => ⟨q4.1, ⟨q4.1, ⟨yB1, q4.2⟩⟩⟩))), fun q3 => ⟨yB0, (q2.2 q3)⟩⟩)))⟩)
theorem w_35_0 {d : Nat} {σ : yS} {K : Int32 → yS → Prop} (h : ((¬ ((σ 13 4) = 0) → yR d 41 0 [some (.ref 13), some (.int (σ 13 8)), some (.int 1), none] [] σ (qV (fun σ1 => yR d 148 0 [some (.int 0), some (.int ((σ1 13 3) - 1))] [] σ1 (qI (fun x2 σ2 => yR d 41 0 [some (.ref 13), some (.int (σ2 13 8)), some (.int 8), none] [] (sg (sg σ2 13 3 x2) 13 4 ((σ2 13 4) - 1)) (qV (fun σ3 => K 1 σ3))))))) ∧ (((σ 13 4) = 0) → K 0 σ))) : yR (d + 1) 35 0 [some (.ref 13)] [] σ (qI K) := wp_35 30 [] (show ((¬ ((σ 13 4) = 0) → yR d 41 0 [some (.ref 13), some (.int (σ 13 8)), some (.int 1), none] [] σ (qV (fun σ1 => yR d 148 0 [some (.int 0), some (.int ((σ1 13 3) - 1))] [] σ1 (qI (fun x2 σ2 => yR d 41 0 [some (.ref 13), some (.int (σ2 13 8)), some (.int 8), none] [] (sg (sg σ2 13 3 x2) 13 4 ((σ2 13 4) - 1)) (qV (fun σ3 => (yBo 1 ∧ K 1 σ3)))))))) ∧ (((σ 13 4) = 0) → (yBo 0 ∧ K 0 σ))) from ⟨fun q1 => (yR.mono (h.1 q1) (qV_mono (fun σ1 q2 => (yR.mono q2 (qI_mono (fun x2 σ2 q3 => (yR.mono q3 (qV_mono (fun σ3 q4 => ⟨yB1, q4⟩))))))))), fun q1 => ⟨yB0, (h.2 q1)⟩⟩)
theorem w_36_0 {d : Nat} {σ : yS} {K : Int32 → yS → Prop} (h : yR d 43 0 [some (.ref 13)] [] σ (qI (fun x1 σ1 => ((¬ (x1 = 0) → yR d 44 0 [some (.ref 13), some (.int 92), some (.int 0), none] [] σ1 (qI (fun x2 σ2 => (vp_in x2 60 ∧ K 1 (sg (sg (sg σ2 17 x2.toNatClampNeg (σ2 13 8)) 13 8 x2) 13 5 2))))) ∧ ((x1 = 0) → K 0 σ1))))) : yR (d + 1) 36 0 [some (.ref 13), none] [] σ (qI K) := wp_36 24 [] (show yR d 43 0 [some (.ref 13)] [] σ (qI (fun x1 σ1 => ((¬ (x1 = 0) → yR d 44 0 [some (.ref 13), some (.int 92), some (.int 0), none] [] σ1 (qI (fun x2 σ2 => (vp_in x2 60 ∧ (yBo 1 ∧ K 1 (sg (sg (sg σ2 17 x2.toNatClampNeg (σ2 13 8)) 13 8 x2) 13 5 2)))))) ∧ ((x1 = 0) → (yBo 0 ∧ K 0 σ1))))) from (yR.mono h (qI_mono (fun x1 σ1 q1 => ⟨fun q2 => (yR.mono (q1.1 q2) (qI_mono (fun x2 σ2 q3 => ⟨q3.1, ⟨yB1, q3.2⟩⟩))), fun q2 => ⟨yB0, (q1.2 q2)⟩⟩))))
theorem w_37_0 {d : Nat} {σ : yS} {v1 : Int32} {K : Int32 → yS → Prop} (h : yR d 77 0 [some (.int (σ 13 8))] [] σ (qI (fun x1 σ1 => (((x1 = 0) → K 0 σ1) ∧ (¬ (x1 = 0) → (vp_in (σ1 13 8) 60 ∧ ((¬ ((σ1 15 (σ1 13 8).toNatClampNeg) = 97) → K 0 σ1) ∧ (((σ1 15 (σ1 13 8).toNatClampNeg) = 97) → yR d 38 0 [some (.ref 13), none] [] σ1 (qI (fun x2 σ2 => ((¬ (x2 = 0) → (vp_in (σ2 13 8) 60 ∧ yR d 45 0 [some (.ref 13), some (.ref 23), some (.int (σ2 18 (σ2 13 8).toNatClampNeg))] [] (sg σ2 15 (σ2 13 8).toNatClampNeg v1) (qV (fun σ3 => yR d 42 0 [some (.ref 13), some (.int (σ3 13 8)), some (.int 1)] [] σ3 (qI (fun x4 σ4 => (yBo x4 ∧ K x4 σ4))))))) ∧ ((x2 = 0) → K 0 σ2)))))))))))) : yR (d + 1) 37 0 [some (.ref 13), some (.int v1)] [] σ (qI K) := wp_37 40 [] (show yR d 77 0 [some (.int (σ 13 8))] [] σ (qI (fun x1 σ1 => (((x1 = 0) → (yBo 0 ∧ K 0 σ1)) ∧ (¬ (x1 = 0) → (vp_in (σ1 13 8) 60 ∧ ((¬ ((σ1 15 (σ1 13 8).toNatClampNeg) = 97) → (yBo 0 ∧ K 0 σ1)) ∧ (((σ1 15 (σ1 13 8).toNatClampNeg) = 97) → yR d 38 0 [some (.ref 13), none] [] σ1 (qI (fun x2 σ2 => ((¬ (x2 = 0) → (vp_in (σ2 13 8) 60 ∧ (vp_in (σ2 13 8) 60 ∧ yR d 45 0 [some (.ref 13), some (.ref 23), some (.int (σ2 18 (σ2 13 8).toNatClampNeg))] [] (sg σ2 15 (σ2 13 8).toNatClampNeg v1) (qV (fun σ3 => yR d 42 0 [some (.ref 13), some (.int (σ3 13 8)), some (.int 1)] [] σ3 (qI (fun x4 σ4 => (yBo x4 ∧ K x4 σ4)))))))) ∧ ((x2 = 0) → (yBo 0 ∧ K 0 σ2)))))))))))) from (yR.mono h (qI_mono (fun x1 σ1 q1 => ⟨fun q2 => ⟨yB0, (q1.1 q2)⟩, fun q2 => ⟨(q1.2 q2).1, ⟨fun q3 => ⟨yB0, ((q1.2 q2).2.1 q3)⟩, fun q3 => (yR.mono ((q1.2 q2).2.2 q3) (qI_mono (fun x2 σ2 q4 => ⟨fun q5 => ⟨(q4.1 q5).1, ⟨(q4.1 q5).1, (yR.mono (q4.1 q5).2 (qV_mono (fun σ3 q6 => (yR.mono q6 (qI_mono (fun x4 σ4 q7 => ⟨q7.1, q7.2⟩))))))⟩⟩, fun q5 => ⟨yB0, (q4.2 q5)⟩⟩)))⟩⟩⟩))))
theorem w_38_0 {d : Nat} {σ : yS} {K : Int32 → yS → Prop} (h : yR d 76 0 [some (.int ((σ 13 3) - 1)), some (.int 69)] [] σ (qI (fun x1 σ1 => (((x1 = 0) → K 1 σ1) ∧ (¬ (x1 = 0) → (vp_in ((σ 13 3) - 1) 69 ∧ (((1 < (σ1 26 ((σ 13 3) - 1).toNatClampNeg)) → K 0 σ1) ∧ (¬ (1 < (σ1 26 ((σ 13 3) - 1).toNatClampNeg)) → K 1 σ1)))))))) : yR (d + 1) 38 0 [some (.ref 13), none] [] σ (qI K) := wp_38 21 [] (show yR d 76 0 [some (.int ((σ 13 3) - 1)), some (.int 69)] [] σ (qI (fun x1 σ1 => (((x1 = 0) → (yBo 1 ∧ K 1 σ1)) ∧ (¬ (x1 = 0) → (vp_in ((σ 13 3) - 1) 69 ∧ (((1 < (σ1 26 ((σ 13 3) - 1).toNatClampNeg)) → (yBo 0 ∧ K 0 σ1)) ∧ (¬ (1 < (σ1 26 ((σ 13 3) - 1).toNatClampNeg)) → (yBo 1 ∧ K 1 σ1)))))))) from (yR.mono h (qI_mono (fun x1 σ1 q1 => ⟨fun q2 => ⟨yB1, (q1.1 q2)⟩, fun q2 => ⟨(q1.2 q2).1, ⟨fun q3 => ⟨yB0, ((q1.2 q2).2.1 q3)⟩, fun q3 => ⟨yB1, ((q1.2 q2).2.2 q3)⟩⟩⟩⟩))))
theorem w_39_0 {d : Nat} {σ : yS} {v1 : Int32} {K : Int32 → yS → Prop} (h : yR d 40 0 [some (.int v1)] [] σ (qI (fun x1 σ1 => (((x1 = 0) → K 0 σ1) ∧ (¬ (x1 = 0) → yR d 43 0 [some (.ref 13)] [] σ1 (qI (fun x2 σ2 => ((¬ (x2 = 0) → yR d 44 0 [some (.ref 13), some (.int v1), some (.int 0), none] [] σ2 (qI (fun x3 σ3 => yR d 41 0 [some (.ref 13), some (.int (σ3 13 8)), some (.int x1), none] [] σ3 (qV (fun σ4 => (vp_in x3 60 ∧ yR d 42 0 [some (.ref 13), some (.int x3), some (.int x1)] [] (sg σ4 16 x3.toNatClampNeg (σ4 13 8)) (qI (fun x5 σ5 => (yBo x5 ∧ K x5 σ5))))))))) ∧ ((x2 = 0) → K 0 σ2))))))))) : yR (d + 1) 39 0 [some (.ref 13), some (.int v1), none, none] [] σ (qI K) := wp_39 31 [] (show yR d 40 0 [some (.int v1)] [] σ (qI (fun x1 σ1 => (((x1 = 0) → (yBo 0 ∧ K 0 σ1)) ∧ (¬ (x1 = 0) → yR d 43 0 [some (.ref 13)] [] σ1 (qI (fun x2 σ2 => ((¬ (x2 = 0) → yR d 44 0 [some (.ref 13), some (.int v1), some (.int 0), none] [] σ2 (qI (fun x3 σ3 => yR d 41 0 [some (.ref 13), some (.int (σ3 13 8)), some (.int x1), none] [] σ3 (qV (fun σ4 => (vp_in x3 60 ∧ yR d 42 0 [some (.ref 13), some (.int x3), some (.int x1)] [] (sg σ4 16 x3.toNatClampNeg (σ4 13 8)) (qI (fun x5 σ5 => (yBo x5 ∧ K x5 σ5))))))))) ∧ ((x2 = 0) → (yBo 0 ∧ K 0 σ2))))))))) from (yR.mono h (qI_mono (fun x1 σ1 q1 => ⟨fun q2 => ⟨yB0, (q1.1 q2)⟩, fun q2 => (yR.mono (q1.2 q2) (qI_mono (fun x2 σ2 q3 => ⟨fun q4 => (yR.mono (q3.1 q4) (qI_mono (fun x3 σ3 q5 => (yR.mono q5 (qV_mono (fun σ4 q6 => ⟨q6.1, (yR.mono q6.2 (qI_mono (fun x5 σ5 q7 => ⟨q7.1, q7.2⟩)))⟩)))))), fun q4 => ⟨yB0, (q3.2 q4)⟩⟩)))⟩))))
theorem w_40_0 {d : Nat} {σ : yS} {v0 : Int32} {K : Int32 → yS → Prop} (h : (((v0 = 38) → K 2 σ) ∧ (¬ (v0 = 38) → (((v0 = 42) → K 7 σ) ∧ (¬ (v0 = 42) → (((v0 = 43) → K 6 σ) ∧ (¬ (v0 = 43) → (((v0 = 45) → K 6 σ) ∧ (¬ (v0 = 45) → (((v0 = 60) → K 4 σ) ∧ (¬ (v0 = 60) → (((v0 = 61) → K 4 σ) ∧ (¬ (v0 = 61) → (((v0 = 62) → K 4 σ) ∧ (¬ (v0 = 62) → (((v0 = 124) → K 3 σ) ∧ (¬ (v0 = 124) → (((v0 = 126) → K 5 σ) ∧ (¬ (v0 = 126) → K 0 σ))))))))))))))))))) : yR d 40 0 [some (.int v0)] [] σ (qI K) := wp_40 5 [] (show (((v0 = 38) → K 2 σ) ∧ (¬ (v0 = 38) → (((v0 = 42) → K 7 σ) ∧ (¬ (v0 = 42) → (((v0 = 43) → K 6 σ) ∧ (¬ (v0 = 43) → (((v0 = 45) → K 6 σ) ∧ (¬ (v0 = 45) → (((v0 = 60) → K 4 σ) ∧ (¬ (v0 = 60) → (((v0 = 61) → K 4 σ) ∧ (¬ (v0 = 61) → (((v0 = 62) → K 4 σ) ∧ (¬ (v0 = 62) → (((v0 = 124) → K 3 σ) ∧ (¬ (v0 = 124) → (((v0 = 126) → K 5 σ) ∧ (¬ (v0 = 126) → K 0 σ)))))))))))))))))) from ⟨fun q1 => (h.1 q1), fun q1 => ⟨fun q2 => ((h.2 q1).1 q2), fun q2 => ⟨fun q3 => (((h.2 q1).2 q2).1 q3), fun q3 => ⟨fun q4 => ((((h.2 q1).2 q2).2 q3).1 q4), fun q4 => ⟨fun q5 => (((((h.2 q1).2 q2).2 q3).2 q4).1 q5), fun q5 => ⟨fun q6 => ((((((h.2 q1).2 q2).2 q3).2 q4).2 q5).1 q6), fun q6 => ⟨fun q7 => (((((((h.2 q1).2 q2).2 q3).2 q4).2 q5).2 q6).1 q7), fun q7 => ⟨fun q8 => ((((((((h.2 q1).2 q2).2 q3).2 q4).2 q5).2 q6).2 q7).1 q8), fun q8 => ⟨fun q9 => (((((((((h.2 q1).2 q2).2 q3).2 q4).2 q5).2 q6).2 q7).2 q8).1 q9), fun q9 => (((((((((h.2 q1).2 q2).2 q3).2 q4).2 q5).2 q6).2 q7).2 q8).2 q9)⟩⟩⟩⟩⟩⟩⟩⟩⟩)
theorem w_41_0 {d : Nat} {σ : yS} {v1 v2 : Int32} {K : yS → Prop} (h : yR (d + 1) 41 5 [some (.ref 13), some (.int v1), some (.int v2), none] [] (sg σ 13 8 v1) (qV K)) : yR (d + 1) 41 0 [some (.ref 13), some (.int v1), some (.int v2), none] [] σ (qV K) := wp_41 5 [5] h
theorem w_41_5 {d : Nat} {σ : yS} {v1 v2 : Int32} {K : yS → Prop} (h : ((((σ 13 3) ≤ 0) → K (sg σ 13 5 3)) ∧ (¬ ((σ 13 3) ≤ 0) → (((69 < (σ 13 3)) → K (sg σ 13 5 3)) ∧ (¬ (69 < (σ 13 3)) → (vp_in ((σ 13 3) - 1) 69 ∧ ((((σ 26 ((σ 13 3) - 1).toNatClampNeg) < v2) → K (sg σ 13 5 3)) ∧ (¬ ((σ 26 ((σ 13 3) - 1).toNatClampNeg) < v2) → yR d 77 0 [some (.int (σ 25 ((σ 13 3) - 1).toNatClampNeg))] [] (sg σ 13 3 ((σ 13 3) - 1)) (qI (fun x1 σ1 => (((x1 = 0) → yR (d + 1) 41 5 [some (.ref 13), some (.int v1), some (.int v2), none] [] σ1 (qV K)) ∧ (¬ (x1 = 0) → (vp_in (σ 25 ((σ 13 3) - 1).toNatClampNeg) 60 ∧ yR (d + 1) 41 5 [some (.ref 13), some (.int v1), some (.int v2), none] [] (sg (sg σ1 17 (σ 25 ((σ 13 3) - 1).toNatClampNeg).toNatClampNeg (σ1 13 8)) 13 8 (σ 25 ((σ 13 3) - 1).toNatClampNeg)) (qV K)))))))))))))) : yR (d + 1) 41 5 [some (.ref 13), some (.int v1), some (.int v2), none] [] σ (qV K) := wp_41 46 [5] (show ((((σ 13 3) ≤ 0) → K (sg σ 13 5 3)) ∧ (¬ ((σ 13 3) ≤ 0) → (((69 < (σ 13 3)) → K (sg σ 13 5 3)) ∧ (¬ (69 < (σ 13 3)) → (vp_in ((σ 13 3) - 1) 69 ∧ ((((σ 26 ((σ 13 3) - 1).toNatClampNeg) < v2) → K (sg σ 13 5 3)) ∧ (¬ ((σ 26 ((σ 13 3) - 1).toNatClampNeg) < v2) → (vp_in ((σ 13 3) - 1) 69 ∧ yR d 77 0 [some (.int (σ 25 ((σ 13 3) - 1).toNatClampNeg))] [] (sg σ 13 3 ((σ 13 3) - 1)) (qI (fun x1 σ1 => (((x1 = 0) → yR (d + 1) 41 5 [some (.ref 13), some (.int v1), some (.int v2), some (.int (σ 25 ((σ 13 3) - 1).toNatClampNeg))] [] σ1 (qV K)) ∧ (¬ (x1 = 0) → (vp_in (σ 25 ((σ 13 3) - 1).toNatClampNeg) 60 ∧ yR (d + 1) 41 5 [some (.ref 13), some (.int v1), some (.int v2), some (.int (σ 25 ((σ 13 3) - 1).toNatClampNeg))] [] (sg (sg σ1 17 (σ 25 ((σ 13 3) - 1).toNatClampNeg).toNatClampNeg (σ1 13 8)) 13 8 (σ 25 ((σ 13 3) - 1).toNatClampNeg)) (qV K)))))))))))))) from ⟨fun q1 => (h.1 q1), fun q1 => ⟨fun q2 => ((h.2 q1).1 q2), fun q2 => ⟨((h.2 q1).2 q2).1, ⟨fun q3 => (((h.2 q1).2 q2).2.1 q3), fun q3 => ⟨((h.2 q1).2 q2).1, (yR.mono (((h.2 q1).2 q2).2.2 q3) (qI_mono (fun x1 σ1 q4 => ⟨fun q5 => (yR.mask [true, true, true, false] (q4.1 q5)), fun q5 => ⟨(q4.2 q5).1, (yR.mask [true, true, true, false] (q4.2 q5).2)⟩⟩)))⟩⟩⟩⟩⟩)
theorem w_42_0 {d : Nat} {σ : yS} {v1 v2 : Int32} {K : Int32 → yS → Prop} (h : yR d 76 0 [some (.int (σ 13 3)), some (.int 69)] [] σ (qI (fun x1 σ1 => ((¬ (x1 = 0) → (vp_in (σ1 13 3) 69 ∧ K 1 (sg (sg (sg (sg σ1 25 (σ1 13 3).toNatClampNeg v1) 26 (σ1 13 3).toNatClampNeg v2) 13 3 ((σ1 13 3) + 1)) 13 5 1))) ∧ ((x1 = 0) → K 0 σ1))))) : yR (d + 1) 42 0 [some (.ref 13), some (.int v1), some (.int v2)] [] σ (qI K) := wp_42 31 [] (show yR d 76 0 [some (.int (σ 13 3)), some (.int 69)] [] σ (qI (fun x1 σ1 => ((¬ (x1 = 0) → (vp_in (σ1 13 3) 69 ∧ (vp_in (σ1 13 3) 69 ∧ (yBo 1 ∧ K 1 (sg (sg (sg (sg σ1 25 (σ1 13 3).toNatClampNeg v1) 26 (σ1 13 3).toNatClampNeg v2) 13 3 ((σ1 13 3) + 1)) 13 5 1))))) ∧ ((x1 = 0) → (yBo 0 ∧ K 0 σ1))))) from (yR.mono h (qI_mono (fun x1 σ1 q1 => ⟨fun q2 => ⟨(q1.1 q2).1, ⟨(q1.1 q2).1, ⟨yB1, (q1.1 q2).2⟩⟩⟩, fun q2 => ⟨yB0, (q1.2 q2)⟩⟩))))
theorem w_43_0 {d : Nat} {σ : yS} {K : Int32 → yS → Prop} (h : yR d 77 0 [some (.int (σ 13 6))] [] σ (qI (fun x1 σ1 => (yBo x1 ∧ K x1 σ1)))) : yR (d + 1) 43 0 [some (.ref 13)] [] σ (qI K) := wp_43 5 [] (show yR d 77 0 [some (.int (σ 13 6))] [] σ (qI (fun x1 σ1 => (yBo x1 ∧ K x1 σ1))) from (yR.mono h (qI_mono (fun x1 σ1 q1 => ⟨q1.1, q1.2⟩))))
theorem w_44_0 {d : Nat} {σ : yS} {v1 v2 : Int32} {K : Int32 → yS → Prop} (h : yR d 77 0 [some (.int (σ 13 6))] [] σ (qI (fun x1 σ1 => (((x1 = 0) → K (σ 13 6) σ1) ∧ (¬ (x1 = 0) → (vp_in (σ 13 6) 60 ∧ K (σ 13 6) (sg (sg (sg σ1 15 (σ 13 6).toNatClampNeg v1) 18 (σ 13 6).toNatClampNeg v2) 13 6 ((σ1 13 6) + 1)))))))) : yR (d + 1) 44 0 [some (.ref 13), some (.int v1), some (.int v2), none] [] σ (qI K) := wp_44 27 [] (show yR d 77 0 [some (.int (σ 13 6))] [] σ (qI (fun x1 σ1 => (((x1 = 0) → K (σ 13 6) σ1) ∧ (¬ (x1 = 0) → (vp_in (σ 13 6) 60 ∧ (vp_in (σ 13 6) 60 ∧ K (σ 13 6) (sg (sg (sg σ1 15 (σ 13 6).toNatClampNeg v1) 18 (σ 13 6).toNatClampNeg v2) 13 6 ((σ1 13 6) + 1)))))))) from (yR.mono h (qI_mono (fun x1 σ1 q1 => ⟨fun q2 => (q1.1 q2), fun q2 => ⟨(q1.2 q2).1, ⟨(q1.2 q2).1, (q1.2 q2).2⟩⟩⟩))))
theorem w_45_0_22 {d : Nat} {σ : yS} {v2 : Int32} {K : yS → Prop} (h : yR d 76 0 [some (.int (σ 14 10)), some (.int 8)] [] σ (qI (fun x1 σ1 => (((x1 = 0) → K σ1) ∧ (¬ (x1 = 0) → (vp_in (σ1 14 10) 8 ∧ K (sg σ1 22 (σ1 14 10).toNatClampNeg ((σ1 22 (σ1 14 10).toNatClampNeg) ||| (1 <<< (v2 &&& 31)))))))))) : yR (d + 1) 45 0 [some (.ref 13), some (.ref 22), some (.int v2)] [] σ (qV K) := wp_45 20 [] (show yR d 76 0 [some (.int (σ 14 10)), some (.int 8)] [] σ (qI (fun x1 σ1 => (((x1 = 0) → K σ1) ∧ (¬ (x1 = 0) → (vp_in (σ1 14 10) 8 ∧ (vp_in (σ1 14 10) 8 ∧ K (sg σ1 22 (σ1 14 10).toNatClampNeg ((σ1 22 (σ1 14 10).toNatClampNeg) ||| (1 <<< (v2 &&& 31)))))))))) from (yR.mono h (qI_mono (fun x1 σ1 q1 => ⟨fun q2 => (q1.1 q2), fun q2 => ⟨(q1.2 q2).1, ⟨(q1.2 q2).1, (q1.2 q2).2⟩⟩⟩))))
theorem w_45_0_23 {d : Nat} {σ : yS} {v2 : Int32} {K : yS → Prop} (h : yR d 76 0 [some (.int (σ 14 10)), some (.int 8)] [] σ (qI (fun x1 σ1 => (((x1 = 0) → K σ1) ∧ (¬ (x1 = 0) → (vp_in (σ1 14 10) 8 ∧ K (sg σ1 23 (σ1 14 10).toNatClampNeg ((σ1 23 (σ1 14 10).toNatClampNeg) ||| (1 <<< (v2 &&& 31)))))))))) : yR (d + 1) 45 0 [some (.ref 13), some (.ref 23), some (.int v2)] [] σ (qV K) := wp_45 20 [] (show yR d 76 0 [some (.int (σ 14 10)), some (.int 8)] [] σ (qI (fun x1 σ1 => (((x1 = 0) → K σ1) ∧ (¬ (x1 = 0) → (vp_in (σ1 14 10) 8 ∧ (vp_in (σ1 14 10) 8 ∧ K (sg σ1 23 (σ1 14 10).toNatClampNeg ((σ1 23 (σ1 14 10).toNatClampNeg) ||| (1 <<< (v2 &&& 31)))))))))) from (yR.mono h (qI_mono (fun x1 σ1 q1 => ⟨fun q2 => (q1.1 q2), fun q2 => ⟨(q1.2 q2).1, ⟨(q1.2 q2).1, (q1.2 q2).2⟩⟩⟩))))
theorem w_46_0 {d : Nat} {σ : yS} {v0 : Int32} {K : Int32 → yS → Prop} (h : (((v0 < 48) → K 0 σ) ∧ (¬ (v0 < 48) → (((57 < v0) → K 0 σ) ∧ (¬ (57 < v0) → K 1 σ))))) : yR d 46 0 [some (.int v0)] [] σ (qI K) := wp_46 10 [] (show (((v0 < 48) → (yBo 0 ∧ K 0 σ)) ∧ (¬ (v0 < 48) → (((57 < v0) → (yBo 0 ∧ K 0 σ)) ∧ (¬ (57 < v0) → (yBo 1 ∧ K 1 σ))))) from ⟨fun q1 => ⟨yB0, (h.1 q1)⟩, fun q1 => ⟨fun q2 => ⟨yB0, ((h.2 q1).1 q2)⟩, fun q2 => ⟨yB1, ((h.2 q1).2 q2)⟩⟩⟩)
theorem w_48_0_29_2 {d : Nat} {σ : yS} {K : yS → Prop} (h : yR d 49 0 [some (.ref 29), some (.ref 2)] [] σ (qV (fun σ1 => K (sgA σ1 39 (va_cpy (σ1 12) (σ1 39) 0 0 4))))) : yR (d + 1) 48 0 [some (.ref 29), some (.ref 2)] [] σ (qV K) := wp_48 13 [] (show yR d 49 0 [some (.ref 29), some (.ref 2)] [] σ (qV (fun σ1 => (yCp 0 0 4 4 4 ∧ K (sgA σ1 39 (va_cpy (σ1 12) (σ1 39) 0 0 4))))) from (yR.mono h (qV_mono (fun σ1 q1 => ⟨(by unfold yCp; decide), q1⟩))))
theorem w_48_0_2_29 {d : Nat} {σ : yS} {K : yS → Prop} (h : yR d 49 0 [some (.ref 2), some (.ref 29)] [] σ (qV (fun σ1 => K (sgA σ1 12 (va_cpy (σ1 39) (σ1 12) 0 0 4))))) : yR (d + 1) 48 0 [some (.ref 2), some (.ref 29)] [] σ (qV K) := wp_48 13 [] (show yR d 49 0 [some (.ref 2), some (.ref 29)] [] σ (qV (fun σ1 => (yCp 0 0 4 4 4 ∧ K (sgA σ1 12 (va_cpy (σ1 39) (σ1 12) 0 0 4))))) from (yR.mono h (qV_mono (fun σ1 q1 => ⟨(by unfold yCp; decide), q1⟩))))
theorem w_48_0_40_2 {d : Nat} {σ : yS} {K : yS → Prop} (h : yR d 49 0 [some (.ref 40), some (.ref 2)] [] σ (qV (fun σ1 => K (sgA σ1 50 (va_cpy (σ1 12) (σ1 50) 0 0 4))))) : yR (d + 1) 48 0 [some (.ref 40), some (.ref 2)] [] σ (qV K) := wp_48 13 [] (show yR d 49 0 [some (.ref 40), some (.ref 2)] [] σ (qV (fun σ1 => (yCp 0 0 4 4 4 ∧ K (sgA σ1 50 (va_cpy (σ1 12) (σ1 50) 0 0 4))))) from (yR.mono h (qV_mono (fun σ1 q1 => ⟨(by unfold yCp; decide), q1⟩))))
theorem w_48_0_2_40 {d : Nat} {σ : yS} {K : yS → Prop} (h : yR d 49 0 [some (.ref 2), some (.ref 40)] [] σ (qV (fun σ1 => K (sgA σ1 12 (va_cpy (σ1 50) (σ1 12) 0 0 4))))) : yR (d + 1) 48 0 [some (.ref 2), some (.ref 40)] [] σ (qV K) := wp_48 13 [] (show yR d 49 0 [some (.ref 2), some (.ref 40)] [] σ (qV (fun σ1 => (yCp 0 0 4 4 4 ∧ K (sgA σ1 12 (va_cpy (σ1 50) (σ1 12) 0 0 4))))) from (yR.mono h (qV_mono (fun σ1 q1 => ⟨(by unfold yCp; decide), q1⟩))))
theorem w_48_0_51_2 {d : Nat} {σ : yS} {K : yS → Prop} (h : yR d 49 0 [some (.ref 51), some (.ref 2)] [] σ (qV (fun σ1 => K (sgA σ1 61 (va_cpy (σ1 12) (σ1 61) 0 0 4))))) : yR (d + 1) 48 0 [some (.ref 51), some (.ref 2)] [] σ (qV K) := wp_48 13 [] (show yR d 49 0 [some (.ref 51), some (.ref 2)] [] σ (qV (fun σ1 => (yCp 0 0 4 4 4 ∧ K (sgA σ1 61 (va_cpy (σ1 12) (σ1 61) 0 0 4))))) from (yR.mono h (qV_mono (fun σ1 q1 => ⟨(by unfold yCp; decide), q1⟩))))
theorem w_48_0_2_51 {d : Nat} {σ : yS} {K : yS → Prop} (h : yR d 49 0 [some (.ref 2), some (.ref 51)] [] σ (qV (fun σ1 => K (sgA σ1 12 (va_cpy (σ1 61) (σ1 12) 0 0 4))))) : yR (d + 1) 48 0 [some (.ref 2), some (.ref 51)] [] σ (qV K) := wp_48 13 [] (show yR d 49 0 [some (.ref 2), some (.ref 51)] [] σ (qV (fun σ1 => (yCp 0 0 4 4 4 ∧ K (sgA σ1 12 (va_cpy (σ1 61) (σ1 12) 0 0 4))))) from (yR.mono h (qV_mono (fun σ1 q1 => ⟨(by unfold yCp; decide), q1⟩))))
theorem w_48_0_62_2 {d : Nat} {σ : yS} {K : yS → Prop} (h : yR d 49 0 [some (.ref 62), some (.ref 2)] [] σ (qV (fun σ1 => K (sgA σ1 72 (va_cpy (σ1 12) (σ1 72) 0 0 4))))) : yR (d + 1) 48 0 [some (.ref 62), some (.ref 2)] [] σ (qV K) := wp_48 13 [] (show yR d 49 0 [some (.ref 62), some (.ref 2)] [] σ (qV (fun σ1 => (yCp 0 0 4 4 4 ∧ K (sgA σ1 72 (va_cpy (σ1 12) (σ1 72) 0 0 4))))) from (yR.mono h (qV_mono (fun σ1 q1 => ⟨(by unfold yCp; decide), q1⟩))))
theorem w_48_0_2_62 {d : Nat} {σ : yS} {K : yS → Prop} (h : yR d 49 0 [some (.ref 2), some (.ref 62)] [] σ (qV (fun σ1 => K (sgA σ1 12 (va_cpy (σ1 72) (σ1 12) 0 0 4))))) : yR (d + 1) 48 0 [some (.ref 2), some (.ref 62)] [] σ (qV K) := wp_48 13 [] (show yR d 49 0 [some (.ref 2), some (.ref 62)] [] σ (qV (fun σ1 => (yCp 0 0 4 4 4 ∧ K (sgA σ1 12 (va_cpy (σ1 72) (σ1 12) 0 0 4))))) from (yR.mono h (qV_mono (fun σ1 q1 => ⟨(by unfold yCp; decide), q1⟩))))
theorem w_48_0_73_2 {d : Nat} {σ : yS} {K : yS → Prop} (h : yR d 49 0 [some (.ref 73), some (.ref 2)] [] σ (qV (fun σ1 => K (sgA σ1 83 (va_cpy (σ1 12) (σ1 83) 0 0 4))))) : yR (d + 1) 48 0 [some (.ref 73), some (.ref 2)] [] σ (qV K) := wp_48 13 [] (show yR d 49 0 [some (.ref 73), some (.ref 2)] [] σ (qV (fun σ1 => (yCp 0 0 4 4 4 ∧ K (sgA σ1 83 (va_cpy (σ1 12) (σ1 83) 0 0 4))))) from (yR.mono h (qV_mono (fun σ1 q1 => ⟨(by unfold yCp; decide), q1⟩))))
theorem w_48_0_2_73 {d : Nat} {σ : yS} {K : yS → Prop} (h : yR d 49 0 [some (.ref 2), some (.ref 73)] [] σ (qV (fun σ1 => K (sgA σ1 12 (va_cpy (σ1 83) (σ1 12) 0 0 4))))) : yR (d + 1) 48 0 [some (.ref 2), some (.ref 73)] [] σ (qV K) := wp_48 13 [] (show yR d 49 0 [some (.ref 2), some (.ref 73)] [] σ (qV (fun σ1 => (yCp 0 0 4 4 4 ∧ K (sgA σ1 12 (va_cpy (σ1 83) (σ1 12) 0 0 4))))) from (yR.mono h (qV_mono (fun σ1 q1 => ⟨(by unfold yCp; decide), q1⟩))))
theorem w_49_0_29_2 {d : Nat} {σ : yS} {K : yS → Prop} (h : K (sg (sgA (sgA (sgA (sgA (sgA (sgA (sgA (sgA (sgA σ 30 (va_cpy (σ 3) (σ 30) 0 0 60)) 31 (va_cpy (σ 4) (σ 31) 0 0 60)) 32 (va_cpy (σ 5) (σ 32) 0 0 60)) 33 (va_cpy (σ 6) (σ 33) 0 0 60)) 34 (va_cpy (σ 7) (σ 34) 0 0 8)) 35 (va_cpy (σ 8) (σ 35) 0 0 8)) 36 (va_cpy (σ 9) (σ 36) 0 0 8)) 37 (va_cpy (σ 10) (σ 37) 0 0 8)) 38 (va_cpy (σ 11) (σ 38) 0 0 8)) 29 10 (σ 2 10))) : yR (d + 1) 49 0 [some (.ref 29), some (.ref 2)] [] σ (qV K) := wp_49 78 [] (show (yCp 0 0 60 60 60 ∧ (yCp 0 0 60 60 60 ∧ (yCp 0 0 60 60 60 ∧ (yCp 0 0 60 60 60 ∧ (yCp 0 0 8 8 8 ∧ (yCp 0 0 8 8 8 ∧ (yCp 0 0 8 8 8 ∧ (yCp 0 0 8 8 8 ∧ (yCp 0 0 8 8 8 ∧ K (sg (sgA (sgA (sgA (sgA (sgA (sgA (sgA (sgA (sgA σ 30 (va_cpy (σ 3) (σ 30) 0 0 60)) 31 (va_cpy (σ 4) (σ 31) 0 0 60)) 32 (va_cpy (σ 5) (σ 32) 0 0 60)) 33 (va_cpy (σ 6) (σ 33) 0 0 60)) 34 (va_cpy (σ 7) (σ 34) 0 0 8)) 35 (va_cpy (σ 8) (σ 35) 0 0 8)) 36 (va_cpy (σ 9) (σ 36) 0 0 8)) 37 (va_cpy (σ 10) (σ 37) 0 0 8)) 38 (va_cpy (σ 11) (σ 38) 0 0 8)) 29 10 (σ 2 10))))))))))) from ⟨(by unfold yCp; decide), ⟨(by unfold yCp; decide), ⟨(by unfold yCp; decide), ⟨(by unfold yCp; decide), ⟨(by unfold yCp; decide), ⟨(by unfold yCp; decide), ⟨(by unfold yCp; decide), ⟨(by unfold yCp; decide), ⟨(by unfold yCp; decide), h⟩⟩⟩⟩⟩⟩⟩⟩⟩)
theorem w_49_0_2_29 {d : Nat} {σ : yS} {K : yS → Prop} (h : K (sg (sgA (sgA (sgA (sgA (sgA (sgA (sgA (sgA (sgA σ 3 (va_cpy (σ 30) (σ 3) 0 0 60)) 4 (va_cpy (σ 31) (σ 4) 0 0 60)) 5 (va_cpy (σ 32) (σ 5) 0 0 60)) 6 (va_cpy (σ 33) (σ 6) 0 0 60)) 7 (va_cpy (σ 34) (σ 7) 0 0 8)) 8 (va_cpy (σ 35) (σ 8) 0 0 8)) 9 (va_cpy (σ 36) (σ 9) 0 0 8)) 10 (va_cpy (σ 37) (σ 10) 0 0 8)) 11 (va_cpy (σ 38) (σ 11) 0 0 8)) 2 10 (σ 29 10))) : yR (d + 1) 49 0 [some (.ref 2), some (.ref 29)] [] σ (qV K) := wp_49 78 [] (show (yCp 0 0 60 60 60 ∧ (yCp 0 0 60 60 60 ∧ (yCp 0 0 60 60 60 ∧ (yCp 0 0 60 60 60 ∧ (yCp 0 0 8 8 8 ∧ (yCp 0 0 8 8 8 ∧ (yCp 0 0 8 8 8 ∧ (yCp 0 0 8 8 8 ∧ (yCp 0 0 8 8 8 ∧ K (sg (sgA (sgA (sgA (sgA (sgA (sgA (sgA (sgA (sgA σ 3 (va_cpy (σ 30) (σ 3) 0 0 60)) 4 (va_cpy (σ 31) (σ 4) 0 0 60)) 5 (va_cpy (σ 32) (σ 5) 0 0 60)) 6 (va_cpy (σ 33) (σ 6) 0 0 60)) 7 (va_cpy (σ 34) (σ 7) 0 0 8)) 8 (va_cpy (σ 35) (σ 8) 0 0 8)) 9 (va_cpy (σ 36) (σ 9) 0 0 8)) 10 (va_cpy (σ 37) (σ 10) 0 0 8)) 11 (va_cpy (σ 38) (σ 11) 0 0 8)) 2 10 (σ 29 10))))))))))) from ⟨(by unfold yCp; decide), ⟨(by unfold yCp; decide), ⟨(by unfold yCp; decide), ⟨(by unfold yCp; decide), ⟨(by unfold yCp; decide), ⟨(by unfold yCp; decide), ⟨(by unfold yCp; decide), ⟨(by unfold yCp; decide), ⟨(by unfold yCp; decide), h⟩⟩⟩⟩⟩⟩⟩⟩⟩)
theorem w_49_0_40_2 {d : Nat} {σ : yS} {K : yS → Prop} (h : K (sg (sgA (sgA (sgA (sgA (sgA (sgA (sgA (sgA (sgA σ 41 (va_cpy (σ 3) (σ 41) 0 0 60)) 42 (va_cpy (σ 4) (σ 42) 0 0 60)) 43 (va_cpy (σ 5) (σ 43) 0 0 60)) 44 (va_cpy (σ 6) (σ 44) 0 0 60)) 45 (va_cpy (σ 7) (σ 45) 0 0 8)) 46 (va_cpy (σ 8) (σ 46) 0 0 8)) 47 (va_cpy (σ 9) (σ 47) 0 0 8)) 48 (va_cpy (σ 10) (σ 48) 0 0 8)) 49 (va_cpy (σ 11) (σ 49) 0 0 8)) 40 10 (σ 2 10))) : yR (d + 1) 49 0 [some (.ref 40), some (.ref 2)] [] σ (qV K) := wp_49 78 [] (show (yCp 0 0 60 60 60 ∧ (yCp 0 0 60 60 60 ∧ (yCp 0 0 60 60 60 ∧ (yCp 0 0 60 60 60 ∧ (yCp 0 0 8 8 8 ∧ (yCp 0 0 8 8 8 ∧ (yCp 0 0 8 8 8 ∧ (yCp 0 0 8 8 8 ∧ (yCp 0 0 8 8 8 ∧ K (sg (sgA (sgA (sgA (sgA (sgA (sgA (sgA (sgA (sgA σ 41 (va_cpy (σ 3) (σ 41) 0 0 60)) 42 (va_cpy (σ 4) (σ 42) 0 0 60)) 43 (va_cpy (σ 5) (σ 43) 0 0 60)) 44 (va_cpy (σ 6) (σ 44) 0 0 60)) 45 (va_cpy (σ 7) (σ 45) 0 0 8)) 46 (va_cpy (σ 8) (σ 46) 0 0 8)) 47 (va_cpy (σ 9) (σ 47) 0 0 8)) 48 (va_cpy (σ 10) (σ 48) 0 0 8)) 49 (va_cpy (σ 11) (σ 49) 0 0 8)) 40 10 (σ 2 10))))))))))) from ⟨(by unfold yCp; decide), ⟨(by unfold yCp; decide), ⟨(by unfold yCp; decide), ⟨(by unfold yCp; decide), ⟨(by unfold yCp; decide), ⟨(by unfold yCp; decide), ⟨(by unfold yCp; decide), ⟨(by unfold yCp; decide), ⟨(by unfold yCp; decide), h⟩⟩⟩⟩⟩⟩⟩⟩⟩)
theorem w_49_0_2_40 {d : Nat} {σ : yS} {K : yS → Prop} (h : K (sg (sgA (sgA (sgA (sgA (sgA (sgA (sgA (sgA (sgA σ 3 (va_cpy (σ 41) (σ 3) 0 0 60)) 4 (va_cpy (σ 42) (σ 4) 0 0 60)) 5 (va_cpy (σ 43) (σ 5) 0 0 60)) 6 (va_cpy (σ 44) (σ 6) 0 0 60)) 7 (va_cpy (σ 45) (σ 7) 0 0 8)) 8 (va_cpy (σ 46) (σ 8) 0 0 8)) 9 (va_cpy (σ 47) (σ 9) 0 0 8)) 10 (va_cpy (σ 48) (σ 10) 0 0 8)) 11 (va_cpy (σ 49) (σ 11) 0 0 8)) 2 10 (σ 40 10))) : yR (d + 1) 49 0 [some (.ref 2), some (.ref 40)] [] σ (qV K) := wp_49 78 [] (show (yCp 0 0 60 60 60 ∧ (yCp 0 0 60 60 60 ∧ (yCp 0 0 60 60 60 ∧ (yCp 0 0 60 60 60 ∧ (yCp 0 0 8 8 8 ∧ (yCp 0 0 8 8 8 ∧ (yCp 0 0 8 8 8 ∧ (yCp 0 0 8 8 8 ∧ (yCp 0 0 8 8 8 ∧ K (sg (sgA (sgA (sgA (sgA (sgA (sgA (sgA (sgA (sgA σ 3 (va_cpy (σ 41) (σ 3) 0 0 60)) 4 (va_cpy (σ 42) (σ 4) 0 0 60)) 5 (va_cpy (σ 43) (σ 5) 0 0 60)) 6 (va_cpy (σ 44) (σ 6) 0 0 60)) 7 (va_cpy (σ 45) (σ 7) 0 0 8)) 8 (va_cpy (σ 46) (σ 8) 0 0 8)) 9 (va_cpy (σ 47) (σ 9) 0 0 8)) 10 (va_cpy (σ 48) (σ 10) 0 0 8)) 11 (va_cpy (σ 49) (σ 11) 0 0 8)) 2 10 (σ 40 10))))))))))) from ⟨(by unfold yCp; decide), ⟨(by unfold yCp; decide), ⟨(by unfold yCp; decide), ⟨(by unfold yCp; decide), ⟨(by unfold yCp; decide), ⟨(by unfold yCp; decide), ⟨(by unfold yCp; decide), ⟨(by unfold yCp; decide), ⟨(by unfold yCp; decide), h⟩⟩⟩⟩⟩⟩⟩⟩⟩)
theorem w_49_0_51_2 {d : Nat} {σ : yS} {K : yS → Prop} (h : K (sg (sgA (sgA (sgA (sgA (sgA (sgA (sgA (sgA (sgA σ 52 (va_cpy (σ 3) (σ 52) 0 0 60)) 53 (va_cpy (σ 4) (σ 53) 0 0 60)) 54 (va_cpy (σ 5) (σ 54) 0 0 60)) 55 (va_cpy (σ 6) (σ 55) 0 0 60)) 56 (va_cpy (σ 7) (σ 56) 0 0 8)) 57 (va_cpy (σ 8) (σ 57) 0 0 8)) 58 (va_cpy (σ 9) (σ 58) 0 0 8)) 59 (va_cpy (σ 10) (σ 59) 0 0 8)) 60 (va_cpy (σ 11) (σ 60) 0 0 8)) 51 10 (σ 2 10))) : yR (d + 1) 49 0 [some (.ref 51), some (.ref 2)] [] σ (qV K) := wp_49 78 [] (show (yCp 0 0 60 60 60 ∧ (yCp 0 0 60 60 60 ∧ (yCp 0 0 60 60 60 ∧ (yCp 0 0 60 60 60 ∧ (yCp 0 0 8 8 8 ∧ (yCp 0 0 8 8 8 ∧ (yCp 0 0 8 8 8 ∧ (yCp 0 0 8 8 8 ∧ (yCp 0 0 8 8 8 ∧ K (sg (sgA (sgA (sgA (sgA (sgA (sgA (sgA (sgA (sgA σ 52 (va_cpy (σ 3) (σ 52) 0 0 60)) 53 (va_cpy (σ 4) (σ 53) 0 0 60)) 54 (va_cpy (σ 5) (σ 54) 0 0 60)) 55 (va_cpy (σ 6) (σ 55) 0 0 60)) 56 (va_cpy (σ 7) (σ 56) 0 0 8)) 57 (va_cpy (σ 8) (σ 57) 0 0 8)) 58 (va_cpy (σ 9) (σ 58) 0 0 8)) 59 (va_cpy (σ 10) (σ 59) 0 0 8)) 60 (va_cpy (σ 11) (σ 60) 0 0 8)) 51 10 (σ 2 10))))))))))) from ⟨(by unfold yCp; decide), ⟨(by unfold yCp; decide), ⟨(by unfold yCp; decide), ⟨(by unfold yCp; decide), ⟨(by unfold yCp; decide), ⟨(by unfold yCp; decide), ⟨(by unfold yCp; decide), ⟨(by unfold yCp; decide), ⟨(by unfold yCp; decide), h⟩⟩⟩⟩⟩⟩⟩⟩⟩)
theorem w_49_0_2_51 {d : Nat} {σ : yS} {K : yS → Prop} (h : K (sg (sgA (sgA (sgA (sgA (sgA (sgA (sgA (sgA (sgA σ 3 (va_cpy (σ 52) (σ 3) 0 0 60)) 4 (va_cpy (σ 53) (σ 4) 0 0 60)) 5 (va_cpy (σ 54) (σ 5) 0 0 60)) 6 (va_cpy (σ 55) (σ 6) 0 0 60)) 7 (va_cpy (σ 56) (σ 7) 0 0 8)) 8 (va_cpy (σ 57) (σ 8) 0 0 8)) 9 (va_cpy (σ 58) (σ 9) 0 0 8)) 10 (va_cpy (σ 59) (σ 10) 0 0 8)) 11 (va_cpy (σ 60) (σ 11) 0 0 8)) 2 10 (σ 51 10))) : yR (d + 1) 49 0 [some (.ref 2), some (.ref 51)] [] σ (qV K) := wp_49 78 [] (show (yCp 0 0 60 60 60 ∧ (yCp 0 0 60 60 60 ∧ (yCp 0 0 60 60 60 ∧ (yCp 0 0 60 60 60 ∧ (yCp 0 0 8 8 8 ∧ (yCp 0 0 8 8 8 ∧ (yCp 0 0 8 8 8 ∧ (yCp 0 0 8 8 8 ∧ (yCp 0 0 8 8 8 ∧ K (sg (sgA (sgA (sgA (sgA (sgA (sgA (sgA (sgA (sgA σ 3 (va_cpy (σ 52) (σ 3) 0 0 60)) 4 (va_cpy (σ 53) (σ 4) 0 0 60)) 5 (va_cpy (σ 54) (σ 5) 0 0 60)) 6 (va_cpy (σ 55) (σ 6) 0 0 60)) 7 (va_cpy (σ 56) (σ 7) 0 0 8)) 8 (va_cpy (σ 57) (σ 8) 0 0 8)) 9 (va_cpy (σ 58) (σ 9) 0 0 8)) 10 (va_cpy (σ 59) (σ 10) 0 0 8)) 11 (va_cpy (σ 60) (σ 11) 0 0 8)) 2 10 (σ 51 10))))))))))) from ⟨(by unfold yCp; decide), ⟨(by unfold yCp; decide), ⟨(by unfold yCp; decide), ⟨(by unfold yCp; decide), ⟨(by unfold yCp; decide), ⟨(by unfold yCp; decide), ⟨(by unfold yCp; decide), ⟨(by unfold yCp; decide), ⟨(by unfold yCp; decide), h⟩⟩⟩⟩⟩⟩⟩⟩⟩)
theorem w_49_0_62_2 {d : Nat} {σ : yS} {K : yS → Prop} (h : K (sg (sgA (sgA (sgA (sgA (sgA (sgA (sgA (sgA (sgA σ 63 (va_cpy (σ 3) (σ 63) 0 0 60)) 64 (va_cpy (σ 4) (σ 64) 0 0 60)) 65 (va_cpy (σ 5) (σ 65) 0 0 60)) 66 (va_cpy (σ 6) (σ 66) 0 0 60)) 67 (va_cpy (σ 7) (σ 67) 0 0 8)) 68 (va_cpy (σ 8) (σ 68) 0 0 8)) 69 (va_cpy (σ 9) (σ 69) 0 0 8)) 70 (va_cpy (σ 10) (σ 70) 0 0 8)) 71 (va_cpy (σ 11) (σ 71) 0 0 8)) 62 10 (σ 2 10))) : yR (d + 1) 49 0 [some (.ref 62), some (.ref 2)] [] σ (qV K) := wp_49 78 [] (show (yCp 0 0 60 60 60 ∧ (yCp 0 0 60 60 60 ∧ (yCp 0 0 60 60 60 ∧ (yCp 0 0 60 60 60 ∧ (yCp 0 0 8 8 8 ∧ (yCp 0 0 8 8 8 ∧ (yCp 0 0 8 8 8 ∧ (yCp 0 0 8 8 8 ∧ (yCp 0 0 8 8 8 ∧ K (sg (sgA (sgA (sgA (sgA (sgA (sgA (sgA (sgA (sgA σ 63 (va_cpy (σ 3) (σ 63) 0 0 60)) 64 (va_cpy (σ 4) (σ 64) 0 0 60)) 65 (va_cpy (σ 5) (σ 65) 0 0 60)) 66 (va_cpy (σ 6) (σ 66) 0 0 60)) 67 (va_cpy (σ 7) (σ 67) 0 0 8)) 68 (va_cpy (σ 8) (σ 68) 0 0 8)) 69 (va_cpy (σ 9) (σ 69) 0 0 8)) 70 (va_cpy (σ 10) (σ 70) 0 0 8)) 71 (va_cpy (σ 11) (σ 71) 0 0 8)) 62 10 (σ 2 10))))))))))) from ⟨(by unfold yCp; decide), ⟨(by unfold yCp; decide), ⟨(by unfold yCp; decide), ⟨(by unfold yCp; decide), ⟨(by unfold yCp; decide), ⟨(by unfold yCp; decide), ⟨(by unfold yCp; decide), ⟨(by unfold yCp; decide), ⟨(by unfold yCp; decide), h⟩⟩⟩⟩⟩⟩⟩⟩⟩)
theorem w_49_0_2_62 {d : Nat} {σ : yS} {K : yS → Prop} (h : K (sg (sgA (sgA (sgA (sgA (sgA (sgA (sgA (sgA (sgA σ 3 (va_cpy (σ 63) (σ 3) 0 0 60)) 4 (va_cpy (σ 64) (σ 4) 0 0 60)) 5 (va_cpy (σ 65) (σ 5) 0 0 60)) 6 (va_cpy (σ 66) (σ 6) 0 0 60)) 7 (va_cpy (σ 67) (σ 7) 0 0 8)) 8 (va_cpy (σ 68) (σ 8) 0 0 8)) 9 (va_cpy (σ 69) (σ 9) 0 0 8)) 10 (va_cpy (σ 70) (σ 10) 0 0 8)) 11 (va_cpy (σ 71) (σ 11) 0 0 8)) 2 10 (σ 62 10))) : yR (d + 1) 49 0 [some (.ref 2), some (.ref 62)] [] σ (qV K) := wp_49 78 [] (show (yCp 0 0 60 60 60 ∧ (yCp 0 0 60 60 60 ∧ (yCp 0 0 60 60 60 ∧ (yCp 0 0 60 60 60 ∧ (yCp 0 0 8 8 8 ∧ (yCp 0 0 8 8 8 ∧ (yCp 0 0 8 8 8 ∧ (yCp 0 0 8 8 8 ∧ (yCp 0 0 8 8 8 ∧ K (sg (sgA (sgA (sgA (sgA (sgA (sgA (sgA (sgA (sgA σ 3 (va_cpy (σ 63) (σ 3) 0 0 60)) 4 (va_cpy (σ 64) (σ 4) 0 0 60)) 5 (va_cpy (σ 65) (σ 5) 0 0 60)) 6 (va_cpy (σ 66) (σ 6) 0 0 60)) 7 (va_cpy (σ 67) (σ 7) 0 0 8)) 8 (va_cpy (σ 68) (σ 8) 0 0 8)) 9 (va_cpy (σ 69) (σ 9) 0 0 8)) 10 (va_cpy (σ 70) (σ 10) 0 0 8)) 11 (va_cpy (σ 71) (σ 11) 0 0 8)) 2 10 (σ 62 10))))))))))) from ⟨(by unfold yCp; decide), ⟨(by unfold yCp; decide), ⟨(by unfold yCp; decide), ⟨(by unfold yCp; decide), ⟨(by unfold yCp; decide), ⟨(by unfold yCp; decide), ⟨(by unfold yCp; decide), ⟨(by unfold yCp; decide), ⟨(by unfold yCp; decide), h⟩⟩⟩⟩⟩⟩⟩⟩⟩)
theorem w_49_0_73_2 {d : Nat} {σ : yS} {K : yS → Prop} (h : K (sg (sgA (sgA (sgA (sgA (sgA (sgA (sgA (sgA (sgA σ 74 (va_cpy (σ 3) (σ 74) 0 0 60)) 75 (va_cpy (σ 4) (σ 75) 0 0 60)) 76 (va_cpy (σ 5) (σ 76) 0 0 60)) 77 (va_cpy (σ 6) (σ 77) 0 0 60)) 78 (va_cpy (σ 7) (σ 78) 0 0 8)) 79 (va_cpy (σ 8) (σ 79) 0 0 8)) 80 (va_cpy (σ 9) (σ 80) 0 0 8)) 81 (va_cpy (σ 10) (σ 81) 0 0 8)) 82 (va_cpy (σ 11) (σ 82) 0 0 8)) 73 10 (σ 2 10))) : yR (d + 1) 49 0 [some (.ref 73), some (.ref 2)] [] σ (qV K) := wp_49 78 [] (show (yCp 0 0 60 60 60 ∧ (yCp 0 0 60 60 60 ∧ (yCp 0 0 60 60 60 ∧ (yCp 0 0 60 60 60 ∧ (yCp 0 0 8 8 8 ∧ (yCp 0 0 8 8 8 ∧ (yCp 0 0 8 8 8 ∧ (yCp 0 0 8 8 8 ∧ (yCp 0 0 8 8 8 ∧ K (sg (sgA (sgA (sgA (sgA (sgA (sgA (sgA (sgA (sgA σ 74 (va_cpy (σ 3) (σ 74) 0 0 60)) 75 (va_cpy (σ 4) (σ 75) 0 0 60)) 76 (va_cpy (σ 5) (σ 76) 0 0 60)) 77 (va_cpy (σ 6) (σ 77) 0 0 60)) 78 (va_cpy (σ 7) (σ 78) 0 0 8)) 79 (va_cpy (σ 8) (σ 79) 0 0 8)) 80 (va_cpy (σ 9) (σ 80) 0 0 8)) 81 (va_cpy (σ 10) (σ 81) 0 0 8)) 82 (va_cpy (σ 11) (σ 82) 0 0 8)) 73 10 (σ 2 10))))))))))) from ⟨(by unfold yCp; decide), ⟨(by unfold yCp; decide), ⟨(by unfold yCp; decide), ⟨(by unfold yCp; decide), ⟨(by unfold yCp; decide), ⟨(by unfold yCp; decide), ⟨(by unfold yCp; decide), ⟨(by unfold yCp; decide), ⟨(by unfold yCp; decide), h⟩⟩⟩⟩⟩⟩⟩⟩⟩)
theorem w_49_0_2_73 {d : Nat} {σ : yS} {K : yS → Prop} (h : K (sg (sgA (sgA (sgA (sgA (sgA (sgA (sgA (sgA (sgA σ 3 (va_cpy (σ 74) (σ 3) 0 0 60)) 4 (va_cpy (σ 75) (σ 4) 0 0 60)) 5 (va_cpy (σ 76) (σ 5) 0 0 60)) 6 (va_cpy (σ 77) (σ 6) 0 0 60)) 7 (va_cpy (σ 78) (σ 7) 0 0 8)) 8 (va_cpy (σ 79) (σ 8) 0 0 8)) 9 (va_cpy (σ 80) (σ 9) 0 0 8)) 10 (va_cpy (σ 81) (σ 10) 0 0 8)) 11 (va_cpy (σ 82) (σ 11) 0 0 8)) 2 10 (σ 73 10))) : yR (d + 1) 49 0 [some (.ref 2), some (.ref 73)] [] σ (qV K) := wp_49 78 [] (show (yCp 0 0 60 60 60 ∧ (yCp 0 0 60 60 60 ∧ (yCp 0 0 60 60 60 ∧ (yCp 0 0 60 60 60 ∧ (yCp 0 0 8 8 8 ∧ (yCp 0 0 8 8 8 ∧ (yCp 0 0 8 8 8 ∧ (yCp 0 0 8 8 8 ∧ (yCp 0 0 8 8 8 ∧ K (sg (sgA (sgA (sgA (sgA (sgA (sgA (sgA (sgA (sgA σ 3 (va_cpy (σ 74) (σ 3) 0 0 60)) 4 (va_cpy (σ 75) (σ 4) 0 0 60)) 5 (va_cpy (σ 76) (σ 5) 0 0 60)) 6 (va_cpy (σ 77) (σ 6) 0 0 60)) 7 (va_cpy (σ 78) (σ 7) 0 0 8)) 8 (va_cpy (σ 79) (σ 8) 0 0 8)) 9 (va_cpy (σ 80) (σ 9) 0 0 8)) 10 (va_cpy (σ 81) (σ 10) 0 0 8)) 11 (va_cpy (σ 82) (σ 11) 0 0 8)) 2 10 (σ 73 10))))))))))) from ⟨(by unfold yCp; decide), ⟨(by unfold yCp; decide), ⟨(by unfold yCp; decide), ⟨(by unfold yCp; decide), ⟨(by unfold yCp; decide), ⟨(by unfold yCp; decide), ⟨(by unfold yCp; decide), ⟨(by unfold yCp; decide), ⟨(by unfold yCp; decide), h⟩⟩⟩⟩⟩⟩⟩⟩⟩)
theorem w_49_0_2_14 {d : Nat} {σ : yS} {K : yS → Prop} (h : K (sg (sgA (sgA (sgA (sgA (sgA (sgA (sgA (sgA (sgA σ 3 (va_cpy (σ 15) (σ 3) 0 0 60)) 4 (va_cpy (σ 16) (σ 4) 0 0 60)) 5 (va_cpy (σ 17) (σ 5) 0 0 60)) 6 (va_cpy (σ 18) (σ 6) 0 0 60)) 7 (va_cpy (σ 19) (σ 7) 0 0 8)) 8 (va_cpy (σ 20) (σ 8) 0 0 8)) 9 (va_cpy (σ 21) (σ 9) 0 0 8)) 10 (va_cpy (σ 22) (σ 10) 0 0 8)) 11 (va_cpy (σ 23) (σ 11) 0 0 8)) 2 10 (σ 14 10))) : yR (d + 1) 49 0 [some (.ref 2), some (.ref 14)] [] σ (qV K) := wp_49 78 [] (show (yCp 0 0 60 60 60 ∧ (yCp 0 0 60 60 60 ∧ (yCp 0 0 60 60 60 ∧ (yCp 0 0 60 60 60 ∧ (yCp 0 0 8 8 8 ∧ (yCp 0 0 8 8 8 ∧ (yCp 0 0 8 8 8 ∧ (yCp 0 0 8 8 8 ∧ (yCp 0 0 8 8 8 ∧ K (sg (sgA (sgA (sgA (sgA (sgA (sgA (sgA (sgA (sgA σ 3 (va_cpy (σ 15) (σ 3) 0 0 60)) 4 (va_cpy (σ 16) (σ 4) 0 0 60)) 5 (va_cpy (σ 17) (σ 5) 0 0 60)) 6 (va_cpy (σ 18) (σ 6) 0 0 60)) 7 (va_cpy (σ 19) (σ 7) 0 0 8)) 8 (va_cpy (σ 20) (σ 8) 0 0 8)) 9 (va_cpy (σ 21) (σ 9) 0 0 8)) 10 (va_cpy (σ 22) (σ 10) 0 0 8)) 11 (va_cpy (σ 23) (σ 11) 0 0 8)) 2 10 (σ 14 10))))))))))) from ⟨(by unfold yCp; decide), ⟨(by unfold yCp; decide), ⟨(by unfold yCp; decide), ⟨(by unfold yCp; decide), ⟨(by unfold yCp; decide), ⟨(by unfold yCp; decide), ⟨(by unfold yCp; decide), ⟨(by unfold yCp; decide), ⟨(by unfold yCp; decide), h⟩⟩⟩⟩⟩⟩⟩⟩⟩)
theorem w_50_0 {d : Nat} {σ : yS} {v1 : Int32} {K : yS → Prop} (h : yR d 76 0 [some (.int v1), some (.int (σ 2 10))] [] σ (qI (fun x1 σ1 => ((¬ (x1 = 0) → yR (d + 1) 50 14 [some (.ref 2), some (.int v1), some (.int v1)] [] σ1 (qV K)) ∧ ((x1 = 0) → K σ1))))) : yR (d + 1) 50 0 [some (.ref 2), some (.int v1), none] [] σ (qV K) := wp_50 9 [14] (show yR d 76 0 [some (.int v1), some (.int (σ 2 10))] [] σ (qI (fun x1 σ1 => ((¬ (x1 = 0) → yR (d + 1) 50 14 [some (.ref 2), some (.int v1), some (.int v1)] [] σ1 (qV K)) ∧ ((x1 = 0) → K σ1)))) from (yR.mono h (qI_mono (fun x1 σ1 q1 => ⟨fun q2 => (q1.1 q2), fun q2 => (q1.2 q2)⟩))))
theorem w_50_14 {d : Nat} {σ : yS} {v1 v2 : Int32} {K : yS → Prop} (h : ((((σ 2 10) ≤ (v2 + 1)) → K (sg σ 2 10 ((σ 2 10) - 1))) ∧ (¬ ((σ 2 10) ≤ (v2 + 1)) → (((8 ≤ (v2 + 1)) → K (sg σ 2 10 ((σ 2 10) - 1))) ∧ (¬ (8 ≤ (v2 + 1)) → (vp_in (v2 + 1) 8 ∧ (vp_in v2 8 ∧ yR (d + 1) 50 14 [some (.ref 2), some (.int v1), some (.int (v2 + 1))] [] (sg (sg (sg (sg (sg σ 7 v2.toNatClampNeg (σ 7 (v2 + 1).toNatClampNeg)) 8 v2.toNatClampNeg (σ 8 (v2 + 1).toNatClampNeg)) 9 v2.toNatClampNeg (σ 9 (v2 + 1).toNatClampNeg)) 10 v2.toNatClampNeg (σ 10 (v2 + 1).toNatClampNeg)) 11 v2.toNatClampNeg (σ 11 (v2 + 1).toNatClampNeg)) (qV K)))))))) : yR (d + 1) 50 14 [some (.ref 2), some (.int v1), some (.int v2)] [] σ (qV K) := wp_50 65 [14] (show ((((σ 2 10) ≤ (v2 + 1)) → K (sg σ 2 10 ((σ 2 10) - 1))) ∧ (¬ ((σ 2 10) ≤ (v2 + 1)) → (((8 ≤ (v2 + 1)) → K (sg σ 2 10 ((σ 2 10) - 1))) ∧ (¬ (8 ≤ (v2 + 1)) → (vp_in (v2 + 1) 8 ∧ (vp_in v2 8 ∧ (vp_in (v2 + 1) 8 ∧ (vp_in v2 8 ∧ (vp_in (v2 + 1) 8 ∧ (vp_in v2 8 ∧ (vp_in (v2 + 1) 8 ∧ (vp_in v2 8 ∧ (vp_in (v2 + 1) 8 ∧ (vp_in v2 8 ∧ yR (d + 1) 50 14 [some (.ref 2), some (.int v1), some (.int (v2 + 1))] [] (sg (sg (sg (sg (sg σ 7 v2.toNatClampNeg (σ 7 (v2 + 1).toNatClampNeg)) 8 v2.toNatClampNeg (σ 8 (v2 + 1).toNatClampNeg)) 9 v2.toNatClampNeg (σ 9 (v2 + 1).toNatClampNeg)) 10 v2.toNatClampNeg (σ 10 (v2 + 1).toNatClampNeg)) 11 v2.toNatClampNeg (σ 11 (v2 + 1).toNatClampNeg)) (qV K))))))))))))))) from ⟨fun q1 => (h.1 q1), fun q1 => ⟨fun q2 => ((h.2 q1).1 q2), fun q2 => ⟨((h.2 q1).2 q2).1, ⟨((h.2 q1).2 q2).2.1, ⟨((h.2 q1).2 q2).1, ⟨((h.2 q1).2 q2).2.1, ⟨((h.2 q1).2 q2).1, ⟨((h.2 q1).2 q2).2.1, ⟨((h.2 q1).2 q2).1, ⟨((h.2 q1).2 q2).2.1, ⟨((h.2 q1).2 q2).1, ⟨((h.2 q1).2 q2).2.1, ((h.2 q1).2 q2).2.2⟩⟩⟩⟩⟩⟩⟩⟩⟩⟩⟩⟩)
theorem w_52_0 {d : Nat} {σ : yS} {v1 : Int32} {K : Int32 → yS → Prop} (h : (((v1 < 0) → yR d 73 0 [some (.ref 0)] [] σ (qI (fun x1 σ1 => K x1 σ1))) ∧ (¬ (v1 < 0) → (((v1 ≤ 127) → ((((σ 0 1) < 150) → (vp_in (σ 0 1) 150 ∧ K ((σ 0 1) + 1) (sg (sg σ 1 (σ 0 1).toNatClampNeg v1) 0 1 ((σ 0 1) + 1)))) ∧ (¬ ((σ 0 1) < 150) → K (-2000002) (sg σ 0 9 ((σ 0 9) + 1))))) ∧ (¬ (v1 ≤ 127) → yR d 73 0 [some (.ref 0)] [] σ (qI (fun x2 σ2 => K x2 σ2))))))) : yR (d + 1) 52 0 [some (.ref 0), some (.int v1)] [] σ (qI K) := wp_52 25 [] (show (((v1 < 0) → yR d 73 0 [some (.ref 0)] [] σ (qI (fun x1 σ1 => K x1 σ1))) ∧ (¬ (v1 < 0) → (((v1 ≤ 127) → ((((σ 0 1) < 150) → (vp_in (σ 0 1) 150 ∧ K ((σ 0 1) + 1) (sg (sg σ 1 (σ 0 1).toNatClampNeg v1) 0 1 ((σ 0 1) + 1)))) ∧ (¬ ((σ 0 1) < 150) → K (-2000002) (sg σ 0 9 ((σ 0 9) + 1))))) ∧ (¬ (v1 ≤ 127) → yR d 73 0 [some (.ref 0)] [] σ (qI (fun x2 σ2 => K x2 σ2)))))) from ⟨fun q1 => (h.1 q1), fun q1 => ⟨fun q3 => ⟨fun q4 => ⟨(((h.2 q1).1 q3).1 q4).1, (((h.2 q1).1 q3).1 q4).2⟩, fun q4 => (((h.2 q1).1 q3).2 q4)⟩, fun q3 => ((h.2 q1).2 q3)⟩⟩)
theorem w_53_0 {d : Nat} {σ : yS} {K : Int32 → yS → Prop} (h : K (σ 0 1) (sg σ 0 1 0)) : yR d 53 0 [some (.ref 0), none] [] σ (qI K) := wp_53 9 [] h
theorem w_54_0 {d : Nat} {σ : yS} {K : Int32 → yS → Prop} (h : yR d 26 0 [some (.ref 13), some (.ref 1), some (.int (σ 0 1)), none] [] σ (qI (fun x1 σ1 => (((x1 = (-1)) → yR d 72 0 [some (.ref 0)] [] σ1 (qV (fun σ2 => yR d 49 0 [some (.ref 2), some (.ref 14)] [] σ2 (qV (fun σ3 => K (σ3 2 10) σ3))))) ∧ (¬ (x1 = (-1)) → K ((-10) - x1) σ1))))) : yR (d + 1) 54 0 [some (.ref 0), none] [] σ (qI K) := wp_54 24 [] (show yR d 26 0 [some (.ref 13), some (.ref 1), some (.int (σ 0 1)), none] [] σ (qI (fun x1 σ1 => (((x1 = (-1)) → yR d 72 0 [some (.ref 0)] [] σ1 (qV (fun σ2 => yR d 49 0 [some (.ref 2), some (.ref 14)] [] σ2 (qV (fun σ3 => K (σ3 2 10) σ3))))) ∧ (¬ (x1 = (-1)) → K ((-10) - x1) σ1)))) from (yR.mono h (qI_mono (fun x1 σ1 q1 => ⟨fun q2 => (q1.1 q2), fun q2 => (q1.2 q2)⟩))))
theorem w_55_0 {d : Nat} {σ : yS} {v1 v2 : Int32} {K : Int32 → yS → Prop} (h : yR d 75 0 [some (.int v1)] [] σ (qI (fun x1 σ1 => (((x1 = 0) → yR d 73 0 [some (.ref 0)] [] σ1 (qI (fun x2 σ2 => K x2 σ2))) ∧ (¬ (x1 = 0) → yR d 78 0 [some (.long (Int32.toInt64 v2)), none] [] σ1 (qI (fun x3 σ3 => ((¬ (x3 = 0) → yR d 72 0 [some (.ref 0)] [] σ3 (qV (fun σ4 => (vp_in v1 4 ∧ K (σ4 12 v1.toNatClampNeg) (sg σ4 12 v1.toNatClampNeg v2))))) ∧ ((x3 = 0) → yR d 73 0 [some (.ref 0)] [] σ3 (qI (fun x5 σ5 => K x5 σ5))))))))))) : yR (d + 1) 55 0 [some (.ref 0), some (.int v1), some (.int v2), none] [] σ (qI K) := wp_55 24 [] (show yR d 75 0 [some (.int v1)] [] σ (qI (fun x1 σ1 => (((x1 = 0) → yR d 73 0 [some (.ref 0)] [] σ1 (qI (fun x2 σ2 => K x2 σ2))) ∧ (¬ (x1 = 0) → yR d 78 0 [some (.long (Int32.toInt64 v2)), none] [] σ1 (qI (fun x3 σ3 => ((¬ (x3 = 0) → yR d 72 0 [some (.ref 0)] [] σ3 (qV (fun σ4 => (vp_in v1 4 ∧ (vp_in v1 4 ∧ K (σ4 12 v1.toNatClampNeg) (sg σ4 12 v1.toNatClampNeg v2)))))) ∧ ((x3 = 0) → yR d 73 0 [some (.ref 0)] [] σ3 (qI (fun x5 σ5 => K x5 σ5)))))))))) from (yR.mono h (qI_mono (fun x1 σ1 q1 => ⟨fun q2 => (q1.1 q2), fun q2 => (yR.mono (q1.2 q2) (qI_mono (fun x3 σ3 q4 => ⟨fun q5 => (yR.mono (q4.1 q5) (qV_mono (fun σ4 q6 => ⟨q6.1, ⟨q6.1, q6.2⟩⟩))), fun q5 => (q4.2 q5)⟩)))⟩))))
theorem w_56_0 {d : Nat} {σ : yS} {v1 : Int32} {K : Int32 → yS → Prop} (h : yR d 74 0 [some (.ref 0), some (.int v1)] [] σ (qI (fun x1 σ1 => ((¬ (x1 = 0) → yR d 72 0 [some (.ref 0)] [] σ1 (qV (fun σ2 => yR d 50 0 [some (.ref 2), some (.int v1), none] [] σ2 (qV (fun σ3 => K (σ3 2 10) σ3))))) ∧ ((x1 = 0) → yR d 73 0 [some (.ref 0)] [] σ1 (qI (fun x4 σ4 => K x4 σ4))))))) : yR (d + 1) 56 0 [some (.ref 0), some (.int v1)] [] σ (qI K) := wp_56 15 [] (show yR d 74 0 [some (.ref 0), some (.int v1)] [] σ (qI (fun x1 σ1 => ((¬ (x1 = 0) → yR d 72 0 [some (.ref 0)] [] σ1 (qV (fun σ2 => yR d 50 0 [some (.ref 2), some (.int v1), none] [] σ2 (qV (fun σ3 => K (σ3 2 10) σ3))))) ∧ ((x1 = 0) → yR d 73 0 [some (.ref 0)] [] σ1 (qI (fun x4 σ4 => K x4 σ4)))))) from (yR.mono h (qI_mono (fun x1 σ1 q1 => ⟨fun q2 => (q1.1 q2), fun q2 => (q1.2 q2)⟩))))
theorem w_57_0 {d : Nat} {σ : yS} {v1 v2 : Int32} {K : Int32 → yS → Prop} (h : yR d 74 0 [some (.ref 0), some (.int v1)] [] σ (qI (fun x1 σ1 => (((x1 = 0) → yR d 73 0 [some (.ref 0)] [] σ1 (qI (fun x2 σ2 => K x2 σ2))) ∧ (¬ (x1 = 0) → yR d 76 0 [some (.int v2), some (.int 4)] [] σ1 (qI (fun x3 σ3 => ((¬ (x3 = 0) → yR d 67 0 [some (.ref 0), some (.int v1), some (.int v2)] [] σ3 (qI (fun x4 σ4 => K x4 σ4))) ∧ ((x3 = 0) → yR d 73 0 [some (.ref 0)] [] σ3 (qI (fun x5 σ5 => K x5 σ5))))))))))) : yR (d + 1) 57 0 [some (.ref 0), some (.int v1), some (.int v2)] [] σ (qI K) := wp_57 14 [] (show yR d 74 0 [some (.ref 0), some (.int v1)] [] σ (qI (fun x1 σ1 => (((x1 = 0) → yR d 73 0 [some (.ref 0)] [] σ1 (qI (fun x2 σ2 => K x2 σ2))) ∧ (¬ (x1 = 0) → yR d 76 0 [some (.int v2), some (.int 4)] [] σ1 (qI (fun x3 σ3 => ((¬ (x3 = 0) → yR d 67 0 [some (.ref 0), some (.int v1), some (.int v2)] [] σ3 (qI (fun x4 σ4 => K x4 σ4))) ∧ ((x3 = 0) → yR d 73 0 [some (.ref 0)] [] σ3 (qI (fun x5 σ5 => K x5 σ5)))))))))) from (yR.mono h (qI_mono (fun x1 σ1 q1 => ⟨fun q2 => (q1.1 q2), fun q2 => (yR.mono (q1.2 q2) (qI_mono (fun x3 σ3 q4 => ⟨fun q5 => (q4.1 q5), fun q5 => (q4.2 q5)⟩)))⟩))))
theorem w_58_0 {d : Nat} {σ : yS} {v1 : Int32} {K : Int32 → yS → Prop} (h : yR d 76 0 [some (.int v1), some (.int 4)] [] σ (qI (fun x1 σ1 => ((¬ (x1 = 0) → yR d 20 0 [some (.ref 90), some (.ref 84), some (.ref 2), none] [] σ1 (qV (fun σ2 => yR d 68 0 [some (.ref 0), some (.int v1)] [] σ2 (qI (fun x3 σ3 => K x3 σ3))))) ∧ ((x1 = 0) → yR d 73 0 [some (.ref 0)] [] σ1 (qI (fun x4 σ4 => K x4 σ4))))))) : yR (d + 1) 58 0 [some (.ref 0), some (.int v1)] [] σ (qI K) := wp_58 16 [] (show yR d 76 0 [some (.int v1), some (.int 4)] [] σ (qI (fun x1 σ1 => ((¬ (x1 = 0) → yR d 20 0 [some (.ref 90), some (.ref 84), some (.ref 2), none] [] σ1 (qV (fun σ2 => yR d 68 0 [some (.ref 0), some (.int v1)] [] σ2 (qI (fun x3 σ3 => K x3 σ3))))) ∧ ((x1 = 0) → yR d 73 0 [some (.ref 0)] [] σ1 (qI (fun x4 σ4 => K x4 σ4)))))) from (yR.mono h (qI_mono (fun x1 σ1 q1 => ⟨fun q2 => (q1.1 q2), fun q2 => (q1.2 q2)⟩))))
theorem w_59_0 {d : Nat} {σ : yS} {v1 : Int32} {K : Int32 → yS → Prop} (h : (((0 ≤ v1) → yR d 20 0 [some (.ref 90), some (.ref 84), some (.ref 2), none] [] σ (qV (fun σ1 => yR d 23 0 [some (.ref 90), some (.int v1)] [] σ1 (qI (fun x2 σ2 => K x2 σ2))))) ∧ (¬ (0 ≤ v1) → yR d 73 0 [some (.ref 0)] [] σ (qI (fun x3 σ3 => K x3 σ3))))) : yR (d + 1) 59 0 [some (.ref 0), some (.int v1)] [] σ (qI K) := wp_59 15 [] (show (((0 ≤ v1) → yR d 20 0 [some (.ref 90), some (.ref 84), some (.ref 2), none] [] σ (qV (fun σ1 => yR d 23 0 [some (.ref 90), some (.int v1)] [] σ1 (qI (fun x2 σ2 => K x2 σ2))))) ∧ (¬ (0 ≤ v1) → yR d 73 0 [some (.ref 0)] [] σ (qI (fun x3 σ3 => K x3 σ3)))) from ⟨fun q1 => (h.1 q1), fun q1 => (h.2 q1)⟩)
theorem w_60_0 {d : Nat} {σ : yS} {v1 v2 : Int32} {K : Int32 → yS → Prop} (h : yR d 74 0 [some (.ref 0), some (.int v1)] [] σ (qI (fun x1 σ1 => (((x1 = 0) → yR d 73 0 [some (.ref 0)] [] σ1 (qI (fun x2 σ2 => K x2 σ2))) ∧ (¬ (x1 = 0) → yR d 76 0 [some (.int v2), some (.int 4)] [] σ1 (qI (fun x3 σ3 => ((¬ (x3 = 0) → yR d 20 0 [some (.ref 90), some (.ref 84), some (.ref 2), none] [] σ3 (qV (fun σ4 => yR d 69 0 [some (.ref 0), some (.int v1), some (.int v2)] [] σ4 (qI (fun x5 σ5 => K x5 σ5))))) ∧ ((x3 = 0) → yR d 73 0 [some (.ref 0)] [] σ3 (qI (fun x6 σ6 => K x6 σ6))))))))))) : yR (d + 1) 60 0 [some (.ref 0), some (.int v1), some (.int v2)] [] σ (qI K) := wp_60 21 [] (show yR d 74 0 [some (.ref 0), some (.int v1)] [] σ (qI (fun x1 σ1 => (((x1 = 0) → yR d 73 0 [some (.ref 0)] [] σ1 (qI (fun x2 σ2 => K x2 σ2))) ∧ (¬ (x1 = 0) → yR d 76 0 [some (.int v2), some (.int 4)] [] σ1 (qI (fun x3 σ3 => ((¬ (x3 = 0) → yR d 20 0 [some (.ref 90), some (.ref 84), some (.ref 2), none] [] σ3 (qV (fun σ4 => yR d 69 0 [some (.ref 0), some (.int v1), some (.int v2)] [] σ4 (qI (fun x5 σ5 => K x5 σ5))))) ∧ ((x3 = 0) → yR d 73 0 [some (.ref 0)] [] σ3 (qI (fun x6 σ6 => K x6 σ6)))))))))) from (yR.mono h (qI_mono (fun x1 σ1 q1 => ⟨fun q2 => (q1.1 q2), fun q2 => (yR.mono (q1.2 q2) (qI_mono (fun x3 σ3 q4 => ⟨fun q5 => (q4.1 q5), fun q5 => (q4.2 q5)⟩)))⟩))))
theorem w_61_0 {d : Nat} {σ : yS} {v1 : Int32} {K : Int32 → yS → Prop} (h : yR d 75 0 [some (.int v1)] [] σ (qI (fun x1 σ1 => ((¬ (x1 = 0) → yR d 20 0 [some (.ref 90), some (.ref 84), some (.ref 2), none] [] σ1 (qV (fun σ2 => (vp_in v1 4 ∧ K (σ2 96 v1.toNatClampNeg) σ2)))) ∧ ((x1 = 0) → yR d 73 0 [some (.ref 0)] [] σ1 (qI (fun x3 σ3 => K x3 σ3))))))) : yR (d + 1) 61 0 [some (.ref 0), some (.int v1)] [] σ (qI K) := wp_61 17 [] (show yR d 75 0 [some (.int v1)] [] σ (qI (fun x1 σ1 => ((¬ (x1 = 0) → yR d 20 0 [some (.ref 90), some (.ref 84), some (.ref 2), none] [] σ1 (qV (fun σ2 => (vp_in v1 4 ∧ K (σ2 96 v1.toNatClampNeg) σ2)))) ∧ ((x1 = 0) → yR d 73 0 [some (.ref 0)] [] σ1 (qI (fun x3 σ3 => K x3 σ3)))))) from (yR.mono h (qI_mono (fun x1 σ1 q1 => ⟨fun q2 => (yR.mono (q1.1 q2) (qV_mono (fun σ2 q3 => ⟨q3.1, q3.2⟩))), fun q2 => (q1.2 q2)⟩))))
theorem w_62_0 {d : Nat} {σ : yS} {v1 v2 : Int32} {K : Int32 → yS → Prop} (h : yR d 74 0 [some (.ref 0), some (.int v1)] [] σ (qI (fun x1 σ1 => (((x1 = 0) → yR d 73 0 [some (.ref 0)] [] σ1 (qI (fun x2 σ2 => K x2 σ2))) ∧ (¬ (x1 = 0) → (((0 ≤ v2) → yR d 4 0 [some (.ref 84)] [] σ1 (qV (fun σ3 => (vp_in v1 8 ∧ yR d 5 0 [some (.ref 84), some (.int (σ3 7 v1.toNatClampNeg))] [] σ3 (qV (fun σ4 => yR (d + 1) 62 42 [some (.ref 0), some (.int v1), some (.int v2), some (.int 0)] [] σ4 (qI K))))))) ∧ (¬ (0 ≤ v2) → yR d 73 0 [some (.ref 0)] [] σ1 (qI (fun x5 σ5 => K x5 σ5))))))))) : yR (d + 1) 62 0 [some (.ref 0), some (.int v1), some (.int v2), none] [] σ (qI K) := wp_62 21 [42] (show yR d 74 0 [some (.ref 0), some (.int v1)] [] σ (qI (fun x1 σ1 => (((x1 = 0) → yR d 73 0 [some (.ref 0)] [] σ1 (qI (fun x2 σ2 => K x2 σ2))) ∧ (¬ (x1 = 0) → (((0 ≤ v2) → yR d 4 0 [some (.ref 84)] [] σ1 (qV (fun σ3 => (vp_in v1 8 ∧ yR d 5 0 [some (.ref 84), some (.int (σ3 7 v1.toNatClampNeg))] [] σ3 (qV (fun σ4 => yR (d + 1) 62 42 [some (.ref 0), some (.int v1), some (.int v2), some (.int 0)] [] σ4 (qI K))))))) ∧ (¬ (0 ≤ v2) → yR d 73 0 [some (.ref 0)] [] σ1 (qI (fun x5 σ5 => K x5 σ5)))))))) from (yR.mono h (qI_mono (fun x1 σ1 q1 => ⟨fun q2 => (q1.1 q2), fun q2 => ⟨fun q4 => (yR.mono ((q1.2 q2).1 q4) (qV_mono (fun σ3 q5 => ⟨q5.1, q5.2⟩))), fun q4 => ((q1.2 q2).2 q4)⟩⟩))))
theorem w_62_42 {d : Nat} {σ : yS} {v1 v2 v3 : Int32} {K : Int32 → yS → Prop} (h : (((30 ≤ v3) → K (-1999999) σ) ∧ (¬ (30 ≤ v3) → (((v2 < v3) → K (-1999999) σ) ∧ (¬ (v2 < v3) → (vp_in v1 8 ∧ yR d 7 0 [some (.ref 84), some (.int (σ 7 v1.toNatClampNeg)), some (.int 0)] [] σ (qI (fun x1 σ1 => ((¬ (x1 = 0) → ((¬ (v3 = v2) → yR (d + 1) 62 42 [some (.ref 0), some (.int v1), some (.int v2), some (.int (v3 + 1))] [] σ1 (qI K)) ∧ ((v3 = v2) → K (σ1 84 6) σ1))) ∧ ((x1 = 0) → K (-1999999) σ1)))))))))) : yR (d + 1) 62 42 [some (.ref 0), some (.int v1), some (.int v2), some (.int v3)] [] σ (qI K) := wp_62 24 [42] (show (((30 ≤ v3) → K (-1999999) σ) ∧ (¬ (30 ≤ v3) → (((v2 < v3) → K (-1999999) σ) ∧ (¬ (v2 < v3) → (vp_in v1 8 ∧ yR d 7 0 [some (.ref 84), some (.int (σ 7 v1.toNatClampNeg)), some (.int 0)] [] σ (qI (fun x1 σ1 => ((¬ (x1 = 0) → ((¬ (v3 = v2) → yR (d + 1) 62 42 [some (.ref 0), some (.int v1), some (.int v2), some (.int (v3 + 1))] [] σ1 (qI K)) ∧ ((v3 = v2) → K (σ1 84 6) σ1))) ∧ ((x1 = 0) → K (-1999999) σ1))))))))) from ⟨fun q1 => (h.1 q1), fun q1 => ⟨fun q2 => ((h.2 q1).1 q2), fun q2 => ⟨((h.2 q1).2 q2).1, (yR.mono ((h.2 q1).2 q2).2 (qI_mono (fun x1 σ1 q3 => ⟨fun q4 => ⟨fun q5 => ((q3.1 q4).1 q5), fun q5 => ((q3.1 q4).2 q5)⟩, fun q4 => (q3.2 q4)⟩)))⟩⟩⟩)
theorem w_63_0 {d : Nat} {σ : yS} {K : Int32 → yS → Prop} (h : ((¬ ((σ 27 2) = 0) → yR d 2 0 [some (.ref 27), some (.ref 2), none] [] σ (qV (fun σ1 => K (σ1 27 2) (sg σ1 90 0 0)))) ∧ (((σ 27 2) = 0) → K (-2000001) (sg σ 0 8 ((σ 0 8) + 1))))) : yR (d + 1) 63 0 [some (.ref 0)] [] σ (qI K) := wp_63 18 [] (show ((¬ ((σ 27 2) = 0) → yR d 2 0 [some (.ref 27), some (.ref 2), none] [] σ (qV (fun σ1 => (yBo 0 ∧ K (σ1 27 2) (sg σ1 90 0 0))))) ∧ (((σ 27 2) = 0) → K (-2000001) (sg σ 0 8 ((σ 0 8) + 1)))) from ⟨fun q1 => (yR.mono (h.1 q1) (qV_mono (fun σ1 q2 => ⟨yB0, q2⟩))), fun q1 => (h.2 q1)⟩)
theorem w_64_0 {d : Nat} {σ : yS} {v1 : Int32} {K : Int32 → yS → Prop} (h : yR d 76 0 [some (.int v1), some (.int 7)] [] σ (qI (fun x1 σ1 => ((¬ (x1 = 0) → yR d 70 0 [some (.ref 0), some (.int v1)] [] σ1 (qI (fun x2 σ2 => K x2 σ2))) ∧ ((x1 = 0) → yR d 73 0 [some (.ref 0)] [] σ1 (qI (fun x3 σ3 => K x3 σ3))))))) : yR (d + 1) 64 0 [some (.ref 0), some (.int v1)] [] σ (qI K) := wp_64 9 [] (show yR d 76 0 [some (.int v1), some (.int 7)] [] σ (qI (fun x1 σ1 => ((¬ (x1 = 0) → yR d 70 0 [some (.ref 0), some (.int v1)] [] σ1 (qI (fun x2 σ2 => K x2 σ2))) ∧ ((x1 = 0) → yR d 73 0 [some (.ref 0)] [] σ1 (qI (fun x3 σ3 => K x3 σ3)))))) from (yR.mono h (qI_mono (fun x1 σ1 q1 => ⟨fun q2 => (q1.1 q2), fun q2 => (q1.2 q2)⟩))))
theorem w_65_0 {d : Nat} {σ : yS} {K : Int64 → yS → Prop} (h : yR d 20 0 [some (.ref 90), some (.ref 84), some (.ref 2), none] [] σ (qV (fun σ1 => yR (d + 1) 65 21 [some (.ref 0), some (.long 2467), none, some (.int 0)] [] σ1 (qL K)))) : yR (d + 1) 65 0 [some (.ref 0), none, none, none] [] σ (qL K) := wp_65 13 [21, 48, 78, 104, 130, 165] h
theorem w_65_21 {d : Nat} {σ : yS} {v3 : Int32} {w1 : Int64} {K : Int64 → yS → Prop} (h : (((7 ≤ v3) → yR (d + 1) 65 48 [some (.ref 0), some (.long w1), none, some (.int 0)] [] σ (qL K)) ∧ (¬ (7 ≤ v3) → yR d 70 0 [some (.ref 0), some (.int v3)] [] σ (qI (fun x1 σ1 => yR (d + 1) 65 21 [some (.ref 0), some (.long ((31 * w1) + (Int32.toInt64 x1))), none, some (.int (v3 + 1))] [] σ1 (qL K)))))) : yR (d + 1) 65 21 [some (.ref 0), some (.long w1), none, some (.int v3)] [] σ (qL K) := wp_65 16 [21, 48, 78, 104, 130, 165] (show (((7 ≤ v3) → yR (d + 1) 65 48 [some (.ref 0), some (.long w1), none, some (.int 0)] [] σ (qL K)) ∧ (¬ (7 ≤ v3) → yR d 70 0 [some (.ref 0), some (.int v3)] [] σ (qI (fun x1 σ1 => yR (d + 1) 65 21 [some (.ref 0), some (.long ((31 * w1) + (Int32.toInt64 x1))), none, some (.int (v3 + 1))] [] σ1 (qL K))))) from ⟨fun q1 => (h.1 q1), fun q1 => (h.2 q1)⟩)
theorem w_65_48 {d : Nat} {σ : yS} {v3 : Int32} {w1 : Int64} {K : Int64 → yS → Prop} (h : (((4 ≤ v3) → yR (d + 1) 65 78 [some (.ref 0), some (.long w1), none, some (.int 0)] [] σ (qL K)) ∧ (¬ (4 ≤ v3) → (vp_in v3 4 ∧ yR (d + 1) 65 48 [some (.ref 0), some (.long ((31 * w1) + (Int32.toInt64 (σ 12 v3.toNatClampNeg)))), none, some (.int (v3 + 1))] [] σ (qL K))))) : yR (d + 1) 65 48 [some (.ref 0), some (.long w1), none, some (.int v3)] [] σ (qL K) := wp_65 18 [21, 48, 78, 104, 130, 165] (show (((4 ≤ v3) → yR (d + 1) 65 78 [some (.ref 0), some (.long w1), none, some (.int 0)] [] σ (qL K)) ∧ (¬ (4 ≤ v3) → (vp_in v3 4 ∧ yR (d + 1) 65 48 [some (.ref 0), some (.long ((31 * w1) + (Int32.toInt64 (σ 12 v3.toNatClampNeg)))), none, some (.int (v3 + 1))] [] σ (qL K)))) from ⟨fun q1 => (h.1 q1), fun q1 => ⟨(h.2 q1).1, (h.2 q1).2⟩⟩)
theorem w_65_78 {d : Nat} {σ : yS} {v3 : Int32} {w1 : Int64} {K : Int64 → yS → Prop} (h : ((((σ 2 10) ≤ v3) → yR (d + 1) 65 104 [some (.ref 0), some (.long w1), none, some (.int 0)] [] σ (qL K)) ∧ (¬ ((σ 2 10) ≤ v3) → yR d 66 0 [some (.ref 0), some (.long w1), none, some (.int v3), none, none, none] [] σ (qL (fun x1 σ1 => yR (d + 1) 65 78 [some (.ref 0), some (.long x1), none, some (.int (v3 + 1))] [] σ1 (qL K)))))) : yR (d + 1) 65 78 [some (.ref 0), some (.long w1), none, some (.int v3)] [] σ (qL K) := wp_65 14 [21, 48, 78, 104, 130, 165] (show ((((σ 2 10) ≤ v3) → yR (d + 1) 65 104 [some (.ref 0), some (.long w1), none, some (.int 0)] [] σ (qL K)) ∧ (¬ ((σ 2 10) ≤ v3) → yR d 66 0 [some (.ref 0), some (.long w1), none, some (.int v3), none, none, none] [] σ (qL (fun x1 σ1 => yR (d + 1) 65 78 [some (.ref 0), some (.long x1), none, some (.int (v3 + 1))] [] σ1 (qL K))))) from ⟨fun q1 => (h.1 q1), fun q1 => (h.2 q1)⟩)
theorem w_65_104 {d : Nat} {σ : yS} {v3 : Int32} {w1 : Int64} {K : Int64 → yS → Prop} (h : (((4 ≤ v3) → yR (d + 1) 65 130 [some (.ref 0), some (.long w1), none, some (.int 0)] [] σ (qL K)) ∧ (¬ (4 ≤ v3) → yR d 68 0 [some (.ref 0), some (.int v3)] [] σ (qI (fun x1 σ1 => yR (d + 1) 65 104 [some (.ref 0), some (.long ((31 * w1) + (Int32.toInt64 x1))), none, some (.int (v3 + 1))] [] σ1 (qL K)))))) : yR (d + 1) 65 104 [some (.ref 0), some (.long w1), none, some (.int v3)] [] σ (qL K) := wp_65 16 [21, 48, 78, 104, 130, 165] (show (((4 ≤ v3) → yR (d + 1) 65 130 [some (.ref 0), some (.long w1), none, some (.int 0)] [] σ (qL K)) ∧ (¬ (4 ≤ v3) → yR d 68 0 [some (.ref 0), some (.int v3)] [] σ (qI (fun x1 σ1 => yR (d + 1) 65 104 [some (.ref 0), some (.long ((31 * w1) + (Int32.toInt64 x1))), none, some (.int (v3 + 1))] [] σ1 (qL K))))) from ⟨fun q1 => (h.1 q1), fun q1 => (h.2 q1)⟩)
theorem w_65_130 {d : Nat} {σ : yS} {v3 : Int32} {w1 : Int64} {K : Int64 → yS → Prop} (h : ((((σ 90 2) ≤ v3) → yR (d + 1) 65 165 [some (.ref 0), some (.long w1), none, some (.int 0)] [] σ (qL K)) ∧ (¬ ((σ 90 2) ≤ v3) → yR d 23 0 [some (.ref 90), some (.int v3)] [] σ (qI (fun x1 σ1 => yR (d + 1) 65 130 [some (.ref 0), some (.long ((31 * w1) + (Int32.toInt64 x1))), none, some (.int (v3 + 1))] [] σ1 (qL K)))))) : yR (d + 1) 65 130 [some (.ref 0), some (.long w1), none, some (.int v3)] [] σ (qL K) := wp_65 19 [21, 48, 78, 104, 130, 165] (show ((((σ 90 2) ≤ v3) → yR (d + 1) 65 165 [some (.ref 0), some (.long w1), none, some (.int 0)] [] σ (qL K)) ∧ (¬ ((σ 90 2) ≤ v3) → yR d 23 0 [some (.ref 90), some (.int v3)] [] σ (qI (fun x1 σ1 => yR (d + 1) 65 130 [some (.ref 0), some (.long ((31 * w1) + (Int32.toInt64 x1))), none, some (.int (v3 + 1))] [] σ1 (qL K))))) from ⟨fun q1 => (h.1 q1), fun q1 => (h.2 q1)⟩)
theorem w_65_165 {d : Nat} {σ : yS} {v3 : Int32} {w1 : Int64} {K : Int64 → yS → Prop} (h : (((4 ≤ v3) → K w1 σ) ∧ (¬ (4 ≤ v3) → (vp_in v3 4 ∧ yR (d + 1) 65 165 [some (.ref 0), some (.long ((31 * w1) + (Int32.toInt64 (σ 96 v3.toNatClampNeg)))), none, some (.int (v3 + 1))] [] σ (qL K))))) : yR (d + 1) 65 165 [some (.ref 0), some (.long w1), none, some (.int v3)] [] σ (qL K) := wp_65 18 [21, 48, 78, 104, 130, 165] (show (((4 ≤ v3) → K w1 σ) ∧ (¬ (4 ≤ v3) → (vp_in v3 4 ∧ yR (d + 1) 65 165 [some (.ref 0), some (.long ((31 * w1) + (Int32.toInt64 (σ 96 v3.toNatClampNeg)))), none, some (.int (v3 + 1))] [] σ (qL K)))) from ⟨fun q1 => (h.1 q1), fun q1 => ⟨(h.2 q1).1, (h.2 q1).2⟩⟩)
theorem w_66_0 {d : Nat} {σ : yS} {v3 : Int32} {w1 : Int64} {K : Int64 → yS → Prop} (h : yR (d + 1) 66 6 [some (.ref 0), some (.long w1), none, some (.int v3), some (.long w1), none, some (.int 0)] [] σ (qL K)) : yR (d + 1) 66 0 [some (.ref 0), some (.long w1), none, some (.int v3), none, none, none] [] σ (qL K) := wp_66 6 [6, 38] h
theorem w_66_6 {d : Nat} {σ : yS} {v3 v6 : Int32} {w1 w4 : Int64} {K : Int64 → yS → Prop} (h : (((4 ≤ v6) → yR (d + 1) 66 38 [some (.ref 0), some (.long w1), none, some (.int v3), some (.long w4), none, some (.int 0)] [] σ (qL K)) ∧ (¬ (4 ≤ v6) → yR d 67 0 [some (.ref 0), some (.int v3), some (.int v6)] [] σ (qI (fun x1 σ1 => yR (d + 1) 66 6 [some (.ref 0), some (.long w1), none, some (.int v3), some (.long ((31 * w4) + (Int32.toInt64 x1))), none, some (.int (v6 + 1))] [] σ1 (qL K)))))) : yR (d + 1) 66 6 [some (.ref 0), some (.long w1), none, some (.int v3), some (.long w4), none, some (.int v6)] [] σ (qL K) := wp_66 17 [6, 38] (show (((4 ≤ v6) → yR (d + 1) 66 38 [some (.ref 0), some (.long w1), none, some (.int v3), some (.long w4), none, some (.int 0)] [] σ (qL K)) ∧ (¬ (4 ≤ v6) → yR d 67 0 [some (.ref 0), some (.int v3), some (.int v6)] [] σ (qI (fun x1 σ1 => yR (d + 1) 66 6 [some (.ref 0), some (.long w1), none, some (.int v3), some (.long ((31 * w4) + (Int32.toInt64 x1))), none, some (.int (v6 + 1))] [] σ1 (qL K))))) from ⟨fun q1 => (h.1 q1), fun q1 => (h.2 q1)⟩)
theorem w_66_38 {d : Nat} {σ : yS} {v3 v6 : Int32} {w1 w4 : Int64} {K : Int64 → yS → Prop} (h : (((4 ≤ v6) → K w4 σ) ∧ (¬ (4 ≤ v6) → yR d 69 0 [some (.ref 0), some (.int v3), some (.int v6)] [] σ (qI (fun x1 σ1 => yR (d + 1) 66 38 [some (.ref 0), some (.long w1), none, some (.int v3), some (.long ((31 * w4) + (Int32.toInt64 x1))), none, some (.int (v6 + 1))] [] σ1 (qL K)))))) : yR (d + 1) 66 38 [some (.ref 0), some (.long w1), none, some (.int v3), some (.long w4), none, some (.int v6)] [] σ (qL K) := wp_66 17 [6, 38] (show (((4 ≤ v6) → K w4 σ) ∧ (¬ (4 ≤ v6) → yR d 69 0 [some (.ref 0), some (.int v3), some (.int v6)] [] σ (qI (fun x1 σ1 => yR (d + 1) 66 38 [some (.ref 0), some (.long w1), none, some (.int v3), some (.long ((31 * w4) + (Int32.toInt64 x1))), none, some (.int (v6 + 1))] [] σ1 (qL K))))) from ⟨fun q1 => (h.1 q1), fun q1 => (h.2 q1)⟩)
theorem w_67_0 {d : Nat} {σ : yS} {v1 v2 : Int32} {K : Int32 → yS → Prop} (h : (((v2 = 0) → (vp_in v1 8 ∧ K (σ 8 v1.toNatClampNeg) σ)) ∧ (¬ (v2 = 0) → (((v2 = 1) → (vp_in v1 8 ∧ K (σ 9 v1.toNatClampNeg) σ)) ∧ (¬ (v2 = 1) → (((v2 = 2) → (vp_in v1 8 ∧ K (σ 10 v1.toNatClampNeg) σ)) ∧ (¬ (v2 = 2) → (vp_in v1 8 ∧ K (σ 11 v1.toNatClampNeg) σ)))))))) : yR d 67 0 [some (.ref 0), some (.int v1), some (.int v2)] [] σ (qI K) := wp_67 9 [] (show (((v2 = 0) → (vp_in v1 8 ∧ K (σ 8 v1.toNatClampNeg) σ)) ∧ (¬ (v2 = 0) → (((v2 = 1) → (vp_in v1 8 ∧ K (σ 9 v1.toNatClampNeg) σ)) ∧ (¬ (v2 = 1) → (((v2 = 2) → (vp_in v1 8 ∧ K (σ 10 v1.toNatClampNeg) σ)) ∧ (¬ (v2 = 2) → (vp_in v1 8 ∧ K (σ 11 v1.toNatClampNeg) σ))))))) from ⟨fun q1 => ⟨(h.1 q1).1, (h.1 q1).2⟩, fun q1 => ⟨fun q2 => ⟨((h.2 q1).1 q2).1, ((h.2 q1).1 q2).2⟩, fun q2 => ⟨fun q3 => ⟨(((h.2 q1).2 q2).1 q3).1, (((h.2 q1).2 q2).1 q3).2⟩, fun q3 => ⟨(((h.2 q1).2 q2).2 q3).1, (((h.2 q1).2 q2).2 q3).2⟩⟩⟩⟩)
theorem w_68_0 {d : Nat} {σ : yS} {v1 : Int32} {K : Int32 → yS → Prop} (h : (((v1 = 0) → K (σ 90 2) σ) ∧ (¬ (v1 = 0) → (((v1 = 1) → yR d 24 0 [some (.ref 90), some (.int (σ 2 10)), none, none] [] σ (qI (fun x1 σ1 => K x1 σ1))) ∧ (¬ (v1 = 1) → (((v1 = 2) → yR d 71 0 [some (.ref 0), some (.ref 94), none, none] [] σ (qI (fun x2 σ2 => K x2 σ2))) ∧ (¬ (v1 = 2) → yR d 71 0 [some (.ref 0), some (.ref 93), none, none] [] σ (qI (fun x3 σ3 => K x3 σ3))))))))) : yR (d + 1) 68 0 [some (.ref 0), some (.int v1)] [] σ (qI K) := wp_68 10 [] (show (((v1 = 0) → K (σ 90 2) σ) ∧ (¬ (v1 = 0) → (((v1 = 1) → yR d 24 0 [some (.ref 90), some (.int (σ 2 10)), none, none] [] σ (qI (fun x1 σ1 => K x1 σ1))) ∧ (¬ (v1 = 1) → (((v1 = 2) → yR d 71 0 [some (.ref 0), some (.ref 94), none, none] [] σ (qI (fun x2 σ2 => K x2 σ2))) ∧ (¬ (v1 = 2) → yR d 71 0 [some (.ref 0), some (.ref 93), none, none] [] σ (qI (fun x3 σ3 => K x3 σ3)))))))) from ⟨fun q1 => (h.1 q1), fun q1 => ⟨fun q2 => ((h.2 q1).1 q2), fun q2 => ⟨fun q4 => (((h.2 q1).2 q2).1 q4), fun q4 => (((h.2 q1).2 q2).2 q4)⟩⟩⟩)
theorem w_69_0 {d : Nat} {σ : yS} {v1 v2 : Int32} {K : Int32 → yS → Prop} (h : (((v2 = 0) → (vp_in v1 8 ∧ K (σ 92 v1.toNatClampNeg) σ)) ∧ (¬ (v2 = 0) → (((v2 = 1) → (vp_in v1 8 ∧ K (σ 93 v1.toNatClampNeg) σ)) ∧ (¬ (v2 = 1) → (((v2 = 2) → (vp_in v1 8 ∧ K (σ 94 v1.toNatClampNeg) σ)) ∧ (¬ (v2 = 2) → (vp_in v1 8 ∧ K (σ 95 v1.toNatClampNeg) σ)))))))) : yR d 69 0 [some (.ref 0), some (.int v1), some (.int v2)] [] σ (qI K) := wp_69 9 [] (show (((v2 = 0) → (vp_in v1 8 ∧ K (σ 92 v1.toNatClampNeg) σ)) ∧ (¬ (v2 = 0) → (((v2 = 1) → (vp_in v1 8 ∧ K (σ 93 v1.toNatClampNeg) σ)) ∧ (¬ (v2 = 1) → (((v2 = 2) → (vp_in v1 8 ∧ K (σ 94 v1.toNatClampNeg) σ)) ∧ (¬ (v2 = 2) → (vp_in v1 8 ∧ K (σ 95 v1.toNatClampNeg) σ))))))) from ⟨fun q1 => ⟨(h.1 q1).1, (h.1 q1).2⟩, fun q1 => ⟨fun q2 => ⟨((h.2 q1).1 q2).1, ((h.2 q1).1 q2).2⟩, fun q2 => ⟨fun q3 => ⟨(((h.2 q1).2 q2).1 q3).1, (((h.2 q1).2 q2).1 q3).2⟩, fun q3 => ⟨(((h.2 q1).2 q2).2 q3).1, (((h.2 q1).2 q2).2 q3).2⟩⟩⟩⟩)
theorem w_70_0 {d : Nat} {σ : yS} {v1 : Int32} {K : Int32 → yS → Prop} (h : (((v1 = 0) → K (σ 0 7) σ) ∧ (¬ (v1 = 0) → (((v1 = 1) → K (σ 0 8) σ) ∧ (¬ (v1 = 1) → (((v1 = 2) → K (σ 0 9) σ) ∧ (¬ (v1 = 2) → (((v1 = 3) → K (σ 0 1) σ) ∧ (¬ (v1 = 3) → (((v1 = 4) → K (σ 2 10) σ) ∧ (¬ (v1 = 4) → (((v1 = 5) → yR d 71 0 [some (.ref 0), some (.ref 9), none, none] [] σ (qI (fun x1 σ1 => K x1 σ1))) ∧ (¬ (v1 = 5) → K (σ 27 2) σ))))))))))))) : yR (d + 1) 70 0 [some (.ref 0), some (.int v1)] [] σ (qI K) := wp_70 9 [] (show (((v1 = 0) → K (σ 0 7) σ) ∧ (¬ (v1 = 0) → (((v1 = 1) → K (σ 0 8) σ) ∧ (¬ (v1 = 1) → (((v1 = 2) → K (σ 0 9) σ) ∧ (¬ (v1 = 2) → (((v1 = 3) → K (σ 0 1) σ) ∧ (¬ (v1 = 3) → (((v1 = 4) → K (σ 2 10) σ) ∧ (¬ (v1 = 4) → (((v1 = 5) → yR d 71 0 [some (.ref 0), some (.ref 9), none, none] [] σ (qI (fun x1 σ1 => K x1 σ1))) ∧ (¬ (v1 = 5) → K (σ 27 2) σ)))))))))))) from ⟨fun q1 => (h.1 q1), fun q1 => ⟨fun q2 => ((h.2 q1).1 q2), fun q2 => ⟨fun q3 => (((h.2 q1).2 q2).1 q3), fun q3 => ⟨fun q4 => ((((h.2 q1).2 q2).2 q3).1 q4), fun q4 => ⟨fun q5 => (((((h.2 q1).2 q2).2 q3).2 q4).1 q5), fun q5 => ⟨fun q6 => ((((((h.2 q1).2 q2).2 q3).2 q4).2 q5).1 q6), fun q6 => ((((((h.2 q1).2 q2).2 q3).2 q4).2 q5).2 q6)⟩⟩⟩⟩⟩⟩)
theorem w_71_0_9 {d : Nat} {σ : yS} {K : Int32 → yS → Prop} (h : yR d 71 4 [some (.ref 0), some (.ref 9), some (.int 0), some (.int 0)] [] σ (qI K)) : yR d 71 0 [some (.ref 0), some (.ref 9), none, none] [] σ (qI K) := wp_71 6 [4] h
theorem w_71_4_9 {d : Nat} {σ : yS} {v2 v3 : Int32} {K : Int32 → yS → Prop} (h : ((((σ 2 10) ≤ v3) → K v2 σ) ∧ (¬ ((σ 2 10) ≤ v3) → (((8 ≤ v3) → K v2 σ) ∧ (¬ (8 ≤ v3) → (vp_in v3 8 ∧ yR d 71 4 [some (.ref 0), some (.ref 9), some (.int (v2 + (σ 9 v3.toNatClampNeg))), some (.int (v3 + 1))] [] σ (qI K))))))) : yR d 71 4 [some (.ref 0), some (.ref 9), some (.int v2), some (.int v3)] [] σ (qI K) := wp_71 19 [4] (show ((((σ 2 10) ≤ v3) → K v2 σ) ∧ (¬ ((σ 2 10) ≤ v3) → (((8 ≤ v3) → K v2 σ) ∧ (¬ (8 ≤ v3) → (vp_in v3 8 ∧ yR d 71 4 [some (.ref 0), some (.ref 9), some (.int (v2 + (σ 9 v3.toNatClampNeg))), some (.int (v3 + 1))] [] σ (qI K)))))) from ⟨fun q1 => (h.1 q1), fun q1 => ⟨fun q2 => ((h.2 q1).1 q2), fun q2 => ⟨((h.2 q1).2 q2).1, ((h.2 q1).2 q2).2⟩⟩⟩)
theorem w_71_0_93 {d : Nat} {σ : yS} {K : Int32 → yS → Prop} (h : yR d 71 4 [some (.ref 0), some (.ref 93), some (.int 0), some (.int 0)] [] σ (qI K)) : yR d 71 0 [some (.ref 0), some (.ref 93), none, none] [] σ (qI K) := wp_71 6 [4] h
theorem w_71_4_93 {d : Nat} {σ : yS} {v2 v3 : Int32} {K : Int32 → yS → Prop} (h : ((((σ 2 10) ≤ v3) → K v2 σ) ∧ (¬ ((σ 2 10) ≤ v3) → (((8 ≤ v3) → K v2 σ) ∧ (¬ (8 ≤ v3) → (vp_in v3 8 ∧ yR d 71 4 [some (.ref 0), some (.ref 93), some (.int (v2 + (σ 93 v3.toNatClampNeg))), some (.int (v3 + 1))] [] σ (qI K))))))) : yR d 71 4 [some (.ref 0), some (.ref 93), some (.int v2), some (.int v3)] [] σ (qI K) := wp_71 19 [4] (show ((((σ 2 10) ≤ v3) → K v2 σ) ∧ (¬ ((σ 2 10) ≤ v3) → (((8 ≤ v3) → K v2 σ) ∧ (¬ (8 ≤ v3) → (vp_in v3 8 ∧ yR d 71 4 [some (.ref 0), some (.ref 93), some (.int (v2 + (σ 93 v3.toNatClampNeg))), some (.int (v3 + 1))] [] σ (qI K)))))) from ⟨fun q1 => (h.1 q1), fun q1 => ⟨fun q2 => ((h.2 q1).1 q2), fun q2 => ⟨((h.2 q1).2 q2).1, ((h.2 q1).2 q2).2⟩⟩⟩)
theorem w_71_0_94 {d : Nat} {σ : yS} {K : Int32 → yS → Prop} (h : yR d 71 4 [some (.ref 0), some (.ref 94), some (.int 0), some (.int 0)] [] σ (qI K)) : yR d 71 0 [some (.ref 0), some (.ref 94), none, none] [] σ (qI K) := wp_71 6 [4] h
theorem w_71_4_94 {d : Nat} {σ : yS} {v2 v3 : Int32} {K : Int32 → yS → Prop} (h : ((((σ 2 10) ≤ v3) → K v2 σ) ∧ (¬ ((σ 2 10) ≤ v3) → (((8 ≤ v3) → K v2 σ) ∧ (¬ (8 ≤ v3) → (vp_in v3 8 ∧ yR d 71 4 [some (.ref 0), some (.ref 94), some (.int (v2 + (σ 94 v3.toNatClampNeg))), some (.int (v3 + 1))] [] σ (qI K))))))) : yR d 71 4 [some (.ref 0), some (.ref 94), some (.int v2), some (.int v3)] [] σ (qI K) := wp_71 19 [4] (show ((((σ 2 10) ≤ v3) → K v2 σ) ∧ (¬ ((σ 2 10) ≤ v3) → (((8 ≤ v3) → K v2 σ) ∧ (¬ (8 ≤ v3) → (vp_in v3 8 ∧ yR d 71 4 [some (.ref 0), some (.ref 94), some (.int (v2 + (σ 94 v3.toNatClampNeg))), some (.int (v3 + 1))] [] σ (qI K)))))) from ⟨fun q1 => (h.1 q1), fun q1 => ⟨fun q2 => ((h.2 q1).1 q2), fun q2 => ⟨((h.2 q1).2 q2).1, ((h.2 q1).2 q2).2⟩⟩⟩)
theorem w_72_0 {d : Nat} {σ : yS} {K : yS → Prop} (h : yR d 1 0 [some (.ref 27), some (.ref 2), none] [] σ (qV (fun σ1 => K (sg σ1 90 0 0)))) : yR (d + 1) 72 0 [some (.ref 0)] [] σ (qV K) := wp_72 11 [] (show yR d 1 0 [some (.ref 27), some (.ref 2), none] [] σ (qV (fun σ1 => (yBo 0 ∧ K (sg σ1 90 0 0)))) from (yR.mono h (qV_mono (fun σ1 q1 => ⟨yB0, q1⟩))))
theorem w_73_0 {d : Nat} {σ : yS} {K : Int32 → yS → Prop} (h : K (-2000000) (sg σ 0 7 ((σ 0 7) + 1))) : yR d 73 0 [some (.ref 0)] [] σ (qI K) := wp_73 9 [] h
theorem w_74_0 {d : Nat} {σ : yS} {v1 : Int32} {K : Int32 → yS → Prop} (h : yR d 76 0 [some (.int v1), some (.int (σ 2 10))] [] σ (qI (fun x1 σ1 => (yBo x1 ∧ K x1 σ1)))) : yR (d + 1) 74 0 [some (.ref 0), some (.int v1)] [] σ (qI K) := wp_74 7 [] (show yR d 76 0 [some (.int v1), some (.int (σ 2 10))] [] σ (qI (fun x1 σ1 => (yBo x1 ∧ K x1 σ1))) from (yR.mono h (qI_mono (fun x1 σ1 q1 => ⟨q1.1, q1.2⟩))))
theorem w_75_0 {d : Nat} {σ : yS} {v0 : Int32} {K : Int32 → yS → Prop} (h : (((v0 < 0) → K 0 σ) ∧ (¬ (v0 < 0) → (((4 ≤ v0) → K 0 σ) ∧ (¬ (4 ≤ v0) → K 1 σ))))) : yR d 75 0 [some (.int v0)] [] σ (qI K) := wp_75 9 [] (show (((v0 < 0) → (yBo 0 ∧ K 0 σ)) ∧ (¬ (v0 < 0) → (((4 ≤ v0) → (yBo 0 ∧ K 0 σ)) ∧ (¬ (4 ≤ v0) → (yBo 1 ∧ K 1 σ))))) from ⟨fun q1 => ⟨yB0, (h.1 q1)⟩, fun q1 => ⟨fun q2 => ⟨yB0, ((h.2 q1).1 q2)⟩, fun q2 => ⟨yB1, ((h.2 q1).2 q2)⟩⟩⟩)
theorem w_76_0 {d : Nat} {σ : yS} {v0 v1 : Int32} {K : Int32 → yS → Prop} (h : (((v0 < 0) → K 0 σ) ∧ (¬ (v0 < 0) → (((v1 ≤ v0) → K 0 σ) ∧ (¬ (v1 ≤ v0) → K 1 σ))))) : yR d 76 0 [some (.int v0), some (.int v1)] [] σ (qI K) := wp_76 9 [] (show (((v0 < 0) → (yBo 0 ∧ K 0 σ)) ∧ (¬ (v0 < 0) → (((v1 ≤ v0) → (yBo 0 ∧ K 0 σ)) ∧ (¬ (v1 ≤ v0) → (yBo 1 ∧ K 1 σ))))) from ⟨fun q1 => ⟨yB0, (h.1 q1)⟩, fun q1 => ⟨fun q2 => ⟨yB0, ((h.2 q1).1 q2)⟩, fun q2 => ⟨yB1, ((h.2 q1).2 q2)⟩⟩⟩)
theorem w_77_0 {d : Nat} {σ : yS} {v0 : Int32} {K : Int32 → yS → Prop} (h : (((v0 < 0) → K 0 σ) ∧ (¬ (v0 < 0) → (((60 ≤ v0) → K 0 σ) ∧ (¬ (60 ≤ v0) → K 1 σ))))) : yR d 77 0 [some (.int v0)] [] σ (qI K) := wp_77 9 [] (show (((v0 < 0) → (yBo 0 ∧ K 0 σ)) ∧ (¬ (v0 < 0) → (((60 ≤ v0) → (yBo 0 ∧ K 0 σ)) ∧ (¬ (60 ≤ v0) → (yBo 1 ∧ K 1 σ))))) from ⟨fun q1 => ⟨yB0, (h.1 q1)⟩, fun q1 => ⟨fun q2 => ⟨yB0, ((h.2 q1).1 q2)⟩, fun q2 => ⟨yB1, ((h.2 q1).2 q2)⟩⟩⟩)
theorem w_78_0 {d : Nat} {σ : yS} {w0 : Int64} {K : Int32 → yS → Prop} (h : ((((lg_cmp w0 (-999999)) < 0) → K 0 σ) ∧ (¬ ((lg_cmp w0 (-999999)) < 0) → (((0 < (lg_cmp w0 999999)) → K 0 σ) ∧ (¬ (0 < (lg_cmp w0 999999)) → K 1 σ))))) : yR d 78 0 [some (.long w0), none] [] σ (qI K) := wp_78 12 [] (show ((((lg_cmp w0 (-999999)) < 0) → (yBo 0 ∧ K 0 σ)) ∧ (¬ ((lg_cmp w0 (-999999)) < 0) → (((0 < (lg_cmp w0 999999)) → (yBo 0 ∧ K 0 σ)) ∧ (¬ (0 < (lg_cmp w0 999999)) → (yBo 1 ∧ K 1 σ))))) from ⟨fun q1 => ⟨yB0, (h.1 q1)⟩, fun q1 => ⟨fun q2 => ⟨yB0, ((h.2 q1).1 q2)⟩, fun q2 => ⟨yB1, ((h.2 q1).2 q2)⟩⟩⟩)
theorem w_147_0 {d : Nat} {σ : yS} {v0 v1 : Int32} {K : Int32 → yS → Prop} (h : (¬ v1 = 0 ∧ (((0 ≤ (v0 ^^^ v1)) → K (v0 - v0 / v1 * v1) σ) ∧ (¬ (0 ≤ (v0 ^^^ v1)) → ((((v0 - v0 / v1 * v1) = 0) → K (v0 - v0 / v1 * v1) σ) ∧ (¬ ((v0 - v0 / v1 * v1) = 0) → K ((v0 - v0 / v1 * v1) + v1) σ)))))) : yR d 147 0 [some (.int v0), some (.int v1), none] [] σ (qI K) := wp_147 15 [] (show (¬ v1 = 0 ∧ (((0 ≤ (v0 ^^^ v1)) → K (v0 - v0 / v1 * v1) σ) ∧ (¬ (0 ≤ (v0 ^^^ v1)) → ((((v0 - v0 / v1 * v1) = 0) → K (v0 - v0 / v1 * v1) σ) ∧ (¬ ((v0 - v0 / v1 * v1) = 0) → K ((v0 - v0 / v1 * v1) + v1) σ))))) from ⟨h.1, ⟨fun q1 => (h.2.1 q1), fun q1 => ⟨fun q2 => ((h.2.2 q1).1 q2), fun q2 => ((h.2.2 q1).2 q2)⟩⟩⟩)
theorem w_148_0 {d : Nat} {σ : yS} {v0 v1 : Int32} {K : Int32 → yS → Prop} (h : (((v0 < v1) → K v1 σ) ∧ (¬ (v0 < v1) → K v0 σ))) : yR d 148 0 [some (.int v0), some (.int v1)] [] σ (qI K) := wp_148 7 [] (show (((v0 < v1) → K v1 σ) ∧ (¬ (v0 < v1) → K v0 σ)) from ⟨fun q1 => (h.1 q1), fun q1 => (h.2 q1)⟩)
theorem w_149_0 {d : Nat} {σ : yS} {v0 v1 : Int32} {K : Int32 → yS → Prop} (h : (((v1 < v0) → K v1 σ) ∧ (¬ (v1 < v0) → K v0 σ))) : yR d 149 0 [some (.int v0), some (.int v1)] [] σ (qI K) := wp_149 7 [] (show (((v1 < v0) → K v1 σ) ∧ (¬ (v1 < v0) → K v0 σ)) from ⟨fun q1 => (h.1 q1), fun q1 => (h.2 q1)⟩)
end
section
theorem w_80_0 {d : Nat} {σ : yS} {v0 v1 v2 : Int32} {K : Int32 → yS → Prop} (h : (((v0 < v1) → K 0 σ) ∧ (¬ (v0 < v1) → (((v2 < v0) → K 0 σ) ∧ (¬ (v2 < v0) → K 1 σ))))) : yR d 80 0 [some (.int v0), some (.int v1), some (.int v2)] [] σ (qI K) := wp_80 10 [] (show (((v0 < v1) → (yBo 0 ∧ K 0 σ)) ∧ (¬ (v0 < v1) → (((v2 < v0) → (yBo 0 ∧ K 0 σ)) ∧ (¬ (v2 < v0) → (yBo 1 ∧ K 1 σ))))) from ⟨fun q1 => ⟨yB0, (h.1 q1)⟩, fun q1 => ⟨fun q2 => ⟨yB0, ((h.2 q1).1 q2)⟩, fun q2 => ⟨yB1, ((h.2 q1).2 q2)⟩⟩⟩)
theorem w_81_0 {d : Nat} {σ : yS} {v1 : Int32} {K : Int32 → yS → Prop} (h : (vp_in ((-2000000) - v1) 3 ∧ K v1 (sg σ 101 ((-2000000) - v1).toNatClampNeg ((σ 101 ((-2000000) - v1).toNatClampNeg) + 1)))) : yR d 81 0 [some (.ref 97), some (.int v1)] [] σ (qI K) := wp_81 13 [] (show (vp_in ((-2000000) - v1) 3 ∧ (vp_in ((-2000000) - v1) 3 ∧ K v1 (sg σ 101 ((-2000000) - v1).toNatClampNeg ((σ 101 ((-2000000) - v1).toNatClampNeg) + 1)))) from ⟨h.1, ⟨h.1, h.2⟩⟩)
theorem w_82_0 {d : Nat} {σ : yS} {K : yS → Prop} (h : yR d 82 2 [some (.ref 97), some (.int 0)] [] σ (qV K)) : yR d 82 0 [some (.ref 97), none] [] σ (qV K) := wp_82 4 [2] h
theorem w_82_2 {d : Nat} {σ : yS} {v1 : Int32} {K : yS → Prop} (h : (((89 ≤ v1) → K σ) ∧ (¬ (89 ≤ v1) → (vp_in v1 89 ∧ yR d 82 2 [some (.ref 97), some (.int (v1 + 1))] [] (sg σ 99 v1.toNatClampNeg (σ 98 v1.toNatClampNeg)) (qV K))))) : yR d 82 2 [some (.ref 97), some (.int v1)] [] σ (qV K) := wp_82 15 [2] (show (((89 ≤ v1) → K σ) ∧ (¬ (89 ≤ v1) → (vp_in v1 89 ∧ (vp_in v1 89 ∧ yR d 82 2 [some (.ref 97), some (.int (v1 + 1))] [] (sg σ 99 v1.toNatClampNeg (σ 98 v1.toNatClampNeg)) (qV K))))) from ⟨fun q1 => (h.1 q1), fun q1 => ⟨(h.2 q1).1, ⟨(h.2 q1).1, (h.2 q1).2⟩⟩⟩)
theorem w_83_0 {d : Nat} {σ : yS} {K : yS → Prop} (h : ((¬ ((σ 97 3) = 5) → yR d 83 50 [some (.ref 97), some (.int 0)] [] σ (qV K)) ∧ (((σ 97 3) = 5) → yR d 83 10 [some (.ref 97), some (.int 0)] [] σ (qV K)))) : yR d 83 0 [some (.ref 97), none] [] σ (qV K) := wp_83 8 [10, 50] (show ((¬ ((σ 97 3) = 5) → yR d 83 50 [some (.ref 97), some (.int 0)] [] σ (qV K)) ∧ (((σ 97 3) = 5) → yR d 83 10 [some (.ref 97), some (.int 0)] [] σ (qV K))) from ⟨fun q1 => (h.1 q1), fun q1 => (h.2 q1)⟩)
theorem w_83_10 {d : Nat} {σ : yS} {v1 : Int32} {K : yS → Prop} (h : (((356 ≤ v1) → yR d 83 50 [some (.ref 97), some (.int 0)] [] (sg σ 97 3 ((σ 97 3) - 1)) (qV K)) ∧ (¬ (356 ≤ v1) → (vp_in (v1 + 89) 445 ∧ (vp_in v1 445 ∧ yR d 83 10 [some (.ref 97), some (.int (v1 + 1))] [] (sg σ 100 v1.toNatClampNeg (σ 100 (v1 + 89).toNatClampNeg)) (qV K)))))) : yR d 83 10 [some (.ref 97), some (.int v1)] [] σ (qV K) := wp_83 17 [10, 50] (show (((356 ≤ v1) → yR d 83 50 [some (.ref 97), some (.int 0)] [] (sg σ 97 3 ((σ 97 3) - 1)) (qV K)) ∧ (¬ (356 ≤ v1) → (vp_in (v1 + 89) 445 ∧ (vp_in v1 445 ∧ yR d 83 10 [some (.ref 97), some (.int (v1 + 1))] [] (sg σ 100 v1.toNatClampNeg (σ 100 (v1 + 89).toNatClampNeg)) (qV K))))) from ⟨fun q1 => (h.1 q1), fun q1 => ⟨(h.2 q1).1, ⟨(h.2 q1).2.1, (h.2 q1).2.2⟩⟩⟩)
theorem w_83_50 {d : Nat} {σ : yS} {v1 : Int32} {K : yS → Prop} (h : (((89 ≤ v1) → K (sg σ 97 3 ((σ 97 3) + 1))) ∧ (¬ (89 ≤ v1) → (vp_in v1 89 ∧ (vp_in ((89 * (σ 97 3)) + v1) 445 ∧ yR d 83 50 [some (.ref 97), some (.int (v1 + 1))] [] (sg σ 100 ((89 * (σ 97 3)) + v1).toNatClampNeg (σ 99 v1.toNatClampNeg)) (qV K)))))) : yR d 83 50 [some (.ref 97), some (.int v1)] [] σ (qV K) := wp_83 20 [10, 50] (show (((89 ≤ v1) → K (sg σ 97 3 ((σ 97 3) + 1))) ∧ (¬ (89 ≤ v1) → (vp_in v1 89 ∧ (vp_in ((89 * (σ 97 3)) + v1) 445 ∧ yR d 83 50 [some (.ref 97), some (.int (v1 + 1))] [] (sg σ 100 ((89 * (σ 97 3)) + v1).toNatClampNeg (σ 99 v1.toNatClampNeg)) (qV K))))) from ⟨fun q1 => (h.1 q1), fun q1 => ⟨(h.2 q1).1, ⟨(h.2 q1).2.1, (h.2 q1).2.2⟩⟩⟩)
theorem w_84_0 {d : Nat} {σ : yS} {K : Int32 → yS → Prop} (h : ((¬ ((σ 97 3) = 0) → yR (d + 1) 84 26 [some (.ref 97), some (.int 0)] [] (sg σ 97 3 ((σ 97 3) - 1)) (qI K)) ∧ (((σ 97 3) = 0) → yR d 81 0 [some (.ref 97), some (.int (-2000001))] [] σ (qI (fun x1 σ1 => K x1 σ1))))) : yR (d + 1) 84 0 [some (.ref 97), none] [] σ (qI K) := wp_84 13 [26] (show ((¬ ((σ 97 3) = 0) → yR (d + 1) 84 26 [some (.ref 97), some (.int 0)] [] (sg σ 97 3 ((σ 97 3) - 1)) (qI K)) ∧ (((σ 97 3) = 0) → yR d 81 0 [some (.ref 97), some (.int (-2000001))] [] σ (qI (fun x1 σ1 => K x1 σ1)))) from ⟨fun q1 => (h.1 q1), fun q1 => (h.2 q1)⟩)
theorem w_84_26 {d : Nat} {σ : yS} {v1 : Int32} {K : Int32 → yS → Prop} (h : (((89 ≤ v1) → K (σ 97 3) σ) ∧ (¬ (89 ≤ v1) → (vp_in ((89 * (σ 97 3)) + v1) 445 ∧ (vp_in v1 89 ∧ yR (d + 1) 84 26 [some (.ref 97), some (.int (v1 + 1))] [] (sg σ 98 v1.toNatClampNeg (σ 100 ((89 * (σ 97 3)) + v1).toNatClampNeg)) (qI K)))))) : yR (d + 1) 84 26 [some (.ref 97), some (.int v1)] [] σ (qI K) := wp_84 20 [26] (show (((89 ≤ v1) → K (σ 97 3) σ) ∧ (¬ (89 ≤ v1) → (vp_in ((89 * (σ 97 3)) + v1) 445 ∧ (vp_in v1 89 ∧ yR (d + 1) 84 26 [some (.ref 97), some (.int (v1 + 1))] [] (sg σ 98 v1.toNatClampNeg (σ 100 ((89 * (σ 97 3)) + v1).toNatClampNeg)) (qI K))))) from ⟨fun q1 => (h.1 q1), fun q1 => ⟨(h.2 q1).1, ⟨(h.2 q1).2.1, (h.2 q1).2.2⟩⟩⟩)
theorem w_85_0 {d : Nat} {σ : yS} {v0 : Int32} {K : Int32 → yS → Prop} (h : K (v0 &&& 15) σ) : yR d 85 0 [some (.int v0)] [] σ (qI K) := wp_85 5 [] h
theorem w_86_0 {d : Nat} {σ : yS} {v0 : Int32} {K : Int32 → yS → Prop} (h : K ((v0 >>> (4 &&& 31)) &&& 1023) σ) : yR d 86 0 [some (.int v0)] [] σ (qI K) := wp_86 7 [] h
theorem w_87_0 {d : Nat} {σ : yS} {v0 : Int32} {K : Int32 → yS → Prop} (h : K ((v0 >>> (14 &&& 31)) &&& 63) σ) : yR d 87 0 [some (.int v0)] [] σ (qI K) := wp_87 7 [] h
theorem w_88_0 {d : Nat} {σ : yS} {v0 : Int32} {K : Int32 → yS → Prop} (h : K ((v0 >>> (20 &&& 31)) &&& 63) σ) : yR d 88 0 [some (.int v0)] [] σ (qI K) := wp_88 7 [] h
theorem w_89_0 {d : Nat} {σ : yS} {v0 v1 v2 v3 : Int32} {K : Int32 → yS → Prop} (h : K (((v0 ||| (v1 <<< (4 &&& 31))) ||| (v2 <<< (14 &&& 31))) ||| (v3 <<< (20 &&& 31))) σ) : yR d 89 0 [some (.int v0), some (.int v1), some (.int v2), some (.int v3)] [] σ (qI K) := wp_89 15 [] h
theorem w_90_0 {d : Nat} {σ : yS} {v0 : Int32} {K : Int32 → yS → Prop} (h : yR d 80 0 [some (.int v0), some (.int 2), some (.int 10)] [] σ (qI (fun x1 σ1 => (yBo x1 ∧ K x1 σ1)))) : yR (d + 1) 90 0 [some (.int v0)] [] σ (qI K) := wp_90 6 [] (show yR d 80 0 [some (.int v0), some (.int 2), some (.int 10)] [] σ (qI (fun x1 σ1 => (yBo x1 ∧ K x1 σ1))) from (yR.mono h (qI_mono (fun x1 σ1 q1 => ⟨q1.1, q1.2⟩))))
theorem w_91_0 {d : Nat} {σ : yS} {v1 : Int32} {K : Int32 → yS → Prop} (h : yR d 91 5 [some (.ref 97), some (.int v1), some (.int 25), some (.int 0)] [] σ (qI K)) : yR d 91 0 [some (.ref 97), some (.int v1), none, none] [] σ (qI K) := wp_91 6 [5] h
theorem w_91_5 {d : Nat} {σ : yS} {v1 v2 v3 : Int32} {K : Int32 → yS → Prop} (h : (((v1 ≤ v3) → K v2 σ) ∧ (¬ (v1 ≤ v3) → (vp_in (9 + v3) 89 ∧ yR d 91 5 [some (.ref 97), some (.int v1), some (.int (v2 + (σ 98 (9 + v3).toNatClampNeg))), some (.int (v3 + 1))] [] σ (qI K))))) : yR d 91 5 [some (.ref 97), some (.int v1), some (.int v2), some (.int v3)] [] σ (qI K) := wp_91 16 [5] (show (((v1 ≤ v3) → K v2 σ) ∧ (¬ (v1 ≤ v3) → (vp_in (9 + v3) 89 ∧ yR d 91 5 [some (.ref 97), some (.int v1), some (.int (v2 + (σ 98 (9 + v3).toNatClampNeg))), some (.int (v3 + 1))] [] σ (qI K)))) from ⟨fun q1 => (h.1 q1), fun q1 => ⟨(h.2 q1).1, (h.2 q1).2⟩⟩)
theorem w_92_0 {d : Nat} {σ : yS} {K : Int32 → yS → Prop} (h : (vp_in 0 89 ∧ yR d 91 0 [some (.ref 97), some (.int (σ 98 0)), none, none] [] σ (qI (fun x1 σ1 => K (x1 - 25) σ1)))) : yR (d + 1) 92 0 [some (.ref 97)] [] σ (qI K) := wp_92 10 [] (show (vp_in 0 89 ∧ yR d 91 0 [some (.ref 97), some (.int (σ 98 0)), none, none] [] σ (qI (fun x1 σ1 => K (x1 - 25) σ1))) from ⟨h.1, h.2⟩)
theorem w_93_0 {d : Nat} {σ : yS} {v1 : Int32} {K : Int32 → yS → Prop} (h : (vp_in 0 89 ∧ yR d 80 0 [some (.int v1), some (.int 0), some (.int ((σ 98 0) - 1))] [] σ (qI (fun x1 σ1 => (yBo x1 ∧ K x1 σ1))))) : yR (d + 1) 93 0 [some (.ref 97), some (.int v1)] [] σ (qI K) := wp_93 11 [] (show (vp_in 0 89 ∧ yR d 80 0 [some (.int v1), some (.int 0), some (.int ((σ 98 0) - 1))] [] σ (qI (fun x1 σ1 => (yBo x1 ∧ K x1 σ1)))) from ⟨h.1, (yR.mono h.2 (qI_mono (fun x1 σ1 q1 => ⟨q1.1, q1.2⟩)))⟩)
theorem w_94_0 {d : Nat} {σ : yS} {v1 : Int32} {K : Int32 → yS → Prop} (h : yR d 80 0 [some (.int v1), some (.int 0), some (.int 127)] [] σ (qI (fun x1 σ1 => ((¬ (x1 = 0) → ((¬ ((σ1 97 6) = 150) → (vp_in (σ1 97 6) 150 ∧ K ((σ1 97 6) + 1) (sg (sg σ1 102 (σ1 97 6).toNatClampNeg v1) 97 6 ((σ1 97 6) + 1)))) ∧ (((σ1 97 6) = 150) → yR d 81 0 [some (.ref 97), some (.int (-2000002))] [] σ1 (qI (fun x2 σ2 => K x2 σ2))))) ∧ ((x1 = 0) → yR d 81 0 [some (.ref 97), some (.int (-2000000))] [] σ1 (qI (fun x3 σ3 => K x3 σ3))))))) : yR (d + 1) 94 0 [some (.ref 97), some (.int v1)] [] σ (qI K) := wp_94 25 [] (show yR d 80 0 [some (.int v1), some (.int 0), some (.int 127)] [] σ (qI (fun x1 σ1 => ((¬ (x1 = 0) → ((¬ ((σ1 97 6) = 150) → (vp_in (σ1 97 6) 150 ∧ K ((σ1 97 6) + 1) (sg (sg σ1 102 (σ1 97 6).toNatClampNeg v1) 97 6 ((σ1 97 6) + 1)))) ∧ (((σ1 97 6) = 150) → yR d 81 0 [some (.ref 97), some (.int (-2000002))] [] σ1 (qI (fun x2 σ2 => K x2 σ2))))) ∧ ((x1 = 0) → yR d 81 0 [some (.ref 97), some (.int (-2000000))] [] σ1 (qI (fun x3 σ3 => K x3 σ3)))))) from (yR.mono h (qI_mono (fun x1 σ1 q1 => ⟨fun q2 => ⟨fun q3 => ⟨((q1.1 q2).1 q3).1, ((q1.1 q2).1 q3).2⟩, fun q3 => ((q1.1 q2).2 q3)⟩, fun q2 => (q1.2 q2)⟩))))
theorem w_95_0 {d : Nat} {σ : yS} {K : Int32 → yS → Prop} (h : K (σ 97 6) (sg σ 97 6 0)) : yR d 95 0 [some (.ref 97), none] [] σ (qI K) := wp_95 9 [] h
theorem w_96_0 {d : Nat} {σ : yS} {K : Int32 → yS → Prop} (h : ((((σ 97 6) ≤ (σ 97 7)) → K (-1999999) σ) ∧ (¬ ((σ 97 6) ≤ (σ 97 7)) → (vp_in (σ 97 7) 150 ∧ ((¬ ((σ 102 (σ 97 7).toNatClampNeg) = 32) → K (σ 102 (σ 97 7).toNatClampNeg) σ) ∧ (((σ 102 (σ 97 7).toNatClampNeg) = 32) → yR d 96 0 [some (.ref 97)] [] (sg σ 97 7 ((σ 97 7) + 1)) (qI K))))))) : yR d 96 0 [some (.ref 97)] [] σ (qI K) := wp_96 25 [0] (show ((((σ 97 6) ≤ (σ 97 7)) → ((((σ 97 6) ≤ (σ 97 7)) → K (-1999999) σ) ∧ (¬ ((σ 97 6) ≤ (σ 97 7)) → (vp_in (σ 97 7) 150 ∧ K (σ 102 (σ 97 7).toNatClampNeg) σ)))) ∧ (¬ ((σ 97 6) ≤ (σ 97 7)) → (vp_in (σ 97 7) 150 ∧ ((¬ ((σ 102 (σ 97 7).toNatClampNeg) = 32) → ((((σ 97 6) ≤ (σ 97 7)) → K (-1999999) σ) ∧ (¬ ((σ 97 6) ≤ (σ 97 7)) → (vp_in (σ 97 7) 150 ∧ K (σ 102 (σ 97 7).toNatClampNeg) σ)))) ∧ (((σ 102 (σ 97 7).toNatClampNeg) = 32) → yR d 96 0 [some (.ref 97)] [] (sg σ 97 7 ((σ 97 7) + 1)) (qI K)))))) from ⟨fun q1 => ⟨fun _ => (h.1 q1), fun q => absurd q1 q⟩, fun q1 => ⟨(h.2 q1).1, ⟨fun q2 => ⟨fun q => absurd q q1, fun _ => ⟨(h.2 q1).1, ((h.2 q1).2.1 q2)⟩⟩, fun q2 => ((h.2 q1).2.2 q2)⟩⟩⟩)
theorem w_97_0 {d : Nat} {σ : yS} {v1 : Int32} {K : yS → Prop} (h : ((¬ ((σ 97 8) = (-1999999)) → K σ) ∧ (((σ 97 8) = (-1999999)) → ((¬ (v1 = 0) → K σ) ∧ ((v1 = 0) → K (sg σ 97 8 (σ 97 7))))))) : yR d 97 0 [some (.ref 97), some (.int v1)] [] σ (qV K) := wp_97 12 [] (show ((¬ ((σ 97 8) = (-1999999)) → K σ) ∧ (((σ 97 8) = (-1999999)) → ((¬ (v1 = 0) → K σ) ∧ ((v1 = 0) → K (sg σ 97 8 (σ 97 7)))))) from ⟨fun q1 => (h.1 q1), fun q1 => ⟨fun q2 => ((h.2 q1).1 q2), fun q2 => ((h.2 q1).2 q2)⟩⟩)
theorem w_98_0 {d : Nat} {σ : yS} {v0 : Int32} {K : Int32 → yS → Prop} (h : (((v0 = 38) → K 2 σ) ∧ (¬ (v0 = 38) → (((v0 = 42) → K 10 σ) ∧ (¬ (v0 = 42) → (((v0 = 43) → K 8 σ) ∧ (¬ (v0 = 43) → (((v0 = 45) → K 9 σ) ∧ (¬ (v0 = 45) → (((v0 = 60) → K 4 σ) ∧ (¬ (v0 = 60) → (((v0 = 61) → K 6 σ) ∧ (¬ (v0 = 61) → (((v0 = 62) → K 5 σ) ∧ (¬ (v0 = 62) → (((v0 = 124) → K 3 σ) ∧ (¬ (v0 = 124) → (((v0 = 126) → K 7 σ) ∧ (¬ (v0 = 126) → K (-1999999) σ))))))))))))))))))) : yR d 98 0 [some (.int v0)] [] σ (qI K) := wp_98 5 [] (show (((v0 = 38) → K 2 σ) ∧ (¬ (v0 = 38) → (((v0 = 42) → K 10 σ) ∧ (¬ (v0 = 42) → (((v0 = 43) → K 8 σ) ∧ (¬ (v0 = 43) → (((v0 = 45) → K 9 σ) ∧ (¬ (v0 = 45) → (((v0 = 60) → K 4 σ) ∧ (¬ (v0 = 60) → (((v0 = 61) → K 6 σ) ∧ (¬ (v0 = 61) → (((v0 = 62) → K 5 σ) ∧ (¬ (v0 = 62) → (((v0 = 124) → K 3 σ) ∧ (¬ (v0 = 124) → (((v0 = 126) → K 7 σ) ∧ (¬ (v0 = 126) → K (-1999999) σ)))))))))))))))))) from ⟨fun q1 => (h.1 q1), fun q1 => ⟨fun q2 => ((h.2 q1).1 q2), fun q2 => ⟨fun q3 => (((h.2 q1).2 q2).1 q3), fun q3 => ⟨fun q4 => ((((h.2 q1).2 q2).2 q3).1 q4), fun q4 => ⟨fun q5 => (((((h.2 q1).2 q2).2 q3).2 q4).1 q5), fun q5 => ⟨fun q6 => ((((((h.2 q1).2 q2).2 q3).2 q4).2 q5).1 q6), fun q6 => ⟨fun q7 => (((((((h.2 q1).2 q2).2 q3).2 q4).2 q5).2 q6).1 q7), fun q7 => ⟨fun q8 => ((((((((h.2 q1).2 q2).2 q3).2 q4).2 q5).2 q6).2 q7).1 q8), fun q8 => ⟨fun q9 => (((((((((h.2 q1).2 q2).2 q3).2 q4).2 q5).2 q6).2 q7).2 q8).1 q9), fun q9 => (((((((((h.2 q1).2 q2).2 q3).2 q4).2 q5).2 q6).2 q7).2 q8).2 q9)⟩⟩⟩⟩⟩⟩⟩⟩⟩)
theorem w_99_0 {d : Nat} {σ : yS} {v0 : Int32} {K : Int32 → yS → Prop} (h : ((¬ (v0 = 2) → ((¬ (v0 = 3) → yR d 80 0 [some (.int v0), some (.int 4), some (.int 6)] [] σ (qI (fun x1 σ1 => (((x1 = 0) → ((¬ (v0 = 7) → ((¬ (v0 = 10) → K 5 σ1) ∧ ((v0 = 10) → K 6 σ1))) ∧ ((v0 = 7) → K 4 σ1))) ∧ (¬ (x1 = 0) → K 3 σ1))))) ∧ ((v0 = 3) → K 2 σ))) ∧ ((v0 = 2) → K 1 σ))) : yR (d + 1) 99 0 [some (.int v0)] [] σ (qI K) := wp_99 21 [] (show ((¬ (v0 = 2) → ((¬ (v0 = 3) → yR d 80 0 [some (.int v0), some (.int 4), some (.int 6)] [] σ (qI (fun x1 σ1 => (((x1 = 0) → ((¬ (v0 = 7) → ((¬ (v0 = 10) → K 5 σ1) ∧ ((v0 = 10) → K 6 σ1))) ∧ ((v0 = 7) → K 4 σ1))) ∧ (¬ (x1 = 0) → K 3 σ1))))) ∧ ((v0 = 3) → K 2 σ))) ∧ ((v0 = 2) → K 1 σ)) from ⟨fun q1 => ⟨fun q2 => (yR.mono ((h.1 q1).1 q2) (qI_mono (fun x1 σ1 q3 => ⟨fun q4 => ⟨fun q5 => ⟨fun q6 => (((q3.1 q4).1 q5).1 q6), fun q6 => (((q3.1 q4).1 q5).2 q6)⟩, fun q5 => ((q3.1 q4).2 q5)⟩, fun q4 => (q3.2 q4)⟩))), fun q2 => ((h.1 q1).2 q2)⟩, fun q1 => (h.2 q1)⟩)
theorem w_100_0 {d : Nat} {σ : yS} {v1 : Int32} {K : Int32 → yS → Prop} (h : (((60 ≤ (σ 97 11)) → yR d 97 0 [some (.ref 97), some (.int 0)] [] σ (qV (fun σ1 => ((¬ ((σ1 97 8) = (-1999999)) → K (((σ1 97 11) - 1) - (σ1 97 10)) σ1) ∧ (((σ1 97 8) = (-1999999)) → (vp_in (25 + (σ1 97 11)) 89 ∧ K ((((σ1 97 11) + 1) - 1) - (σ1 97 10)) (sg (sg σ1 103 (25 + (σ1 97 11)).toNatClampNeg v1) 97 11 ((σ1 97 11) + 1)))))))) ∧ (¬ (60 ≤ (σ 97 11)) → yR d 97 0 [some (.ref 97), some (.int 1)] [] σ (qV (fun σ2 => ((¬ ((σ2 97 8) = (-1999999)) → K (((σ2 97 11) - 1) - (σ2 97 10)) σ2) ∧ (((σ2 97 8) = (-1999999)) → (vp_in (25 + (σ2 97 11)) 89 ∧ K ((((σ2 97 11) + 1) - 1) - (σ2 97 10)) (sg (sg σ2 103 (25 + (σ2 97 11)).toNatClampNeg v1) 97 11 ((σ2 97 11) + 1)))))))))) : yR (d + 1) 100 0 [some (.ref 97), some (.int v1)] [] σ (qI K) := wp_100 35 [] (show (((60 ≤ (σ 97 11)) → yR d 97 0 [some (.ref 97), some (.int 0)] [] σ (qV (fun σ1 => ((¬ ((σ1 97 8) = (-1999999)) → K (((σ1 97 11) - 1) - (σ1 97 10)) σ1) ∧ (((σ1 97 8) = (-1999999)) → (vp_in (25 + (σ1 97 11)) 89 ∧ K ((((σ1 97 11) + 1) - 1) - (σ1 97 10)) (sg (sg σ1 103 (25 + (σ1 97 11)).toNatClampNeg v1) 97 11 ((σ1 97 11) + 1)))))))) ∧ (¬ (60 ≤ (σ 97 11)) → yR d 97 0 [some (.ref 97), some (.int 1)] [] σ (qV (fun σ2 => ((¬ ((σ2 97 8) = (-1999999)) → K (((σ2 97 11) - 1) - (σ2 97 10)) σ2) ∧ (((σ2 97 8) = (-1999999)) → (vp_in (25 + (σ2 97 11)) 89 ∧ K ((((σ2 97 11) + 1) - 1) - (σ2 97 10)) (sg (sg σ2 103 (25 + (σ2 97 11)).toNatClampNeg v1) 97 11 ((σ2 97 11) + 1))))))))) from ⟨fun q1 => (yR.mono (h.1 q1) (qV_mono (fun σ1 q2 => ⟨fun q3 => (q2.1 q3), fun q3 => ⟨(q2.2 q3).1, (q2.2 q3).2⟩⟩))), fun q1 => (yR.mono (h.2 q1) (qV_mono (fun σ2 q4 => ⟨fun q5 => (q4.1 q5), fun q5 => ⟨(q4.2 q5).1, (q4.2 q5).2⟩⟩)))⟩)
theorem w_101_0 {d : Nat} {σ : yS} {v1 v2 : Int32} {K : yS → Prop} (h : (vp_in (σ 97 14) 64 ∧ (yBo v2 ∧ K (sg (sg (sg σ 104 (σ 97 14).toNatClampNeg v1) 105 (σ 97 14).toNatClampNeg v2) 97 14 ((σ 97 14) + 1))))) : yR d 101 0 [some (.ref 97), some (.int v1), some (.int v2)] [] σ (qV K) := wp_101 20 [] (show (vp_in (σ 97 14) 64 ∧ (vp_in (σ 97 14) 64 ∧ (yBo v2 ∧ K (sg (sg (sg σ 104 (σ 97 14).toNatClampNeg v1) 105 (σ 97 14).toNatClampNeg v2) 97 14 ((σ 97 14) + 1))))) from ⟨h.1, ⟨h.1, ⟨h.2.1, h.2.2⟩⟩⟩)
theorem w_102_0 {d : Nat} {σ : yS} {v1 v2 : Int32} {K : yS → Prop} (h : (vp_in (σ 97 17) 80 ∧ K (sg (sg (sg σ 106 (σ 97 17).toNatClampNeg v1) 107 (σ 97 17).toNatClampNeg v2) 97 17 ((σ 97 17) + 1)))) : yR d 102 0 [some (.ref 97), some (.int v1), some (.int v2)] [] σ (qV K) := wp_102 20 [] (show (vp_in (σ 97 17) 80 ∧ (vp_in (σ 97 17) 80 ∧ K (sg (sg (sg σ 106 (σ 97 17).toNatClampNeg v1) 107 (σ 97 17).toNatClampNeg v2) 97 17 ((σ 97 17) + 1)))) from ⟨h.1, ⟨h.1, h.2⟩⟩)
theorem w_103_0 {d : Nat} {σ : yS} {K : Int32 → yS → Prop} (h : ((¬ ((σ 97 17) = 0) → (vp_in ((σ 97 17) - 1) 80 ∧ K (σ 106 ((σ 97 17) - 1).toNatClampNeg) σ)) ∧ (((σ 97 17) = 0) → K (-1999999) σ))) : yR d 103 0 [some (.ref 97)] [] σ (qI K) := wp_103 12 [] (show ((¬ ((σ 97 17) = 0) → (vp_in ((σ 97 17) - 1) 80 ∧ K (σ 106 ((σ 97 17) - 1).toNatClampNeg) σ)) ∧ (((σ 97 17) = 0) → K (-1999999) σ)) from ⟨fun q1 => ⟨(h.1 q1).1, (h.1 q1).2⟩, fun q1 => (h.2 q1)⟩)
theorem w_104_0 {d : Nat} {σ : yS} {K : yS → Prop} (h : (vp_in ((σ 97 17) - 1) 80 ∧ yR d 90 0 [some (.int (σ 106 ((σ 97 17) - 1).toNatClampNeg))] [] (sg (sg σ 97 17 ((σ 97 17) - 1)) 97 14 ((σ 97 14) - 1)) (qI (fun x1 σ1 => (((x1 = 0) → (vp_in ((25 + (σ 97 10)) + (σ 107 ((σ 97 17) - 1).toNatClampNeg)) 89 ∧ yR d 86 0 [some (.int (σ1 103 ((25 + (σ 97 10)) + (σ 107 ((σ 97 17) - 1).toNatClampNeg)).toNatClampNeg))] [] σ1 (qI (fun x2 σ2 => (vp_in (σ2 97 14) 64 ∧ yR d 89 0 [some (.int (σ 106 ((σ 97 17) - 1).toNatClampNeg)), some (.int x2), some (.int (σ2 104 (σ2 97 14).toNatClampNeg)), some (.int 0)] [] σ2 (qI (fun x3 σ3 => yR d 101 0 [some (.ref 97), some (.int (σ 107 ((σ 97 17) - 1).toNatClampNeg)), some (.int 0)] [] (sg σ3 103 ((25 + (σ 97 10)) + (σ 107 ((σ 97 17) - 1).toNatClampNeg)).toNatClampNeg x3) (qV (fun σ4 => K σ4))))))))) ∧ (¬ (x1 = 0) → (vp_in ((σ1 97 14) - 1) 64 ∧ (vp_in (((σ1 97 14) - 1) + 1) 64 ∧ yR d 89 0 [some (.int (σ 106 ((σ 97 17) - 1).toNatClampNeg)), some (.int 0), some (.int (σ1 104 ((σ1 97 14) - 1).toNatClampNeg)), some (.int (σ1 104 (((σ1 97 14) - 1) + 1).toNatClampNeg))] [] (sg σ1 97 14 ((σ1 97 14) - 1)) (qI (fun x5 σ5 => (vp_in ((25 + (σ 97 10)) + (σ 107 ((σ 97 17) - 1).toNatClampNeg)) 89 ∧ yR d 101 0 [some (.ref 97), some (.int (σ 107 ((σ 97 17) - 1).toNatClampNeg)), some (.int 0)] [] (sg σ5 103 ((25 + (σ 97 10)) + (σ 107 ((σ 97 17) - 1).toNatClampNeg)).toNatClampNeg x5) (qV (fun σ6 => K σ6))))))))))))) : yR (d + 1) 104 0 [some (.ref 97), none, none, none] [] σ (qV K) := wp_104 66 [] (show (vp_in ((σ 97 17) - 1) 80 ∧ (vp_in ((σ 97 17) - 1) 80 ∧ yR d 90 0 [some (.int (σ 106 ((σ 97 17) - 1).toNatClampNeg))] [] (sg (sg σ 97 17 ((σ 97 17) - 1)) 97 14 ((σ 97 14) - 1)) (qI (fun x1 σ1 => (((x1 = 0) → (vp_in ((25 + (σ 97 10)) + (σ 107 ((σ 97 17) - 1).toNatClampNeg)) 89 ∧ yR d 86 0 [some (.int (σ1 103 ((25 + (σ 97 10)) + (σ 107 ((σ 97 17) - 1).toNatClampNeg)).toNatClampNeg))] [] σ1 (qI (fun x2 σ2 => (vp_in (σ2 97 14) 64 ∧ yR d 89 0 [some (.int (σ 106 ((σ 97 17) - 1).toNatClampNeg)), some (.int x2), some (.int (σ2 104 (σ2 97 14).toNatClampNeg)), some (.int 0)] [] σ2 (qI (fun x3 σ3 => (vp_in ((25 + (σ 97 10)) + (σ 107 ((σ 97 17) - 1).toNatClampNeg)) 89 ∧ yR d 101 0 [some (.ref 97), some (.int (σ 107 ((σ 97 17) - 1).toNatClampNeg)), some (.int 0)] [] (sg σ3 103 ((25 + (σ 97 10)) + (σ 107 ((σ 97 17) - 1).toNatClampNeg)).toNatClampNeg x3) (qV (fun σ4 => K σ4)))))))))) ∧ (¬ (x1 = 0) → (vp_in ((σ1 97 14) - 1) 64 ∧ (vp_in (((σ1 97 14) - 1) + 1) 64 ∧ yR d 89 0 [some (.int (σ 106 ((σ 97 17) - 1).toNatClampNeg)), some (.int 0), some (.int (σ1 104 ((σ1 97 14) - 1).toNatClampNeg)), some (.int (σ1 104 (((σ1 97 14) - 1) + 1).toNatClampNeg))] [] (sg σ1 97 14 ((σ1 97 14) - 1)) (qI (fun x5 σ5 => (vp_in ((25 + (σ 97 10)) + (σ 107 ((σ 97 17) - 1).toNatClampNeg)) 89 ∧ yR d 101 0 [some (.ref 97), some (.int (σ 107 ((σ 97 17) - 1).toNatClampNeg)), some (.int 0)] [] (sg σ5 103 ((25 + (σ 97 10)) + (σ 107 ((σ 97 17) - 1).toNatClampNeg)).toNatClampNeg x5) (qV (fun σ6 => K σ6))))))))))))) from ⟨h.1, ⟨h.1, (yR.mono h.2 (qI_mono (fun x1 σ1 q1 => ⟨fun q2 => ⟨(q1.1 q2).1, (yR.mono (q1.1 q2).2 (qI_mono (fun x2 σ2 q3 => ⟨q3.1, (yR.mono q3.2 (qI_mono (fun x3 σ3 q4 => ⟨(q1.1 q2).1, q4⟩)))⟩)))⟩, fun q2 => ⟨(q1.2 q2).1, ⟨(q1.2 q2).2.1, (yR.mono (q1.2 q2).2.2 (qI_mono (fun x5 σ5 q6 => ⟨q6.1, q6.2⟩)))⟩⟩⟩)))⟩⟩)
theorem w_105_0 {d : Nat} {σ : yS} {K : yS → Prop} (h : yR d 103 0 [some (.ref 97)] [] σ (qI (fun x1 σ1 => ((¬ (x1 = 12) → K σ1) ∧ ((x1 = 12) → yR d 104 0 [some (.ref 97), none, none, none] [] σ1 (qV (fun σ2 => yR (d + 1) 105 0 [some (.ref 97)] [] σ2 (qV K)))))))) : yR (d + 1) 105 0 [some (.ref 97)] [] σ (qV K) := wp_105 9 [0] (show yR d 103 0 [some (.ref 97)] [] σ (qI (fun x1 σ1 => ((¬ (x1 = 12) → K σ1) ∧ ((x1 = 12) → yR d 104 0 [some (.ref 97), none, none, none] [] σ1 (qV (fun σ2 => yR (d + 1) 105 0 [some (.ref 97)] [] σ2 (qV K))))))) from (yR.mono h (qI_mono (fun x1 σ1 q1 => ⟨fun q2 => (q1.1 q2), fun q2 => (q1.2 q2)⟩))))
theorem w_106_0 {d : Nat} {σ : yS} {K : Int32 → yS → Prop} (h : ((((σ 97 6) ≤ (σ 97 7)) → K 0 σ) ∧ (¬ ((σ 97 6) ≤ (σ 97 7)) → (vp_in (σ 97 7) 150 ∧ yR d 80 0 [some (.int (σ 102 (σ 97 7).toNatClampNeg)), some (.int 48), some (.int 57)] [] σ (qI (fun x1 σ1 => (((x1 = 0) → K 0 σ1) ∧ (¬ (x1 = 0) → K 1 σ1)))))))) : yR (d + 1) 106 0 [some (.ref 97)] [] σ (qI K) := wp_106 18 [] (show ((((σ 97 6) ≤ (σ 97 7)) → (yBo 0 ∧ K 0 σ)) ∧ (¬ ((σ 97 6) ≤ (σ 97 7)) → (vp_in (σ 97 7) 150 ∧ yR d 80 0 [some (.int (σ 102 (σ 97 7).toNatClampNeg)), some (.int 48), some (.int 57)] [] σ (qI (fun x1 σ1 => (((x1 = 0) → (yBo 0 ∧ K 0 σ1)) ∧ (¬ (x1 = 0) → (yBo 1 ∧ K 1 σ1)))))))) from ⟨fun q1 => ⟨yB0, (h.1 q1)⟩, fun q1 => ⟨(h.2 q1).1, (yR.mono (h.2 q1).2 (qI_mono (fun x1 σ1 q2 => ⟨fun q3 => ⟨yB0, (q2.1 q3)⟩, fun q3 => ⟨yB1, (q2.2 q3)⟩⟩)))⟩⟩)
theorem w_107_0 {d : Nat} {σ : yS} {K : yS → Prop} (h : yR d 100 0 [some (.ref 97), some (.int 0)] [] σ (qI (fun x1 σ1 => yR (d + 1) 107 10 [some (.ref 97), some (.int x1), some (.int 0), some (.int 0)] [] σ1 (qV K)))) : yR (d + 1) 107 0 [some (.ref 97), none, none, none] [] σ (qV K) := wp_107 10 [10] h
theorem w_107_10 {d : Nat} {σ : yS} {v1 v2 v3 : Int32} {K : yS → Prop} (h : (((3 ≤ v3) → yR d 106 0 [some (.ref 97)] [] σ (qI (fun x1 σ1 => ((¬ (x1 = 0) → yR d 97 0 [some (.ref 97), some (.int 0)] [] σ1 (qV (fun σ2 => ((¬ ((σ2 97 8) = (-1999999)) → K σ2) ∧ (((σ2 97 8) = (-1999999)) → yR d 89 0 [some (.int 0), some (.int v2), some (.int 0), some (.int 0)] [] σ2 (qI (fun x3 σ3 => (vp_in ((25 + (σ2 97 10)) + v1) 89 ∧ yR d 101 0 [some (.ref 97), some (.int v1), some (.int 0)] [] (sg σ3 103 ((25 + (σ2 97 10)) + v1).toNatClampNeg x3) (qV (fun σ4 => yR d 105 0 [some (.ref 97)] [] σ4 (qV (fun σ5 => K σ5)))))))))))) ∧ ((x1 = 0) → yR d 97 0 [some (.ref 97), some (.int 1)] [] σ1 (qV (fun σ6 => ((¬ ((σ6 97 8) = (-1999999)) → K σ6) ∧ (((σ6 97 8) = (-1999999)) → yR d 89 0 [some (.int 0), some (.int v2), some (.int 0), some (.int 0)] [] σ6 (qI (fun x7 σ7 => (vp_in ((25 + (σ6 97 10)) + v1) 89 ∧ yR d 101 0 [some (.ref 97), some (.int v1), some (.int 0)] [] (sg σ7 103 ((25 + (σ6 97 10)) + v1).toNatClampNeg x7) (qV (fun σ8 => yR d 105 0 [some (.ref 97)] [] σ8 (qV (fun σ9 => K σ9)))))))))))))))) ∧ (¬ (3 ≤ v3) → yR d 106 0 [some (.ref 97)] [] σ (qI (fun x10 σ10 => (((x10 = 0) → yR d 106 0 [some (.ref 97)] [] σ10 (qI (fun x11 σ11 => ((¬ (x11 = 0) → yR d 97 0 [some (.ref 97), some (.int 0)] [] σ11 (qV (fun σ12 => ((¬ ((σ12 97 8) = (-1999999)) → K σ12) ∧ (((σ12 97 8) = (-1999999)) → yR d 89 0 [some (.int 0), some (.int v2), some (.int 0), some (.int 0)] [] σ12 (qI (fun x13 σ13 => (vp_in ((25 + (σ12 97 10)) + v1) 89 ∧ yR d 101 0 [some (.ref 97), some (.int v1), some (.int 0)] [] (sg σ13 103 ((25 + (σ12 97 10)) + v1).toNatClampNeg x13) (qV (fun σ14 => yR d 105 0 [some (.ref 97)] [] σ14 (qV (fun σ15 => K σ15)))))))))))) ∧ ((x11 = 0) → yR d 97 0 [some (.ref 97), some (.int 1)] [] σ11 (qV (fun σ16 => ((¬ ((σ16 97 8) = (-1999999)) → K σ16) ∧ (((σ16 97 8) = (-1999999)) → yR d 89 0 [some (.int 0), some (.int v2), some (.int 0), some (.int 0)] [] σ16 (qI (fun x17 σ17 => (vp_in ((25 + (σ16 97 10)) + v1) 89 ∧ yR d 101 0 [some (.ref 97), some (.int v1), some (.int 0)] [] (sg σ17 103 ((25 + (σ16 97 10)) + v1).toNatClampNeg x17) (qV (fun σ18 => yR d 105 0 [some (.ref 97)] [] σ18 (qV (fun σ19 => K σ19)))))))))))))))) ∧ (¬ (x10 = 0) → (vp_in (σ10 97 7) 150 ∧ yR (d + 1) 107 10 [some (.ref 97), some (.int v1), some (.int (((10 * v2) + (σ10 102 (σ10 97 7).toNatClampNeg)) - 48)), some (.int (v3 + 1))] [] (sg σ10 97 7 ((σ10 97 7) + 1)) (qV K))))))))) : yR (d + 1) 107 10 [some (.ref 97), some (.int v1), some (.int v2), some (.int v3)] [] σ (qV K) := wp_107 39 [10] (show (((3 ≤ v3) → yR d 106 0 [some (.ref 97)] [] σ (qI (fun x1 σ1 => ((¬ (x1 = 0) → yR d 97 0 [some (.ref 97), some (.int 0)] [] σ1 (qV (fun σ2 => ((¬ ((σ2 97 8) = (-1999999)) → K σ2) ∧ (((σ2 97 8) = (-1999999)) → yR d 89 0 [some (.int 0), some (.int v2), some (.int 0), some (.int 0)] [] σ2 (qI (fun x3 σ3 => (vp_in ((25 + (σ2 97 10)) + v1) 89 ∧ yR d 101 0 [some (.ref 97), some (.int v1), some (.int 0)] [] (sg σ3 103 ((25 + (σ2 97 10)) + v1).toNatClampNeg x3) (qV (fun σ4 => yR d 105 0 [some (.ref 97)] [] σ4 (qV (fun σ5 => K σ5)))))))))))) ∧ ((x1 = 0) → yR d 97 0 [some (.ref 97), some (.int 1)] [] σ1 (qV (fun σ6 => ((¬ ((σ6 97 8) = (-1999999)) → K σ6) ∧ (((σ6 97 8) = (-1999999)) → yR d 89 0 [some (.int 0), some (.int v2), some (.int 0), some (.int 0)] [] σ6 (qI (fun x7 σ7 => (vp_in ((25 + (σ6 97 10)) + v1) 89 ∧ yR d 101 0 [some (.ref 97), some (.int v1), some (.int 0)] [] (sg σ7 103 ((25 + (σ6 97 10)) + v1).toNatClampNeg x7) (qV (fun σ8 => yR d 105 0 [some (.ref 97)] [] σ8 (qV (fun σ9 => K σ9)))))))))))))))) ∧ (¬ (3 ≤ v3) → yR d 106 0 [some (.ref 97)] [] σ (qI (fun x10 σ10 => (((x10 = 0) → yR d 106 0 [some (.ref 97)] [] σ10 (qI (fun x11 σ11 => ((¬ (x11 = 0) → yR d 97 0 [some (.ref 97), some (.int 0)] [] σ11 (qV (fun σ12 => ((¬ ((σ12 97 8) = (-1999999)) → K σ12) ∧ (((σ12 97 8) = (-1999999)) → yR d 89 0 [some (.int 0), some (.int v2), some (.int 0), some (.int 0)] [] σ12 (qI (fun x13 σ13 => (vp_in ((25 + (σ12 97 10)) + v1) 89 ∧ yR d 101 0 [some (.ref 97), some (.int v1), some (.int 0)] [] (sg σ13 103 ((25 + (σ12 97 10)) + v1).toNatClampNeg x13) (qV (fun σ14 => yR d 105 0 [some (.ref 97)] [] σ14 (qV (fun σ15 => K σ15)))))))))))) ∧ ((x11 = 0) → yR d 97 0 [some (.ref 97), some (.int 1)] [] σ11 (qV (fun σ16 => ((¬ ((σ16 97 8) = (-1999999)) → K σ16) ∧ (((σ16 97 8) = (-1999999)) → yR d 89 0 [some (.int 0), some (.int v2), some (.int 0), some (.int 0)] [] σ16 (qI (fun x17 σ17 => (vp_in ((25 + (σ16 97 10)) + v1) 89 ∧ yR d 101 0 [some (.ref 97), some (.int v1), some (.int 0)] [] (sg σ17 103 ((25 + (σ16 97 10)) + v1).toNatClampNeg x17) (qV (fun σ18 => yR d 105 0 [some (.ref 97)] [] σ18 (qV (fun σ19 => K σ19)))))))))))))))) ∧ (¬ (x10 = 0) → (vp_in (σ10 97 7) 150 ∧ yR (d + 1) 107 10 [some (.ref 97), some (.int v1), some (.int (((10 * v2) + (σ10 102 (σ10 97 7).toNatClampNeg)) - 48)), some (.int (v3 + 1))] [] (sg σ10 97 7 ((σ10 97 7) + 1)) (qV K)))))))) from ⟨fun q1 => (yR.mono (h.1 q1) (qI_mono (fun x1 σ1 q2 => ⟨fun q3 => (yR.mono (q2.1 q3) (qV_mono (fun σ2 q4 => ⟨fun q5 => (q4.1 q5), fun q5 => (yR.mono (q4.2 q5) (qI_mono (fun x3 σ3 q6 => ⟨q6.1, q6.2⟩)))⟩))), fun q3 => (yR.mono (q2.2 q3) (qV_mono (fun σ6 q9 => ⟨fun q10 => (q9.1 q10), fun q10 => (yR.mono (q9.2 q10) (qI_mono (fun x7 σ7 q11 => ⟨q11.1, q11.2⟩)))⟩)))⟩))), fun q1 => (yR.mono (h.2 q1) (qI_mono (fun x10 σ10 q14 => ⟨fun q15 => (yR.mono (q14.1 q15) (qI_mono (fun x11 σ11 q16 => ⟨fun q17 => (yR.mono (q16.1 q17) (qV_mono (fun σ12 q18 => ⟨fun q19 => (q18.1 q19), fun q19 => (yR.mono (q18.2 q19) (qI_mono (fun x13 σ13 q20 => ⟨q20.1, q20.2⟩)))⟩))), fun q17 => (yR.mono (q16.2 q17) (qV_mono (fun σ16 q23 => ⟨fun q24 => (q23.1 q24), fun q24 => (yR.mono (q23.2 q24) (qI_mono (fun x17 σ17 q25 => ⟨q25.1, q25.2⟩)))⟩)))⟩))), fun q15 => ⟨(q14.2 q15).1, (q14.2 q15).2⟩⟩)))⟩)
theorem w_108_0 {d : Nat} {σ : yS} {K : Int32 → yS → Prop} (h : yR d 96 0 [some (.ref 97)] [] σ (qI (fun x1 σ1 => ((¬ (x1 = 40) → ((¬ (x1 = 33) → yR d 80 0 [some (.int x1), some (.int 48), some (.int 57)] [] σ1 (qI (fun x2 σ2 => (((x2 = 0) → yR d 80 0 [some (.int x1), some (.int 97), some (.int 100)] [] σ2 (qI (fun x3 σ3 => yR d 97 0 [some (.ref 97), some (.int x3)] [] σ3 (qV (fun σ4 => ((¬ ((σ4 97 8) = (-1999999)) → K 1 σ4) ∧ (((σ4 97 8) = (-1999999)) → yR d 89 0 [some (.int 1), some (.int (x1 - 97)), some (.int 0), some (.int 0)] [] σ4 (qI (fun x5 σ5 => yR d 100 0 [some (.ref 97), some (.int x5)] [] σ5 (qI (fun x6 σ6 => yR d 101 0 [some (.ref 97), some (.int x6), some (.int 1)] [] σ6 (qV (fun σ7 => yR d 105 0 [some (.ref 97)] [] (sg σ7 97 7 ((σ7 97 7) + 1)) (qV (fun σ8 => K 1 σ8))))))))))))))) ∧ (¬ (x2 = 0) → yR d 107 0 [some (.ref 97), none, none, none] [] σ2 (qV (fun σ9 => K 1 σ9))))))) ∧ ((x1 = 33) → yR d 100 0 [some (.ref 97), some (.int 12)] [] σ1 (qI (fun x10 σ10 => yR d 102 0 [some (.ref 97), some (.int 12), some (.int x10)] [] σ10 (qV (fun σ11 => K 0 (sg σ11 97 7 ((σ11 97 7) + 1))))))))) ∧ ((x1 = 40) → (((9 ≤ (σ1 97 18)) → yR d 97 0 [some (.ref 97), some (.int 0)] [] σ1 (qV (fun σ12 => yR d 102 0 [some (.ref 97), some (.int 15), some (.int 0)] [] (sg σ12 97 18 ((σ12 97 18) + 1)) (qV (fun σ13 => K 0 (sg σ13 97 7 ((σ13 97 7) + 1))))))) ∧ (¬ (9 ≤ (σ1 97 18)) → yR d 97 0 [some (.ref 97), some (.int 1)] [] σ1 (qV (fun σ14 => yR d 102 0 [some (.ref 97), some (.int 15), some (.int 0)] [] (sg σ14 97 18 ((σ14 97 18) + 1)) (qV (fun σ15 => K 0 (sg σ15 97 7 ((σ15 97 7) + 1))))))))))))) : yR (d + 1) 108 0 [some (.ref 97), none] [] σ (qI K) := wp_108 47 [] (show yR d 96 0 [some (.ref 97)] [] σ (qI (fun x1 σ1 => ((¬ (x1 = 40) → ((¬ (x1 = 33) → yR d 80 0 [some (.int x1), some (.int 48), some (.int 57)] [] σ1 (qI (fun x2 σ2 => (((x2 = 0) → yR d 80 0 [some (.int x1), some (.int 97), some (.int 100)] [] σ2 (qI (fun x3 σ3 => yR d 97 0 [some (.ref 97), some (.int x3)] [] σ3 (qV (fun σ4 => ((¬ ((σ4 97 8) = (-1999999)) → (yBo 1 ∧ K 1 σ4)) ∧ (((σ4 97 8) = (-1999999)) → yR d 89 0 [some (.int 1), some (.int (x1 - 97)), some (.int 0), some (.int 0)] [] σ4 (qI (fun x5 σ5 => yR d 100 0 [some (.ref 97), some (.int x5)] [] σ5 (qI (fun x6 σ6 => yR d 101 0 [some (.ref 97), some (.int x6), some (.int 1)] [] σ6 (qV (fun σ7 => yR d 105 0 [some (.ref 97)] [] (sg σ7 97 7 ((σ7 97 7) + 1)) (qV (fun σ8 => (yBo 1 ∧ K 1 σ8)))))))))))))))) ∧ (¬ (x2 = 0) → yR d 107 0 [some (.ref 97), none, none, none] [] σ2 (qV (fun σ9 => (yBo 1 ∧ K 1 σ9)))))))) ∧ ((x1 = 33) → yR d 100 0 [some (.ref 97), some (.int 12)] [] σ1 (qI (fun x10 σ10 => yR d 102 0 [some (.ref 97), some (.int 12), some (.int x10)] [] σ10 (qV (fun σ11 => (yBo 0 ∧ K 0 (sg σ11 97 7 ((σ11 97 7) + 1)))))))))) ∧ ((x1 = 40) → (((9 ≤ (σ1 97 18)) → yR d 97 0 [some (.ref 97), some (.int 0)] [] σ1 (qV (fun σ12 => yR d 102 0 [some (.ref 97), some (.int 15), some (.int 0)] [] (sg σ12 97 18 ((σ12 97 18) + 1)) (qV (fun σ13 => (yBo 0 ∧ K 0 (sg σ13 97 7 ((σ13 97 7) + 1)))))))) ∧ (¬ (9 ≤ (σ1 97 18)) → yR d 97 0 [some (.ref 97), some (.int 1)] [] σ1 (qV (fun σ14 => yR d 102 0 [some (.ref 97), some (.int 15), some (.int 0)] [] (sg σ14 97 18 ((σ14 97 18) + 1)) (qV (fun σ15 => (yBo 0 ∧ K 0 (sg σ15 97 7 ((σ15 97 7) + 1))))))))))))) from (yR.mono h (qI_mono (fun x1 σ1 q1 => ⟨fun q2 => ⟨fun q3 => (yR.mono ((q1.1 q2).1 q3) (qI_mono (fun x2 σ2 q4 => ⟨fun q5 => (yR.mono (q4.1 q5) (qI_mono (fun x3 σ3 q6 => (yR.mono q6 (qV_mono (fun σ4 q7 => ⟨fun q8 => ⟨yB1, (q7.1 q8)⟩, fun q8 => (yR.mono (q7.2 q8) (qI_mono (fun x5 σ5 q9 => (yR.mono q9 (qI_mono (fun x6 σ6 q10 => (yR.mono q10 (qV_mono (fun σ7 q11 => (yR.mono q11 (qV_mono (fun σ8 q12 => ⟨yB1, q12⟩))))))))))))⟩)))))), fun q5 => (yR.mono (q4.2 q5) (qV_mono (fun σ9 q13 => ⟨yB1, q13⟩)))⟩))), fun q3 => (yR.mono ((q1.1 q2).2 q3) (qI_mono (fun x10 σ10 q14 => (yR.mono q14 (qV_mono (fun σ11 q15 => ⟨yB0, q15⟩))))))⟩, fun q2 => ⟨fun q16 => (yR.mono ((q1.2 q2).1 q16) (qV_mono (fun σ12 q17 => (yR.mono q17 (qV_mono (fun σ13 q18 => ⟨yB0, q18⟩)))))), fun q16 => (yR.mono ((q1.2 q2).2 q16) (qV_mono (fun σ14 q19 => (yR.mono q19 (qV_mono (fun σ15 q20 => ⟨yB0, q20⟩))))))⟩⟩))))
theorem w_109_0 {d : Nat} {σ : yS} {K : yS → Prop} (h : ((((σ 97 17) ≤ 0) → K σ) ∧ (¬ ((σ 97 17) ≤ 0) → yR d 103 0 [some (.ref 97)] [] σ (qI (fun x1 σ1 => (((x1 = 15) → K σ1) ∧ (¬ (x1 = 15) → yR d 104 0 [some (.ref 97), none, none, none] [] σ1 (qV (fun σ2 => yR (d + 1) 109 0 [some (.ref 97)] [] σ2 (qV K)))))))))) : yR (d + 1) 109 0 [some (.ref 97)] [] σ (qV K) := wp_109 12 [0] (show ((((σ 97 17) ≤ 0) → K σ) ∧ (¬ ((σ 97 17) ≤ 0) → yR d 103 0 [some (.ref 97)] [] σ (qI (fun x1 σ1 => (((x1 = 15) → K σ1) ∧ (¬ (x1 = 15) → yR d 104 0 [some (.ref 97), none, none, none] [] σ1 (qV (fun σ2 => yR (d + 1) 109 0 [some (.ref 97)] [] σ2 (qV K))))))))) from ⟨fun q1 => (h.1 q1), fun q1 => (yR.mono (h.2 q1) (qI_mono (fun x1 σ1 q2 => ⟨fun q3 => (q2.1 q3), fun q3 => (q2.2 q3)⟩)))⟩)
theorem w_110_0 {d : Nat} {σ : yS} {K : yS → Prop} (h : yR d 89 0 [some (.int 11), some (.int 0), some (.int 0), some (.int 0)] [] σ (qI (fun x1 σ1 => yR d 100 0 [some (.ref 97), some (.int x1)] [] σ1 (qI (fun x2 σ2 => yR d 96 0 [some (.ref 97)] [] (sg σ2 97 7 ((σ2 97 7) + 1)) (qI (fun x3 σ3 => yR d 80 0 [some (.int (x3 - 48)), some (.int 0), some (.int 9)] [] σ3 (qI (fun x4 σ4 => yR d 97 0 [some (.ref 97), some (.int x4)] [] σ4 (qV (fun σ5 => ((¬ ((σ5 97 8) = (-1999999)) → K σ5) ∧ (((σ5 97 8) = (-1999999)) → (vp_in ((σ5 97 14) - 1) 64 ∧ yR d 89 0 [some (.int 11), some (.int (x3 - 48)), some (.int (σ5 104 ((σ5 97 14) - 1).toNatClampNeg)), some (.int 0)] [] σ5 (qI (fun x6 σ6 => (vp_in ((25 + (σ5 97 10)) + x2) 89 ∧ yR d 101 0 [some (.ref 97), some (.int x2), some (.int 0)] [] (sg (sg σ6 103 ((25 + (σ5 97 10)) + x2).toNatClampNeg x6) 97 14 ((σ6 97 14) - 1)) (qV (fun σ7 => K (sg σ7 97 7 ((σ7 97 7) + 1))))))))))))))))))))) : yR (d + 1) 110 0 [some (.ref 97), none, none] [] σ (qV K) := wp_110 67 [] (show yR d 89 0 [some (.int 11), some (.int 0), some (.int 0), some (.int 0)] [] σ (qI (fun x1 σ1 => yR d 100 0 [some (.ref 97), some (.int x1)] [] σ1 (qI (fun x2 σ2 => yR d 96 0 [some (.ref 97)] [] (sg σ2 97 7 ((σ2 97 7) + 1)) (qI (fun x3 σ3 => yR d 80 0 [some (.int (x3 - 48)), some (.int 0), some (.int 9)] [] σ3 (qI (fun x4 σ4 => yR d 97 0 [some (.ref 97), some (.int x4)] [] σ4 (qV (fun σ5 => ((¬ ((σ5 97 8) = (-1999999)) → K σ5) ∧ (((σ5 97 8) = (-1999999)) → (vp_in ((σ5 97 14) - 1) 64 ∧ yR d 89 0 [some (.int 11), some (.int (x3 - 48)), some (.int (σ5 104 ((σ5 97 14) - 1).toNatClampNeg)), some (.int 0)] [] σ5 (qI (fun x6 σ6 => (vp_in ((25 + (σ5 97 10)) + x2) 89 ∧ yR d 101 0 [some (.ref 97), some (.int x2), some (.int 0)] [] (sg (sg σ6 103 ((25 + (σ5 97 10)) + x2).toNatClampNeg x6) 97 14 ((σ6 97 14) - 1)) (qV (fun σ7 => K (sg σ7 97 7 ((σ7 97 7) + 1)))))))))))))))))))) from (yR.mono h (qI_mono (fun x1 σ1 q1 => (yR.mono q1 (qI_mono (fun x2 σ2 q2 => (yR.mono q2 (qI_mono (fun x3 σ3 q3 => (yR.mono q3 (qI_mono (fun x4 σ4 q4 => (yR.mono q4 (qV_mono (fun σ5 q5 => ⟨fun q6 => (q5.1 q6), fun q6 => ⟨(q5.2 q6).1, (yR.mono (q5.2 q6).2 (qI_mono (fun x6 σ6 q7 => ⟨q7.1, q7.2⟩)))⟩⟩))))))))))))))))
theorem w_111_0 {d : Nat} {σ : yS} {v1 : Int32} {K : yS → Prop} (h : ((((σ 97 17) = 0) → (vp_in ((σ 97 14) - 1) 64 ∧ ((((σ 105 ((σ 97 14) - 1).toNatClampNeg) = 0) → yR d 97 0 [some (.ref 97), some (.int 0)] [] σ (qV (fun σ1 => ((¬ ((σ1 97 8) = (-1999999)) → K σ1) ∧ (((σ1 97 8) = (-1999999)) → (vp_in ((σ1 97 14) - 1) 64 ∧ (vp_in ((25 + (σ1 97 10)) + (σ1 104 ((σ1 97 14) - 1).toNatClampNeg)) 89 ∧ yR d 86 0 [some (.int (σ1 103 ((25 + (σ1 97 10)) + (σ1 104 ((σ1 97 14) - 1).toNatClampNeg)).toNatClampNeg))] [] (sg σ1 97 14 ((σ1 97 14) - 1)) (qI (fun x2 σ2 => yR d 89 0 [some (.int v1), some (.int x2), some (.int 0), some (.int 0)] [] σ2 (qI (fun x3 σ3 => yR d 102 0 [some (.ref 97), some (.int v1), some (.int (σ1 104 ((σ1 97 14) - 1).toNatClampNeg))] [] (sg σ3 103 ((25 + (σ1 97 10)) + (σ1 104 ((σ1 97 14) - 1).toNatClampNeg)).toNatClampNeg x3) (qV (fun σ4 => K (sg σ4 97 7 ((σ4 97 7) + 1))))))))))))))) ∧ (¬ ((σ 105 ((σ 97 14) - 1).toNatClampNeg) = 0) → yR d 97 0 [some (.ref 97), some (.int 1)] [] σ (qV (fun σ9 => ((¬ ((σ9 97 8) = (-1999999)) → K σ9) ∧ (((σ9 97 8) = (-1999999)) → (vp_in ((σ9 97 14) - 1) 64 ∧ (vp_in ((25 + (σ9 97 10)) + (σ9 104 ((σ9 97 14) - 1).toNatClampNeg)) 89 ∧ yR d 86 0 [some (.int (σ9 103 ((25 + (σ9 97 10)) + (σ9 104 ((σ9 97 14) - 1).toNatClampNeg)).toNatClampNeg))] [] (sg σ9 97 14 ((σ9 97 14) - 1)) (qI (fun x10 σ10 => yR d 89 0 [some (.int v1), some (.int x10), some (.int 0), some (.int 0)] [] σ10 (qI (fun x11 σ11 => yR d 102 0 [some (.ref 97), some (.int v1), some (.int (σ9 104 ((σ9 97 14) - 1).toNatClampNeg))] [] (sg σ11 103 ((25 + (σ9 97 10)) + (σ9 104 ((σ9 97 14) - 1).toNatClampNeg)).toNatClampNeg x11) (qV (fun σ12 => K (sg σ12 97 7 ((σ12 97 7) + 1)))))))))))))))))) ∧ (¬ ((σ 97 17) = 0) → yR d 103 0 [some (.ref 97)] [] σ (qI (fun x13 σ13 => (((x13 < 13) → (vp_in ((σ13 97 14) - 1) 64 ∧ ((((σ13 105 ((σ13 97 14) - 1).toNatClampNeg) = 0) → yR d 97 0 [some (.ref 97), some (.int 0)] [] σ13 (qV (fun σ14 => ((¬ ((σ14 97 8) = (-1999999)) → K σ14) ∧ (((σ14 97 8) = (-1999999)) → (vp_in ((σ14 97 14) - 1) 64 ∧ (vp_in ((25 + (σ14 97 10)) + (σ14 104 ((σ14 97 14) - 1).toNatClampNeg)) 89 ∧ yR d 86 0 [some (.int (σ14 103 ((25 + (σ14 97 10)) + (σ14 104 ((σ14 97 14) - 1).toNatClampNeg)).toNatClampNeg))] [] (sg σ14 97 14 ((σ14 97 14) - 1)) (qI (fun x15 σ15 => yR d 89 0 [some (.int v1), some (.int x15), some (.int 0), some (.int 0)] [] σ15 (qI (fun x16 σ16 => yR d 102 0 [some (.ref 97), some (.int v1), some (.int (σ14 104 ((σ14 97 14) - 1).toNatClampNeg))] [] (sg σ16 103 ((25 + (σ14 97 10)) + (σ14 104 ((σ14 97 14) - 1).toNatClampNeg)).toNatClampNeg x16) (qV (fun σ17 => K (sg σ17 97 7 ((σ17 97 7) + 1))))))))))))))) ∧ (¬ ((σ13 105 ((σ13 97 14) - 1).toNatClampNeg) = 0) → yR d 97 0 [some (.ref 97), some (.int 0)] [] σ13 (qV (fun σ18 => ((¬ ((σ18 97 8) = (-1999999)) → K σ18) ∧ (((σ18 97 8) = (-1999999)) → (vp_in ((σ18 97 14) - 1) 64 ∧ (vp_in ((25 + (σ18 97 10)) + (σ18 104 ((σ18 97 14) - 1).toNatClampNeg)) 89 ∧ yR d 86 0 [some (.int (σ18 103 ((25 + (σ18 97 10)) + (σ18 104 ((σ18 97 14) - 1).toNatClampNeg)).toNatClampNeg))] [] (sg σ18 97 14 ((σ18 97 14) - 1)) (qI (fun x19 σ19 => yR d 89 0 [some (.int v1), some (.int x19), some (.int 0), some (.int 0)] [] σ19 (qI (fun x20 σ20 => yR d 102 0 [some (.ref 97), some (.int v1), some (.int (σ18 104 ((σ18 97 14) - 1).toNatClampNeg))] [] (sg σ20 103 ((25 + (σ18 97 10)) + (σ18 104 ((σ18 97 14) - 1).toNatClampNeg)).toNatClampNeg x20) (qV (fun σ21 => K (sg σ21 97 7 ((σ21 97 7) + 1)))))))))))))))))) ∧ (¬ (x13 < 13) → (vp_in ((σ13 97 14) - 1) 64 ∧ ((((σ13 105 ((σ13 97 14) - 1).toNatClampNeg) = 0) → yR d 97 0 [some (.ref 97), some (.int 0)] [] σ13 (qV (fun σ26 => ((¬ ((σ26 97 8) = (-1999999)) → K σ26) ∧ (((σ26 97 8) = (-1999999)) → (vp_in ((σ26 97 14) - 1) 64 ∧ (vp_in ((25 + (σ26 97 10)) + (σ26 104 ((σ26 97 14) - 1).toNatClampNeg)) 89 ∧ yR d 86 0 [some (.int (σ26 103 ((25 + (σ26 97 10)) + (σ26 104 ((σ26 97 14) - 1).toNatClampNeg)).toNatClampNeg))] [] (sg σ26 97 14 ((σ26 97 14) - 1)) (qI (fun x27 σ27 => yR d 89 0 [some (.int v1), some (.int x27), some (.int 0), some (.int 0)] [] σ27 (qI (fun x28 σ28 => yR d 102 0 [some (.ref 97), some (.int v1), some (.int (σ26 104 ((σ26 97 14) - 1).toNatClampNeg))] [] (sg σ28 103 ((25 + (σ26 97 10)) + (σ26 104 ((σ26 97 14) - 1).toNatClampNeg)).toNatClampNeg x28) (qV (fun σ29 => K (sg σ29 97 7 ((σ29 97 7) + 1))))))))))))))) ∧ (¬ ((σ13 105 ((σ13 97 14) - 1).toNatClampNeg) = 0) → yR d 97 0 [some (.ref 97), some (.int 1)] [] σ13 (qV (fun σ34 => ((¬ ((σ34 97 8) = (-1999999)) → K σ34) ∧ (((σ34 97 8) = (-1999999)) → (vp_in ((σ34 97 14) - 1) 64 ∧ (vp_in ((25 + (σ34 97 10)) + (σ34 104 ((σ34 97 14) - 1).toNatClampNeg)) 89 ∧ yR d 86 0 [some (.int (σ34 103 ((25 + (σ34 97 10)) + (σ34 104 ((σ34 97 14) - 1).toNatClampNeg)).toNatClampNeg))] [] (sg σ34 97 14 ((σ34 97 14) - 1)) (qI (fun x35 σ35 => yR d 89 0 [some (.int v1), some (.int x35), some (.int 0), some (.int 0)] [] σ35 (qI (fun x36 σ36 => yR d 102 0 [some (.ref 97), some (.int v1), some (.int (σ34 104 ((σ34 97 14) - 1).toNatClampNeg))] [] (sg σ36 103 ((25 + (σ34 97 10)) + (σ34 104 ((σ34 97 14) - 1).toNatClampNeg)).toNatClampNeg x36) (qV (fun σ37 => K (sg σ37 97 7 ((σ37 97 7) + 1)))))))))))))))))))))))) : yR (d + 1) 111 0 [some (.ref 97), some (.int v1), none, none, none] [] σ (qV K) := wp_111 72 [] (show ((((σ 97 17) = 0) → (vp_in ((σ 97 14) - 1) 64 ∧ ((((σ 105 ((σ 97 14) - 1).toNatClampNeg) = 0) → yR d 97 0 [some (.ref 97), some (.int 0)] [] σ (qV (fun σ1 => ((¬ ((σ1 97 8) = (-1999999)) → K σ1) ∧ (((σ1 97 8) = (-1999999)) → (vp_in ((σ1 97 14) - 1) 64 ∧ (vp_in ((25 + (σ1 97 10)) + (σ1 104 ((σ1 97 14) - 1).toNatClampNeg)) 89 ∧ yR d 86 0 [some (.int (σ1 103 ((25 + (σ1 97 10)) + (σ1 104 ((σ1 97 14) - 1).toNatClampNeg)).toNatClampNeg))] [] (sg σ1 97 14 ((σ1 97 14) - 1)) (qI (fun x2 σ2 => yR d 89 0 [some (.int v1), some (.int x2), some (.int 0), some (.int 0)] [] σ2 (qI (fun x3 σ3 => (vp_in ((25 + (σ1 97 10)) + (σ1 104 ((σ1 97 14) - 1).toNatClampNeg)) 89 ∧ yR d 102 0 [some (.ref 97), some (.int v1), some (.int (σ1 104 ((σ1 97 14) - 1).toNatClampNeg))] [] (sg σ3 103 ((25 + (σ1 97 10)) + (σ1 104 ((σ1 97 14) - 1).toNatClampNeg)).toNatClampNeg x3) (qV (fun σ4 => K (sg σ4 97 7 ((σ4 97 7) + 1)))))))))))))))) ∧ (¬ ((σ 105 ((σ 97 14) - 1).toNatClampNeg) = 0) → ((((1 : Int32) = 0) → yR d 97 0 [some (.ref 97), some (.int 0)] [] σ (qV (fun σ5 => ((¬ ((σ5 97 8) = (-1999999)) → K σ5) ∧ (((σ5 97 8) = (-1999999)) → (vp_in ((σ5 97 14) - 1) 64 ∧ (vp_in ((25 + (σ5 97 10)) + (σ5 104 ((σ5 97 14) - 1).toNatClampNeg)) 89 ∧ yR d 86 0 [some (.int (σ5 103 ((25 + (σ5 97 10)) + (σ5 104 ((σ5 97 14) - 1).toNatClampNeg)).toNatClampNeg))] [] (sg σ5 97 14 ((σ5 97 14) - 1)) (qI (fun x6 σ6 => yR d 89 0 [some (.int v1), some (.int x6), some (.int 0), some (.int 0)] [] σ6 (qI (fun x7 σ7 => (vp_in ((25 + (σ5 97 10)) + (σ5 104 ((σ5 97 14) - 1).toNatClampNeg)) 89 ∧ yR d 102 0 [some (.ref 97), some (.int v1), some (.int (σ5 104 ((σ5 97 14) - 1).toNatClampNeg))] [] (sg σ7 103 ((25 + (σ5 97 10)) + (σ5 104 ((σ5 97 14) - 1).toNatClampNeg)).toNatClampNeg x7) (qV (fun σ8 => K (sg σ8 97 7 ((σ8 97 7) + 1)))))))))))))))) ∧ (¬ ((1 : Int32) = 0) → yR d 97 0 [some (.ref 97), some (.int 1)] [] σ (qV (fun σ9 => ((¬ ((σ9 97 8) = (-1999999)) → K σ9) ∧ (((σ9 97 8) = (-1999999)) → (vp_in ((σ9 97 14) - 1) 64 ∧ (vp_in ((25 + (σ9 97 10)) + (σ9 104 ((σ9 97 14) - 1).toNatClampNeg)) 89 ∧ yR d 86 0 [some (.int (σ9 103 ((25 + (σ9 97 10)) + (σ9 104 ((σ9 97 14) - 1).toNatClampNeg)).toNatClampNeg))] [] (sg σ9 97 14 ((σ9 97 14) - 1)) (qI (fun x10 σ10 => yR d 89 0 [some (.int v1), some (.int x10), some (.int 0), some (.int 0)] [] σ10 (qI (fun x11 σ11 => (vp_in ((25 + (σ9 97 10)) + (σ9 104 ((σ9 97 14) - 1).toNatClampNeg)) 89 ∧ yR d 102 0 [some (.ref 97), some (.int v1), some (.int (σ9 104 ((σ9 97 14) - 1).toNatClampNeg))] [] (sg σ11 103 ((25 + (σ9 97 10)) + (σ9 104 ((σ9 97 14) - 1).toNatClampNeg)).toNatClampNeg x11) (qV (fun σ12 => K (sg σ12 97 7 ((σ12 97 7) + 1))))))))))))))))))))) ∧ (¬ ((σ 97 17) = 0) → yR d 103 0 [some (.ref 97)] [] σ (qI (fun x13 σ13 => (((x13 < 13) → (vp_in ((σ13 97 14) - 1) 64 ∧ ((((σ13 105 ((σ13 97 14) - 1).toNatClampNeg) = 0) → yR d 97 0 [some (.ref 97), some (.int 0)] [] σ13 (qV (fun σ14 => ((¬ ((σ14 97 8) = (-1999999)) → K σ14) ∧ (((σ14 97 8) = (-1999999)) → (vp_in ((σ14 97 14) - 1) 64 ∧ (vp_in ((25 + (σ14 97 10)) + (σ14 104 ((σ14 97 14) - 1).toNatClampNeg)) 89 ∧ yR d 86 0 [some (.int (σ14 103 ((25 + (σ14 97 10)) + (σ14 104 ((σ14 97 14) - 1).toNatClampNeg)).toNatClampNeg))] [] (sg σ14 97 14 ((σ14 97 14) - 1)) (qI (fun x15 σ15 => yR d 89 0 [some (.int v1), some (.int x15), some (.int 0), some (.int 0)] [] σ15 (qI (fun x16 σ16 => (vp_in ((25 + (σ14 97 10)) + (σ14 104 ((σ14 97 14) - 1).toNatClampNeg)) 89 ∧ yR d 102 0 [some (.ref 97), some (.int v1), some (.int (σ14 104 ((σ14 97 14) - 1).toNatClampNeg))] [] (sg σ16 103 ((25 + (σ14 97 10)) + (σ14 104 ((σ14 97 14) - 1).toNatClampNeg)).toNatClampNeg x16) (qV (fun σ17 => K (sg σ17 97 7 ((σ17 97 7) + 1)))))))))))))))) ∧ (¬ ((σ13 105 ((σ13 97 14) - 1).toNatClampNeg) = 0) → ((((0 : Int32) = 0) → yR d 97 0 [some (.ref 97), some (.int 0)] [] σ13 (qV (fun σ18 => ((¬ ((σ18 97 8) = (-1999999)) → K σ18) ∧ (((σ18 97 8) = (-1999999)) → (vp_in ((σ18 97 14) - 1) 64 ∧ (vp_in ((25 + (σ18 97 10)) + (σ18 104 ((σ18 97 14) - 1).toNatClampNeg)) 89 ∧ yR d 86 0 [some (.int (σ18 103 ((25 + (σ18 97 10)) + (σ18 104 ((σ18 97 14) - 1).toNatClampNeg)).toNatClampNeg))] [] (sg σ18 97 14 ((σ18 97 14) - 1)) (qI (fun x19 σ19 => yR d 89 0 [some (.int v1), some (.int x19), some (.int 0), some (.int 0)] [] σ19 (qI (fun x20 σ20 => (vp_in ((25 + (σ18 97 10)) + (σ18 104 ((σ18 97 14) - 1).toNatClampNeg)) 89 ∧ yR d 102 0 [some (.ref 97), some (.int v1), some (.int (σ18 104 ((σ18 97 14) - 1).toNatClampNeg))] [] (sg σ20 103 ((25 + (σ18 97 10)) + (σ18 104 ((σ18 97 14) - 1).toNatClampNeg)).toNatClampNeg x20) (qV (fun σ21 => K (sg σ21 97 7 ((σ21 97 7) + 1)))))))))))))))) ∧ (¬ ((0 : Int32) = 0) → yR d 97 0 [some (.ref 97), some (.int 1)] [] σ13 (qV (fun σ22 => ((¬ ((σ22 97 8) = (-1999999)) → K σ22) ∧ (((σ22 97 8) = (-1999999)) → (vp_in ((σ22 97 14) - 1) 64 ∧ (vp_in ((25 + (σ22 97 10)) + (σ22 104 ((σ22 97 14) - 1).toNatClampNeg)) 89 ∧ yR d 86 0 [some (.int (σ22 103 ((25 + (σ22 97 10)) + (σ22 104 ((σ22 97 14) - 1).toNatClampNeg)).toNatClampNeg))] [] (sg σ22 97 14 ((σ22 97 14) - 1)) (qI (fun x23 σ23 => yR d 89 0 [some (.int v1), some (.int x23), some (.int 0), some (.int 0)] [] σ23 (qI (fun x24 σ24 => (vp_in ((25 + (σ22 97 10)) + (σ22 104 ((σ22 97 14) - 1).toNatClampNeg)) 89 ∧ yR d 102 0 [some (.ref 97), some (.int v1), some (.int (σ22 104 ((σ22 97 14) - 1).toNatClampNeg))] [] (sg σ24 103 ((25 + (σ22 97 10)) + (σ22 104 ((σ22 97 14) - 1).toNatClampNeg)).toNatClampNeg x24) (qV (fun σ25 => K (sg σ25 97 7 ((σ25 97 7) + 1))))))))))))))))))))) ∧ (¬ (x13 < 13) → (vp_in ((σ13 97 14) - 1) 64 ∧ ((((σ13 105 ((σ13 97 14) - 1).toNatClampNeg) = 0) → yR d 97 0 [some (.ref 97), some (.int 0)] [] σ13 (qV (fun σ26 => ((¬ ((σ26 97 8) = (-1999999)) → K σ26) ∧ (((σ26 97 8) = (-1999999)) → (vp_in ((σ26 97 14) - 1) 64 ∧ (vp_in ((25 + (σ26 97 10)) + (σ26 104 ((σ26 97 14) - 1).toNatClampNeg)) 89 ∧ yR d 86 0 [some (.int (σ26 103 ((25 + (σ26 97 10)) + (σ26 104 ((σ26 97 14) - 1).toNatClampNeg)).toNatClampNeg))] [] (sg σ26 97 14 ((σ26 97 14) - 1)) (qI (fun x27 σ27 => yR d 89 0 [some (.int v1), some (.int x27), some (.int 0), some (.int 0)] [] σ27 (qI (fun x28 σ28 => (vp_in ((25 + (σ26 97 10)) + (σ26 104 ((σ26 97 14) - 1).toNatClampNeg)) 89 ∧ yR d 102 0 [some (.ref 97), some (.int v1), some (.int (σ26 104 ((σ26 97 14) - 1).toNatClampNeg))] [] (sg σ28 103 ((25 + (σ26 97 10)) + (σ26 104 ((σ26 97 14) - 1).toNatClampNeg)).toNatClampNeg x28) (qV (fun σ29 => K (sg σ29 97 7 ((σ29 97 7) + 1)))))))))))))))) ∧ (¬ ((σ13 105 ((σ13 97 14) - 1).toNatClampNeg) = 0) → ((((1 : Int32) = 0) → yR d 97 0 [some (.ref 97), some (.int 0)] [] σ13 (qV (fun σ30 => ((¬ ((σ30 97 8) = (-1999999)) → K σ30) ∧ (((σ30 97 8) = (-1999999)) → (vp_in ((σ30 97 14) - 1) 64 ∧ (vp_in ((25 + (σ30 97 10)) + (σ30 104 ((σ30 97 14) - 1).toNatClampNeg)) 89 ∧ yR d 86 0 [some (.int (σ30 103 ((25 + (σ30 97 10)) + (σ30 104 ((σ30 97 14) - 1).toNatClampNeg)).toNatClampNeg))] [] (sg σ30 97 14 ((σ30 97 14) - 1)) (qI (fun x31 σ31 => yR d 89 0 [some (.int v1), some (.int x31), some (.int 0), some (.int 0)] [] σ31 (qI (fun x32 σ32 => (vp_in ((25 + (σ30 97 10)) + (σ30 104 ((σ30 97 14) - 1).toNatClampNeg)) 89 ∧ yR d 102 0 [some (.ref 97), some (.int v1), some (.int (σ30 104 ((σ30 97 14) - 1).toNatClampNeg))] [] (sg σ32 103 ((25 + (σ30 97 10)) + (σ30 104 ((σ30 97 14) - 1).toNatClampNeg)).toNatClampNeg x32) (qV (fun σ33 => K (sg σ33 97 7 ((σ33 97 7) + 1)))))))))))))))) ∧ (¬ ((1 : Int32) = 0) → yR d 97 0 [some (.ref 97), some (.int 1)] [] σ13 (qV (fun σ34 => ((¬ ((σ34 97 8) = (-1999999)) → K σ34) ∧ (((σ34 97 8) = (-1999999)) → (vp_in ((σ34 97 14) - 1) 64 ∧ (vp_in ((25 + (σ34 97 10)) + (σ34 104 ((σ34 97 14) - 1).toNatClampNeg)) 89 ∧ yR d 86 0 [some (.int (σ34 103 ((25 + (σ34 97 10)) + (σ34 104 ((σ34 97 14) - 1).toNatClampNeg)).toNatClampNeg))] [] (sg σ34 97 14 ((σ34 97 14) - 1)) (qI (fun x35 σ35 => yR d 89 0 [some (.int v1), some (.int x35), some (.int 0), some (.int 0)] [] σ35 (qI (fun x36 σ36 => (vp_in ((25 + (σ34 97 10)) + (σ34 104 ((σ34 97 14) - 1).toNatClampNeg)) 89 ∧ yR d 102 0 [some (.ref 97), some (.int v1), some (.int (σ34 104 ((σ34 97 14) - 1).toNatClampNeg))] [] (sg σ36 103 ((25 + (σ34 97 10)) + (σ34 104 ((σ34 97 14) - 1).toNatClampNeg)).toNatClampNeg x36) (qV (fun σ37 => K (sg σ37 97 7 ((σ37 97 7) + 1)))))))))))))))))))))))))) from ⟨fun q1 => ⟨(h.1 q1).1, ⟨fun q2 => (yR.mono ((h.1 q1).2.1 q2) (qV_mono (fun σ1 q3 => ⟨fun q4 => (q3.1 q4), fun q4 => ⟨(q3.2 q4).1, ⟨(q3.2 q4).2.1, (yR.mono (q3.2 q4).2.2 (qI_mono (fun x2 σ2 q5 => (yR.mono q5 (qI_mono (fun x3 σ3 q6 => ⟨(q3.2 q4).2.1, q6⟩))))))⟩⟩⟩))), fun q2 => ⟨fun q => absurd q (by decide : ¬ ((1 : Int32) = 0)), fun _ => (yR.mono ((h.1 q1).2.2 q2) (qV_mono (fun σ9 q8 => ⟨fun q9 => (q8.1 q9), fun q9 => ⟨(q8.2 q9).1, ⟨(q8.2 q9).2.1, (yR.mono (q8.2 q9).2.2 (qI_mono (fun x10 σ10 q10 => (yR.mono q10 (qI_mono (fun x11 σ11 q11 => ⟨(q8.2 q9).2.1, q11⟩))))))⟩⟩⟩)))⟩⟩⟩, fun q1 => (yR.mono (h.2 q1) (qI_mono (fun x13 σ13 q13 => ⟨fun q14 => ⟨(q13.1 q14).1, ⟨fun q15 => (yR.mono ((q13.1 q14).2.1 q15) (qV_mono (fun σ14 q16 => ⟨fun q17 => (q16.1 q17), fun q17 => ⟨(q16.2 q17).1, ⟨(q16.2 q17).2.1, (yR.mono (q16.2 q17).2.2 (qI_mono (fun x15 σ15 q18 => (yR.mono q18 (qI_mono (fun x16 σ16 q19 => ⟨(q16.2 q17).2.1, q19⟩))))))⟩⟩⟩))), fun q15 => ⟨fun _ => (yR.mono ((q13.1 q14).2.2 q15) (qV_mono (fun σ18 q21 => ⟨fun q22 => (q21.1 q22), fun q22 => ⟨(q21.2 q22).1, ⟨(q21.2 q22).2.1, (yR.mono (q21.2 q22).2.2 (qI_mono (fun x19 σ19 q23 => (yR.mono q23 (qI_mono (fun x20 σ20 q24 => ⟨(q21.2 q22).2.1, q24⟩))))))⟩⟩⟩))), fun q => absurd (by decide : (0 : Int32) = 0) q⟩⟩⟩, fun q14 => ⟨(q13.2 q14).1, ⟨fun q26 => (yR.mono ((q13.2 q14).2.1 q26) (qV_mono (fun σ26 q27 => ⟨fun q28 => (q27.1 q28), fun q28 => ⟨(q27.2 q28).1, ⟨(q27.2 q28).2.1, (yR.mono (q27.2 q28).2.2 (qI_mono (fun x27 σ27 q29 => (yR.mono q29 (qI_mono (fun x28 σ28 q30 => ⟨(q27.2 q28).2.1, q30⟩))))))⟩⟩⟩))), fun q26 => ⟨fun q => absurd q (by decide : ¬ ((1 : Int32) = 0)), fun _ => (yR.mono ((q13.2 q14).2.2 q26) (qV_mono (fun σ34 q32 => ⟨fun q33 => (q32.1 q33), fun q33 => ⟨(q32.2 q33).1, ⟨(q32.2 q33).2.1, (yR.mono (q32.2 q33).2.2 (qI_mono (fun x35 σ35 q34 => (yR.mono q34 (qI_mono (fun x36 σ36 q35 => ⟨(q32.2 q33).2.1, q35⟩))))))⟩⟩⟩)))⟩⟩⟩⟩)))⟩)
theorem w_112_0 {d : Nat} {σ : yS} {K : Int32 → yS → Prop} (h : yR d 96 0 [some (.ref 97)] [] σ (qI (fun x1 σ1 => yR (d + 1) 112 5 [some (.ref 97), some (.int x1), none] [] σ1 (qI K)))) : yR (d + 1) 112 0 [some (.ref 97), none, none] [] σ (qI K) := wp_112 5 [5, 163] h
theorem w_112_5 {d : Nat} {σ : yS} {v1 : Int32} {K : Int32 → yS → Prop} (h : ((¬ ((σ 97 8) = (-1999999)) → K 0 σ) ∧ (((σ 97 8) = (-1999999)) → ((¬ (v1 = 41) → ((¬ (v1 = 92) → (((v1 = 58) → yR d 111 0 [some (.ref 97), some (.int 13), none, none, none] [] σ (qV (fun σ9 => K 1 σ9))) ∧ (¬ (v1 = 58) → ((¬ (v1 = 94) → yR d 98 0 [some (.int v1)] [] σ (qI (fun x10 σ10 => ((¬ (x10 = (-1999999)) → yR (d + 1) 112 163 [some (.ref 97), some (.int v1), some (.int x10)] [] σ10 (qI K)) ∧ ((x10 = (-1999999)) → ((¬ ((σ10 97 18) = 0) → yR d 97 0 [some (.ref 97), some (.int 0)] [] σ10 (qV (fun σ11 => K 0 σ11))) ∧ (((σ10 97 18) = 0) → yR d 97 0 [some (.ref 97), some (.int 1)] [] σ10 (qV (fun σ12 => K 0 σ12))))))))) ∧ ((v1 = 94) → yR d 111 0 [some (.ref 97), some (.int 14), none, none, none] [] σ (qV (fun σ13 => K 1 σ13))))))) ∧ ((v1 = 92) → yR d 110 0 [some (.ref 97), none, none] [] σ (qV (fun σ18 => yR d 96 0 [some (.ref 97)] [] σ18 (qI (fun x19 σ19 => yR (d + 1) 112 5 [some (.ref 97), some (.int x19), none] [] σ19 (qI K)))))))) ∧ ((v1 = 41) → (((0 < (σ 97 18)) → ((¬ (v1 = 92) → yR d 109 0 [some (.ref 97)] [] σ (qV (fun σ20 => yR d 105 0 [some (.ref 97)] [] (sg (sg (sg σ20 97 17 ((σ20 97 17) - 1)) 97 18 ((σ20 97 18) - 1)) 97 7 ((σ20 97 7) + 1)) (qV (fun σ21 => yR d 96 0 [some (.ref 97)] [] σ21 (qI (fun x22 σ22 => yR (d + 1) 112 5 [some (.ref 97), some (.int x22), none] [] σ22 (qI K)))))))) ∧ ((v1 = 92) → yR d 110 0 [some (.ref 97), none, none] [] σ (qV (fun σ23 => yR d 96 0 [some (.ref 97)] [] σ23 (qI (fun x24 σ24 => yR (d + 1) 112 5 [some (.ref 97), some (.int x24), none] [] σ24 (qI K)))))))) ∧ (¬ (0 < (σ 97 18)) → ((¬ (v1 = 92) → (((v1 = 58) → yR d 111 0 [some (.ref 97), some (.int 13), none, none, none] [] σ (qV (fun σ26 => K 1 σ26))) ∧ (¬ (v1 = 58) → ((¬ (v1 = 94) → yR d 98 0 [some (.int v1)] [] σ (qI (fun x27 σ27 => ((¬ (x27 = (-1999999)) → yR (d + 1) 112 163 [some (.ref 97), some (.int v1), some (.int x27)] [] σ27 (qI K)) ∧ ((x27 = (-1999999)) → ((¬ ((σ27 97 18) = 0) → yR d 97 0 [some (.ref 97), some (.int 0)] [] σ27 (qV (fun σ28 => K 0 σ28))) ∧ (((σ27 97 18) = 0) → yR d 97 0 [some (.ref 97), some (.int 1)] [] σ27 (qV (fun σ29 => K 0 σ29))))))))) ∧ ((v1 = 94) → yR d 111 0 [some (.ref 97), some (.int 14), none, none, none] [] σ (qV (fun σ30 => K 1 σ30))))))) ∧ ((v1 = 92) → yR d 110 0 [some (.ref 97), none, none] [] σ (qV (fun σ35 => yR d 96 0 [some (.ref 97)] [] σ35 (qI (fun x36 σ36 => yR (d + 1) 112 5 [some (.ref 97), some (.int x36), none] [] σ36 (qI K)))))))))))))) : yR (d + 1) 112 5 [some (.ref 97), some (.int v1), none] [] σ (qI K) := wp_112 44 [5, 163] (show ((¬ ((σ 97 8) = (-1999999)) → ((((σ 97 8) = (-1999999)) → (((v1 = 58) → ((¬ (v1 = 58) → yR d 111 0 [some (.ref 97), some (.int 14), none, none, none] [] σ (qV (fun σ1 => (yBo 1 ∧ K 1 σ1)))) ∧ ((v1 = 58) → yR d 111 0 [some (.ref 97), some (.int 13), none, none, none] [] σ (qV (fun σ2 => (yBo 1 ∧ K 1 σ2)))))) ∧ (¬ (v1 = 58) → ((¬ (v1 = 94) → yR d 98 0 [some (.int v1)] [] σ (qI (fun x3 σ3 => ((¬ (x3 = (-1999999)) → yR (d + 1) 112 163 [some (.ref 97), some (.int v1), some (.int x3)] [] σ3 (qI K)) ∧ ((x3 = (-1999999)) → ((¬ ((σ3 97 18) = 0) → yR d 97 0 [some (.ref 97), some (.int 0)] [] σ3 (qV (fun σ4 => (yBo 0 ∧ K 0 σ4)))) ∧ (((σ3 97 18) = 0) → yR d 97 0 [some (.ref 97), some (.int 1)] [] σ3 (qV (fun σ5 => (yBo 0 ∧ K 0 σ5)))))))))) ∧ ((v1 = 94) → ((¬ (v1 = 58) → yR d 111 0 [some (.ref 97), some (.int 14), none, none, none] [] σ (qV (fun σ6 => (yBo 1 ∧ K 1 σ6)))) ∧ ((v1 = 58) → yR d 111 0 [some (.ref 97), some (.int 13), none, none, none] [] σ (qV (fun σ7 => (yBo 1 ∧ K 1 σ7)))))))))) ∧ (¬ ((σ 97 8) = (-1999999)) → (yBo 0 ∧ K 0 σ)))) ∧ (((σ 97 8) = (-1999999)) → ((¬ (v1 = 41) → ((¬ (v1 = 92) → ((((σ 97 8) = (-1999999)) → (((v1 = 58) → ((¬ (v1 = 58) → yR d 111 0 [some (.ref 97), some (.int 14), none, none, none] [] σ (qV (fun σ8 => (yBo 1 ∧ K 1 σ8)))) ∧ ((v1 = 58) → yR d 111 0 [some (.ref 97), some (.int 13), none, none, none] [] σ (qV (fun σ9 => (yBo 1 ∧ K 1 σ9)))))) ∧ (¬ (v1 = 58) → ((¬ (v1 = 94) → yR d 98 0 [some (.int v1)] [] σ (qI (fun x10 σ10 => ((¬ (x10 = (-1999999)) → yR (d + 1) 112 163 [some (.ref 97), some (.int v1), some (.int x10)] [] σ10 (qI K)) ∧ ((x10 = (-1999999)) → ((¬ ((σ10 97 18) = 0) → yR d 97 0 [some (.ref 97), some (.int 0)] [] σ10 (qV (fun σ11 => (yBo 0 ∧ K 0 σ11)))) ∧ (((σ10 97 18) = 0) → yR d 97 0 [some (.ref 97), some (.int 1)] [] σ10 (qV (fun σ12 => (yBo 0 ∧ K 0 σ12)))))))))) ∧ ((v1 = 94) → ((¬ (v1 = 58) → yR d 111 0 [some (.ref 97), some (.int 14), none, none, none] [] σ (qV (fun σ13 => (yBo 1 ∧ K 1 σ13)))) ∧ ((v1 = 58) → yR d 111 0 [some (.ref 97), some (.int 13), none, none, none] [] σ (qV (fun σ14 => (yBo 1 ∧ K 1 σ14)))))))))) ∧ (¬ ((σ 97 8) = (-1999999)) → (yBo 0 ∧ K 0 σ)))) ∧ ((v1 = 92) → ((¬ (v1 = 92) → yR d 109 0 [some (.ref 97)] [] σ (qV (fun σ15 => yR d 105 0 [some (.ref 97)] [] (sg (sg (sg σ15 97 17 ((σ15 97 17) - 1)) 97 18 ((σ15 97 18) - 1)) 97 7 ((σ15 97 7) + 1)) (qV (fun σ16 => yR d 96 0 [some (.ref 97)] [] σ16 (qI (fun x17 σ17 => yR (d + 1) 112 5 [some (.ref 97), some (.int x17), none] [] σ17 (qI K)))))))) ∧ ((v1 = 92) → yR d 110 0 [some (.ref 97), none, none] [] σ (qV (fun σ18 => yR d 96 0 [some (.ref 97)] [] σ18 (qI (fun x19 σ19 => yR (d + 1) 112 5 [some (.ref 97), some (.int x19), none] [] σ19 (qI K)))))))))) ∧ ((v1 = 41) → (((0 < (σ 97 18)) → ((¬ (v1 = 92) → yR d 109 0 [some (.ref 97)] [] σ (qV (fun σ20 => yR d 105 0 [some (.ref 97)] [] (sg (sg (sg σ20 97 17 ((σ20 97 17) - 1)) 97 18 ((σ20 97 18) - 1)) 97 7 ((σ20 97 7) + 1)) (qV (fun σ21 => yR d 96 0 [some (.ref 97)] [] σ21 (qI (fun x22 σ22 => yR (d + 1) 112 5 [some (.ref 97), some (.int x22), none] [] σ22 (qI K)))))))) ∧ ((v1 = 92) → yR d 110 0 [some (.ref 97), none, none] [] σ (qV (fun σ23 => yR d 96 0 [some (.ref 97)] [] σ23 (qI (fun x24 σ24 => yR (d + 1) 112 5 [some (.ref 97), some (.int x24), none] [] σ24 (qI K)))))))) ∧ (¬ (0 < (σ 97 18)) → ((¬ (v1 = 92) → ((((σ 97 8) = (-1999999)) → (((v1 = 58) → ((¬ (v1 = 58) → yR d 111 0 [some (.ref 97), some (.int 14), none, none, none] [] σ (qV (fun σ25 => (yBo 1 ∧ K 1 σ25)))) ∧ ((v1 = 58) → yR d 111 0 [some (.ref 97), some (.int 13), none, none, none] [] σ (qV (fun σ26 => (yBo 1 ∧ K 1 σ26)))))) ∧ (¬ (v1 = 58) → ((¬ (v1 = 94) → yR d 98 0 [some (.int v1)] [] σ (qI (fun x27 σ27 => ((¬ (x27 = (-1999999)) → yR (d + 1) 112 163 [some (.ref 97), some (.int v1), some (.int x27)] [] σ27 (qI K)) ∧ ((x27 = (-1999999)) → ((¬ ((σ27 97 18) = 0) → yR d 97 0 [some (.ref 97), some (.int 0)] [] σ27 (qV (fun σ28 => (yBo 0 ∧ K 0 σ28)))) ∧ (((σ27 97 18) = 0) → yR d 97 0 [some (.ref 97), some (.int 1)] [] σ27 (qV (fun σ29 => (yBo 0 ∧ K 0 σ29)))))))))) ∧ ((v1 = 94) → ((¬ (v1 = 58) → yR d 111 0 [some (.ref 97), some (.int 14), none, none, none] [] σ (qV (fun σ30 => (yBo 1 ∧ K 1 σ30)))) ∧ ((v1 = 58) → yR d 111 0 [some (.ref 97), some (.int 13), none, none, none] [] σ (qV (fun σ31 => (yBo 1 ∧ K 1 σ31)))))))))) ∧ (¬ ((σ 97 8) = (-1999999)) → (yBo 0 ∧ K 0 σ)))) ∧ ((v1 = 92) → ((¬ (v1 = 92) → yR d 109 0 [some (.ref 97)] [] σ (qV (fun σ32 => yR d 105 0 [some (.ref 97)] [] (sg (sg (sg σ32 97 17 ((σ32 97 17) - 1)) 97 18 ((σ32 97 18) - 1)) 97 7 ((σ32 97 7) + 1)) (qV (fun σ33 => yR d 96 0 [some (.ref 97)] [] σ33 (qI (fun x34 σ34 => yR (d + 1) 112 5 [some (.ref 97), some (.int x34), none] [] σ34 (qI K)))))))) ∧ ((v1 = 92) → yR d 110 0 [some (.ref 97), none, none] [] σ (qV (fun σ35 => yR d 96 0 [some (.ref 97)] [] σ35 (qI (fun x36 σ36 => yR (d + 1) 112 5 [some (.ref 97), some (.int x36), none] [] σ36 (qI K))))))))))))))) from ⟨fun q1 => ⟨fun q => absurd q q1, fun _ => ⟨yB0, (h.1 q1)⟩⟩, fun q1 => ⟨fun q2 => ⟨fun q3 => ⟨fun _ => ⟨fun q4 => ⟨fun q => absurd q4 q, fun _ => (yR.mono ((((h.2 q1).1 q2).1 q3).1 q4) (qV_mono (fun σ9 q5 => ⟨yB1, q5⟩)))⟩, fun q4 => ⟨fun q6 => (yR.mono (((((h.2 q1).1 q2).1 q3).2 q4).1 q6) (qI_mono (fun x10 σ10 q7 => ⟨fun q8 => (q7.1 q8), fun q8 => ⟨fun q9 => (yR.mono ((q7.2 q8).1 q9) (qV_mono (fun σ11 q10 => ⟨yB0, q10⟩))), fun q9 => (yR.mono ((q7.2 q8).2 q9) (qV_mono (fun σ12 q11 => ⟨yB0, q11⟩)))⟩⟩))), fun q6 => ⟨fun _ => (yR.mono (((((h.2 q1).1 q2).1 q3).2 q4).2 q6) (qV_mono (fun σ13 q12 => ⟨yB1, q12⟩))), fun q => absurd q q4⟩⟩⟩, fun q => absurd q1 q⟩, fun q3 => ⟨fun q => absurd q3 q, fun _ => (((h.2 q1).1 q2).2 q3)⟩⟩, fun q2 => ⟨fun q15 => ⟨fun q16 => ((((h.2 q1).2 q2).1 q15).1 q16), fun q16 => ((((h.2 q1).2 q2).1 q15).2 q16)⟩, fun q15 => ⟨fun q22 => ⟨fun _ => ⟨fun q23 => ⟨fun q => absurd q23 q, fun _ => (yR.mono (((((h.2 q1).2 q2).2 q15).1 q22).1 q23) (qV_mono (fun σ26 q24 => ⟨yB1, q24⟩)))⟩, fun q23 => ⟨fun q25 => (yR.mono ((((((h.2 q1).2 q2).2 q15).1 q22).2 q23).1 q25) (qI_mono (fun x27 σ27 q26 => ⟨fun q27 => (q26.1 q27), fun q27 => ⟨fun q28 => (yR.mono ((q26.2 q27).1 q28) (qV_mono (fun σ28 q29 => ⟨yB0, q29⟩))), fun q28 => (yR.mono ((q26.2 q27).2 q28) (qV_mono (fun σ29 q30 => ⟨yB0, q30⟩)))⟩⟩))), fun q25 => ⟨fun _ => (yR.mono ((((((h.2 q1).2 q2).2 q15).1 q22).2 q23).2 q25) (qV_mono (fun σ30 q31 => ⟨yB1, q31⟩))), fun q => absurd q q23⟩⟩⟩, fun q => absurd q1 q⟩, fun q22 => ⟨fun q => absurd q22 q, fun _ => ((((h.2 q1).2 q2).2 q15).2 q22)⟩⟩⟩⟩⟩)
theorem w_112_163 {d : Nat} {σ : yS} {v1 v2 : Int32} {K : Int32 → yS → Prop} (h : yR d 103 0 [some (.ref 97)] [] σ (qI (fun x1 σ1 => yR d 90 0 [some (.int x1)] [] σ1 (qI (fun x2 σ2 => (((x2 = 0) → yR d 100 0 [some (.ref 97), some (.int v2)] [] σ2 (qI (fun x3 σ3 => yR d 102 0 [some (.ref 97), some (.int v2), some (.int x3)] [] σ3 (qV (fun σ4 => K 1 (sg σ4 97 7 ((σ4 97 7) + 1))))))) ∧ (¬ (x2 = 0) → yR d 103 0 [some (.ref 97)] [] σ2 (qI (fun x5 σ5 => yR d 99 0 [some (.int x5)] [] σ5 (qI (fun x6 σ6 => yR d 99 0 [some (.int v2)] [] σ6 (qI (fun x7 σ7 => (((x6 < x7) → yR d 100 0 [some (.ref 97), some (.int v2)] [] σ7 (qI (fun x8 σ8 => yR d 102 0 [some (.ref 97), some (.int v2), some (.int x8)] [] σ8 (qV (fun σ9 => K 1 (sg σ9 97 7 ((σ9 97 7) + 1))))))) ∧ (¬ (x6 < x7) → yR d 104 0 [some (.ref 97), none, none, none] [] σ7 (qV (fun σ10 => yR (d + 1) 112 163 [some (.ref 97), some (.int v1), some (.int v2)] [] σ10 (qI K)))))))))))))))))) : yR (d + 1) 112 163 [some (.ref 97), some (.int v1), some (.int v2)] [] σ (qI K) := wp_112 25 [5, 163] (show yR d 103 0 [some (.ref 97)] [] σ (qI (fun x1 σ1 => yR d 90 0 [some (.int x1)] [] σ1 (qI (fun x2 σ2 => (((x2 = 0) → yR d 100 0 [some (.ref 97), some (.int v2)] [] σ2 (qI (fun x3 σ3 => yR d 102 0 [some (.ref 97), some (.int v2), some (.int x3)] [] σ3 (qV (fun σ4 => (yBo 1 ∧ K 1 (sg σ4 97 7 ((σ4 97 7) + 1)))))))) ∧ (¬ (x2 = 0) → yR d 103 0 [some (.ref 97)] [] σ2 (qI (fun x5 σ5 => yR d 99 0 [some (.int x5)] [] σ5 (qI (fun x6 σ6 => yR d 99 0 [some (.int v2)] [] σ6 (qI (fun x7 σ7 => (((x6 < x7) → yR d 100 0 [some (.ref 97), some (.int v2)] [] σ7 (qI (fun x8 σ8 => yR d 102 0 [some (.ref 97), some (.int v2), some (.int x8)] [] σ8 (qV (fun σ9 => (yBo 1 ∧ K 1 (sg σ9 97 7 ((σ9 97 7) + 1)))))))) ∧ (¬ (x6 < x7) → yR d 104 0 [some (.ref 97), none, none, none] [] σ7 (qV (fun σ10 => yR (d + 1) 112 163 [some (.ref 97), some (.int v1), some (.int v2)] [] σ10 (qI K))))))))))))))))) from (yR.mono h (qI_mono (fun x1 σ1 q1 => (yR.mono q1 (qI_mono (fun x2 σ2 q2 => ⟨fun q3 => (yR.mono (q2.1 q3) (qI_mono (fun x3 σ3 q4 => (yR.mono q4 (qV_mono (fun σ4 q5 => ⟨yB1, q5⟩)))))), fun q3 => (yR.mono (q2.2 q3) (qI_mono (fun x5 σ5 q6 => (yR.mono q6 (qI_mono (fun x6 σ6 q7 => (yR.mono q7 (qI_mono (fun x7 σ7 q8 => ⟨fun q9 => (yR.mono (q8.1 q9) (qI_mono (fun x8 σ8 q10 => (yR.mono q10 (qV_mono (fun σ9 q11 => ⟨yB1, q11⟩)))))), fun q9 => (q8.2 q9)⟩)))))))))⟩)))))))
theorem w_113_0 {d : Nat} {σ : yS} {K : yS → Prop} (h : (vp_in 0 89 ∧ (((8 ≤ (σ 103 0)) → yR d 97 0 [some (.ref 97), some (.int 0)] [] σ (qV (fun σ1 => ((((σ1 97 8) = (-1999999)) → yR d 96 0 [some (.ref 97)] [] σ1 (qI (fun x2 σ2 => ((¬ (x2 = 42) → (vp_in (1 + (σ 103 0)) 89 ∧ yR (d + 1) 113 96 [some (.ref 97), some (.int (σ 103 0)), some (.int 1)] [] (sg (sg (sg (sg (sg (sg σ2 103 (1 + (σ 103 0)).toNatClampNeg 0) 97 7 ((σ2 97 7) + ((sg σ2 103 (1 + (σ 103 0)).toNatClampNeg 0) 103 (1 + (σ 103 0)).toNatClampNeg))) 97 10 (σ2 97 11)) 97 14 0) 97 17 0) 97 18 0) (qV K))) ∧ ((x2 = 42) → (vp_in (1 + (σ 103 0)) 89 ∧ yR (d + 1) 113 96 [some (.ref 97), some (.int (σ 103 0)), some (.int 1)] [] (sg (sg (sg (sg (sg (sg σ2 103 (1 + (σ 103 0)).toNatClampNeg 1) 97 7 ((σ2 97 7) + ((sg σ2 103 (1 + (σ 103 0)).toNatClampNeg 1) 103 (1 + (σ 103 0)).toNatClampNeg))) 97 10 (σ2 97 11)) 97 14 0) 97 17 0) 97 18 0) (qV K))))))) ∧ (¬ ((σ1 97 8) = (-1999999)) → K σ1))))) ∧ (¬ (8 ≤ (σ 103 0)) → yR d 97 0 [some (.ref 97), some (.int 1)] [] σ (qV (fun σ3 => ((((σ3 97 8) = (-1999999)) → yR d 96 0 [some (.ref 97)] [] σ3 (qI (fun x4 σ4 => ((¬ (x4 = 42) → (vp_in (1 + (σ 103 0)) 89 ∧ yR (d + 1) 113 96 [some (.ref 97), some (.int (σ 103 0)), some (.int 1)] [] (sg (sg (sg (sg (sg (sg σ4 103 (1 + (σ 103 0)).toNatClampNeg 0) 97 7 ((σ4 97 7) + ((sg σ4 103 (1 + (σ 103 0)).toNatClampNeg 0) 103 (1 + (σ 103 0)).toNatClampNeg))) 97 10 (σ4 97 11)) 97 14 0) 97 17 0) 97 18 0) (qV K))) ∧ ((x4 = 42) → (vp_in (1 + (σ 103 0)) 89 ∧ yR (d + 1) 113 96 [some (.ref 97), some (.int (σ 103 0)), some (.int 1)] [] (sg (sg (sg (sg (sg (sg σ4 103 (1 + (σ 103 0)).toNatClampNeg 1) 97 7 ((σ4 97 7) + ((sg σ4 103 (1 + (σ 103 0)).toNatClampNeg 1) 103 (1 + (σ 103 0)).toNatClampNeg))) 97 10 (σ4 97 11)) 97 14 0) 97 17 0) 97 18 0) (qV K))))))) ∧ (¬ ((σ3 97 8) = (-1999999)) → K σ3)))))))) : yR (d + 1) 113 0 [some (.ref 97), none, none] [] σ (qV K) := wp_113 56 [96] (show (vp_in 0 89 ∧ (((8 ≤ (σ 103 0)) → yR d 97 0 [some (.ref 97), some (.int 0)] [] σ (qV (fun σ1 => ((((σ1 97 8) = (-1999999)) → yR d 96 0 [some (.ref 97)] [] σ1 (qI (fun x2 σ2 => ((¬ (x2 = 42) → (vp_in (1 + (σ 103 0)) 89 ∧ (vp_in (1 + (σ 103 0)) 89 ∧ yR (d + 1) 113 96 [some (.ref 97), some (.int (σ 103 0)), some (.int 1)] [] (sg (sg (sg (sg (sg (sg σ2 103 (1 + (σ 103 0)).toNatClampNeg 0) 97 7 ((σ2 97 7) + ((sg σ2 103 (1 + (σ 103 0)).toNatClampNeg 0) 103 (1 + (σ 103 0)).toNatClampNeg))) 97 10 (σ2 97 11)) 97 14 0) 97 17 0) 97 18 0) (qV K)))) ∧ ((x2 = 42) → (vp_in (1 + (σ 103 0)) 89 ∧ (vp_in (1 + (σ 103 0)) 89 ∧ yR (d + 1) 113 96 [some (.ref 97), some (.int (σ 103 0)), some (.int 1)] [] (sg (sg (sg (sg (sg (sg σ2 103 (1 + (σ 103 0)).toNatClampNeg 1) 97 7 ((σ2 97 7) + ((sg σ2 103 (1 + (σ 103 0)).toNatClampNeg 1) 103 (1 + (σ 103 0)).toNatClampNeg))) 97 10 (σ2 97 11)) 97 14 0) 97 17 0) 97 18 0) (qV K)))))))) ∧ (¬ ((σ1 97 8) = (-1999999)) → K σ1))))) ∧ (¬ (8 ≤ (σ 103 0)) → yR d 97 0 [some (.ref 97), some (.int 1)] [] σ (qV (fun σ3 => ((((σ3 97 8) = (-1999999)) → yR d 96 0 [some (.ref 97)] [] σ3 (qI (fun x4 σ4 => ((¬ (x4 = 42) → (vp_in (1 + (σ 103 0)) 89 ∧ (vp_in (1 + (σ 103 0)) 89 ∧ yR (d + 1) 113 96 [some (.ref 97), some (.int (σ 103 0)), some (.int 1)] [] (sg (sg (sg (sg (sg (sg σ4 103 (1 + (σ 103 0)).toNatClampNeg 0) 97 7 ((σ4 97 7) + ((sg σ4 103 (1 + (σ 103 0)).toNatClampNeg 0) 103 (1 + (σ 103 0)).toNatClampNeg))) 97 10 (σ4 97 11)) 97 14 0) 97 17 0) 97 18 0) (qV K)))) ∧ ((x4 = 42) → (vp_in (1 + (σ 103 0)) 89 ∧ (vp_in (1 + (σ 103 0)) 89 ∧ yR (d + 1) 113 96 [some (.ref 97), some (.int (σ 103 0)), some (.int 1)] [] (sg (sg (sg (sg (sg (sg σ4 103 (1 + (σ 103 0)).toNatClampNeg 1) 97 7 ((σ4 97 7) + ((sg σ4 103 (1 + (σ 103 0)).toNatClampNeg 1) 103 (1 + (σ 103 0)).toNatClampNeg))) 97 10 (σ4 97 11)) 97 14 0) 97 17 0) 97 18 0) (qV K)))))))) ∧ (¬ ((σ3 97 8) = (-1999999)) → K σ3))))))) from ⟨h.1, ⟨fun q1 => (yR.mono (h.2.1 q1) (qV_mono (fun σ1 q2 => ⟨fun q3 => (yR.mono (q2.1 q3) (qI_mono (fun x2 σ2 q4 => ⟨fun q5 => ⟨(q4.1 q5).1, ⟨(q4.1 q5).1, (q4.1 q5).2⟩⟩, fun q5 => ⟨(q4.2 q5).1, ⟨(q4.2 q5).1, (q4.2 q5).2⟩⟩⟩))), fun q3 => (q2.2 q3)⟩))), fun q1 => (yR.mono (h.2.2 q1) (qV_mono (fun σ3 q6 => ⟨fun q7 => (yR.mono (q6.1 q7) (qI_mono (fun x4 σ4 q8 => ⟨fun q9 => ⟨(q8.1 q9).1, ⟨(q8.1 q9).1, (q8.1 q9).2⟩⟩, fun q9 => ⟨(q8.2 q9).1, ⟨(q8.2 q9).1, (q8.2 q9).2⟩⟩⟩))), fun q7 => (q6.2 q7)⟩)))⟩⟩)
theorem w_113_96 {d : Nat} {σ : yS} {v1 v2 : Int32} {K : yS → Prop} (h : ((¬ ((σ 97 8) = (-1999999)) → K σ) ∧ (((σ 97 8) = (-1999999)) → (((v2 = 0) → yR d 109 0 [some (.ref 97)] [] σ (qV (fun σ5 => yR d 96 0 [some (.ref 97)] [] σ5 (qI (fun x6 σ6 => ((¬ (x6 = 59) → yR d 97 0 [some (.ref 97), some (.int 0)] [] σ6 (qV (fun σ7 => (vp_in (9 + v1) 89 ∧ (vp_in 0 64 ∧ (vp_in (17 + v1) 89 ∧ (vp_in 0 89 ∧ K (sg (sg (sg (sg σ7 97 7 ((σ7 97 7) + 1)) 103 (9 + v1).toNatClampNeg ((σ7 97 11) - (σ7 97 10))) 103 (17 + v1).toNatClampNeg (σ7 104 0)) 103 0 (((sg (sg (sg σ7 97 7 ((σ7 97 7) + 1)) 103 (9 + v1).toNatClampNeg ((σ7 97 11) - (σ7 97 10))) 103 (17 + v1).toNatClampNeg (σ7 104 0)) 103 0) + 1))))))))) ∧ ((x6 = 59) → yR d 97 0 [some (.ref 97), some (.int 1)] [] σ6 (qV (fun σ8 => (vp_in (9 + v1) 89 ∧ (vp_in 0 64 ∧ (vp_in (17 + v1) 89 ∧ (vp_in 0 89 ∧ K (sg (sg (sg (sg σ8 97 7 ((σ8 97 7) + 1)) 103 (9 + v1).toNatClampNeg ((σ8 97 11) - (σ8 97 10))) 103 (17 + v1).toNatClampNeg (σ8 104 0)) 103 0 (((sg (sg (sg σ8 97 7 ((σ8 97 7) + 1)) 103 (9 + v1).toNatClampNeg ((σ8 97 11) - (σ8 97 10))) 103 (17 + v1).toNatClampNeg (σ8 104 0)) 103 0) + 1))))))))))))))) ∧ (¬ (v2 = 0) → yR d 108 0 [some (.ref 97), none] [] σ (qI (fun x9 σ9 => (((x9 = 0) → yR (d + 1) 113 96 [some (.ref 97), some (.int v1), some (.int 1)] [] σ9 (qV K)) ∧ (¬ (x9 = 0) → yR d 112 0 [some (.ref 97), none, none] [] σ9 (qI (fun x10 σ10 => (((x10 = 0) → yR (d + 1) 113 96 [some (.ref 97), some (.int v1), some (.int 0)] [] σ10 (qV K)) ∧ (¬ (x10 = 0) → yR (d + 1) 113 96 [some (.ref 97), some (.int v1), some (.int 1)] [] σ10 (qV K)))))))))))))) : yR (d + 1) 113 96 [some (.ref 97), some (.int v1), some (.int v2)] [] σ (qV K) := wp_113 57 [96] (show ((¬ ((σ 97 8) = (-1999999)) → ((¬ ((σ 97 8) = (-1999999)) → K σ) ∧ (((σ 97 8) = (-1999999)) → yR d 109 0 [some (.ref 97)] [] σ (qV (fun σ1 => yR d 96 0 [some (.ref 97)] [] σ1 (qI (fun x2 σ2 => ((¬ (x2 = 59) → yR d 97 0 [some (.ref 97), some (.int 0)] [] σ2 (qV (fun σ3 => (vp_in (9 + v1) 89 ∧ (vp_in 0 64 ∧ (vp_in (17 + v1) 89 ∧ (vp_in 0 89 ∧ (vp_in 0 89 ∧ K (sg (sg (sg (sg σ3 97 7 ((σ3 97 7) + 1)) 103 (9 + v1).toNatClampNeg ((σ3 97 11) - (σ3 97 10))) 103 (17 + v1).toNatClampNeg (σ3 104 0)) 103 0 (((sg (sg (sg σ3 97 7 ((σ3 97 7) + 1)) 103 (9 + v1).toNatClampNeg ((σ3 97 11) - (σ3 97 10))) 103 (17 + v1).toNatClampNeg (σ3 104 0)) 103 0) + 1)))))))))) ∧ ((x2 = 59) → yR d 97 0 [some (.ref 97), some (.int 1)] [] σ2 (qV (fun σ4 => (vp_in (9 + v1) 89 ∧ (vp_in 0 64 ∧ (vp_in (17 + v1) 89 ∧ (vp_in 0 89 ∧ (vp_in 0 89 ∧ K (sg (sg (sg (sg σ4 97 7 ((σ4 97 7) + 1)) 103 (9 + v1).toNatClampNeg ((σ4 97 11) - (σ4 97 10))) 103 (17 + v1).toNatClampNeg (σ4 104 0)) 103 0 (((sg (sg (sg σ4 97 7 ((σ4 97 7) + 1)) 103 (9 + v1).toNatClampNeg ((σ4 97 11) - (σ4 97 10))) 103 (17 + v1).toNatClampNeg (σ4 104 0)) 103 0) + 1)))))))))))))))))) ∧ (((σ 97 8) = (-1999999)) → (((v2 = 0) → ((¬ ((σ 97 8) = (-1999999)) → K σ) ∧ (((σ 97 8) = (-1999999)) → yR d 109 0 [some (.ref 97)] [] σ (qV (fun σ5 => yR d 96 0 [some (.ref 97)] [] σ5 (qI (fun x6 σ6 => ((¬ (x6 = 59) → yR d 97 0 [some (.ref 97), some (.int 0)] [] σ6 (qV (fun σ7 => (vp_in (9 + v1) 89 ∧ (vp_in 0 64 ∧ (vp_in (17 + v1) 89 ∧ (vp_in 0 89 ∧ (vp_in 0 89 ∧ K (sg (sg (sg (sg σ7 97 7 ((σ7 97 7) + 1)) 103 (9 + v1).toNatClampNeg ((σ7 97 11) - (σ7 97 10))) 103 (17 + v1).toNatClampNeg (σ7 104 0)) 103 0 (((sg (sg (sg σ7 97 7 ((σ7 97 7) + 1)) 103 (9 + v1).toNatClampNeg ((σ7 97 11) - (σ7 97 10))) 103 (17 + v1).toNatClampNeg (σ7 104 0)) 103 0) + 1)))))))))) ∧ ((x6 = 59) → yR d 97 0 [some (.ref 97), some (.int 1)] [] σ6 (qV (fun σ8 => (vp_in (9 + v1) 89 ∧ (vp_in 0 64 ∧ (vp_in (17 + v1) 89 ∧ (vp_in 0 89 ∧ (vp_in 0 89 ∧ K (sg (sg (sg (sg σ8 97 7 ((σ8 97 7) + 1)) 103 (9 + v1).toNatClampNeg ((σ8 97 11) - (σ8 97 10))) 103 (17 + v1).toNatClampNeg (σ8 104 0)) 103 0 (((sg (sg (sg σ8 97 7 ((σ8 97 7) + 1)) 103 (9 + v1).toNatClampNeg ((σ8 97 11) - (σ8 97 10))) 103 (17 + v1).toNatClampNeg (σ8 104 0)) 103 0) + 1)))))))))))))))))) ∧ (¬ (v2 = 0) → yR d 108 0 [some (.ref 97), none] [] σ (qI (fun x9 σ9 => (((x9 = 0) → yR (d + 1) 113 96 [some (.ref 97), some (.int v1), some (.int 1)] [] σ9 (qV K)) ∧ (¬ (x9 = 0) → yR d 112 0 [some (.ref 97), none, none] [] σ9 (qI (fun x10 σ10 => (((x10 = 0) → yR (d + 1) 113 96 [some (.ref 97), some (.int v1), some (.int 0)] [] σ10 (qV K)) ∧ (¬ (x10 = 0) → yR (d + 1) 113 96 [some (.ref 97), some (.int v1), some (.int 1)] [] σ10 (qV K))))))))))))) from ⟨fun q1 => ⟨fun _ => (h.1 q1), fun q => absurd q q1⟩, fun q1 => ⟨fun q2 => ⟨fun q => absurd q1 q, fun _ => (yR.mono ((h.2 q1).1 q2) (qV_mono (fun σ5 q3 => (yR.mono q3 (qI_mono (fun x6 σ6 q4 => ⟨fun q5 => (yR.mono (q4.1 q5) (qV_mono (fun σ7 q6 => ⟨q6.1, ⟨q6.2.1, ⟨q6.2.2.1, ⟨q6.2.2.2.1, ⟨q6.2.2.2.1, q6.2.2.2.2⟩⟩⟩⟩⟩))), fun q5 => (yR.mono (q4.2 q5) (qV_mono (fun σ8 q7 => ⟨q7.1, ⟨q7.2.1, ⟨q7.2.2.1, ⟨q7.2.2.2.1, ⟨q7.2.2.2.1, q7.2.2.2.2⟩⟩⟩⟩⟩)))⟩))))))⟩, fun q2 => (yR.mono ((h.2 q1).2 q2) (qI_mono (fun x9 σ9 q8 => ⟨fun q9 => (q8.1 q9), fun q9 => (yR.mono (q8.2 q9) (qI_mono (fun x10 σ10 q10 => ⟨fun q11 => (q10.1 q11), fun q11 => (q10.2 q11)⟩)))⟩)))⟩⟩)
theorem w_114_0 {d : Nat} {σ : yS} {K : Int32 → yS → Prop} (h : (vp_in 0 89 ∧ yR (d + 1) 114 23 [some (.ref 97), none] [] (sg (sg (sg (sg σ 97 7 0) 97 8 (-1999999)) 97 11 0) 103 0 0) (qI K))) : yR (d + 1) 114 0 [some (.ref 97), none] [] σ (qI K) := wp_114 16 [23, 71] (show (vp_in 0 89 ∧ yR (d + 1) 114 23 [some (.ref 97), none] [] (sg (sg (sg (sg σ 97 7 0) 97 8 (-1999999)) 97 11 0) 103 0 0) (qI K)) from ⟨h.1, h.2⟩)
theorem w_114_23 {d : Nat} {σ : yS} {K : Int32 → yS → Prop} (h : ((¬ ((σ 97 8) = (-1999999)) → K ((-10) - (σ 97 8)) σ) ∧ (((σ 97 8) = (-1999999)) → yR d 96 0 [some (.ref 97)] [] σ (qI (fun x2 σ2 => (((x2 = (-1999999)) → ((((σ2 97 8) = (-1999999)) → yR d 82 0 [some (.ref 97), none] [] σ2 (qV (fun σ3 => yR (d + 1) 114 71 [some (.ref 97), some (.int 0)] [] σ3 (qI K)))) ∧ (¬ ((σ2 97 8) = (-1999999)) → K ((-10) - (σ2 97 8)) σ2))) ∧ (¬ (x2 = (-1999999)) → yR d 113 0 [some (.ref 97), none, none] [] σ2 (qV (fun σ4 => yR (d + 1) 114 23 [some (.ref 97), none] [] σ4 (qI K)))))))))) : yR (d + 1) 114 23 [some (.ref 97), none] [] σ (qI K) := wp_114 18 [23, 71] (show ((¬ ((σ 97 8) = (-1999999)) → ((((σ 97 8) = (-1999999)) → yR d 82 0 [some (.ref 97), none] [] σ (qV (fun σ1 => yR (d + 1) 114 71 [some (.ref 97), some (.int 0)] [] σ1 (qI K)))) ∧ (¬ ((σ 97 8) = (-1999999)) → K ((-10) - (σ 97 8)) σ))) ∧ (((σ 97 8) = (-1999999)) → yR d 96 0 [some (.ref 97)] [] σ (qI (fun x2 σ2 => (((x2 = (-1999999)) → ((((σ2 97 8) = (-1999999)) → yR d 82 0 [some (.ref 97), none] [] σ2 (qV (fun σ3 => yR (d + 1) 114 71 [some (.ref 97), some (.int 0)] [] σ3 (qI K)))) ∧ (¬ ((σ2 97 8) = (-1999999)) → K ((-10) - (σ2 97 8)) σ2))) ∧ (¬ (x2 = (-1999999)) → yR d 113 0 [some (.ref 97), none, none] [] σ2 (qV (fun σ4 => yR (d + 1) 114 23 [some (.ref 97), none] [] σ4 (qI K))))))))) from ⟨fun q1 => ⟨fun q => absurd q q1, fun _ => (h.1 q1)⟩, fun q1 => (yR.mono (h.2 q1) (qI_mono (fun x2 σ2 q2 => ⟨fun q3 => ⟨fun q4 => ((q2.1 q3).1 q4), fun q4 => ((q2.1 q3).2 q4)⟩, fun q3 => (q2.2 q3)⟩)))⟩)
theorem w_114_71 {d : Nat} {σ : yS} {v1 : Int32} {K : Int32 → yS → Prop} (h : (((85 ≤ v1) → yR d 83 0 [some (.ref 97), none] [] σ (qV (fun σ1 => (vp_in 0 89 ∧ K (σ1 98 0) σ1)))) ∧ (¬ (85 ≤ v1) → (vp_in v1 89 ∧ yR (d + 1) 114 71 [some (.ref 97), some (.int (v1 + 1))] [] (sg σ 98 v1.toNatClampNeg (σ 103 v1.toNatClampNeg)) (qI K))))) : yR (d + 1) 114 71 [some (.ref 97), some (.int v1)] [] σ (qI K) := wp_114 15 [23, 71] (show (((85 ≤ v1) → yR d 83 0 [some (.ref 97), none] [] σ (qV (fun σ1 => (vp_in 0 89 ∧ K (σ1 98 0) σ1)))) ∧ (¬ (85 ≤ v1) → (vp_in v1 89 ∧ (vp_in v1 89 ∧ yR (d + 1) 114 71 [some (.ref 97), some (.int (v1 + 1))] [] (sg σ 98 v1.toNatClampNeg (σ 103 v1.toNatClampNeg)) (qI K))))) from ⟨fun q1 => (yR.mono (h.1 q1) (qV_mono (fun σ1 q2 => ⟨q2.1, q2.2⟩))), fun q1 => ⟨(h.2 q1).1, ⟨(h.2 q1).1, (h.2 q1).2⟩⟩⟩)
theorem w_115_0 {d : Nat} {σ : yS} {v1 v2 : Int32} {K : Int32 → yS → Prop} (h : yR d 80 0 [some (.int v1), some (.int 0), some (.int 3)] [] σ (qI (fun x1 σ1 => (((x1 = 0) → yR d 81 0 [some (.ref 97), some (.int (-2000000))] [] σ1 (qI (fun x2 σ2 => K x2 σ2))) ∧ (¬ (x1 = 0) → yR d 80 0 [some (.int v2), some (.int (-999999)), some (.int 999999)] [] σ1 (qI (fun x3 σ3 => ((¬ (x3 = 0) → yR d 82 0 [some (.ref 97), none] [] σ3 (qV (fun σ4 => (vp_in (85 + v1) 89 ∧ yR d 83 0 [some (.ref 97), none] [] (sg σ4 98 (85 + v1).toNatClampNeg v2) (qV (fun σ5 => K (σ4 98 (85 + v1).toNatClampNeg) σ5)))))) ∧ ((x3 = 0) → yR d 81 0 [some (.ref 97), some (.int (-2000000))] [] σ3 (qI (fun x6 σ6 => K x6 σ6))))))))))) : yR (d + 1) 115 0 [some (.ref 97), some (.int v1), some (.int v2), none] [] σ (qI K) := wp_115 31 [] (show yR d 80 0 [some (.int v1), some (.int 0), some (.int 3)] [] σ (qI (fun x1 σ1 => (((x1 = 0) → yR d 81 0 [some (.ref 97), some (.int (-2000000))] [] σ1 (qI (fun x2 σ2 => K x2 σ2))) ∧ (¬ (x1 = 0) → yR d 80 0 [some (.int v2), some (.int (-999999)), some (.int 999999)] [] σ1 (qI (fun x3 σ3 => ((¬ (x3 = 0) → yR d 82 0 [some (.ref 97), none] [] σ3 (qV (fun σ4 => (vp_in (85 + v1) 89 ∧ (vp_in (85 + v1) 89 ∧ yR d 83 0 [some (.ref 97), none] [] (sg σ4 98 (85 + v1).toNatClampNeg v2) (qV (fun σ5 => K (σ4 98 (85 + v1).toNatClampNeg) σ5))))))) ∧ ((x3 = 0) → yR d 81 0 [some (.ref 97), some (.int (-2000000))] [] σ3 (qI (fun x6 σ6 => K x6 σ6)))))))))) from (yR.mono h (qI_mono (fun x1 σ1 q1 => ⟨fun q2 => (q1.1 q2), fun q2 => (yR.mono (q1.2 q2) (qI_mono (fun x3 σ3 q4 => ⟨fun q5 => (yR.mono (q4.1 q5) (qV_mono (fun σ4 q6 => ⟨q6.1, ⟨q6.1, q6.2⟩⟩))), fun q5 => (q4.2 q5)⟩)))⟩))))
theorem w_116_0 {d : Nat} {σ : yS} {v1 : Int32} {K : Int32 → yS → Prop} (h : yR d 93 0 [some (.ref 97), some (.int v1)] [] σ (qI (fun x1 σ1 => ((¬ (x1 = 0) → yR d 82 0 [some (.ref 97), none] [] σ1 (qV (fun σ2 => yR d 91 0 [some (.ref 97), some (.int v1), none, none] [] σ2 (qI (fun x3 σ3 => (vp_in (9 + v1) 89 ∧ yR (d + 1) 116 38 [some (.ref 97), some (.int v1), some (.int x3), some (.int (σ3 98 (9 + v1).toNatClampNeg)), some (.int x3)] [] σ3 (qI K))))))) ∧ ((x1 = 0) → yR d 81 0 [some (.ref 97), some (.int (-2000000))] [] σ1 (qI (fun x4 σ4 => K x4 σ4))))))) : yR (d + 1) 116 0 [some (.ref 97), some (.int v1), none, none, none] [] σ (qI K) := wp_116 21 [38, 72] (show yR d 93 0 [some (.ref 97), some (.int v1)] [] σ (qI (fun x1 σ1 => ((¬ (x1 = 0) → yR d 82 0 [some (.ref 97), none] [] σ1 (qV (fun σ2 => yR d 91 0 [some (.ref 97), some (.int v1), none, none] [] σ2 (qI (fun x3 σ3 => (vp_in (9 + v1) 89 ∧ yR (d + 1) 116 38 [some (.ref 97), some (.int v1), some (.int x3), some (.int (σ3 98 (9 + v1).toNatClampNeg)), some (.int x3)] [] σ3 (qI K))))))) ∧ ((x1 = 0) → yR d 81 0 [some (.ref 97), some (.int (-2000000))] [] σ1 (qI (fun x4 σ4 => K x4 σ4)))))) from (yR.mono h (qI_mono (fun x1 σ1 q1 => ⟨fun q2 => (yR.mono (q1.1 q2) (qV_mono (fun σ2 q3 => (yR.mono q3 (qI_mono (fun x3 σ3 q4 => ⟨q4.1, q4.2⟩)))))), fun q2 => (q1.2 q2)⟩))))
theorem w_116_38 {d : Nat} {σ : yS} {v1 v2 v3 v4 : Int32} {K : Int32 → yS → Prop} (h : (((85 ≤ (v4 + v3)) → yR (d + 1) 116 72 [some (.ref 97), some (.int v1), some (.int v2), some (.int v3), some (.int v1)] [] σ (qI K)) ∧ (¬ (85 ≤ (v4 + v3)) → (vp_in (v4 + v3) 89 ∧ (vp_in v4 89 ∧ yR (d + 1) 116 38 [some (.ref 97), some (.int v1), some (.int v2), some (.int v3), some (.int (v4 + 1))] [] (sg σ 98 v4.toNatClampNeg (σ 98 (v4 + v3).toNatClampNeg)) (qI K)))))) : yR (d + 1) 116 38 [some (.ref 97), some (.int v1), some (.int v2), some (.int v3), some (.int v4)] [] σ (qI K) := wp_116 19 [38, 72] (show (((85 ≤ (v4 + v3)) → yR (d + 1) 116 72 [some (.ref 97), some (.int v1), some (.int v2), some (.int v3), some (.int v1)] [] σ (qI K)) ∧ (¬ (85 ≤ (v4 + v3)) → (vp_in (v4 + v3) 89 ∧ (vp_in v4 89 ∧ yR (d + 1) 116 38 [some (.ref 97), some (.int v1), some (.int v2), some (.int v3), some (.int (v4 + 1))] [] (sg σ 98 v4.toNatClampNeg (σ 98 (v4 + v3).toNatClampNeg)) (qI K))))) from ⟨fun q1 => (h.1 q1), fun q1 => ⟨(h.2 q1).1, ⟨(h.2 q1).2.1, (h.2 q1).2.2⟩⟩⟩)
theorem w_116_72 {d : Nat} {σ : yS} {v1 v2 v3 v4 : Int32} {K : Int32 → yS → Prop} (h : (((7 ≤ v4) → (vp_in 0 89 ∧ yR d 83 0 [some (.ref 97), none] [] (sg σ 98 0 ((σ 98 0) - 1)) (qV (fun σ1 => K (σ1 98 0) σ1)))) ∧ (¬ (7 ≤ v4) → (vp_in ((1 + v4) + 1) 89 ∧ (vp_in (1 + v4) 89 ∧ (vp_in ((9 + v4) + 1) 89 ∧ (vp_in (9 + v4) 89 ∧ (vp_in ((17 + v4) + 1) 89 ∧ (vp_in (17 + v4) 89 ∧ yR (d + 1) 116 72 [some (.ref 97), some (.int v1), some (.int v2), some (.int v3), some (.int (v4 + 1))] [] (sg (sg (sg σ 98 (1 + v4).toNatClampNeg (σ 98 ((1 + v4) + 1).toNatClampNeg)) 98 (9 + v4).toNatClampNeg ((sg σ 98 (1 + v4).toNatClampNeg (σ 98 ((1 + v4) + 1).toNatClampNeg)) 98 ((9 + v4) + 1).toNatClampNeg)) 98 (17 + v4).toNatClampNeg ((sg (sg σ 98 (1 + v4).toNatClampNeg (σ 98 ((1 + v4) + 1).toNatClampNeg)) 98 (9 + v4).toNatClampNeg ((sg σ 98 (1 + v4).toNatClampNeg (σ 98 ((1 + v4) + 1).toNatClampNeg)) 98 ((9 + v4) + 1).toNatClampNeg)) 98 ((17 + v4) + 1).toNatClampNeg)) (qI K)))))))))) : yR (d + 1) 116 72 [some (.ref 97), some (.int v1), some (.int v2), some (.int v3), some (.int v4)] [] σ (qI K) := wp_116 49 [38, 72] (show (((7 ≤ v4) → (vp_in 0 89 ∧ (vp_in 0 89 ∧ yR d 83 0 [some (.ref 97), none] [] (sg σ 98 0 ((σ 98 0) - 1)) (qV (fun σ1 => (vp_in 0 89 ∧ K (σ1 98 0) σ1)))))) ∧ (¬ (7 ≤ v4) → (vp_in ((1 + v4) + 1) 89 ∧ (vp_in (1 + v4) 89 ∧ (vp_in ((9 + v4) + 1) 89 ∧ (vp_in (9 + v4) 89 ∧ (vp_in ((17 + v4) + 1) 89 ∧ (vp_in (17 + v4) 89 ∧ yR (d + 1) 116 72 [some (.ref 97), some (.int v1), some (.int v2), some (.int v3), some (.int (v4 + 1))] [] (sg (sg (sg σ 98 (1 + v4).toNatClampNeg (σ 98 ((1 + v4) + 1).toNatClampNeg)) 98 (9 + v4).toNatClampNeg ((sg σ 98 (1 + v4).toNatClampNeg (σ 98 ((1 + v4) + 1).toNatClampNeg)) 98 ((9 + v4) + 1).toNatClampNeg)) 98 (17 + v4).toNatClampNeg ((sg (sg σ 98 (1 + v4).toNatClampNeg (σ 98 ((1 + v4) + 1).toNatClampNeg)) 98 (9 + v4).toNatClampNeg ((sg σ 98 (1 + v4).toNatClampNeg (σ 98 ((1 + v4) + 1).toNatClampNeg)) 98 ((9 + v4) + 1).toNatClampNeg)) 98 ((17 + v4) + 1).toNatClampNeg)) (qI K))))))))) from ⟨fun q1 => ⟨(h.1 q1).1, ⟨(h.1 q1).1, (yR.mono (h.1 q1).2 (qV_mono (fun σ1 q2 => ⟨(h.1 q1).1, q2⟩)))⟩⟩, fun q1 => ⟨(h.2 q1).1, ⟨(h.2 q1).2.1, ⟨(h.2 q1).2.2.1, ⟨(h.2 q1).2.2.2.1, ⟨(h.2 q1).2.2.2.2.1, ⟨(h.2 q1).2.2.2.2.2.1, (h.2 q1).2.2.2.2.2.2⟩⟩⟩⟩⟩⟩⟩)
theorem w_117_0 {d : Nat} {σ : yS} {v1 v2 : Int32} {K : Int32 → yS → Prop} (h : (((2 ≤ v2) → yR d 91 0 [some (.ref 97), some (.int v1), none, none] [] σ (qI (fun x1 σ1 => yR (d + 1) 117 32 [some (.ref 97), some (.int v1), some (.int v2), some (.int 0), some (.int x1), none, none] [] σ1 (qI K)))) ∧ (¬ (2 ≤ v2) → ((¬ (v2 = 0) → (vp_in (9 + v1) 89 ∧ K (σ 98 (9 + v1).toNatClampNeg) σ)) ∧ ((v2 = 0) → (vp_in (1 + v1) 89 ∧ K (σ 98 (1 + v1).toNatClampNeg) σ)))))) : yR (d + 1) 117 0 [some (.ref 97), some (.int v1), some (.int v2), none, none, none, none] [] σ (qI K) := wp_117 14 [32] (show (((2 ≤ v2) → yR d 91 0 [some (.ref 97), some (.int v1), none, none] [] σ (qI (fun x1 σ1 => yR (d + 1) 117 32 [some (.ref 97), some (.int v1), some (.int v2), some (.int 0), some (.int x1), none, none] [] σ1 (qI K)))) ∧ (¬ (2 ≤ v2) → ((¬ (v2 = 0) → (vp_in (9 + v1) 89 ∧ K (σ 98 (9 + v1).toNatClampNeg) σ)) ∧ ((v2 = 0) → (vp_in (1 + v1) 89 ∧ K (σ 98 (1 + v1).toNatClampNeg) σ))))) from ⟨fun q1 => (h.1 q1), fun q1 => ⟨fun q3 => ⟨((h.2 q1).1 q3).1, ((h.2 q1).1 q3).2⟩, fun q3 => ⟨((h.2 q1).2 q3).1, ((h.2 q1).2 q3).2⟩⟩⟩)
theorem w_117_32 {d : Nat} {σ : yS} {v1 v2 v3 v4 : Int32} {K : Int32 → yS → Prop} (h : yR d 91 0 [some (.ref 97), some (.int v1), none, none] [] σ (qI (fun x1 σ1 => (vp_in (9 + v1) 89 ∧ ((((x1 + (σ1 98 (9 + v1).toNatClampNeg)) ≤ v4) → K v3 σ1) ∧ (¬ ((x1 + (σ1 98 (9 + v1).toNatClampNeg)) ≤ v4) → (vp_in v4 89 ∧ yR d 85 0 [some (.int (σ1 98 v4.toNatClampNeg))] [] σ1 (qI (fun x2 σ2 => (((x2 = 13) → yR d 86 0 [some (.int (σ2 98 v4.toNatClampNeg))] [] σ2 (qI (fun x3 σ3 => yR (d + 1) 117 32 [some (.ref 97), some (.int v1), some (.int v2), some (.int (v3 ||| (1 <<< (x3 &&& 31)))), some (.int (v4 + 1)), none, none] [] σ3 (qI K)))) ∧ (¬ (x2 = 13) → (((x2 = 14) → yR d 86 0 [some (.int (σ2 98 v4.toNatClampNeg))] [] σ2 (qI (fun x4 σ4 => yR (d + 1) 117 32 [some (.ref 97), some (.int v1), some (.int v2), some (.int (v3 ||| (1 <<< (x4 &&& 31)))), some (.int (v4 + 1)), none, none] [] σ4 (qI K)))) ∧ (¬ (x2 = 14) → ((¬ (v2 = 2) → yR (d + 1) 117 32 [some (.ref 97), some (.int v1), some (.int v2), some (.int (v3 ||| 0)), some (.int (v4 + 1)), none, none] [] σ2 (qI K)) ∧ ((v2 = 2) → ((¬ (x2 = 1) → yR (d + 1) 117 32 [some (.ref 97), some (.int v1), some (.int v2), some (.int (v3 ||| 0)), some (.int (v4 + 1)), none, none] [] σ2 (qI K)) ∧ ((x2 = 1) → yR d 86 0 [some (.int (σ2 98 v4.toNatClampNeg))] [] σ2 (qI (fun x7 σ7 => yR (d + 1) 117 32 [some (.ref 97), some (.int v1), some (.int v2), some (.int (v3 ||| (1 <<< (x7 &&& 31)))), some (.int (v4 + 1)), none, none] [] σ7 (qI K)))))))))))))))))))) : yR (d + 1) 117 32 [some (.ref 97), some (.int v1), some (.int v2), some (.int v3), some (.int v4), none, none] [] σ (qI K) := wp_117 50 [32] (show yR d 91 0 [some (.ref 97), some (.int v1), none, none] [] σ (qI (fun x1 σ1 => (vp_in (9 + v1) 89 ∧ ((((x1 + (σ1 98 (9 + v1).toNatClampNeg)) ≤ v4) → K v3 σ1) ∧ (¬ ((x1 + (σ1 98 (9 + v1).toNatClampNeg)) ≤ v4) → (vp_in v4 89 ∧ yR d 85 0 [some (.int (σ1 98 v4.toNatClampNeg))] [] σ1 (qI (fun x2 σ2 => (((x2 = 13) → ((((1 : Int32) = 0) → yR (d + 1) 117 32 [some (.ref 97), some (.int v1), some (.int v2), some (.int (v3 ||| 0)), some (.int (v4 + 1)), some (.int x2), some (.int 1)] [] σ2 (qI K)) ∧ (¬ ((1 : Int32) = 0) → (vp_in v4 89 ∧ yR d 86 0 [some (.int (σ2 98 v4.toNatClampNeg))] [] σ2 (qI (fun x3 σ3 => yR (d + 1) 117 32 [some (.ref 97), some (.int v1), some (.int v2), some (.int (v3 ||| (1 <<< (x3 &&& 31)))), some (.int (v4 + 1)), some (.int x2), some (.int 1)] [] σ3 (qI K))))))) ∧ (¬ (x2 = 13) → (((x2 = 14) → ((((1 : Int32) = 0) → yR (d + 1) 117 32 [some (.ref 97), some (.int v1), some (.int v2), some (.int (v3 ||| 0)), some (.int (v4 + 1)), some (.int x2), some (.int 1)] [] σ2 (qI K)) ∧ (¬ ((1 : Int32) = 0) → (vp_in v4 89 ∧ yR d 86 0 [some (.int (σ2 98 v4.toNatClampNeg))] [] σ2 (qI (fun x4 σ4 => yR (d + 1) 117 32 [some (.ref 97), some (.int v1), some (.int v2), some (.int (v3 ||| (1 <<< (x4 &&& 31)))), some (.int (v4 + 1)), some (.int x2), some (.int 1)] [] σ4 (qI K))))))) ∧ (¬ (x2 = 14) → ((¬ (v2 = 2) → ((((0 : Int32) = 0) → yR (d + 1) 117 32 [some (.ref 97), some (.int v1), some (.int v2), some (.int (v3 ||| 0)), some (.int (v4 + 1)), some (.int x2), some (.int 0)] [] σ2 (qI K)) ∧ (¬ ((0 : Int32) = 0) → (vp_in v4 89 ∧ yR d 86 0 [some (.int (σ2 98 v4.toNatClampNeg))] [] σ2 (qI (fun x5 σ5 => yR (d + 1) 117 32 [some (.ref 97), some (.int v1), some (.int v2), some (.int (v3 ||| (1 <<< (x5 &&& 31)))), some (.int (v4 + 1)), some (.int x2), some (.int 0)] [] σ5 (qI K))))))) ∧ ((v2 = 2) → ((¬ (x2 = 1) → ((((0 : Int32) = 0) → yR (d + 1) 117 32 [some (.ref 97), some (.int v1), some (.int v2), some (.int (v3 ||| 0)), some (.int (v4 + 1)), some (.int x2), some (.int 0)] [] σ2 (qI K)) ∧ (¬ ((0 : Int32) = 0) → (vp_in v4 89 ∧ yR d 86 0 [some (.int (σ2 98 v4.toNatClampNeg))] [] σ2 (qI (fun x6 σ6 => yR (d + 1) 117 32 [some (.ref 97), some (.int v1), some (.int v2), some (.int (v3 ||| (1 <<< (x6 &&& 31)))), some (.int (v4 + 1)), some (.int x2), some (.int 0)] [] σ6 (qI K))))))) ∧ ((x2 = 1) → ((((1 : Int32) = 0) → yR (d + 1) 117 32 [some (.ref 97), some (.int v1), some (.int v2), some (.int (v3 ||| 0)), some (.int (v4 + 1)), some (.int x2), some (.int 1)] [] σ2 (qI K)) ∧ (¬ ((1 : Int32) = 0) → (vp_in v4 89 ∧ yR d 86 0 [some (.int (σ2 98 v4.toNatClampNeg))] [] σ2 (qI (fun x7 σ7 => yR (d + 1) 117 32 [some (.ref 97), some (.int v1), some (.int v2), some (.int (v3 ||| (1 <<< (x7 &&& 31)))), some (.int (v4 + 1)), some (.int x2), some (.int 1)] [] σ7 (qI K)))))))))))))))))))))) from (yR.mono h (qI_mono (fun x1 σ1 q1 => ⟨q1.1, ⟨fun q2 => (q1.2.1 q2), fun q2 => ⟨(q1.2.2 q2).1, (yR.mono (q1.2.2 q2).2 (qI_mono (fun x2 σ2 q3 => ⟨fun q4 => ⟨fun q => absurd q (by decide : ¬ ((1 : Int32) = 0)), fun _ => ⟨(q1.2.2 q2).1, (yR.mono (q3.1 q4) (qI_mono (fun x3 σ3 q5 => (yR.mask [true, true, true, true, true, false, false] q5))))⟩⟩, fun q4 => ⟨fun q6 => ⟨fun q => absurd q (by decide : ¬ ((1 : Int32) = 0)), fun _ => ⟨(q1.2.2 q2).1, (yR.mono ((q3.2 q4).1 q6) (qI_mono (fun x4 σ4 q7 => (yR.mask [true, true, true, true, true, false, false] q7))))⟩⟩, fun q6 => ⟨fun q8 => ⟨fun _ => (yR.mask [true, true, true, true, true, false, false] (((q3.2 q4).2 q6).1 q8)), fun q => absurd (by decide : (0 : Int32) = 0) q⟩, fun q8 => ⟨fun q9 => ⟨fun _ => (yR.mask [true, true, true, true, true, false, false] ((((q3.2 q4).2 q6).2 q8).1 q9)), fun q => absurd (by decide : (0 : Int32) = 0) q⟩, fun q9 => ⟨fun q => absurd q (by decide : ¬ ((1 : Int32) = 0)), fun _ => ⟨(q1.2.2 q2).1, (yR.mono ((((q3.2 q4).2 q6).2 q8).2 q9) (qI_mono (fun x7 σ7 q10 => (yR.mask [true, true, true, true, true, false, false] q10))))⟩⟩⟩⟩⟩⟩)))⟩⟩⟩))))
theorem w_118_0 {d : Nat} {σ : yS} {v1 v2 : Int32} {K : Int32 → yS → Prop} (h : yR d 93 0 [some (.ref 97), some (.int v1)] [] σ (qI (fun x1 σ1 => (((x1 = 0) → yR d 81 0 [some (.ref 97), some (.int (-2000000))] [] σ1 (qI (fun x2 σ2 => K x2 σ2))) ∧ (¬ (x1 = 0) → yR d 80 0 [some (.int v2), some (.int 0), some (.int 3)] [] σ1 (qI (fun x3 σ3 => (((x3 = 0) → yR d 81 0 [some (.ref 97), some (.int (-2000000))] [] σ3 (qI (fun x4 σ4 => K x4 σ4))) ∧ (¬ (x3 = 0) → yR d 117 0 [some (.ref 97), some (.int v1), some (.int v2), none, none, none, none] [] σ3 (qI (fun x5 σ5 => K x5 σ5))))))))))) : yR (d + 1) 118 0 [some (.ref 97), some (.int v1), some (.int v2)] [] σ (qI K) := wp_118 16 [] (show yR d 93 0 [some (.ref 97), some (.int v1)] [] σ (qI (fun x1 σ1 => (((x1 = 0) → yR d 81 0 [some (.ref 97), some (.int (-2000000))] [] σ1 (qI (fun x2 σ2 => K x2 σ2))) ∧ (¬ (x1 = 0) → yR d 80 0 [some (.int v2), some (.int 0), some (.int 3)] [] σ1 (qI (fun x3 σ3 => (((x3 = 0) → yR d 81 0 [some (.ref 97), some (.int (-2000000))] [] σ3 (qI (fun x4 σ4 => K x4 σ4))) ∧ (¬ (x3 = 0) → yR d 117 0 [some (.ref 97), some (.int v1), some (.int v2), none, none, none, none] [] σ3 (qI (fun x5 σ5 => K x5 σ5)))))))))) from (yR.mono h (qI_mono (fun x1 σ1 q1 => ⟨fun q2 => (q1.1 q2), fun q2 => (yR.mono (q1.2 q2) (qI_mono (fun x3 σ3 q4 => ⟨fun q5 => (q4.1 q5), fun q5 => (q4.2 q5)⟩)))⟩))))
theorem w_119_0 {d : Nat} {σ : yS} {v1 : Int32} {K : Int32 → yS → Prop} (h : (vp_in ((σ 97 24) + v1) 89 ∧ K (σ 98 ((σ 97 24) + v1).toNatClampNeg) σ)) : yR d 119 0 [some (.ref 97), some (.int v1)] [] σ (qI K) := wp_119 9 [] (show (vp_in ((σ 97 24) + v1) 89 ∧ K (σ 98 ((σ 97 24) + v1).toNatClampNeg) σ) from ⟨h.1, h.2⟩)
theorem w_120_0 {d : Nat} {σ : yS} {v1 v2 : Int32} {K : yS → Prop} (h : (((v2 = 0) → K (sg (sg σ 97 27 v1) 97 28 1)) ∧ (¬ (v2 = 0) → (vp_in v1 60 ∧ K (sg (sg (sg σ 97 27 v1) 97 28 1) 109 v1.toNatClampNeg 0))))) : yR d 120 0 [some (.ref 97), some (.int v1), some (.int v2)] [] σ (qV K) := wp_120 15 [] (show (yBo 1 ∧ (((v2 = 0) → K (sg (sg σ 97 27 v1) 97 28 1)) ∧ (¬ (v2 = 0) → (vp_in v1 60 ∧ K (sg (sg (sg σ 97 27 v1) 97 28 1) 109 v1.toNatClampNeg 0))))) from ⟨yB1, ⟨fun q1 => (h.1 q1), fun q1 => ⟨(h.2 q1).1, (h.2 q1).2⟩⟩⟩)
theorem w_121_0 {d : Nat} {σ : yS} {v1 : Int32} {K : yS → Prop} (h : ((¬ ((σ 97 25) = 1000) → (vp_in (σ 97 27) 60 ∧ K (sg (sg (sg (sg (sg σ 97 25 ((σ 97 25) + 1)) 97 29 1) 97 30 v1) 97 28 0) 97 27 (σ 108 (σ 97 27).toNatClampNeg)))) ∧ (((σ 97 25) = 1000) → K (sg σ 97 26 1)))) : yR d 121 0 [some (.ref 97), some (.int v1)] [] σ (qV K) := wp_121 28 [] (show ((¬ ((σ 97 25) = 1000) → (yBo 1 ∧ (yBo 0 ∧ (vp_in (σ 97 27) 60 ∧ K (sg (sg (sg (sg (sg σ 97 25 ((σ 97 25) + 1)) 97 29 1) 97 30 v1) 97 28 0) 97 27 (σ 108 (σ 97 27).toNatClampNeg)))))) ∧ (((σ 97 25) = 1000) → (yBo 1 ∧ K (sg σ 97 26 1)))) from ⟨fun q1 => ⟨yB1, ⟨yB0, ⟨(h.1 q1).1, (h.1 q1).2⟩⟩⟩, fun q1 => ⟨yB1, (h.2 q1)⟩⟩)
theorem w_122_0 {d : Nat} {σ : yS} {K : yS → Prop} (h : (vp_in (σ 97 27) 60 ∧ K (sg (sg (sg σ 97 29 0) 97 28 0) 97 27 (σ 108 (σ 97 27).toNatClampNeg)))) : yR d 122 0 [some (.ref 97)] [] σ (qV K) := wp_122 15 [] (show (yBo 0 ∧ (yBo 0 ∧ (vp_in (σ 97 27) 60 ∧ K (sg (sg (sg σ 97 29 0) 97 28 0) 97 27 (σ 108 (σ 97 27).toNatClampNeg))))) from ⟨yB0, ⟨yB0, ⟨h.1, h.2⟩⟩⟩)
theorem w_123_0 {d : Nat} {σ : yS} {v0 v1 v2 : Int32} {K : Int32 → yS → Prop} (h : ((¬ (v0 = 8) → ((¬ (v0 = 9) → ((¬ (v0 = 4) → ((¬ (v0 = 5) → ((¬ (v0 = 6) → ((((lg_cmp ((Int32.toInt64 v1) * (Int32.toInt64 v2)) (-999999)) < 0) → K 0 σ) ∧ (¬ ((lg_cmp ((Int32.toInt64 v1) * (Int32.toInt64 v2)) (-999999)) < 0) → (((0 < (lg_cmp ((Int32.toInt64 v1) * (Int32.toInt64 v2)) 999999)) → K 0 σ) ∧ (¬ (0 < (lg_cmp ((Int32.toInt64 v1) * (Int32.toInt64 v2)) 999999)) → K 1 σ))))) ∧ ((v0 = 6) → ((¬ (v1 = v2) → K 0 σ) ∧ ((v1 = v2) → K 1 σ))))) ∧ ((v0 = 5) → (((v1 ≤ v2) → K 0 σ) ∧ (¬ (v1 ≤ v2) → K 1 σ))))) ∧ ((v0 = 4) → (((v2 ≤ v1) → K 0 σ) ∧ (¬ (v2 ≤ v1) → K 1 σ))))) ∧ ((v0 = 9) → ((¬ (v0 = 4) → ((¬ (v0 = 5) → ((¬ (v0 = 6) → ((((lg_cmp ((Int32.toInt64 v1) - (Int32.toInt64 v2)) (-999999)) < 0) → K 0 σ) ∧ (¬ ((lg_cmp ((Int32.toInt64 v1) - (Int32.toInt64 v2)) (-999999)) < 0) → (((0 < (lg_cmp ((Int32.toInt64 v1) - (Int32.toInt64 v2)) 999999)) → K 0 σ) ∧ (¬ (0 < (lg_cmp ((Int32.toInt64 v1) - (Int32.toInt64 v2)) 999999)) → K 1 σ))))) ∧ ((v0 = 6) → ((¬ (v1 = v2) → K 0 σ) ∧ ((v1 = v2) → K 1 σ))))) ∧ ((v0 = 5) → (((v1 ≤ v2) → K 0 σ) ∧ (¬ (v1 ≤ v2) → K 1 σ))))) ∧ ((v0 = 4) → (((v2 ≤ v1) → K 0 σ) ∧ (¬ (v2 ≤ v1) → K 1 σ))))))) ∧ ((v0 = 8) → ((¬ (v0 = 4) → ((¬ (v0 = 5) → ((¬ (v0 = 6) → ((((lg_cmp ((Int32.toInt64 v1) + (Int32.toInt64 v2)) (-999999)) < 0) → K 0 σ) ∧ (¬ ((lg_cmp ((Int32.toInt64 v1) + (Int32.toInt64 v2)) (-999999)) < 0) → (((0 < (lg_cmp ((Int32.toInt64 v1) + (Int32.toInt64 v2)) 999999)) → K 0 σ) ∧ (¬ (0 < (lg_cmp ((Int32.toInt64 v1) + (Int32.toInt64 v2)) 999999)) → K 1 σ))))) ∧ ((v0 = 6) → ((¬ (v1 = v2) → K 0 σ) ∧ ((v1 = v2) → K 1 σ))))) ∧ ((v0 = 5) → (((v1 ≤ v2) → K 0 σ) ∧ (¬ (v1 ≤ v2) → K 1 σ))))) ∧ ((v0 = 4) → (((v2 ≤ v1) → K 0 σ) ∧ (¬ (v2 ≤ v1) → K 1 σ))))))) : yR d 123 0 [some (.int v0), some (.int v1), some (.int v2), none, none] [] σ (qI K) := wp_123 34 [] (show ((¬ (v0 = 8) → ((¬ (v0 = 9) → ((¬ (v0 = 4) → ((¬ (v0 = 5) → ((¬ (v0 = 6) → ((((lg_cmp ((Int32.toInt64 v1) * (Int32.toInt64 v2)) (-999999)) < 0) → (yBo 0 ∧ K 0 σ)) ∧ (¬ ((lg_cmp ((Int32.toInt64 v1) * (Int32.toInt64 v2)) (-999999)) < 0) → (((0 < (lg_cmp ((Int32.toInt64 v1) * (Int32.toInt64 v2)) 999999)) → (yBo 0 ∧ K 0 σ)) ∧ (¬ (0 < (lg_cmp ((Int32.toInt64 v1) * (Int32.toInt64 v2)) 999999)) → (yBo 1 ∧ K 1 σ)))))) ∧ ((v0 = 6) → ((¬ (v1 = v2) → (yBo 0 ∧ K 0 σ)) ∧ ((v1 = v2) → (yBo 1 ∧ K 1 σ)))))) ∧ ((v0 = 5) → (((v1 ≤ v2) → (yBo 0 ∧ K 0 σ)) ∧ (¬ (v1 ≤ v2) → (yBo 1 ∧ K 1 σ)))))) ∧ ((v0 = 4) → (((v2 ≤ v1) → (yBo 0 ∧ K 0 σ)) ∧ (¬ (v2 ≤ v1) → (yBo 1 ∧ K 1 σ)))))) ∧ ((v0 = 9) → ((¬ (v0 = 4) → ((¬ (v0 = 5) → ((¬ (v0 = 6) → ((((lg_cmp ((Int32.toInt64 v1) - (Int32.toInt64 v2)) (-999999)) < 0) → (yBo 0 ∧ K 0 σ)) ∧ (¬ ((lg_cmp ((Int32.toInt64 v1) - (Int32.toInt64 v2)) (-999999)) < 0) → (((0 < (lg_cmp ((Int32.toInt64 v1) - (Int32.toInt64 v2)) 999999)) → (yBo 0 ∧ K 0 σ)) ∧ (¬ (0 < (lg_cmp ((Int32.toInt64 v1) - (Int32.toInt64 v2)) 999999)) → (yBo 1 ∧ K 1 σ)))))) ∧ ((v0 = 6) → ((¬ (v1 = v2) → (yBo 0 ∧ K 0 σ)) ∧ ((v1 = v2) → (yBo 1 ∧ K 1 σ)))))) ∧ ((v0 = 5) → (((v1 ≤ v2) → (yBo 0 ∧ K 0 σ)) ∧ (¬ (v1 ≤ v2) → (yBo 1 ∧ K 1 σ)))))) ∧ ((v0 = 4) → (((v2 ≤ v1) → (yBo 0 ∧ K 0 σ)) ∧ (¬ (v2 ≤ v1) → (yBo 1 ∧ K 1 σ)))))))) ∧ ((v0 = 8) → ((¬ (v0 = 4) → ((¬ (v0 = 5) → ((¬ (v0 = 6) → ((((lg_cmp ((Int32.toInt64 v1) + (Int32.toInt64 v2)) (-999999)) < 0) → (yBo 0 ∧ K 0 σ)) ∧ (¬ ((lg_cmp ((Int32.toInt64 v1) + (Int32.toInt64 v2)) (-999999)) < 0) → (((0 < (lg_cmp ((Int32.toInt64 v1) + (Int32.toInt64 v2)) 999999)) → (yBo 0 ∧ K 0 σ)) ∧ (¬ (0 < (lg_cmp ((Int32.toInt64 v1) + (Int32.toInt64 v2)) 999999)) → (yBo 1 ∧ K 1 σ)))))) ∧ ((v0 = 6) → ((¬ (v1 = v2) → (yBo 0 ∧ K 0 σ)) ∧ ((v1 = v2) → (yBo 1 ∧ K 1 σ)))))) ∧ ((v0 = 5) → (((v1 ≤ v2) → (yBo 0 ∧ K 0 σ)) ∧ (¬ (v1 ≤ v2) → (yBo 1 ∧ K 1 σ)))))) ∧ ((v0 = 4) → (((v2 ≤ v1) → (yBo 0 ∧ K 0 σ)) ∧ (¬ (v2 ≤ v1) → (yBo 1 ∧ K 1 σ))))))) from ⟨fun q1 => ⟨fun q2 => ⟨fun q3 => ⟨fun q4 => ⟨fun q5 => ⟨fun q6 => ⟨yB0, ((((((h.1 q1).1 q2).1 q3).1 q4).1 q5).1 q6)⟩, fun q6 => ⟨fun q7 => ⟨yB0, (((((((h.1 q1).1 q2).1 q3).1 q4).1 q5).2 q6).1 q7)⟩, fun q7 => ⟨yB1, (((((((h.1 q1).1 q2).1 q3).1 q4).1 q5).2 q6).2 q7)⟩⟩⟩, fun q5 => ⟨fun q8 => ⟨yB0, ((((((h.1 q1).1 q2).1 q3).1 q4).2 q5).1 q8)⟩, fun q8 => ⟨yB1, ((((((h.1 q1).1 q2).1 q3).1 q4).2 q5).2 q8)⟩⟩⟩, fun q4 => ⟨fun q9 => ⟨yB0, (((((h.1 q1).1 q2).1 q3).2 q4).1 q9)⟩, fun q9 => ⟨yB1, (((((h.1 q1).1 q2).1 q3).2 q4).2 q9)⟩⟩⟩, fun q3 => ⟨fun q10 => ⟨yB0, ((((h.1 q1).1 q2).2 q3).1 q10)⟩, fun q10 => ⟨yB1, ((((h.1 q1).1 q2).2 q3).2 q10)⟩⟩⟩, fun q2 => ⟨fun q11 => ⟨fun q12 => ⟨fun q13 => ⟨fun q14 => ⟨yB0, ((((((h.1 q1).2 q2).1 q11).1 q12).1 q13).1 q14)⟩, fun q14 => ⟨fun q15 => ⟨yB0, (((((((h.1 q1).2 q2).1 q11).1 q12).1 q13).2 q14).1 q15)⟩, fun q15 => ⟨yB1, (((((((h.1 q1).2 q2).1 q11).1 q12).1 q13).2 q14).2 q15)⟩⟩⟩, fun q13 => ⟨fun q16 => ⟨yB0, ((((((h.1 q1).2 q2).1 q11).1 q12).2 q13).1 q16)⟩, fun q16 => ⟨yB1, ((((((h.1 q1).2 q2).1 q11).1 q12).2 q13).2 q16)⟩⟩⟩, fun q12 => ⟨fun q17 => ⟨yB0, (((((h.1 q1).2 q2).1 q11).2 q12).1 q17)⟩, fun q17 => ⟨yB1, (((((h.1 q1).2 q2).1 q11).2 q12).2 q17)⟩⟩⟩, fun q11 => ⟨fun q18 => ⟨yB0, ((((h.1 q1).2 q2).2 q11).1 q18)⟩, fun q18 => ⟨yB1, ((((h.1 q1).2 q2).2 q11).2 q18)⟩⟩⟩⟩, fun q1 => ⟨fun q19 => ⟨fun q20 => ⟨fun q21 => ⟨fun q22 => ⟨yB0, (((((h.2 q1).1 q19).1 q20).1 q21).1 q22)⟩, fun q22 => ⟨fun q23 => ⟨yB0, ((((((h.2 q1).1 q19).1 q20).1 q21).2 q22).1 q23)⟩, fun q23 => ⟨yB1, ((((((h.2 q1).1 q19).1 q20).1 q21).2 q22).2 q23)⟩⟩⟩, fun q21 => ⟨fun q24 => ⟨yB0, (((((h.2 q1).1 q19).1 q20).2 q21).1 q24)⟩, fun q24 => ⟨yB1, (((((h.2 q1).1 q19).1 q20).2 q21).2 q24)⟩⟩⟩, fun q20 => ⟨fun q25 => ⟨yB0, ((((h.2 q1).1 q19).2 q20).1 q25)⟩, fun q25 => ⟨yB1, ((((h.2 q1).1 q19).2 q20).2 q25)⟩⟩⟩, fun q19 => ⟨fun q26 => ⟨yB0, (((h.2 q1).2 q19).1 q26)⟩, fun q26 => ⟨yB1, (((h.2 q1).2 q19).2 q26)⟩⟩⟩⟩)
theorem w_124_0 {d : Nat} {σ : yS} {v0 v1 v2 : Int32} {K : Int32 → yS → Prop} (h : ((¬ (v0 = 8) → ((¬ (v0 = 9) → ((¬ (v0 = 10) → K v2 σ) ∧ ((v0 = 10) → K (v1 * v2) σ))) ∧ ((v0 = 9) → K (v1 - v2) σ))) ∧ ((v0 = 8) → K (v1 + v2) σ))) : yR d 124 0 [some (.int v0), some (.int v1), some (.int v2)] [] σ (qI K) := wp_124 15 [] (show ((¬ (v0 = 8) → ((¬ (v0 = 9) → ((¬ (v0 = 10) → K v2 σ) ∧ ((v0 = 10) → K (v1 * v2) σ))) ∧ ((v0 = 9) → K (v1 - v2) σ))) ∧ ((v0 = 8) → K (v1 + v2) σ)) from ⟨fun q1 => ⟨fun q2 => ⟨fun q3 => (((h.1 q1).1 q2).1 q3), fun q3 => (((h.1 q1).1 q2).2 q3)⟩, fun q2 => ((h.1 q1).2 q2)⟩, fun q1 => (h.2 q1)⟩)
theorem w_125_0 {d : Nat} {σ : yS} {v1 : Int32} {K : yS → Prop} (h : yR d 119 0 [some (.ref 97), some (.int v1)] [] σ (qI (fun x1 σ1 => (vp_in v1 60 ∧ yR d 85 0 [some (.int x1)] [] σ1 (qI (fun x2 σ2 => (((x2 = 0) → ((¬ ((σ1 109 v1.toNatClampNeg) = 0) → yR d 122 0 [some (.ref 97)] [] (sg σ2 109 v1.toNatClampNeg 1) (qV (fun σ3 => K σ3))) ∧ (((σ1 109 v1.toNatClampNeg) = 0) → yR d 85 0 [some (.int x1)] [] (sg σ2 109 v1.toNatClampNeg 1) (qI (fun x4 σ4 => ((¬ (x4 = 0) → yR d 86 0 [some (.int x1)] [] σ4 (qI (fun x5 σ5 => (vp_in x5 4 ∧ yR d 121 0 [some (.ref 97), some (.int (σ5 112 x5.toNatClampNeg))] [] σ5 (qV (fun σ6 => K σ6)))))) ∧ ((x4 = 0) → yR d 86 0 [some (.int x1)] [] σ4 (qI (fun x7 σ7 => yR d 121 0 [some (.ref 97), some (.int x7)] [] σ7 (qV (fun σ8 => K σ8))))))))))) ∧ (¬ (x2 = 0) → (((x2 = 1) → ((¬ ((σ1 109 v1.toNatClampNeg) = 0) → yR d 122 0 [some (.ref 97)] [] (sg σ2 109 v1.toNatClampNeg 1) (qV (fun σ9 => K σ9))) ∧ (((σ1 109 v1.toNatClampNeg) = 0) → yR d 85 0 [some (.int x1)] [] (sg σ2 109 v1.toNatClampNeg 1) (qI (fun x10 σ10 => ((¬ (x10 = 0) → yR d 86 0 [some (.int x1)] [] σ10 (qI (fun x11 σ11 => (vp_in x11 4 ∧ yR d 121 0 [some (.ref 97), some (.int (σ11 112 x11.toNatClampNeg))] [] σ11 (qV (fun σ12 => K σ12)))))) ∧ ((x10 = 0) → yR d 86 0 [some (.int x1)] [] σ10 (qI (fun x13 σ13 => yR d 121 0 [some (.ref 97), some (.int x13)] [] σ13 (qV (fun σ14 => K σ14))))))))))) ∧ (¬ (x2 = 1) → (((x2 = 2) → ((¬ ((σ1 109 v1.toNatClampNeg) = 0) → ((¬ ((σ1 109 v1.toNatClampNeg) = 2) → yR d 87 0 [some (.int x1)] [] (sg σ2 109 v1.toNatClampNeg (σ1 109 v1.toNatClampNeg)) (qI (fun x15 σ15 => yR d 120 0 [some (.ref 97), some (.int x15), some (.int 0)] [] σ15 (qV (fun σ16 => K σ16))))) ∧ (((σ1 109 v1.toNatClampNeg) = 2) → yR d 88 0 [some (.int x1)] [] (sg σ2 109 v1.toNatClampNeg (σ1 109 v1.toNatClampNeg)) (qI (fun x18 σ18 => yR d 120 0 [some (.ref 97), some (.int x18), some (.int 0)] [] σ18 (qV (fun σ19 => K σ19))))))) ∧ (((σ1 109 v1.toNatClampNeg) = 0) → ((¬ ((σ1 109 v1.toNatClampNeg) = 2) → yR d 87 0 [some (.int x1)] [] (sg σ2 109 v1.toNatClampNeg 1) (qI (fun x21 σ21 => yR d 120 0 [some (.ref 97), some (.int x21), some (.int 1)] [] σ21 (qV (fun σ23 => K σ23))))) ∧ (((σ1 109 v1.toNatClampNeg) = 2) → yR d 88 0 [some (.int x1)] [] (sg σ2 109 v1.toNatClampNeg 1) (qI (fun x24 σ24 => yR d 120 0 [some (.ref 97), some (.int x24), some (.int 1)] [] σ24 (qV (fun σ26 => K σ26))))))))) ∧ (¬ (x2 = 2) → (((x2 = 3) → ((¬ ((σ1 109 v1.toNatClampNeg) = 0) → ((¬ ((σ1 109 v1.toNatClampNeg) = 2) → yR d 87 0 [some (.int x1)] [] (sg σ2 109 v1.toNatClampNeg (σ1 109 v1.toNatClampNeg)) (qI (fun x27 σ27 => yR d 120 0 [some (.ref 97), some (.int x27), some (.int 0)] [] σ27 (qV (fun σ28 => K σ28))))) ∧ (((σ1 109 v1.toNatClampNeg) = 2) → yR d 88 0 [some (.int x1)] [] (sg σ2 109 v1.toNatClampNeg (σ1 109 v1.toNatClampNeg)) (qI (fun x30 σ30 => yR d 120 0 [some (.ref 97), some (.int x30), some (.int 0)] [] σ30 (qV (fun σ31 => K σ31))))))) ∧ (((σ1 109 v1.toNatClampNeg) = 0) → ((¬ ((σ1 109 v1.toNatClampNeg) = 2) → yR d 87 0 [some (.int x1)] [] (sg σ2 109 v1.toNatClampNeg 1) (qI (fun x33 σ33 => yR d 120 0 [some (.ref 97), some (.int x33), some (.int 1)] [] σ33 (qV (fun σ35 => K σ35))))) ∧ (((σ1 109 v1.toNatClampNeg) = 2) → yR d 88 0 [some (.int x1)] [] (sg σ2 109 v1.toNatClampNeg 1) (qI (fun x36 σ36 => yR d 120 0 [some (.ref 97), some (.int x36), some (.int 1)] [] σ36 (qV (fun σ38 => K σ38))))))))) ∧ (¬ (x2 = 3) → (((x2 = 4) → ((¬ ((σ1 109 v1.toNatClampNeg) = 0) → ((¬ ((σ1 109 v1.toNatClampNeg) = 2) → yR d 87 0 [some (.int x1)] [] (sg σ2 109 v1.toNatClampNeg (σ1 109 v1.toNatClampNeg)) (qI (fun x39 σ39 => yR d 120 0 [some (.ref 97), some (.int x39), some (.int 0)] [] σ39 (qV (fun σ40 => K σ40))))) ∧ (((σ1 109 v1.toNatClampNeg) = 2) → yR d 88 0 [some (.int x1)] [] (sg σ2 109 v1.toNatClampNeg (σ1 109 v1.toNatClampNeg)) (qI (fun x42 σ42 => yR d 120 0 [some (.ref 97), some (.int x42), some (.int 0)] [] σ42 (qV (fun σ43 => K σ43))))))) ∧ (((σ1 109 v1.toNatClampNeg) = 0) → ((¬ ((σ1 109 v1.toNatClampNeg) = 2) → yR d 87 0 [some (.int x1)] [] (sg σ2 109 v1.toNatClampNeg 1) (qI (fun x45 σ45 => yR d 120 0 [some (.ref 97), some (.int x45), some (.int 1)] [] σ45 (qV (fun σ47 => K σ47))))) ∧ (((σ1 109 v1.toNatClampNeg) = 2) → yR d 88 0 [some (.int x1)] [] (sg σ2 109 v1.toNatClampNeg 1) (qI (fun x48 σ48 => yR d 120 0 [some (.ref 97), some (.int x48), some (.int 1)] [] σ48 (qV (fun σ50 => K σ50))))))))) ∧ (¬ (x2 = 4) → (((x2 = 5) → ((¬ ((σ1 109 v1.toNatClampNeg) = 0) → ((¬ ((σ1 109 v1.toNatClampNeg) = 2) → yR d 87 0 [some (.int x1)] [] (sg σ2 109 v1.toNatClampNeg (σ1 109 v1.toNatClampNeg)) (qI (fun x51 σ51 => yR d 120 0 [some (.ref 97), some (.int x51), some (.int 0)] [] σ51 (qV (fun σ52 => K σ52))))) ∧ (((σ1 109 v1.toNatClampNeg) = 2) → yR d 88 0 [some (.int x1)] [] (sg σ2 109 v1.toNatClampNeg (σ1 109 v1.toNatClampNeg)) (qI (fun x54 σ54 => yR d 120 0 [some (.ref 97), some (.int x54), some (.int 0)] [] σ54 (qV (fun σ55 => K σ55))))))) ∧ (((σ1 109 v1.toNatClampNeg) = 0) → ((¬ ((σ1 109 v1.toNatClampNeg) = 2) → yR d 87 0 [some (.int x1)] [] (sg σ2 109 v1.toNatClampNeg 1) (qI (fun x57 σ57 => yR d 120 0 [some (.ref 97), some (.int x57), some (.int 1)] [] σ57 (qV (fun σ59 => K σ59))))) ∧ (((σ1 109 v1.toNatClampNeg) = 2) → yR d 88 0 [some (.int x1)] [] (sg σ2 109 v1.toNatClampNeg 1) (qI (fun x60 σ60 => yR d 120 0 [some (.ref 97), some (.int x60), some (.int 1)] [] σ60 (qV (fun σ62 => K σ62))))))))) ∧ (¬ (x2 = 5) → (((x2 = 6) → ((¬ ((σ1 109 v1.toNatClampNeg) = 0) → ((¬ ((σ1 109 v1.toNatClampNeg) = 2) → yR d 87 0 [some (.int x1)] [] (sg σ2 109 v1.toNatClampNeg (σ1 109 v1.toNatClampNeg)) (qI (fun x63 σ63 => yR d 120 0 [some (.ref 97), some (.int x63), some (.int 0)] [] σ63 (qV (fun σ64 => K σ64))))) ∧ (((σ1 109 v1.toNatClampNeg) = 2) → yR d 88 0 [some (.int x1)] [] (sg σ2 109 v1.toNatClampNeg (σ1 109 v1.toNatClampNeg)) (qI (fun x66 σ66 => yR d 120 0 [some (.ref 97), some (.int x66), some (.int 0)] [] σ66 (qV (fun σ67 => K σ67))))))) ∧ (((σ1 109 v1.toNatClampNeg) = 0) → ((¬ ((σ1 109 v1.toNatClampNeg) = 2) → yR d 87 0 [some (.int x1)] [] (sg σ2 109 v1.toNatClampNeg 1) (qI (fun x69 σ69 => yR d 120 0 [some (.ref 97), some (.int x69), some (.int 1)] [] σ69 (qV (fun σ71 => K σ71))))) ∧ (((σ1 109 v1.toNatClampNeg) = 2) → yR d 88 0 [some (.int x1)] [] (sg σ2 109 v1.toNatClampNeg 1) (qI (fun x72 σ72 => yR d 120 0 [some (.ref 97), some (.int x72), some (.int 1)] [] σ72 (qV (fun σ74 => K σ74))))))))) ∧ (¬ (x2 = 6) → (((x2 = 7) → yR d 127 0 [some (.ref 97), some (.int v1), some (.int (σ1 109 v1.toNatClampNeg))] [] σ2 (qV (fun σ75 => K σ75))) ∧ (¬ (x2 = 7) → (((x2 = 8) → ((¬ ((σ1 109 v1.toNatClampNeg) = 0) → ((¬ ((σ1 109 v1.toNatClampNeg) = 2) → yR d 87 0 [some (.int x1)] [] (sg σ2 109 v1.toNatClampNeg (σ1 109 v1.toNatClampNeg)) (qI (fun x76 σ76 => yR d 120 0 [some (.ref 97), some (.int x76), some (.int 0)] [] σ76 (qV (fun σ77 => K σ77))))) ∧ (((σ1 109 v1.toNatClampNeg) = 2) → yR d 88 0 [some (.int x1)] [] (sg σ2 109 v1.toNatClampNeg (σ1 109 v1.toNatClampNeg)) (qI (fun x79 σ79 => yR d 120 0 [some (.ref 97), some (.int x79), some (.int 0)] [] σ79 (qV (fun σ80 => K σ80))))))) ∧ (((σ1 109 v1.toNatClampNeg) = 0) → ((¬ ((σ1 109 v1.toNatClampNeg) = 2) → yR d 87 0 [some (.int x1)] [] (sg σ2 109 v1.toNatClampNeg 1) (qI (fun x82 σ82 => yR d 120 0 [some (.ref 97), some (.int x82), some (.int 1)] [] σ82 (qV (fun σ84 => K σ84))))) ∧ (((σ1 109 v1.toNatClampNeg) = 2) → yR d 88 0 [some (.int x1)] [] (sg σ2 109 v1.toNatClampNeg 1) (qI (fun x85 σ85 => yR d 120 0 [some (.ref 97), some (.int x85), some (.int 1)] [] σ85 (qV (fun σ87 => K σ87))))))))) ∧ (¬ (x2 = 8) → (((x2 = 9) → ((¬ ((σ1 109 v1.toNatClampNeg) = 0) → ((¬ ((σ1 109 v1.toNatClampNeg) = 2) → yR d 87 0 [some (.int x1)] [] (sg σ2 109 v1.toNatClampNeg (σ1 109 v1.toNatClampNeg)) (qI (fun x88 σ88 => yR d 120 0 [some (.ref 97), some (.int x88), some (.int 0)] [] σ88 (qV (fun σ89 => K σ89))))) ∧ (((σ1 109 v1.toNatClampNeg) = 2) → yR d 88 0 [some (.int x1)] [] (sg σ2 109 v1.toNatClampNeg (σ1 109 v1.toNatClampNeg)) (qI (fun x91 σ91 => yR d 120 0 [some (.ref 97), some (.int x91), some (.int 0)] [] σ91 (qV (fun σ92 => K σ92))))))) ∧ (((σ1 109 v1.toNatClampNeg) = 0) → ((¬ ((σ1 109 v1.toNatClampNeg) = 2) → yR d 87 0 [some (.int x1)] [] (sg σ2 109 v1.toNatClampNeg 1) (qI (fun x94 σ94 => yR d 120 0 [some (.ref 97), some (.int x94), some (.int 1)] [] σ94 (qV (fun σ96 => K σ96))))) ∧ (((σ1 109 v1.toNatClampNeg) = 2) → yR d 88 0 [some (.int x1)] [] (sg σ2 109 v1.toNatClampNeg 1) (qI (fun x97 σ97 => yR d 120 0 [some (.ref 97), some (.int x97), some (.int 1)] [] σ97 (qV (fun σ99 => K σ99))))))))) ∧ (¬ (x2 = 9) → (((x2 = 10) → ((¬ ((σ1 109 v1.toNatClampNeg) = 0) → ((¬ ((σ1 109 v1.toNatClampNeg) = 2) → yR d 87 0 [some (.int x1)] [] (sg σ2 109 v1.toNatClampNeg (σ1 109 v1.toNatClampNeg)) (qI (fun x100 σ100 => yR d 120 0 [some (.ref 97), some (.int x100), some (.int 0)] [] σ100 (qV (fun σ101 => K σ101))))) ∧ (((σ1 109 v1.toNatClampNeg) = 2) → yR d 88 0 [some (.int x1)] [] (sg σ2 109 v1.toNatClampNeg (σ1 109 v1.toNatClampNeg)) (qI (fun x103 σ103 => yR d 120 0 [some (.ref 97), some (.int x103), some (.int 0)] [] σ103 (qV (fun σ104 => K σ104))))))) ∧ (((σ1 109 v1.toNatClampNeg) = 0) → ((¬ ((σ1 109 v1.toNatClampNeg) = 2) → yR d 87 0 [some (.int x1)] [] (sg σ2 109 v1.toNatClampNeg 1) (qI (fun x106 σ106 => yR d 120 0 [some (.ref 97), some (.int x106), some (.int 1)] [] σ106 (qV (fun σ108 => K σ108))))) ∧ (((σ1 109 v1.toNatClampNeg) = 2) → yR d 88 0 [some (.int x1)] [] (sg σ2 109 v1.toNatClampNeg 1) (qI (fun x109 σ109 => yR d 120 0 [some (.ref 97), some (.int x109), some (.int 1)] [] σ109 (qV (fun σ111 => K σ111))))))))) ∧ (¬ (x2 = 10) → (((x2 = 11) → yR d 126 0 [some (.ref 97), some (.int v1), some (.int (σ1 109 v1.toNatClampNeg))] [] σ2 (qV (fun σ112 => K σ112))) ∧ (¬ (x2 = 11) → (((x2 = 12) → ((¬ ((σ1 109 v1.toNatClampNeg) = 0) → yR d 122 0 [some (.ref 97)] [] (sg σ2 109 v1.toNatClampNeg 1) (qV (fun σ113 => K σ113))) ∧ (((σ1 109 v1.toNatClampNeg) = 0) → yR d 87 0 [some (.int x1)] [] (sg σ2 109 v1.toNatClampNeg 1) (qI (fun x114 σ114 => yR d 120 0 [some (.ref 97), some (.int x114), some (.int 1)] [] σ114 (qV (fun σ115 => K σ115))))))) ∧ (¬ (x2 = 12) → (((x2 = 13) → yR d 87 0 [some (.int x1)] [] (sg σ2 109 v1.toNatClampNeg 1) (qI (fun x116 σ116 => ((¬ ((σ1 109 v1.toNatClampNeg) = 0) → yR d 120 0 [some (.ref 97), some (.int x116), some (.int 0)] [] σ116 (qV (fun σ117 => K σ117))) ∧ (((σ1 109 v1.toNatClampNeg) = 0) → yR d 120 0 [some (.ref 97), some (.int x116), some (.int 1)] [] σ116 (qV (fun σ118 => K σ118))))))) ∧ (¬ (x2 = 13) → (((x2 = 14) → ((¬ ((σ1 109 v1.toNatClampNeg) = 1) → yR d 87 0 [some (.int x1)] [] (sg σ2 109 v1.toNatClampNeg 1) (qI (fun x119 σ119 => ((¬ ((σ1 109 v1.toNatClampNeg) = 0) → yR d 120 0 [some (.ref 97), some (.int x119), some (.int 0)] [] σ119 (qV (fun σ120 => K σ120))) ∧ (((σ1 109 v1.toNatClampNeg) = 0) → yR d 120 0 [some (.ref 97), some (.int x119), some (.int 1)] [] σ119 (qV (fun σ121 => K σ121))))))) ∧ (((σ1 109 v1.toNatClampNeg) = 1) → yR d 86 0 [some (.int x1)] [] σ2 (qI (fun x122 σ122 => (vp_in x122 4 ∧ yR d 87 0 [some (.int x1)] [] (sg (sg σ122 112 x122.toNatClampNeg (σ122 110 v1.toNatClampNeg)) 109 v1.toNatClampNeg 1) (qI (fun x123 σ123 => ((¬ ((σ1 109 v1.toNatClampNeg) = 0) → yR d 120 0 [some (.ref 97), some (.int x123), some (.int 0)] [] σ123 (qV (fun σ124 => K σ124))) ∧ (((σ1 109 v1.toNatClampNeg) = 0) → yR d 120 0 [some (.ref 97), some (.int x123), some (.int 1)] [] σ123 (qV (fun σ125 => K σ125)))))))))))) ∧ (¬ (x2 = 14) → ((¬ ((σ1 109 v1.toNatClampNeg) = 0) → ((¬ ((σ1 109 v1.toNatClampNeg) = 2) → yR d 87 0 [some (.int x1)] [] (sg σ2 109 v1.toNatClampNeg (σ1 109 v1.toNatClampNeg)) (qI (fun x126 σ126 => yR d 120 0 [some (.ref 97), some (.int x126), some (.int 0)] [] σ126 (qV (fun σ127 => K σ127))))) ∧ (((σ1 109 v1.toNatClampNeg) = 2) → yR d 88 0 [some (.int x1)] [] (sg σ2 109 v1.toNatClampNeg (σ1 109 v1.toNatClampNeg)) (qI (fun x129 σ129 => yR d 120 0 [some (.ref 97), some (.int x129), some (.int 0)] [] σ129 (qV (fun σ130 => K σ130))))))) ∧ (((σ1 109 v1.toNatClampNeg) = 0) → ((¬ ((σ1 109 v1.toNatClampNeg) = 2) → yR d 87 0 [some (.int x1)] [] (sg σ2 109 v1.toNatClampNeg 1) (qI (fun x132 σ132 => yR d 120 0 [some (.ref 97), some (.int x132), some (.int 1)] [] σ132 (qV (fun σ134 => K σ134))))) ∧ (((σ1 109 v1.toNatClampNeg) = 2) → yR d 88 0 [some (.int x1)] [] (sg σ2 109 v1.toNatClampNeg 1) (qI (fun x135 σ135 => yR d 120 0 [some (.ref 97), some (.int x135), some (.int 1)] [] σ135 (qV (fun σ137 => K σ137)))))))))))))))))))))))))))))))))))))))))))) : yR (d + 1) 125 0 [some (.ref 97), some (.int v1), none, none] [] σ (qV K) := wp_125 40 [] (show yR d 119 0 [some (.ref 97), some (.int v1)] [] σ (qI (fun x1 σ1 => (vp_in v1 60 ∧ yR d 85 0 [some (.int x1)] [] σ1 (qI (fun x2 σ2 => (((x2 = 0) → (vp_in v1 60 ∧ ((¬ ((σ1 109 v1.toNatClampNeg) = 0) → yR d 122 0 [some (.ref 97)] [] (sg σ2 109 v1.toNatClampNeg 1) (qV (fun σ3 => K σ3))) ∧ (((σ1 109 v1.toNatClampNeg) = 0) → yR d 85 0 [some (.int x1)] [] (sg σ2 109 v1.toNatClampNeg 1) (qI (fun x4 σ4 => ((¬ (x4 = 0) → yR d 86 0 [some (.int x1)] [] σ4 (qI (fun x5 σ5 => (vp_in x5 4 ∧ yR d 121 0 [some (.ref 97), some (.int (σ5 112 x5.toNatClampNeg))] [] σ5 (qV (fun σ6 => K σ6)))))) ∧ ((x4 = 0) → yR d 86 0 [some (.int x1)] [] σ4 (qI (fun x7 σ7 => yR d 121 0 [some (.ref 97), some (.int x7)] [] σ7 (qV (fun σ8 => K σ8)))))))))))) ∧ (¬ (x2 = 0) → (((x2 = 1) → (vp_in v1 60 ∧ ((¬ ((σ1 109 v1.toNatClampNeg) = 0) → yR d 122 0 [some (.ref 97)] [] (sg σ2 109 v1.toNatClampNeg 1) (qV (fun σ9 => K σ9))) ∧ (((σ1 109 v1.toNatClampNeg) = 0) → yR d 85 0 [some (.int x1)] [] (sg σ2 109 v1.toNatClampNeg 1) (qI (fun x10 σ10 => ((¬ (x10 = 0) → yR d 86 0 [some (.int x1)] [] σ10 (qI (fun x11 σ11 => (vp_in x11 4 ∧ yR d 121 0 [some (.ref 97), some (.int (σ11 112 x11.toNatClampNeg))] [] σ11 (qV (fun σ12 => K σ12)))))) ∧ ((x10 = 0) → yR d 86 0 [some (.int x1)] [] σ10 (qI (fun x13 σ13 => yR d 121 0 [some (.ref 97), some (.int x13)] [] σ13 (qV (fun σ14 => K σ14)))))))))))) ∧ (¬ (x2 = 1) → (((x2 = 2) → ((¬ ((σ1 109 v1.toNatClampNeg) = 0) → (vp_in v1 60 ∧ ((¬ ((σ1 109 v1.toNatClampNeg) = 2) → yR d 87 0 [some (.int x1)] [] (sg σ2 109 v1.toNatClampNeg (σ1 109 v1.toNatClampNeg)) (qI (fun x15 σ15 => ((¬ ((σ1 109 v1.toNatClampNeg) = 0) → yR d 120 0 [some (.ref 97), some (.int x15), some (.int 0)] [] σ15 (qV (fun σ16 => K σ16))) ∧ (((σ1 109 v1.toNatClampNeg) = 0) → yR d 120 0 [some (.ref 97), some (.int x15), some (.int 1)] [] σ15 (qV (fun σ17 => K σ17))))))) ∧ (((σ1 109 v1.toNatClampNeg) = 2) → yR d 88 0 [some (.int x1)] [] (sg σ2 109 v1.toNatClampNeg (σ1 109 v1.toNatClampNeg)) (qI (fun x18 σ18 => ((¬ ((σ1 109 v1.toNatClampNeg) = 0) → yR d 120 0 [some (.ref 97), some (.int x18), some (.int 0)] [] σ18 (qV (fun σ19 => K σ19))) ∧ (((σ1 109 v1.toNatClampNeg) = 0) → yR d 120 0 [some (.ref 97), some (.int x18), some (.int 1)] [] σ18 (qV (fun σ20 => K σ20)))))))))) ∧ (((σ1 109 v1.toNatClampNeg) = 0) → (vp_in v1 60 ∧ ((¬ ((σ1 109 v1.toNatClampNeg) = 2) → yR d 87 0 [some (.int x1)] [] (sg σ2 109 v1.toNatClampNeg 1) (qI (fun x21 σ21 => ((¬ ((σ1 109 v1.toNatClampNeg) = 0) → yR d 120 0 [some (.ref 97), some (.int x21), some (.int 0)] [] σ21 (qV (fun σ22 => K σ22))) ∧ (((σ1 109 v1.toNatClampNeg) = 0) → yR d 120 0 [some (.ref 97), some (.int x21), some (.int 1)] [] σ21 (qV (fun σ23 => K σ23))))))) ∧ (((σ1 109 v1.toNatClampNeg) = 2) → yR d 88 0 [some (.int x1)] [] (sg σ2 109 v1.toNatClampNeg 1) (qI (fun x24 σ24 => ((¬ ((σ1 109 v1.toNatClampNeg) = 0) → yR d 120 0 [some (.ref 97), some (.int x24), some (.int 0)] [] σ24 (qV (fun σ25 => K σ25))) ∧ (((σ1 109 v1.toNatClampNeg) = 0) → yR d 120 0 [some (.ref 97), some (.int x24), some (.int 1)] [] σ24 (qV (fun σ26 => K σ26)))))))))))) ∧ (¬ (x2 = 2) → (((x2 = 3) → ((¬ ((σ1 109 v1.toNatClampNeg) = 0) → (vp_in v1 60 ∧ ((¬ ((σ1 109 v1.toNatClampNeg) = 2) → yR d 87 0 [some (.int x1)] [] (sg σ2 109 v1.toNatClampNeg (σ1 109 v1.toNatClampNeg)) (qI (fun x27 σ27 => ((¬ ((σ1 109 v1.toNatClampNeg) = 0) → yR d 120 0 [some (.ref 97), some (.int x27), some (.int 0)] [] σ27 (qV (fun σ28 => K σ28))) ∧ (((σ1 109 v1.toNatClampNeg) = 0) → yR d 120 0 [some (.ref 97), some (.int x27), some (.int 1)] [] σ27 (qV (fun σ29 => K σ29))))))) ∧ (((σ1 109 v1.toNatClampNeg) = 2) → yR d 88 0 [some (.int x1)] [] (sg σ2 109 v1.toNatClampNeg (σ1 109 v1.toNatClampNeg)) (qI (fun x30 σ30 => ((¬ ((σ1 109 v1.toNatClampNeg) = 0) → yR d 120 0 [some (.ref 97), some (.int x30), some (.int 0)] [] σ30 (qV (fun σ31 => K σ31))) ∧ (((σ1 109 v1.toNatClampNeg) = 0) → yR d 120 0 [some (.ref 97), some (.int x30), some (.int 1)] [] σ30 (qV (fun σ32 => K σ32)))))))))) ∧ (((σ1 109 v1.toNatClampNeg) = 0) → (vp_in v1 60 ∧ ((¬ ((σ1 109 v1.toNatClampNeg) = 2) → yR d 87 0 [some (.int x1)] [] (sg σ2 109 v1.toNatClampNeg 1) (qI (fun x33 σ33 => ((¬ ((σ1 109 v1.toNatClampNeg) = 0) → yR d 120 0 [some (.ref 97), some (.int x33), some (.int 0)] [] σ33 (qV (fun σ34 => K σ34))) ∧ (((σ1 109 v1.toNatClampNeg) = 0) → yR d 120 0 [some (.ref 97), some (.int x33), some (.int 1)] [] σ33 (qV (fun σ35 => K σ35))))))) ∧ (((σ1 109 v1.toNatClampNeg) = 2) → yR d 88 0 [some (.int x1)] [] (sg σ2 109 v1.toNatClampNeg 1) (qI (fun x36 σ36 => ((¬ ((σ1 109 v1.toNatClampNeg) = 0) → yR d 120 0 [some (.ref 97), some (.int x36), some (.int 0)] [] σ36 (qV (fun σ37 => K σ37))) ∧ (((σ1 109 v1.toNatClampNeg) = 0) → yR d 120 0 [some (.ref 97), some (.int x36), some (.int 1)] [] σ36 (qV (fun σ38 => K σ38)))))))))))) ∧ (¬ (x2 = 3) → (((x2 = 4) → ((¬ ((σ1 109 v1.toNatClampNeg) = 0) → (vp_in v1 60 ∧ ((¬ ((σ1 109 v1.toNatClampNeg) = 2) → yR d 87 0 [some (.int x1)] [] (sg σ2 109 v1.toNatClampNeg (σ1 109 v1.toNatClampNeg)) (qI (fun x39 σ39 => ((¬ ((σ1 109 v1.toNatClampNeg) = 0) → yR d 120 0 [some (.ref 97), some (.int x39), some (.int 0)] [] σ39 (qV (fun σ40 => K σ40))) ∧ (((σ1 109 v1.toNatClampNeg) = 0) → yR d 120 0 [some (.ref 97), some (.int x39), some (.int 1)] [] σ39 (qV (fun σ41 => K σ41))))))) ∧ (((σ1 109 v1.toNatClampNeg) = 2) → yR d 88 0 [some (.int x1)] [] (sg σ2 109 v1.toNatClampNeg (σ1 109 v1.toNatClampNeg)) (qI (fun x42 σ42 => ((¬ ((σ1 109 v1.toNatClampNeg) = 0) → yR d 120 0 [some (.ref 97), some (.int x42), some (.int 0)] [] σ42 (qV (fun σ43 => K σ43))) ∧ (((σ1 109 v1.toNatClampNeg) = 0) → yR d 120 0 [some (.ref 97), some (.int x42), some (.int 1)] [] σ42 (qV (fun σ44 => K σ44)))))))))) ∧ (((σ1 109 v1.toNatClampNeg) = 0) → (vp_in v1 60 ∧ ((¬ ((σ1 109 v1.toNatClampNeg) = 2) → yR d 87 0 [some (.int x1)] [] (sg σ2 109 v1.toNatClampNeg 1) (qI (fun x45 σ45 => ((¬ ((σ1 109 v1.toNatClampNeg) = 0) → yR d 120 0 [some (.ref 97), some (.int x45), some (.int 0)] [] σ45 (qV (fun σ46 => K σ46))) ∧ (((σ1 109 v1.toNatClampNeg) = 0) → yR d 120 0 [some (.ref 97), some (.int x45), some (.int 1)] [] σ45 (qV (fun σ47 => K σ47))))))) ∧ (((σ1 109 v1.toNatClampNeg) = 2) → yR d 88 0 [some (.int x1)] [] (sg σ2 109 v1.toNatClampNeg 1) (qI (fun x48 σ48 => ((¬ ((σ1 109 v1.toNatClampNeg) = 0) → yR d 120 0 [some (.ref 97), some (.int x48), some (.int 0)] [] σ48 (qV (fun σ49 => K σ49))) ∧ (((σ1 109 v1.toNatClampNeg) = 0) → yR d 120 0 [some (.ref 97), some (.int x48), some (.int 1)] [] σ48 (qV (fun σ50 => K σ50)))))))))))) ∧ (¬ (x2 = 4) → (((x2 = 5) → ((¬ ((σ1 109 v1.toNatClampNeg) = 0) → (vp_in v1 60 ∧ ((¬ ((σ1 109 v1.toNatClampNeg) = 2) → yR d 87 0 [some (.int x1)] [] (sg σ2 109 v1.toNatClampNeg (σ1 109 v1.toNatClampNeg)) (qI (fun x51 σ51 => ((¬ ((σ1 109 v1.toNatClampNeg) = 0) → yR d 120 0 [some (.ref 97), some (.int x51), some (.int 0)] [] σ51 (qV (fun σ52 => K σ52))) ∧ (((σ1 109 v1.toNatClampNeg) = 0) → yR d 120 0 [some (.ref 97), some (.int x51), some (.int 1)] [] σ51 (qV (fun σ53 => K σ53))))))) ∧ (((σ1 109 v1.toNatClampNeg) = 2) → yR d 88 0 [some (.int x1)] [] (sg σ2 109 v1.toNatClampNeg (σ1 109 v1.toNatClampNeg)) (qI (fun x54 σ54 => ((¬ ((σ1 109 v1.toNatClampNeg) = 0) → yR d 120 0 [some (.ref 97), some (.int x54), some (.int 0)] [] σ54 (qV (fun σ55 => K σ55))) ∧ (((σ1 109 v1.toNatClampNeg) = 0) → yR d 120 0 [some (.ref 97), some (.int x54), some (.int 1)] [] σ54 (qV (fun σ56 => K σ56)))))))))) ∧ (((σ1 109 v1.toNatClampNeg) = 0) → (vp_in v1 60 ∧ ((¬ ((σ1 109 v1.toNatClampNeg) = 2) → yR d 87 0 [some (.int x1)] [] (sg σ2 109 v1.toNatClampNeg 1) (qI (fun x57 σ57 => ((¬ ((σ1 109 v1.toNatClampNeg) = 0) → yR d 120 0 [some (.ref 97), some (.int x57), some (.int 0)] [] σ57 (qV (fun σ58 => K σ58))) ∧ (((σ1 109 v1.toNatClampNeg) = 0) → yR d 120 0 [some (.ref 97), some (.int x57), some (.int 1)] [] σ57 (qV (fun σ59 => K σ59))))))) ∧ (((σ1 109 v1.toNatClampNeg) = 2) → yR d 88 0 [some (.int x1)] [] (sg σ2 109 v1.toNatClampNeg 1) (qI (fun x60 σ60 => ((¬ ((σ1 109 v1.toNatClampNeg) = 0) → yR d 120 0 [some (.ref 97), some (.int x60), some (.int 0)] [] σ60 (qV (fun σ61 => K σ61))) ∧ (((σ1 109 v1.toNatClampNeg) = 0) → yR d 120 0 [some (.ref 97), some (.int x60), some (.int 1)] [] σ60 (qV (fun σ62 => K σ62)))))))))))) ∧ (¬ (x2 = 5) → (((x2 = 6) → ((¬ ((σ1 109 v1.toNatClampNeg) = 0) → (vp_in v1 60 ∧ ((¬ ((σ1 109 v1.toNatClampNeg) = 2) → yR d 87 0 [some (.int x1)] [] (sg σ2 109 v1.toNatClampNeg (σ1 109 v1.toNatClampNeg)) (qI (fun x63 σ63 => ((¬ ((σ1 109 v1.toNatClampNeg) = 0) → yR d 120 0 [some (.ref 97), some (.int x63), some (.int 0)] [] σ63 (qV (fun σ64 => K σ64))) ∧ (((σ1 109 v1.toNatClampNeg) = 0) → yR d 120 0 [some (.ref 97), some (.int x63), some (.int 1)] [] σ63 (qV (fun σ65 => K σ65))))))) ∧ (((σ1 109 v1.toNatClampNeg) = 2) → yR d 88 0 [some (.int x1)] [] (sg σ2 109 v1.toNatClampNeg (σ1 109 v1.toNatClampNeg)) (qI (fun x66 σ66 => ((¬ ((σ1 109 v1.toNatClampNeg) = 0) → yR d 120 0 [some (.ref 97), some (.int x66), some (.int 0)] [] σ66 (qV (fun σ67 => K σ67))) ∧ (((σ1 109 v1.toNatClampNeg) = 0) → yR d 120 0 [some (.ref 97), some (.int x66), some (.int 1)] [] σ66 (qV (fun σ68 => K σ68)))))))))) ∧ (((σ1 109 v1.toNatClampNeg) = 0) → (vp_in v1 60 ∧ ((¬ ((σ1 109 v1.toNatClampNeg) = 2) → yR d 87 0 [some (.int x1)] [] (sg σ2 109 v1.toNatClampNeg 1) (qI (fun x69 σ69 => ((¬ ((σ1 109 v1.toNatClampNeg) = 0) → yR d 120 0 [some (.ref 97), some (.int x69), some (.int 0)] [] σ69 (qV (fun σ70 => K σ70))) ∧ (((σ1 109 v1.toNatClampNeg) = 0) → yR d 120 0 [some (.ref 97), some (.int x69), some (.int 1)] [] σ69 (qV (fun σ71 => K σ71))))))) ∧ (((σ1 109 v1.toNatClampNeg) = 2) → yR d 88 0 [some (.int x1)] [] (sg σ2 109 v1.toNatClampNeg 1) (qI (fun x72 σ72 => ((¬ ((σ1 109 v1.toNatClampNeg) = 0) → yR d 120 0 [some (.ref 97), some (.int x72), some (.int 0)] [] σ72 (qV (fun σ73 => K σ73))) ∧ (((σ1 109 v1.toNatClampNeg) = 0) → yR d 120 0 [some (.ref 97), some (.int x72), some (.int 1)] [] σ72 (qV (fun σ74 => K σ74)))))))))))) ∧ (¬ (x2 = 6) → (((x2 = 7) → yR d 127 0 [some (.ref 97), some (.int v1), some (.int (σ1 109 v1.toNatClampNeg))] [] σ2 (qV (fun σ75 => K σ75))) ∧ (¬ (x2 = 7) → (((x2 = 8) → ((¬ ((σ1 109 v1.toNatClampNeg) = 0) → (vp_in v1 60 ∧ ((¬ ((σ1 109 v1.toNatClampNeg) = 2) → yR d 87 0 [some (.int x1)] [] (sg σ2 109 v1.toNatClampNeg (σ1 109 v1.toNatClampNeg)) (qI (fun x76 σ76 => ((¬ ((σ1 109 v1.toNatClampNeg) = 0) → yR d 120 0 [some (.ref 97), some (.int x76), some (.int 0)] [] σ76 (qV (fun σ77 => K σ77))) ∧ (((σ1 109 v1.toNatClampNeg) = 0) → yR d 120 0 [some (.ref 97), some (.int x76), some (.int 1)] [] σ76 (qV (fun σ78 => K σ78))))))) ∧ (((σ1 109 v1.toNatClampNeg) = 2) → yR d 88 0 [some (.int x1)] [] (sg σ2 109 v1.toNatClampNeg (σ1 109 v1.toNatClampNeg)) (qI (fun x79 σ79 => ((¬ ((σ1 109 v1.toNatClampNeg) = 0) → yR d 120 0 [some (.ref 97), some (.int x79), some (.int 0)] [] σ79 (qV (fun σ80 => K σ80))) ∧ (((σ1 109 v1.toNatClampNeg) = 0) → yR d 120 0 [some (.ref 97), some (.int x79), some (.int 1)] [] σ79 (qV (fun σ81 => K σ81)))))))))) ∧ (((σ1 109 v1.toNatClampNeg) = 0) → (vp_in v1 60 ∧ ((¬ ((σ1 109 v1.toNatClampNeg) = 2) → yR d 87 0 [some (.int x1)] [] (sg σ2 109 v1.toNatClampNeg 1) (qI (fun x82 σ82 => ((¬ ((σ1 109 v1.toNatClampNeg) = 0) → yR d 120 0 [some (.ref 97), some (.int x82), some (.int 0)] [] σ82 (qV (fun σ83 => K σ83))) ∧ (((σ1 109 v1.toNatClampNeg) = 0) → yR d 120 0 [some (.ref 97), some (.int x82), some (.int 1)] [] σ82 (qV (fun σ84 => K σ84))))))) ∧ (((σ1 109 v1.toNatClampNeg) = 2) → yR d 88 0 [some (.int x1)] [] (sg σ2 109 v1.toNatClampNeg 1) (qI (fun x85 σ85 => ((¬ ((σ1 109 v1.toNatClampNeg) = 0) → yR d 120 0 [some (.ref 97), some (.int x85), some (.int 0)] [] σ85 (qV (fun σ86 => K σ86))) ∧ (((σ1 109 v1.toNatClampNeg) = 0) → yR d 120 0 [some (.ref 97), some (.int x85), some (.int 1)] [] σ85 (qV (fun σ87 => K σ87)))))))))))) ∧ (¬ (x2 = 8) → (((x2 = 9) → ((¬ ((σ1 109 v1.toNatClampNeg) = 0) → (vp_in v1 60 ∧ ((¬ ((σ1 109 v1.toNatClampNeg) = 2) → yR d 87 0 [some (.int x1)] [] (sg σ2 109 v1.toNatClampNeg (σ1 109 v1.toNatClampNeg)) (qI (fun x88 σ88 => ((¬ ((σ1 109 v1.toNatClampNeg) = 0) → yR d 120 0 [some (.ref 97), some (.int x88), some (.int 0)] [] σ88 (qV (fun σ89 => K σ89))) ∧ (((σ1 109 v1.toNatClampNeg) = 0) → yR d 120 0 [some (.ref 97), some (.int x88), some (.int 1)] [] σ88 (qV (fun σ90 => K σ90))))))) ∧ (((σ1 109 v1.toNatClampNeg) = 2) → yR d 88 0 [some (.int x1)] [] (sg σ2 109 v1.toNatClampNeg (σ1 109 v1.toNatClampNeg)) (qI (fun x91 σ91 => ((¬ ((σ1 109 v1.toNatClampNeg) = 0) → yR d 120 0 [some (.ref 97), some (.int x91), some (.int 0)] [] σ91 (qV (fun σ92 => K σ92))) ∧ (((σ1 109 v1.toNatClampNeg) = 0) → yR d 120 0 [some (.ref 97), some (.int x91), some (.int 1)] [] σ91 (qV (fun σ93 => K σ93)))))))))) ∧ (((σ1 109 v1.toNatClampNeg) = 0) → (vp_in v1 60 ∧ ((¬ ((σ1 109 v1.toNatClampNeg) = 2) → yR d 87 0 [some (.int x1)] [] (sg σ2 109 v1.toNatClampNeg 1) (qI (fun x94 σ94 => ((¬ ((σ1 109 v1.toNatClampNeg) = 0) → yR d 120 0 [some (.ref 97), some (.int x94), some (.int 0)] [] σ94 (qV (fun σ95 => K σ95))) ∧ (((σ1 109 v1.toNatClampNeg) = 0) → yR d 120 0 [some (.ref 97), some (.int x94), some (.int 1)] [] σ94 (qV (fun σ96 => K σ96))))))) ∧ (((σ1 109 v1.toNatClampNeg) = 2) → yR d 88 0 [some (.int x1)] [] (sg σ2 109 v1.toNatClampNeg 1) (qI (fun x97 σ97 => ((¬ ((σ1 109 v1.toNatClampNeg) = 0) → yR d 120 0 [some (.ref 97), some (.int x97), some (.int 0)] [] σ97 (qV (fun σ98 => K σ98))) ∧ (((σ1 109 v1.toNatClampNeg) = 0) → yR d 120 0 [some (.ref 97), some (.int x97), some (.int 1)] [] σ97 (qV (fun σ99 => K σ99)))))))))))) ∧ (¬ (x2 = 9) → (((x2 = 10) → ((¬ ((σ1 109 v1.toNatClampNeg) = 0) → (vp_in v1 60 ∧ ((¬ ((σ1 109 v1.toNatClampNeg) = 2) → yR d 87 0 [some (.int x1)] [] (sg σ2 109 v1.toNatClampNeg (σ1 109 v1.toNatClampNeg)) (qI (fun x100 σ100 => ((¬ ((σ1 109 v1.toNatClampNeg) = 0) → yR d 120 0 [some (.ref 97), some (.int x100), some (.int 0)] [] σ100 (qV (fun σ101 => K σ101))) ∧ (((σ1 109 v1.toNatClampNeg) = 0) → yR d 120 0 [some (.ref 97), some (.int x100), some (.int 1)] [] σ100 (qV (fun σ102 => K σ102))))))) ∧ (((σ1 109 v1.toNatClampNeg) = 2) → yR d 88 0 [some (.int x1)] [] (sg σ2 109 v1.toNatClampNeg (σ1 109 v1.toNatClampNeg)) (qI (fun x103 σ103 => ((¬ ((σ1 109 v1.toNatClampNeg) = 0) → yR d 120 0 [some (.ref 97), some (.int x103), some (.int 0)] [] σ103 (qV (fun σ104 => K σ104))) ∧ (((σ1 109 v1.toNatClampNeg) = 0) → yR d 120 0 [some (.ref 97), some (.int x103), some (.int 1)] [] σ103 (qV (fun σ105 => K σ105)))))))))) ∧ (((σ1 109 v1.toNatClampNeg) = 0) → (vp_in v1 60 ∧ ((¬ ((σ1 109 v1.toNatClampNeg) = 2) → yR d 87 0 [some (.int x1)] [] (sg σ2 109 v1.toNatClampNeg 1) (qI (fun x106 σ106 => ((¬ ((σ1 109 v1.toNatClampNeg) = 0) → yR d 120 0 [some (.ref 97), some (.int x106), some (.int 0)] [] σ106 (qV (fun σ107 => K σ107))) ∧ (((σ1 109 v1.toNatClampNeg) = 0) → yR d 120 0 [some (.ref 97), some (.int x106), some (.int 1)] [] σ106 (qV (fun σ108 => K σ108))))))) ∧ (((σ1 109 v1.toNatClampNeg) = 2) → yR d 88 0 [some (.int x1)] [] (sg σ2 109 v1.toNatClampNeg 1) (qI (fun x109 σ109 => ((¬ ((σ1 109 v1.toNatClampNeg) = 0) → yR d 120 0 [some (.ref 97), some (.int x109), some (.int 0)] [] σ109 (qV (fun σ110 => K σ110))) ∧ (((σ1 109 v1.toNatClampNeg) = 0) → yR d 120 0 [some (.ref 97), some (.int x109), some (.int 1)] [] σ109 (qV (fun σ111 => K σ111)))))))))))) ∧ (¬ (x2 = 10) → (((x2 = 11) → yR d 126 0 [some (.ref 97), some (.int v1), some (.int (σ1 109 v1.toNatClampNeg))] [] σ2 (qV (fun σ112 => K σ112))) ∧ (¬ (x2 = 11) → (((x2 = 12) → (vp_in v1 60 ∧ ((¬ ((σ1 109 v1.toNatClampNeg) = 0) → yR d 122 0 [some (.ref 97)] [] (sg σ2 109 v1.toNatClampNeg 1) (qV (fun σ113 => K σ113))) ∧ (((σ1 109 v1.toNatClampNeg) = 0) → yR d 87 0 [some (.int x1)] [] (sg σ2 109 v1.toNatClampNeg 1) (qI (fun x114 σ114 => yR d 120 0 [some (.ref 97), some (.int x114), some (.int 1)] [] σ114 (qV (fun σ115 => K σ115)))))))) ∧ (¬ (x2 = 12) → (((x2 = 13) → (vp_in v1 60 ∧ yR d 87 0 [some (.int x1)] [] (sg σ2 109 v1.toNatClampNeg 1) (qI (fun x116 σ116 => ((¬ ((σ1 109 v1.toNatClampNeg) = 0) → yR d 120 0 [some (.ref 97), some (.int x116), some (.int 0)] [] σ116 (qV (fun σ117 => K σ117))) ∧ (((σ1 109 v1.toNatClampNeg) = 0) → yR d 120 0 [some (.ref 97), some (.int x116), some (.int 1)] [] σ116 (qV (fun σ118 => K σ118)))))))) ∧ (¬ (x2 = 13) → (((x2 = 14) → ((¬ ((σ1 109 v1.toNatClampNeg) = 1) → (vp_in v1 60 ∧ yR d 87 0 [some (.int x1)] [] (sg σ2 109 v1.toNatClampNeg 1) (qI (fun x119 σ119 => ((¬ ((σ1 109 v1.toNatClampNeg) = 0) → yR d 120 0 [some (.ref 97), some (.int x119), some (.int 0)] [] σ119 (qV (fun σ120 => K σ120))) ∧ (((σ1 109 v1.toNatClampNeg) = 0) → yR d 120 0 [some (.ref 97), some (.int x119), some (.int 1)] [] σ119 (qV (fun σ121 => K σ121)))))))) ∧ (((σ1 109 v1.toNatClampNeg) = 1) → yR d 86 0 [some (.int x1)] [] σ2 (qI (fun x122 σ122 => (vp_in v1 60 ∧ (vp_in x122 4 ∧ (vp_in v1 60 ∧ yR d 87 0 [some (.int x1)] [] (sg (sg σ122 112 x122.toNatClampNeg (σ122 110 v1.toNatClampNeg)) 109 v1.toNatClampNeg 1) (qI (fun x123 σ123 => ((¬ ((σ1 109 v1.toNatClampNeg) = 0) → yR d 120 0 [some (.ref 97), some (.int x123), some (.int 0)] [] σ123 (qV (fun σ124 => K σ124))) ∧ (((σ1 109 v1.toNatClampNeg) = 0) → yR d 120 0 [some (.ref 97), some (.int x123), some (.int 1)] [] σ123 (qV (fun σ125 => K σ125)))))))))))))) ∧ (¬ (x2 = 14) → ((¬ ((σ1 109 v1.toNatClampNeg) = 0) → (vp_in v1 60 ∧ ((¬ ((σ1 109 v1.toNatClampNeg) = 2) → yR d 87 0 [some (.int x1)] [] (sg σ2 109 v1.toNatClampNeg (σ1 109 v1.toNatClampNeg)) (qI (fun x126 σ126 => ((¬ ((σ1 109 v1.toNatClampNeg) = 0) → yR d 120 0 [some (.ref 97), some (.int x126), some (.int 0)] [] σ126 (qV (fun σ127 => K σ127))) ∧ (((σ1 109 v1.toNatClampNeg) = 0) → yR d 120 0 [some (.ref 97), some (.int x126), some (.int 1)] [] σ126 (qV (fun σ128 => K σ128))))))) ∧ (((σ1 109 v1.toNatClampNeg) = 2) → yR d 88 0 [some (.int x1)] [] (sg σ2 109 v1.toNatClampNeg (σ1 109 v1.toNatClampNeg)) (qI (fun x129 σ129 => ((¬ ((σ1 109 v1.toNatClampNeg) = 0) → yR d 120 0 [some (.ref 97), some (.int x129), some (.int 0)] [] σ129 (qV (fun σ130 => K σ130))) ∧ (((σ1 109 v1.toNatClampNeg) = 0) → yR d 120 0 [some (.ref 97), some (.int x129), some (.int 1)] [] σ129 (qV (fun σ131 => K σ131)))))))))) ∧ (((σ1 109 v1.toNatClampNeg) = 0) → (vp_in v1 60 ∧ ((¬ ((σ1 109 v1.toNatClampNeg) = 2) → yR d 87 0 [some (.int x1)] [] (sg σ2 109 v1.toNatClampNeg 1) (qI (fun x132 σ132 => ((¬ ((σ1 109 v1.toNatClampNeg) = 0) → yR d 120 0 [some (.ref 97), some (.int x132), some (.int 0)] [] σ132 (qV (fun σ133 => K σ133))) ∧ (((σ1 109 v1.toNatClampNeg) = 0) → yR d 120 0 [some (.ref 97), some (.int x132), some (.int 1)] [] σ132 (qV (fun σ134 => K σ134))))))) ∧ (((σ1 109 v1.toNatClampNeg) = 2) → yR d 88 0 [some (.int x1)] [] (sg σ2 109 v1.toNatClampNeg 1) (qI (fun x135 σ135 => ((¬ ((σ1 109 v1.toNatClampNeg) = 0) → yR d 120 0 [some (.ref 97), some (.int x135), some (.int 0)] [] σ135 (qV (fun σ136 => K σ136))) ∧ (((σ1 109 v1.toNatClampNeg) = 0) → yR d 120 0 [some (.ref 97), some (.int x135), some (.int 1)] [] σ135 (qV (fun σ137 => K σ137)))))))))))))))))))))))))))))))))))))))))))))) from (yR.mono h (qI_mono (fun x1 σ1 q1 => ⟨q1.1, (yR.mono q1.2 (qI_mono (fun x2 σ2 q2 => ⟨fun q3 => ⟨q1.1, ⟨fun q4 => ((q2.1 q3).1 q4), fun q4 => (yR.mono ((q2.1 q3).2 q4) (qI_mono (fun x4 σ4 q6 => ⟨fun q7 => (yR.mono (q6.1 q7) (qI_mono (fun x5 σ5 q8 => ⟨q8.1, q8.2⟩))), fun q7 => (q6.2 q7)⟩)))⟩⟩, fun q3 => ⟨fun q12 => ⟨q1.1, ⟨fun q13 => (((q2.2 q3).1 q12).1 q13), fun q13 => (yR.mono (((q2.2 q3).1 q12).2 q13) (qI_mono (fun x10 σ10 q15 => ⟨fun q16 => (yR.mono (q15.1 q16) (qI_mono (fun x11 σ11 q17 => ⟨q17.1, q17.2⟩))), fun q16 => (q15.2 q16)⟩)))⟩⟩, fun q12 => ⟨fun q21 => ⟨fun q22 => ⟨q1.1, ⟨fun q23 => (yR.mono (((((q2.2 q3).2 q12).1 q21).1 q22).1 q23) (qI_mono (fun x15 σ15 q24 => ⟨fun _ => q24, fun q => absurd q q22⟩))), fun q23 => (yR.mono (((((q2.2 q3).2 q12).1 q21).1 q22).2 q23) (qI_mono (fun x18 σ18 q26 => ⟨fun _ => q26, fun q => absurd q q22⟩)))⟩⟩, fun q22 => ⟨q1.1, ⟨fun q28 => (yR.mono (((((q2.2 q3).2 q12).1 q21).2 q22).1 q28) (qI_mono (fun x21 σ21 q29 => ⟨fun q => absurd q22 q, fun _ => q29⟩))), fun q28 => (yR.mono (((((q2.2 q3).2 q12).1 q21).2 q22).2 q28) (qI_mono (fun x24 σ24 q31 => ⟨fun q => absurd q22 q, fun _ => q31⟩)))⟩⟩⟩, fun q21 => ⟨fun q33 => ⟨fun q34 => ⟨q1.1, ⟨fun q35 => (yR.mono ((((((q2.2 q3).2 q12).2 q21).1 q33).1 q34).1 q35) (qI_mono (fun x27 σ27 q36 => ⟨fun _ => q36, fun q => absurd q q34⟩))), fun q35 => (yR.mono ((((((q2.2 q3).2 q12).2 q21).1 q33).1 q34).2 q35) (qI_mono (fun x30 σ30 q38 => ⟨fun _ => q38, fun q => absurd q q34⟩)))⟩⟩, fun q34 => ⟨q1.1, ⟨fun q40 => (yR.mono ((((((q2.2 q3).2 q12).2 q21).1 q33).2 q34).1 q40) (qI_mono (fun x33 σ33 q41 => ⟨fun q => absurd q34 q, fun _ => q41⟩))), fun q40 => (yR.mono ((((((q2.2 q3).2 q12).2 q21).1 q33).2 q34).2 q40) (qI_mono (fun x36 σ36 q43 => ⟨fun q => absurd q34 q, fun _ => q43⟩)))⟩⟩⟩, fun q33 => ⟨fun q45 => ⟨fun q46 => ⟨q1.1, ⟨fun q47 => (yR.mono (((((((q2.2 q3).2 q12).2 q21).2 q33).1 q45).1 q46).1 q47) (qI_mono (fun x39 σ39 q48 => ⟨fun _ => q48, fun q => absurd q q46⟩))), fun q47 => (yR.mono (((((((q2.2 q3).2 q12).2 q21).2 q33).1 q45).1 q46).2 q47) (qI_mono (fun x42 σ42 q50 => ⟨fun _ => q50, fun q => absurd q q46⟩)))⟩⟩, fun q46 => ⟨q1.1, ⟨fun q52 => (yR.mono (((((((q2.2 q3).2 q12).2 q21).2 q33).1 q45).2 q46).1 q52) (qI_mono (fun x45 σ45 q53 => ⟨fun q => absurd q46 q, fun _ => q53⟩))), fun q52 => (yR.mono (((((((q2.2 q3).2 q12).2 q21).2 q33).1 q45).2 q46).2 q52) (qI_mono (fun x48 σ48 q55 => ⟨fun q => absurd q46 q, fun _ => q55⟩)))⟩⟩⟩, fun q45 => ⟨fun q57 => ⟨fun q58 => ⟨q1.1, ⟨fun q59 => (yR.mono ((((((((q2.2 q3).2 q12).2 q21).2 q33).2 q45).1 q57).1 q58).1 q59) (qI_mono (fun x51 σ51 q60 => ⟨fun _ => q60, fun q => absurd q q58⟩))), fun q59 => (yR.mono ((((((((q2.2 q3).2 q12).2 q21).2 q33).2 q45).1 q57).1 q58).2 q59) (qI_mono (fun x54 σ54 q62 => ⟨fun _ => q62, fun q => absurd q q58⟩)))⟩⟩, fun q58 => ⟨q1.1, ⟨fun q64 => (yR.mono ((((((((q2.2 q3).2 q12).2 q21).2 q33).2 q45).1 q57).2 q58).1 q64) (qI_mono (fun x57 σ57 q65 => ⟨fun q => absurd q58 q, fun _ => q65⟩))), fun q64 => (yR.mono ((((((((q2.2 q3).2 q12).2 q21).2 q33).2 q45).1 q57).2 q58).2 q64) (qI_mono (fun x60 σ60 q67 => ⟨fun q => absurd q58 q, fun _ => q67⟩)))⟩⟩⟩, fun q57 => ⟨fun q69 => ⟨fun q70 => ⟨q1.1, ⟨fun q71 => (yR.mono (((((((((q2.2 q3).2 q12).2 q21).2 q33).2 q45).2 q57).1 q69).1 q70).1 q71) (qI_mono (fun x63 σ63 q72 => ⟨fun _ => q72, fun q => absurd q q70⟩))), fun q71 => (yR.mono (((((((((q2.2 q3).2 q12).2 q21).2 q33).2 q45).2 q57).1 q69).1 q70).2 q71) (qI_mono (fun x66 σ66 q74 => ⟨fun _ => q74, fun q => absurd q q70⟩)))⟩⟩, fun q70 => ⟨q1.1, ⟨fun q76 => (yR.mono (((((((((q2.2 q3).2 q12).2 q21).2 q33).2 q45).2 q57).1 q69).2 q70).1 q76) (qI_mono (fun x69 σ69 q77 => ⟨fun q => absurd q70 q, fun _ => q77⟩))), fun q76 => (yR.mono (((((((((q2.2 q3).2 q12).2 q21).2 q33).2 q45).2 q57).1 q69).2 q70).2 q76) (qI_mono (fun x72 σ72 q79 => ⟨fun q => absurd q70 q, fun _ => q79⟩)))⟩⟩⟩, fun q69 => ⟨fun q81 => ((((((((q2.2 q3).2 q12).2 q21).2 q33).2 q45).2 q57).2 q69).1 q81), fun q81 => ⟨fun q83 => ⟨fun q84 => ⟨q1.1, ⟨fun q85 => (yR.mono (((((((((((q2.2 q3).2 q12).2 q21).2 q33).2 q45).2 q57).2 q69).2 q81).1 q83).1 q84).1 q85) (qI_mono (fun x76 σ76 q86 => ⟨fun _ => q86, fun q => absurd q q84⟩))), fun q85 => (yR.mono (((((((((((q2.2 q3).2 q12).2 q21).2 q33).2 q45).2 q57).2 q69).2 q81).1 q83).1 q84).2 q85) (qI_mono (fun x79 σ79 q88 => ⟨fun _ => q88, fun q => absurd q q84⟩)))⟩⟩, fun q84 => ⟨q1.1, ⟨fun q90 => (yR.mono (((((((((((q2.2 q3).2 q12).2 q21).2 q33).2 q45).2 q57).2 q69).2 q81).1 q83).2 q84).1 q90) (qI_mono (fun x82 σ82 q91 => ⟨fun q => absurd q84 q, fun _ => q91⟩))), fun q90 => (yR.mono (((((((((((q2.2 q3).2 q12).2 q21).2 q33).2 q45).2 q57).2 q69).2 q81).1 q83).2 q84).2 q90) (qI_mono (fun x85 σ85 q93 => ⟨fun q => absurd q84 q, fun _ => q93⟩)))⟩⟩⟩, fun q83 => ⟨fun q95 => ⟨fun q96 => ⟨q1.1, ⟨fun q97 => (yR.mono ((((((((((((q2.2 q3).2 q12).2 q21).2 q33).2 q45).2 q57).2 q69).2 q81).2 q83).1 q95).1 q96).1 q97) (qI_mono (fun x88 σ88 q98 => ⟨fun _ => q98, fun q => absurd q q96⟩))), fun q97 => (yR.mono ((((((((((((q2.2 q3).2 q12).2 q21).2 q33).2 q45).2 q57).2 q69).2 q81).2 q83).1 q95).1 q96).2 q97) (qI_mono (fun x91 σ91 q100 => ⟨fun _ => q100, fun q => absurd q q96⟩)))⟩⟩, fun q96 => ⟨q1.1, ⟨fun q102 => (yR.mono ((((((((((((q2.2 q3).2 q12).2 q21).2 q33).2 q45).2 q57).2 q69).2 q81).2 q83).1 q95).2 q96).1 q102) (qI_mono (fun x94 σ94 q103 => ⟨fun q => absurd q96 q, fun _ => q103⟩))), fun q102 => (yR.mono ((((((((((((q2.2 q3).2 q12).2 q21).2 q33).2 q45).2 q57).2 q69).2 q81).2 q83).1 q95).2 q96).2 q102) (qI_mono (fun x97 σ97 q105 => ⟨fun q => absurd q96 q, fun _ => q105⟩)))⟩⟩⟩, fun q95 => ⟨fun q107 => ⟨fun q108 => ⟨q1.1, ⟨fun q109 => (yR.mono (((((((((((((q2.2 q3).2 q12).2 q21).2 q33).2 q45).2 q57).2 q69).2 q81).2 q83).2 q95).1 q107).1 q108).1 q109) (qI_mono (fun x100 σ100 q110 => ⟨fun _ => q110, fun q => absurd q q108⟩))), fun q109 => (yR.mono (((((((((((((q2.2 q3).2 q12).2 q21).2 q33).2 q45).2 q57).2 q69).2 q81).2 q83).2 q95).1 q107).1 q108).2 q109) (qI_mono (fun x103 σ103 q112 => ⟨fun _ => q112, fun q => absurd q q108⟩)))⟩⟩, fun q108 => ⟨q1.1, ⟨fun q114 => (yR.mono (((((((((((((q2.2 q3).2 q12).2 q21).2 q33).2 q45).2 q57).2 q69).2 q81).2 q83).2 q95).1 q107).2 q108).1 q114) (qI_mono (fun x106 σ106 q115 => ⟨fun q => absurd q108 q, fun _ => q115⟩))), fun q114 => (yR.mono (((((((((((((q2.2 q3).2 q12).2 q21).2 q33).2 q45).2 q57).2 q69).2 q81).2 q83).2 q95).1 q107).2 q108).2 q114) (qI_mono (fun x109 σ109 q117 => ⟨fun q => absurd q108 q, fun _ => q117⟩)))⟩⟩⟩, fun q107 => ⟨fun q119 => ((((((((((((q2.2 q3).2 q12).2 q21).2 q33).2 q45).2 q57).2 q69).2 q81).2 q83).2 q95).2 q107).1 q119), fun q119 => ⟨fun q121 => ⟨q1.1, ⟨fun q122 => ((((((((((((((q2.2 q3).2 q12).2 q21).2 q33).2 q45).2 q57).2 q69).2 q81).2 q83).2 q95).2 q107).2 q119).1 q121).1 q122), fun q122 => ((((((((((((((q2.2 q3).2 q12).2 q21).2 q33).2 q45).2 q57).2 q69).2 q81).2 q83).2 q95).2 q107).2 q119).1 q121).2 q122)⟩⟩, fun q121 => ⟨fun q126 => ⟨q1.1, (yR.mono ((((((((((((((q2.2 q3).2 q12).2 q21).2 q33).2 q45).2 q57).2 q69).2 q81).2 q83).2 q95).2 q107).2 q119).2 q121).1 q126) (qI_mono (fun x116 σ116 q127 => ⟨fun q128 => (q127.1 q128), fun q128 => (q127.2 q128)⟩)))⟩, fun q126 => ⟨fun q131 => ⟨fun q132 => ⟨q1.1, (yR.mono ((((((((((((((((q2.2 q3).2 q12).2 q21).2 q33).2 q45).2 q57).2 q69).2 q81).2 q83).2 q95).2 q107).2 q119).2 q121).2 q126).1 q131).1 q132) (qI_mono (fun x119 σ119 q133 => ⟨fun q134 => (q133.1 q134), fun q134 => (q133.2 q134)⟩)))⟩, fun q132 => (yR.mono ((((((((((((((((q2.2 q3).2 q12).2 q21).2 q33).2 q45).2 q57).2 q69).2 q81).2 q83).2 q95).2 q107).2 q119).2 q121).2 q126).1 q131).2 q132) (qI_mono (fun x122 σ122 q137 => ⟨q1.1, ⟨q137.1, ⟨q1.1, (yR.mono q137.2 (qI_mono (fun x123 σ123 q138 => ⟨fun q139 => (q138.1 q139), fun q139 => (q138.2 q139)⟩)))⟩⟩⟩)))⟩, fun q131 => ⟨fun q142 => ⟨q1.1, ⟨fun q143 => (yR.mono (((((((((((((((((q2.2 q3).2 q12).2 q21).2 q33).2 q45).2 q57).2 q69).2 q81).2 q83).2 q95).2 q107).2 q119).2 q121).2 q126).2 q131).1 q142).1 q143) (qI_mono (fun x126 σ126 q144 => ⟨fun _ => q144, fun q => absurd q q142⟩))), fun q143 => (yR.mono (((((((((((((((((q2.2 q3).2 q12).2 q21).2 q33).2 q45).2 q57).2 q69).2 q81).2 q83).2 q95).2 q107).2 q119).2 q121).2 q126).2 q131).1 q142).2 q143) (qI_mono (fun x129 σ129 q146 => ⟨fun _ => q146, fun q => absurd q q142⟩)))⟩⟩, fun q142 => ⟨q1.1, ⟨fun q148 => (yR.mono (((((((((((((((((q2.2 q3).2 q12).2 q21).2 q33).2 q45).2 q57).2 q69).2 q81).2 q83).2 q95).2 q107).2 q119).2 q121).2 q126).2 q131).2 q142).1 q148) (qI_mono (fun x132 σ132 q149 => ⟨fun q => absurd q142 q, fun _ => q149⟩))), fun q148 => (yR.mono (((((((((((((((((q2.2 q3).2 q12).2 q21).2 q33).2 q45).2 q57).2 q69).2 q81).2 q83).2 q95).2 q107).2 q119).2 q121).2 q126).2 q131).2 q142).2 q148) (qI_mono (fun x135 σ135 q151 => ⟨fun q => absurd q142 q, fun _ => q151⟩)))⟩⟩⟩⟩⟩⟩⟩⟩⟩⟩⟩⟩⟩⟩⟩⟩⟩⟩)))⟩))))
theorem w_126_0 {d : Nat} {σ : yS} {v1 v2 : Int32} {K : yS → Prop} (h : ((¬ (v2 = 0) → (vp_in v1 60 ∧ yR d 119 0 [some (.ref 97), some (.int v1)] [] (sg (sg σ 110 v1.toNatClampNeg (σ 110 v1.toNatClampNeg)) 109 v1.toNatClampNeg 1) (qI (fun x1 σ1 => yR d 86 0 [some (.int x1)] [] σ1 (qI (fun x2 σ2 => ((¬ (((sg σ 110 v1.toNatClampNeg (σ 110 v1.toNatClampNeg)) 110 v1.toNatClampNeg) = x2) → yR d 119 0 [some (.ref 97), some (.int v1)] [] σ2 (qI (fun x3 σ3 => yR d 87 0 [some (.int x3)] [] σ3 (qI (fun x4 σ4 => yR d 120 0 [some (.ref 97), some (.int x4), some (.int 0)] [] σ4 (qV (fun σ5 => K σ5))))))) ∧ ((((sg σ 110 v1.toNatClampNeg (σ 110 v1.toNatClampNeg)) 110 v1.toNatClampNeg) = x2) → yR d 122 0 [some (.ref 97)] [] σ2 (qV (fun σ7 => K σ7)))))))))) ∧ ((v2 = 0) → (vp_in v1 60 ∧ yR d 119 0 [some (.ref 97), some (.int v1)] [] (sg (sg σ 110 v1.toNatClampNeg 0) 109 v1.toNatClampNeg 1) (qI (fun x8 σ8 => yR d 86 0 [some (.int x8)] [] σ8 (qI (fun x9 σ9 => ((¬ (((sg σ 110 v1.toNatClampNeg 0) 110 v1.toNatClampNeg) = x9) → yR d 119 0 [some (.ref 97), some (.int v1)] [] σ9 (qI (fun x10 σ10 => yR d 87 0 [some (.int x10)] [] σ10 (qI (fun x11 σ11 => yR d 120 0 [some (.ref 97), some (.int x11), some (.int 1)] [] σ11 (qV (fun σ13 => K σ13))))))) ∧ ((((sg σ 110 v1.toNatClampNeg 0) 110 v1.toNatClampNeg) = x9) → yR d 122 0 [some (.ref 97)] [] σ9 (qV (fun σ14 => K σ14)))))))))))) : yR (d + 1) 126 0 [some (.ref 97), some (.int v1), some (.int v2)] [] σ (qV K) := wp_126 36 [] (show ((¬ (v2 = 0) → (vp_in v1 60 ∧ (vp_in v1 60 ∧ (vp_in v1 60 ∧ (vp_in v1 60 ∧ yR d 119 0 [some (.ref 97), some (.int v1)] [] (sg (sg σ 110 v1.toNatClampNeg (σ 110 v1.toNatClampNeg)) 109 v1.toNatClampNeg 1) (qI (fun x1 σ1 => yR d 86 0 [some (.int x1)] [] σ1 (qI (fun x2 σ2 => ((¬ (((sg σ 110 v1.toNatClampNeg (σ 110 v1.toNatClampNeg)) 110 v1.toNatClampNeg) = x2) → yR d 119 0 [some (.ref 97), some (.int v1)] [] σ2 (qI (fun x3 σ3 => yR d 87 0 [some (.int x3)] [] σ3 (qI (fun x4 σ4 => ((¬ (v2 = 0) → yR d 120 0 [some (.ref 97), some (.int x4), some (.int 0)] [] σ4 (qV (fun σ5 => K σ5))) ∧ ((v2 = 0) → yR d 120 0 [some (.ref 97), some (.int x4), some (.int 1)] [] σ4 (qV (fun σ6 => K σ6))))))))) ∧ ((((sg σ 110 v1.toNatClampNeg (σ 110 v1.toNatClampNeg)) 110 v1.toNatClampNeg) = x2) → yR d 122 0 [some (.ref 97)] [] σ2 (qV (fun σ7 => K σ7))))))))))))) ∧ ((v2 = 0) → (vp_in v1 60 ∧ (vp_in v1 60 ∧ (vp_in v1 60 ∧ yR d 119 0 [some (.ref 97), some (.int v1)] [] (sg (sg σ 110 v1.toNatClampNeg 0) 109 v1.toNatClampNeg 1) (qI (fun x8 σ8 => yR d 86 0 [some (.int x8)] [] σ8 (qI (fun x9 σ9 => ((¬ (((sg σ 110 v1.toNatClampNeg 0) 110 v1.toNatClampNeg) = x9) → yR d 119 0 [some (.ref 97), some (.int v1)] [] σ9 (qI (fun x10 σ10 => yR d 87 0 [some (.int x10)] [] σ10 (qI (fun x11 σ11 => ((¬ (v2 = 0) → yR d 120 0 [some (.ref 97), some (.int x11), some (.int 0)] [] σ11 (qV (fun σ12 => K σ12))) ∧ ((v2 = 0) → yR d 120 0 [some (.ref 97), some (.int x11), some (.int 1)] [] σ11 (qV (fun σ13 => K σ13))))))))) ∧ ((((sg σ 110 v1.toNatClampNeg 0) 110 v1.toNatClampNeg) = x9) → yR d 122 0 [some (.ref 97)] [] σ9 (qV (fun σ14 => K σ14))))))))))))) from ⟨fun q1 => ⟨(h.1 q1).1, ⟨(h.1 q1).1, ⟨(h.1 q1).1, ⟨(h.1 q1).1, (yR.mono (h.1 q1).2 (qI_mono (fun x1 σ1 q2 => (yR.mono q2 (qI_mono (fun x2 σ2 q3 => ⟨fun q4 => (yR.mono (q3.1 q4) (qI_mono (fun x3 σ3 q5 => (yR.mono q5 (qI_mono (fun x4 σ4 q6 => ⟨fun _ => q6, fun q => absurd q q1⟩)))))), fun q4 => (q3.2 q4)⟩))))))⟩⟩⟩⟩, fun q1 => ⟨(h.2 q1).1, ⟨(h.2 q1).1, ⟨(h.2 q1).1, (yR.mono (h.2 q1).2 (qI_mono (fun x8 σ8 q9 => (yR.mono q9 (qI_mono (fun x9 σ9 q10 => ⟨fun q11 => (yR.mono (q10.1 q11) (qI_mono (fun x10 σ10 q12 => (yR.mono q12 (qI_mono (fun x11 σ11 q13 => ⟨fun q => absurd q1 q, fun _ => q13⟩)))))), fun q11 => (q10.2 q11)⟩))))))⟩⟩⟩⟩)
theorem w_127_0 {d : Nat} {σ : yS} {v1 v2 : Int32} {K : yS → Prop} (h : ((¬ (v2 = 3) → (vp_in v1 60 ∧ yR d 119 0 [some (.ref 97), some (.int v1)] [] (sg σ 109 v1.toNatClampNeg 1) (qI (fun x1 σ1 => yR d 87 0 [some (.int x1)] [] σ1 (qI (fun x2 σ2 => ((¬ (v2 = 0) → yR d 120 0 [some (.ref 97), some (.int x2), some (.int 0)] [] σ2 (qV (fun σ3 => K σ3))) ∧ ((v2 = 0) → yR d 120 0 [some (.ref 97), some (.int x2), some (.int 1)] [] σ2 (qV (fun σ4 => K σ4)))))))))) ∧ ((v2 = 3) → (vp_in v1 60 ∧ ((((σ 111 v1.toNatClampNeg) ≤ (σ 110 v1.toNatClampNeg)) → yR d 119 0 [some (.ref 97), some (.int v1)] [] (sg σ 109 v1.toNatClampNeg 2) (qI (fun x12 σ12 => yR d 88 0 [some (.int x12)] [] σ12 (qI (fun x13 σ13 => yR d 120 0 [some (.ref 97), some (.int x13), some (.int 0)] [] σ13 (qV (fun σ14 => K σ14))))))) ∧ (¬ ((σ 111 v1.toNatClampNeg) ≤ (σ 110 v1.toNatClampNeg)) → yR d 121 0 [some (.ref 97), some (.int ((sg σ 110 v1.toNatClampNeg ((σ 110 v1.toNatClampNeg) + 1)) 110 v1.toNatClampNeg))] [] (sg σ 110 v1.toNatClampNeg ((σ 110 v1.toNatClampNeg) + 1)) (qV (fun σ15 => K σ15)))))))) : yR (d + 1) 127 0 [some (.ref 97), some (.int v1), some (.int v2)] [] σ (qV K) := wp_127 32 [] (show ((¬ (v2 = 3) → ((¬ (v2 = 3) → (vp_in v1 60 ∧ yR d 119 0 [some (.ref 97), some (.int v1)] [] (sg σ 109 v1.toNatClampNeg 1) (qI (fun x1 σ1 => yR d 87 0 [some (.int x1)] [] σ1 (qI (fun x2 σ2 => ((¬ (v2 = 0) → yR d 120 0 [some (.ref 97), some (.int x2), some (.int 0)] [] σ2 (qV (fun σ3 => K σ3))) ∧ ((v2 = 0) → yR d 120 0 [some (.ref 97), some (.int x2), some (.int 1)] [] σ2 (qV (fun σ4 => K σ4)))))))))) ∧ ((v2 = 3) → (vp_in v1 60 ∧ yR d 119 0 [some (.ref 97), some (.int v1)] [] (sg σ 109 v1.toNatClampNeg 2) (qI (fun x5 σ5 => yR d 88 0 [some (.int x5)] [] σ5 (qI (fun x6 σ6 => yR d 120 0 [some (.ref 97), some (.int x6), some (.int 0)] [] σ6 (qV (fun σ7 => K σ7)))))))))) ∧ ((v2 = 3) → (vp_in v1 60 ∧ (vp_in v1 60 ∧ ((((σ 111 v1.toNatClampNeg) ≤ (σ 110 v1.toNatClampNeg)) → ((¬ (v2 = 3) → (vp_in v1 60 ∧ yR d 119 0 [some (.ref 97), some (.int v1)] [] (sg σ 109 v1.toNatClampNeg 1) (qI (fun x8 σ8 => yR d 87 0 [some (.int x8)] [] σ8 (qI (fun x9 σ9 => ((¬ (v2 = 0) → yR d 120 0 [some (.ref 97), some (.int x9), some (.int 0)] [] σ9 (qV (fun σ10 => K σ10))) ∧ ((v2 = 0) → yR d 120 0 [some (.ref 97), some (.int x9), some (.int 1)] [] σ9 (qV (fun σ11 => K σ11)))))))))) ∧ ((v2 = 3) → (vp_in v1 60 ∧ yR d 119 0 [some (.ref 97), some (.int v1)] [] (sg σ 109 v1.toNatClampNeg 2) (qI (fun x12 σ12 => yR d 88 0 [some (.int x12)] [] σ12 (qI (fun x13 σ13 => yR d 120 0 [some (.ref 97), some (.int x13), some (.int 0)] [] σ13 (qV (fun σ14 => K σ14)))))))))) ∧ (¬ ((σ 111 v1.toNatClampNeg) ≤ (σ 110 v1.toNatClampNeg)) → (vp_in v1 60 ∧ (vp_in v1 60 ∧ (vp_in v1 60 ∧ yR d 121 0 [some (.ref 97), some (.int ((sg σ 110 v1.toNatClampNeg ((σ 110 v1.toNatClampNeg) + 1)) 110 v1.toNatClampNeg))] [] (sg σ 110 v1.toNatClampNeg ((σ 110 v1.toNatClampNeg) + 1)) (qV (fun σ15 => K σ15))))))))))) from ⟨fun q1 => ⟨fun _ => ⟨(h.1 q1).1, (yR.mono (h.1 q1).2 (qI_mono (fun x1 σ1 q2 => (yR.mono q2 (qI_mono (fun x2 σ2 q3 => ⟨fun q4 => (q3.1 q4), fun q4 => (q3.2 q4)⟩))))))⟩, fun q => absurd q q1⟩, fun q1 => ⟨(h.2 q1).1, ⟨(h.2 q1).1, ⟨fun q7 => ⟨fun q => absurd q1 q, fun _ => ⟨(h.2 q1).1, ((h.2 q1).2.1 q7)⟩⟩, fun q7 => ⟨(h.2 q1).1, ⟨(h.2 q1).1, ⟨(h.2 q1).1, ((h.2 q1).2.2 q7)⟩⟩⟩⟩⟩⟩⟩)
theorem w_128_0 {d : Nat} {σ : yS} {v1 v2 : Int32} {K : yS → Prop} (h : yR d 119 0 [some (.ref 97), some (.int v1)] [] σ (qI (fun x1 σ1 => yR d 85 0 [some (.int x1)] [] σ1 (qI (fun x2 σ2 => ((¬ (x2 = 3) → ((¬ (x2 = 11) → ((¬ (x2 = 12) → (((x2 = 13) → yR d 86 0 [some (.int x1)] [] σ2 (qI (fun x3 σ3 => (vp_in x3 4 ∧ (vp_in v1 60 ∧ yR d 86 0 [some (.int x1)] [] (sg σ3 110 v1.toNatClampNeg (σ3 112 x3.toNatClampNeg)) (qI (fun x4 σ4 => (vp_in x4 4 ∧ yR d 121 0 [some (.ref 97), some (.int v2)] [] (sg σ4 112 x4.toNatClampNeg v2) (qV (fun σ5 => K σ5)))))))))) ∧ (¬ (x2 = 13) → ((¬ (x2 = 14) → (vp_in v1 60 ∧ ((¬ ((σ2 109 v1.toNatClampNeg) = 1) → yR d 129 0 [some (.ref 97), some (.int v1), some (.int x2), some (.int v2)] [] σ2 (qV (fun σ6 => K σ6))) ∧ (((σ2 109 v1.toNatClampNeg) = 1) → yR d 88 0 [some (.int x1)] [] (sg (sg σ2 113 v1.toNatClampNeg v2) 109 v1.toNatClampNeg 2) (qI (fun x7 σ7 => yR d 120 0 [some (.ref 97), some (.int x7), some (.int 1)] [] σ7 (qV (fun σ8 => K σ8)))))))) ∧ ((x2 = 14) → yR d 86 0 [some (.int x1)] [] σ2 (qI (fun x9 σ9 => (vp_in x9 4 ∧ (vp_in v1 60 ∧ yR d 86 0 [some (.int x1)] [] (sg σ9 110 v1.toNatClampNeg (σ9 112 x9.toNatClampNeg)) (qI (fun x10 σ10 => (vp_in x10 4 ∧ yR d 121 0 [some (.ref 97), some (.int v2)] [] (sg σ10 112 x10.toNatClampNeg v2) (qV (fun σ11 => K σ11)))))))))))))) ∧ ((x2 = 12) → yR d 122 0 [some (.ref 97)] [] σ2 (qV (fun σ12 => K σ12))))) ∧ ((x2 = 11) → (vp_in v1 60 ∧ yR d 121 0 [some (.ref 97), some (.int v2)] [] (sg σ2 110 v1.toNatClampNeg ((σ2 110 v1.toNatClampNeg) + 1)) (qV (fun σ13 => K σ13)))))) ∧ ((x2 = 3) → yR d 121 0 [some (.ref 97), some (.int v2)] [] σ2 (qV (fun σ14 => K σ14))))))))) : yR (d + 1) 128 0 [some (.ref 97), some (.int v1), some (.int v2), none, none] [] σ (qV K) := wp_128 46 [] (show yR d 119 0 [some (.ref 97), some (.int v1)] [] σ (qI (fun x1 σ1 => yR d 85 0 [some (.int x1)] [] σ1 (qI (fun x2 σ2 => ((¬ (x2 = 3) → ((¬ (x2 = 11) → ((¬ (x2 = 12) → (((x2 = 13) → yR d 86 0 [some (.int x1)] [] σ2 (qI (fun x3 σ3 => (vp_in x3 4 ∧ (vp_in v1 60 ∧ yR d 86 0 [some (.int x1)] [] (sg σ3 110 v1.toNatClampNeg (σ3 112 x3.toNatClampNeg)) (qI (fun x4 σ4 => (vp_in x4 4 ∧ yR d 121 0 [some (.ref 97), some (.int v2)] [] (sg σ4 112 x4.toNatClampNeg v2) (qV (fun σ5 => K σ5)))))))))) ∧ (¬ (x2 = 13) → ((¬ (x2 = 14) → (vp_in v1 60 ∧ ((¬ ((σ2 109 v1.toNatClampNeg) = 1) → yR d 129 0 [some (.ref 97), some (.int v1), some (.int x2), some (.int v2)] [] σ2 (qV (fun σ6 => K σ6))) ∧ (((σ2 109 v1.toNatClampNeg) = 1) → (vp_in v1 60 ∧ (vp_in v1 60 ∧ yR d 88 0 [some (.int x1)] [] (sg (sg σ2 113 v1.toNatClampNeg v2) 109 v1.toNatClampNeg 2) (qI (fun x7 σ7 => yR d 120 0 [some (.ref 97), some (.int x7), some (.int 1)] [] σ7 (qV (fun σ8 => K σ8)))))))))) ∧ ((x2 = 14) → yR d 86 0 [some (.int x1)] [] σ2 (qI (fun x9 σ9 => (vp_in x9 4 ∧ (vp_in v1 60 ∧ yR d 86 0 [some (.int x1)] [] (sg σ9 110 v1.toNatClampNeg (σ9 112 x9.toNatClampNeg)) (qI (fun x10 σ10 => (vp_in x10 4 ∧ yR d 121 0 [some (.ref 97), some (.int v2)] [] (sg σ10 112 x10.toNatClampNeg v2) (qV (fun σ11 => K σ11)))))))))))))) ∧ ((x2 = 12) → yR d 122 0 [some (.ref 97)] [] σ2 (qV (fun σ12 => K σ12))))) ∧ ((x2 = 11) → (vp_in v1 60 ∧ (vp_in v1 60 ∧ yR d 121 0 [some (.ref 97), some (.int v2)] [] (sg σ2 110 v1.toNatClampNeg ((σ2 110 v1.toNatClampNeg) + 1)) (qV (fun σ13 => K σ13))))))) ∧ ((x2 = 3) → yR d 121 0 [some (.ref 97), some (.int v2)] [] σ2 (qV (fun σ14 => K σ14)))))))) from (yR.mono h (qI_mono (fun x1 σ1 q1 => (yR.mono q1 (qI_mono (fun x2 σ2 q2 => ⟨fun q3 => ⟨fun q4 => ⟨fun q5 => ⟨fun q6 => (yR.mono ((((q2.1 q3).1 q4).1 q5).1 q6) (qI_mono (fun x3 σ3 q7 => ⟨q7.1, ⟨q7.2.1, (yR.mono q7.2.2 (qI_mono (fun x4 σ4 q8 => ⟨q8.1, q8.2⟩)))⟩⟩))), fun q6 => ⟨fun q10 => ⟨(((((q2.1 q3).1 q4).1 q5).2 q6).1 q10).1, ⟨fun q11 => ((((((q2.1 q3).1 q4).1 q5).2 q6).1 q10).2.1 q11), fun q11 => ⟨(((((q2.1 q3).1 q4).1 q5).2 q6).1 q10).1, ⟨(((((q2.1 q3).1 q4).1 q5).2 q6).1 q10).1, ((((((q2.1 q3).1 q4).1 q5).2 q6).1 q10).2.2 q11)⟩⟩⟩⟩, fun q10 => (yR.mono (((((q2.1 q3).1 q4).1 q5).2 q6).2 q10) (qI_mono (fun x9 σ9 q15 => ⟨q15.1, ⟨q15.2.1, (yR.mono q15.2.2 (qI_mono (fun x10 σ10 q16 => ⟨q16.1, q16.2⟩)))⟩⟩)))⟩⟩, fun q5 => (((q2.1 q3).1 q4).2 q5)⟩, fun q4 => ⟨((q2.1 q3).2 q4).1, ⟨((q2.1 q3).2 q4).1, ((q2.1 q3).2 q4).2⟩⟩⟩, fun q3 => (q2.2 q3)⟩)))))))
theorem w_129_0 {d : Nat} {σ : yS} {v1 v2 v3 : Int32} {K : yS → Prop} (h : ((¬ (v2 = 2) → ((¬ (v2 = 7) → (vp_in v1 60 ∧ yR d 123 0 [some (.int v2), some (.int (σ 113 v1.toNatClampNeg)), some (.int v3), none, none] [] σ (qI (fun x4 σ4 => (((x4 = 0) → yR d 119 0 [some (.ref 97), some (.int v1)] [] σ4 (qI (fun x5 σ5 => yR d 88 0 [some (.int x5)] [] σ5 (qI (fun x6 σ6 => yR d 120 0 [some (.ref 97), some (.int x6), some (.int 0)] [] σ6 (qV (fun σ7 => K σ7))))))) ∧ (¬ (x4 = 0) → yR d 124 0 [some (.int v2), some (.int (σ4 113 v1.toNatClampNeg)), some (.int v3)] [] σ4 (qI (fun x8 σ8 => yR d 121 0 [some (.ref 97), some (.int x8)] [] σ8 (qV (fun σ9 => K σ9)))))))))) ∧ ((v2 = 7) → (vp_in v1 60 ∧ (((v3 < (σ 113 v1.toNatClampNeg)) → yR d 119 0 [some (.ref 97), some (.int v1)] [] σ (qI (fun x10 σ10 => yR d 88 0 [some (.int x10)] [] σ10 (qI (fun x11 σ11 => yR d 120 0 [some (.ref 97), some (.int x11), some (.int 0)] [] σ11 (qV (fun σ12 => K σ12))))))) ∧ (¬ (v3 < (σ 113 v1.toNatClampNeg)) → yR d 121 0 [some (.ref 97), some (.int ((sg (sg σ 109 v1.toNatClampNeg 3) 110 v1.toNatClampNeg (σ 113 v1.toNatClampNeg)) 110 v1.toNatClampNeg))] [] (sg (sg (sg σ 109 v1.toNatClampNeg 3) 110 v1.toNatClampNeg (σ 113 v1.toNatClampNeg)) 111 v1.toNatClampNeg v3) (qV (fun σ19 => K σ19)))))))) ∧ ((v2 = 2) → yR d 121 0 [some (.ref 97), some (.int v3)] [] σ (qV (fun σ20 => K σ20))))) : yR (d + 1) 129 0 [some (.ref 97), some (.int v1), some (.int v2), some (.int v3)] [] σ (qV K) := wp_129 39 [] (show ((¬ (v2 = 2) → ((¬ (v2 = 7) → (((v2 = 7) → yR d 119 0 [some (.ref 97), some (.int v1)] [] σ (qI (fun x1 σ1 => yR d 88 0 [some (.int x1)] [] σ1 (qI (fun x2 σ2 => yR d 120 0 [some (.ref 97), some (.int x2), some (.int 0)] [] σ2 (qV (fun σ3 => K σ3))))))) ∧ (¬ (v2 = 7) → (vp_in v1 60 ∧ yR d 123 0 [some (.int v2), some (.int (σ 113 v1.toNatClampNeg)), some (.int v3), none, none] [] σ (qI (fun x4 σ4 => (((x4 = 0) → yR d 119 0 [some (.ref 97), some (.int v1)] [] σ4 (qI (fun x5 σ5 => yR d 88 0 [some (.int x5)] [] σ5 (qI (fun x6 σ6 => yR d 120 0 [some (.ref 97), some (.int x6), some (.int 0)] [] σ6 (qV (fun σ7 => K σ7))))))) ∧ (¬ (x4 = 0) → (vp_in v1 60 ∧ yR d 124 0 [some (.int v2), some (.int (σ4 113 v1.toNatClampNeg)), some (.int v3)] [] σ4 (qI (fun x8 σ8 => yR d 121 0 [some (.ref 97), some (.int x8)] [] σ8 (qV (fun σ9 => K σ9))))))))))))) ∧ ((v2 = 7) → (vp_in v1 60 ∧ (((v3 < (σ 113 v1.toNatClampNeg)) → (((v2 = 7) → yR d 119 0 [some (.ref 97), some (.int v1)] [] σ (qI (fun x10 σ10 => yR d 88 0 [some (.int x10)] [] σ10 (qI (fun x11 σ11 => yR d 120 0 [some (.ref 97), some (.int x11), some (.int 0)] [] σ11 (qV (fun σ12 => K σ12))))))) ∧ (¬ (v2 = 7) → (vp_in v1 60 ∧ yR d 123 0 [some (.int v2), some (.int (σ 113 v1.toNatClampNeg)), some (.int v3), none, none] [] σ (qI (fun x13 σ13 => (((x13 = 0) → yR d 119 0 [some (.ref 97), some (.int v1)] [] σ13 (qI (fun x14 σ14 => yR d 88 0 [some (.int x14)] [] σ14 (qI (fun x15 σ15 => yR d 120 0 [some (.ref 97), some (.int x15), some (.int 0)] [] σ15 (qV (fun σ16 => K σ16))))))) ∧ (¬ (x13 = 0) → (vp_in v1 60 ∧ yR d 124 0 [some (.int v2), some (.int (σ13 113 v1.toNatClampNeg)), some (.int v3)] [] σ13 (qI (fun x17 σ17 => yR d 121 0 [some (.ref 97), some (.int x17)] [] σ17 (qV (fun σ18 => K σ18))))))))))))) ∧ (¬ (v3 < (σ 113 v1.toNatClampNeg)) → (vp_in v1 60 ∧ (vp_in v1 60 ∧ (vp_in v1 60 ∧ (vp_in v1 60 ∧ (vp_in v1 60 ∧ yR d 121 0 [some (.ref 97), some (.int ((sg (sg σ 109 v1.toNatClampNeg 3) 110 v1.toNatClampNeg (σ 113 v1.toNatClampNeg)) 110 v1.toNatClampNeg))] [] (sg (sg (sg σ 109 v1.toNatClampNeg 3) 110 v1.toNatClampNeg (σ 113 v1.toNatClampNeg)) 111 v1.toNatClampNeg v3) (qV (fun σ19 => K σ19))))))))))))) ∧ ((v2 = 2) → yR d 121 0 [some (.ref 97), some (.int v3)] [] σ (qV (fun σ20 => K σ20)))) from ⟨fun q1 => ⟨fun q2 => ⟨fun q => absurd q q2, fun _ => ⟨((h.1 q1).1 q2).1, (yR.mono ((h.1 q1).1 q2).2 (qI_mono (fun x4 σ4 q3 => ⟨fun q4 => (q3.1 q4), fun q4 => ⟨((h.1 q1).1 q2).1, (q3.2 q4)⟩⟩)))⟩⟩, fun q2 => ⟨((h.1 q1).2 q2).1, ⟨fun q10 => ⟨fun _ => (((h.1 q1).2 q2).2.1 q10), fun q => absurd q2 q⟩, fun q10 => ⟨((h.1 q1).2 q2).1, ⟨((h.1 q1).2 q2).1, ⟨((h.1 q1).2 q2).1, ⟨((h.1 q1).2 q2).1, ⟨((h.1 q1).2 q2).1, (((h.1 q1).2 q2).2.2 q10)⟩⟩⟩⟩⟩⟩⟩⟩, fun q1 => (h.2 q1)⟩)
theorem w_130_0 {d : Nat} {σ : yS} {v1 : Int32} {K : yS → Prop} (h : yR d 119 0 [some (.ref 97), some (.int v1)] [] σ (qI (fun x1 σ1 => yR d 85 0 [some (.int x1)] [] σ1 (qI (fun x2 σ2 => ((¬ (x2 = 12) → ((¬ (x2 = 3) → yR d 90 0 [some (.int x2)] [] σ2 (qI (fun x4 σ4 => (((x4 = 0) → yR d 122 0 [some (.ref 97)] [] σ4 (qV (fun σ5 => K σ5))) ∧ (¬ (x4 = 0) → (vp_in v1 60 ∧ ((¬ ((σ4 109 v1.toNatClampNeg) = 2) → yR d 122 0 [some (.ref 97)] [] σ4 (qV (fun σ6 => K σ6))) ∧ (((σ4 109 v1.toNatClampNeg) = 2) → yR d 87 0 [some (.int x1)] [] (sg σ4 109 v1.toNatClampNeg 1) (qI (fun x7 σ7 => yR d 120 0 [some (.ref 97), some (.int x7), some (.int 0)] [] σ7 (qV (fun σ8 => K σ8)))))))))))) ∧ ((x2 = 3) → (vp_in v1 60 ∧ ((¬ ((σ2 109 v1.toNatClampNeg) = 1) → yR d 122 0 [some (.ref 97)] [] σ2 (qV (fun σ9 => K σ9))) ∧ (((σ2 109 v1.toNatClampNeg) = 1) → yR d 88 0 [some (.int x1)] [] (sg σ2 109 v1.toNatClampNeg 2) (qI (fun x15 σ15 => yR d 120 0 [some (.ref 97), some (.int x15), some (.int 1)] [] σ15 (qV (fun σ16 => K σ16)))))))))) ∧ ((x2 = 12) → yR d 121 0 [some (.ref 97), some (.int 0)] [] σ2 (qV (fun σ17 => K σ17))))))))) : yR (d + 1) 130 0 [some (.ref 97), some (.int v1), none, none] [] σ (qV K) := wp_130 44 [] (show yR d 119 0 [some (.ref 97), some (.int v1)] [] σ (qI (fun x1 σ1 => yR d 85 0 [some (.int x1)] [] σ1 (qI (fun x2 σ2 => ((¬ (x2 = 12) → ((¬ (x2 = 3) → (((x2 = 3) → yR d 122 0 [some (.ref 97)] [] σ2 (qV (fun σ3 => K σ3))) ∧ (¬ (x2 = 3) → yR d 90 0 [some (.int x2)] [] σ2 (qI (fun x4 σ4 => (((x4 = 0) → yR d 122 0 [some (.ref 97)] [] σ4 (qV (fun σ5 => K σ5))) ∧ (¬ (x4 = 0) → (vp_in v1 60 ∧ ((¬ ((σ4 109 v1.toNatClampNeg) = 2) → yR d 122 0 [some (.ref 97)] [] σ4 (qV (fun σ6 => K σ6))) ∧ (((σ4 109 v1.toNatClampNeg) = 2) → (vp_in v1 60 ∧ yR d 87 0 [some (.int x1)] [] (sg σ4 109 v1.toNatClampNeg 1) (qI (fun x7 σ7 => yR d 120 0 [some (.ref 97), some (.int x7), some (.int 0)] [] σ7 (qV (fun σ8 => K σ8))))))))))))))) ∧ ((x2 = 3) → (vp_in v1 60 ∧ ((¬ ((σ2 109 v1.toNatClampNeg) = 1) → (((x2 = 3) → yR d 122 0 [some (.ref 97)] [] σ2 (qV (fun σ9 => K σ9))) ∧ (¬ (x2 = 3) → yR d 90 0 [some (.int x2)] [] σ2 (qI (fun x10 σ10 => (((x10 = 0) → yR d 122 0 [some (.ref 97)] [] σ10 (qV (fun σ11 => K σ11))) ∧ (¬ (x10 = 0) → (vp_in v1 60 ∧ ((¬ ((σ10 109 v1.toNatClampNeg) = 2) → yR d 122 0 [some (.ref 97)] [] σ10 (qV (fun σ12 => K σ12))) ∧ (((σ10 109 v1.toNatClampNeg) = 2) → (vp_in v1 60 ∧ yR d 87 0 [some (.int x1)] [] (sg σ10 109 v1.toNatClampNeg 1) (qI (fun x13 σ13 => yR d 120 0 [some (.ref 97), some (.int x13), some (.int 0)] [] σ13 (qV (fun σ14 => K σ14))))))))))))))) ∧ (((σ2 109 v1.toNatClampNeg) = 1) → (vp_in v1 60 ∧ yR d 88 0 [some (.int x1)] [] (sg σ2 109 v1.toNatClampNeg 2) (qI (fun x15 σ15 => yR d 120 0 [some (.ref 97), some (.int x15), some (.int 1)] [] σ15 (qV (fun σ16 => K σ16))))))))))) ∧ ((x2 = 12) → yR d 121 0 [some (.ref 97), some (.int 0)] [] σ2 (qV (fun σ17 => K σ17)))))))) from (yR.mono h (qI_mono (fun x1 σ1 q1 => (yR.mono q1 (qI_mono (fun x2 σ2 q2 => ⟨fun q3 => ⟨fun q4 => ⟨fun q => absurd q q4, fun _ => (yR.mono ((q2.1 q3).1 q4) (qI_mono (fun x4 σ4 q5 => ⟨fun q6 => (q5.1 q6), fun q6 => ⟨(q5.2 q6).1, ⟨fun q8 => ((q5.2 q6).2.1 q8), fun q8 => ⟨(q5.2 q6).1, ((q5.2 q6).2.2 q8)⟩⟩⟩⟩)))⟩, fun q4 => ⟨((q2.1 q3).2 q4).1, ⟨fun q12 => ⟨fun _ => (((q2.1 q3).2 q4).2.1 q12), fun q => absurd q4 q⟩, fun q12 => ⟨((q2.1 q3).2 q4).1, (((q2.1 q3).2 q4).2.2 q12)⟩⟩⟩⟩, fun q3 => (q2.2 q3)⟩)))))))
theorem w_131_0 {d : Nat} {σ : yS} {v1 : Int32} {K : yS → Prop} (h : yR d 91 0 [some (.ref 97), some (.int v1), none, none] [] σ (qI (fun x1 σ1 => yR (d + 1) 131 21 [some (.ref 97), some (.int v1), some (.int 0), none] [] (sg (sg (sg σ1 97 24 x1) 97 25 0) 97 26 0) (qV K)))) : yR (d + 1) 131 0 [some (.ref 97), some (.int v1), none, none] [] σ (qV K) := wp_131 15 [21] (show yR d 91 0 [some (.ref 97), some (.int v1), none, none] [] σ (qI (fun x1 σ1 => (yBo 0 ∧ yR (d + 1) 131 21 [some (.ref 97), some (.int v1), some (.int 0), none] [] (sg (sg (sg σ1 97 24 x1) 97 25 0) 97 26 0) (qV K)))) from (yR.mono h (qI_mono (fun x1 σ1 q1 => ⟨yB0, q1⟩))))
theorem w_131_21 {d : Nat} {σ : yS} {v1 v2 : Int32} {K : yS → Prop} (h : (vp_in (9 + v1) 89 ∧ ((((σ 98 (9 + v1).toNatClampNeg) ≤ v2) → (vp_in (17 + v1) 89 ∧ (vp_in (σ 98 (17 + v1).toNatClampNeg) 60 ∧ K (sg (sg σ 108 (σ 98 (17 + v1).toNatClampNeg).toNatClampNeg (-1999999)) 109 (σ 98 (17 + v1).toNatClampNeg).toNatClampNeg 0)))) ∧ (¬ ((σ 98 (9 + v1).toNatClampNeg) ≤ v2) → yR d 119 0 [some (.ref 97), some (.int v2)] [] σ (qI (fun x1 σ1 => yR d 85 0 [some (.int x1)] [] σ1 (qI (fun x2 σ2 => (((x2 ≤ 1) → yR (d + 1) 131 21 [some (.ref 97), some (.int v1), some (.int (v2 + 1)), none] [] σ2 (qV K)) ∧ (¬ (x2 ≤ 1) → yR d 87 0 [some (.int x1)] [] σ2 (qI (fun x3 σ3 => (vp_in x3 60 ∧ yR d 85 0 [some (.int x1)] [] (sg σ3 108 x3.toNatClampNeg v2) (qI (fun x4 σ4 => yR d 90 0 [some (.int x4)] [] σ4 (qI (fun x5 σ5 => (((x5 = 0) → yR (d + 1) 131 21 [some (.ref 97), some (.int v1), some (.int (v2 + 1)), none] [] σ5 (qV K)) ∧ (¬ (x5 = 0) → yR d 88 0 [some (.int x1)] [] σ5 (qI (fun x6 σ6 => (vp_in x6 60 ∧ yR (d + 1) 131 21 [some (.ref 97), some (.int v1), some (.int (v2 + 1)), none] [] (sg σ6 108 x6.toNatClampNeg v2) (qV K))))))))))))))))))))))) : yR (d + 1) 131 21 [some (.ref 97), some (.int v1), some (.int v2), none] [] σ (qV K) := wp_131 36 [21] (show (vp_in (9 + v1) 89 ∧ ((((σ 98 (9 + v1).toNatClampNeg) ≤ v2) → (vp_in (17 + v1) 89 ∧ (vp_in (σ 98 (17 + v1).toNatClampNeg) 60 ∧ (vp_in (17 + v1) 89 ∧ (vp_in (σ 98 (17 + v1).toNatClampNeg) 60 ∧ K (sg (sg σ 108 (σ 98 (17 + v1).toNatClampNeg).toNatClampNeg (-1999999)) 109 (σ 98 (17 + v1).toNatClampNeg).toNatClampNeg 0)))))) ∧ (¬ ((σ 98 (9 + v1).toNatClampNeg) ≤ v2) → yR d 119 0 [some (.ref 97), some (.int v2)] [] σ (qI (fun x1 σ1 => yR d 85 0 [some (.int x1)] [] σ1 (qI (fun x2 σ2 => (((x2 ≤ 1) → yR (d + 1) 131 21 [some (.ref 97), some (.int v1), some (.int (v2 + 1)), some (.int x1)] [] σ2 (qV K)) ∧ (¬ (x2 ≤ 1) → yR d 87 0 [some (.int x1)] [] σ2 (qI (fun x3 σ3 => (vp_in x3 60 ∧ yR d 85 0 [some (.int x1)] [] (sg σ3 108 x3.toNatClampNeg v2) (qI (fun x4 σ4 => yR d 90 0 [some (.int x4)] [] σ4 (qI (fun x5 σ5 => (((x5 = 0) → yR (d + 1) 131 21 [some (.ref 97), some (.int v1), some (.int (v2 + 1)), some (.int x1)] [] σ5 (qV K)) ∧ (¬ (x5 = 0) → yR d 88 0 [some (.int x1)] [] σ5 (qI (fun x6 σ6 => (vp_in x6 60 ∧ yR (d + 1) 131 21 [some (.ref 97), some (.int v1), some (.int (v2 + 1)), some (.int x1)] [] (sg σ6 108 x6.toNatClampNeg v2) (qV K)))))))))))))))))))))) from ⟨h.1, ⟨fun q1 => ⟨(h.2.1 q1).1, ⟨(h.2.1 q1).2.1, ⟨(h.2.1 q1).1, ⟨(h.2.1 q1).2.1, (h.2.1 q1).2.2⟩⟩⟩⟩, fun q1 => (yR.mono (h.2.2 q1) (qI_mono (fun x1 σ1 q2 => (yR.mono q2 (qI_mono (fun x2 σ2 q3 => ⟨fun q4 => (yR.mask [true, true, true, false] (q3.1 q4)), fun q4 => (yR.mono (q3.2 q4) (qI_mono (fun x3 σ3 q5 => ⟨q5.1, (yR.mono q5.2 (qI_mono (fun x4 σ4 q6 => (yR.mono q6 (qI_mono (fun x5 σ5 q7 => ⟨fun q8 => (yR.mask [true, true, true, false] (q7.1 q8)), fun q8 => (yR.mono (q7.2 q8) (qI_mono (fun x6 σ6 q9 => ⟨q9.1, (yR.mask [true, true, true, false] q9.2)⟩)))⟩))))))⟩)))⟩))))))⟩⟩)
theorem w_132_0 {d : Nat} {σ : yS} {v1 : Int32} {K : Int32 → yS → Prop} (h : yR (d + 1) 132 10 [some (.ref 97), some (.int v1)] [] (sg (sg σ 97 27 v1) 97 28 1) (qI K)) : yR (d + 1) 132 0 [some (.ref 97), some (.int v1)] [] σ (qI K) := wp_132 8 [10] (show (yBo 1 ∧ yR (d + 1) 132 10 [some (.ref 97), some (.int v1)] [] (sg (sg σ 97 27 v1) 97 28 1) (qI K)) from ⟨yB1, h⟩)
theorem w_132_10 {d : Nat} {σ : yS} {v1 : Int32} {K : Int32 → yS → Prop} (h : ((((σ 97 27) = (-1999999)) → ((¬ ((σ 97 26) = 0) → K 0 σ) ∧ (((σ 97 26) = 0) → ((((σ 97 29) = 0) → K 0 σ) ∧ (¬ ((σ 97 29) = 0) → K 1 σ))))) ∧ (¬ ((σ 97 27) = (-1999999)) → ((¬ ((σ 97 26) = 0) → K 0 σ) ∧ (((σ 97 26) = 0) → ((((σ 97 28) = 0) → ((((σ 97 29) = 0) → yR d 130 0 [some (.ref 97), some (.int (σ 97 27)), none, none] [] σ (qV (fun σ1 => yR (d + 1) 132 10 [some (.ref 97), some (.int v1)] [] σ1 (qI K)))) ∧ (¬ ((σ 97 29) = 0) → yR d 128 0 [some (.ref 97), some (.int (σ 97 27)), some (.int (σ 97 30)), none, none] [] σ (qV (fun σ2 => yR (d + 1) 132 10 [some (.ref 97), some (.int v1)] [] σ2 (qI K)))))) ∧ (¬ ((σ 97 28) = 0) → yR d 125 0 [some (.ref 97), some (.int (σ 97 27)), none, none] [] σ (qV (fun σ3 => yR (d + 1) 132 10 [some (.ref 97), some (.int v1)] [] σ3 (qI K)))))))))) : yR (d + 1) 132 10 [some (.ref 97), some (.int v1)] [] σ (qI K) := wp_132 22 [10] (show ((((σ 97 27) = (-1999999)) → ((¬ ((σ 97 26) = 0) → (yBo 0 ∧ K 0 σ)) ∧ (((σ 97 26) = 0) → ((((σ 97 29) = 0) → (yBo 0 ∧ K 0 σ)) ∧ (¬ ((σ 97 29) = 0) → (yBo 1 ∧ K 1 σ)))))) ∧ (¬ ((σ 97 27) = (-1999999)) → ((¬ ((σ 97 26) = 0) → ((¬ ((σ 97 26) = 0) → (yBo 0 ∧ K 0 σ)) ∧ (((σ 97 26) = 0) → ((((σ 97 29) = 0) → (yBo 0 ∧ K 0 σ)) ∧ (¬ ((σ 97 29) = 0) → (yBo 1 ∧ K 1 σ)))))) ∧ (((σ 97 26) = 0) → ((((σ 97 28) = 0) → ((((σ 97 29) = 0) → yR d 130 0 [some (.ref 97), some (.int (σ 97 27)), none, none] [] σ (qV (fun σ1 => yR (d + 1) 132 10 [some (.ref 97), some (.int v1)] [] σ1 (qI K)))) ∧ (¬ ((σ 97 29) = 0) → yR d 128 0 [some (.ref 97), some (.int (σ 97 27)), some (.int (σ 97 30)), none, none] [] σ (qV (fun σ2 => yR (d + 1) 132 10 [some (.ref 97), some (.int v1)] [] σ2 (qI K)))))) ∧ (¬ ((σ 97 28) = 0) → yR d 125 0 [some (.ref 97), some (.int (σ 97 27)), none, none] [] σ (qV (fun σ3 => yR (d + 1) 132 10 [some (.ref 97), some (.int v1)] [] σ3 (qI K))))))))) from ⟨fun q1 => ⟨fun q2 => ⟨yB0, ((h.1 q1).1 q2)⟩, fun q2 => ⟨fun q3 => ⟨yB0, (((h.1 q1).2 q2).1 q3)⟩, fun q3 => ⟨yB1, (((h.1 q1).2 q2).2 q3)⟩⟩⟩, fun q1 => ⟨fun q4 => ⟨fun _ => ⟨yB0, ((h.2 q1).1 q4)⟩, fun q => absurd q q4⟩, fun q4 => ⟨fun q5 => ⟨fun q6 => ((((h.2 q1).2 q4).1 q5).1 q6), fun q6 => ((((h.2 q1).2 q4).1 q5).2 q6)⟩, fun q5 => (((h.2 q1).2 q4).2 q5)⟩⟩⟩)
theorem w_133_0 {d : Nat} {σ : yS} {v1 v2 : Int32} {K : yS → Prop} (h : yR d 131 0 [some (.ref 97), some (.int v1), none, none] [] σ (qV (fun σ1 => (((v2 = 0) → yR (d + 1) 133 19 [some (.ref 97), some (.int v1), some (.int v2), some (.int 1), some (.int 0)] [] σ1 (qV K)) ∧ (¬ (v2 = 0) → yR (d + 1) 133 19 [some (.ref 97), some (.int v1), some (.int v2), some (.int 30), some (.int 0)] [] σ1 (qV K)))))) : yR (d + 1) 133 0 [some (.ref 97), some (.int v1), some (.int v2), none, none] [] σ (qV K) := wp_133 12 [19] (show yR d 131 0 [some (.ref 97), some (.int v1), none, none] [] σ (qV (fun σ1 => (((v2 = 0) → yR (d + 1) 133 19 [some (.ref 97), some (.int v1), some (.int v2), some (.int 1), some (.int 0)] [] σ1 (qV K)) ∧ (¬ (v2 = 0) → yR (d + 1) 133 19 [some (.ref 97), some (.int v1), some (.int v2), some (.int 30), some (.int 0)] [] σ1 (qV K))))) from (yR.mono h (qV_mono (fun σ1 q1 => ⟨fun q2 => (q1.1 q2), fun q2 => (q1.2 q2)⟩))))
theorem w_133_19 {d : Nat} {σ : yS} {v1 v2 v3 v4 : Int32} {K : yS → Prop} (h : (((v3 ≤ v4) → (vp_in v1 8 ∧ (yBo (σ 97 26) ∧ K (sg (sg (sg σ 115 v1.toNatClampNeg v4) 116 v1.toNatClampNeg (σ 97 25)) 117 v1.toNatClampNeg (σ 97 26))))) ∧ (¬ (v3 ≤ v4) → (vp_in (17 + v1) 89 ∧ yR d 132 0 [some (.ref 97), some (.int (σ 98 (17 + v1).toNatClampNeg))] [] σ (qI (fun x1 σ1 => (((x1 = 0) → (vp_in v1 8 ∧ (yBo (σ1 97 26) ∧ K (sg (sg (sg σ1 115 v1.toNatClampNeg v4) 116 v1.toNatClampNeg (σ1 97 25)) 117 v1.toNatClampNeg (σ1 97 26))))) ∧ (¬ (x1 = 0) → (vp_in (σ1 97 33) 240 ∧ yR (d + 1) 133 19 [some (.ref 97), some (.int v1), some (.int v2), some (.int v3), some (.int (v4 + 1))] [] (sg (sg σ1 114 (σ1 97 33).toNatClampNeg (σ1 97 30)) 97 33 ((σ1 97 33) + 1)) (qV K)))))))))) : yR (d + 1) 133 19 [some (.ref 97), some (.int v1), some (.int v2), some (.int v3), some (.int v4)] [] σ (qV K) := wp_133 31 [19] (show (((v3 ≤ v4) → (vp_in v1 8 ∧ (vp_in v1 8 ∧ (vp_in v1 8 ∧ (yBo (σ 97 26) ∧ K (sg (sg (sg σ 115 v1.toNatClampNeg v4) 116 v1.toNatClampNeg (σ 97 25)) 117 v1.toNatClampNeg (σ 97 26))))))) ∧ (¬ (v3 ≤ v4) → (vp_in (17 + v1) 89 ∧ yR d 132 0 [some (.ref 97), some (.int (σ 98 (17 + v1).toNatClampNeg))] [] σ (qI (fun x1 σ1 => (((x1 = 0) → (vp_in v1 8 ∧ (vp_in v1 8 ∧ (vp_in v1 8 ∧ (yBo (σ1 97 26) ∧ K (sg (sg (sg σ1 115 v1.toNatClampNeg v4) 116 v1.toNatClampNeg (σ1 97 25)) 117 v1.toNatClampNeg (σ1 97 26))))))) ∧ (¬ (x1 = 0) → (vp_in (σ1 97 33) 240 ∧ yR (d + 1) 133 19 [some (.ref 97), some (.int v1), some (.int v2), some (.int v3), some (.int (v4 + 1))] [] (sg (sg σ1 114 (σ1 97 33).toNatClampNeg (σ1 97 30)) 97 33 ((σ1 97 33) + 1)) (qV K))))))))) from ⟨fun q1 => ⟨(h.1 q1).1, ⟨(h.1 q1).1, ⟨(h.1 q1).1, ⟨(h.1 q1).2.1, (h.1 q1).2.2⟩⟩⟩⟩, fun q1 => ⟨(h.2 q1).1, (yR.mono (h.2 q1).2 (qI_mono (fun x1 σ1 q2 => ⟨fun q3 => ⟨(q2.1 q3).1, ⟨(q2.1 q3).1, ⟨(q2.1 q3).1, ⟨(q2.1 q3).2.1, (q2.1 q3).2.2⟩⟩⟩⟩, fun q3 => ⟨(q2.2 q3).1, (q2.2 q3).2⟩⟩)))⟩⟩)
theorem w_134_0 {d : Nat} {σ : yS} {K : yS → Prop} (h : yR d 134 7 [some (.ref 97), some (.int 0)] [] (sg σ 97 33 0) (qV K)) : yR d 134 0 [some (.ref 97), none] [] σ (qV K) := wp_134 7 [7] h
theorem w_134_7 {d : Nat} {σ : yS} {v1 : Int32} {K : yS → Prop} (h : (((4 ≤ v1) → K σ) ∧ (¬ (4 ≤ v1) → (vp_in (85 + v1) 89 ∧ (vp_in v1 4 ∧ yR d 134 7 [some (.ref 97), some (.int (v1 + 1))] [] (sg σ 112 v1.toNatClampNeg (σ 98 (85 + v1).toNatClampNeg)) (qV K)))))) : yR d 134 7 [some (.ref 97), some (.int v1)] [] σ (qV K) := wp_134 17 [7] (show (((4 ≤ v1) → K σ) ∧ (¬ (4 ≤ v1) → (vp_in (85 + v1) 89 ∧ (vp_in v1 4 ∧ yR d 134 7 [some (.ref 97), some (.int (v1 + 1))] [] (sg σ 112 v1.toNatClampNeg (σ 98 (85 + v1).toNatClampNeg)) (qV K))))) from ⟨fun q1 => (h.1 q1), fun q1 => ⟨(h.2 q1).1, ⟨(h.2 q1).2.1, (h.2 q1).2.2⟩⟩⟩)
theorem w_135_0 {d : Nat} {σ : yS} {K : yS → Prop} (h : yR d 134 0 [some (.ref 97), none] [] σ (qV (fun σ1 => yR (d + 1) 135 6 [some (.ref 97), some (.int 0)] [] σ1 (qV K)))) : yR (d + 1) 135 0 [some (.ref 97), none] [] σ (qV K) := wp_135 6 [6] h
theorem w_135_6 {d : Nat} {σ : yS} {v1 : Int32} {K : yS → Prop} (h : (vp_in 0 89 ∧ ((((σ 98 0) ≤ v1) → K σ) ∧ (¬ ((σ 98 0) ≤ v1) → (vp_in (1 + v1) 89 ∧ ((¬ ((σ 98 (1 + v1).toNatClampNeg) = 1) → yR d 133 0 [some (.ref 97), some (.int v1), some (.int 0), none, none] [] σ (qV (fun σ1 => yR (d + 1) 135 6 [some (.ref 97), some (.int (v1 + 1))] [] σ1 (qV K)))) ∧ (((σ 98 (1 + v1).toNatClampNeg) = 1) → yR d 133 0 [some (.ref 97), some (.int v1), some (.int 1), none, none] [] σ (qV (fun σ2 => yR (d + 1) 135 6 [some (.ref 97), some (.int (v1 + 1))] [] σ2 (qV K)))))))))) : yR (d + 1) 135 6 [some (.ref 97), some (.int v1)] [] σ (qV K) := wp_135 23 [6] (show (vp_in 0 89 ∧ ((((σ 98 0) ≤ v1) → K σ) ∧ (¬ ((σ 98 0) ≤ v1) → (vp_in (1 + v1) 89 ∧ ((¬ ((σ 98 (1 + v1).toNatClampNeg) = 1) → yR d 133 0 [some (.ref 97), some (.int v1), some (.int 0), none, none] [] σ (qV (fun σ1 => yR (d + 1) 135 6 [some (.ref 97), some (.int (v1 + 1))] [] σ1 (qV K)))) ∧ (((σ 98 (1 + v1).toNatClampNeg) = 1) → yR d 133 0 [some (.ref 97), some (.int v1), some (.int 1), none, none] [] σ (qV (fun σ2 => yR (d + 1) 135 6 [some (.ref 97), some (.int (v1 + 1))] [] σ2 (qV K))))))))) from ⟨h.1, ⟨fun q1 => (h.2.1 q1), fun q1 => ⟨(h.2.2 q1).1, ⟨fun q2 => ((h.2.2 q1).2.1 q2), fun q2 => ((h.2.2 q1).2.2 q2)⟩⟩⟩⟩)
theorem w_136_0 {d : Nat} {σ : yS} {v1 : Int32} {K : Int32 → yS → Prop} (h : yR d 136 4 [some (.ref 97), some (.int v1), some (.int 0), some (.int 0)] [] σ (qI K)) : yR d 136 0 [some (.ref 97), some (.int v1), none, none] [] σ (qI K) := wp_136 6 [4] h
theorem w_136_4 {d : Nat} {σ : yS} {v1 v2 v3 : Int32} {K : Int32 → yS → Prop} (h : (vp_in 0 89 ∧ ((((σ 98 0) ≤ v3) → K v2 σ) ∧ (¬ ((σ 98 0) ≤ v3) → ((¬ (v1 = 0) → ((¬ (v1 = 1) → ((¬ (v1 = 2) → (vp_in v3 8 ∧ yR d 136 4 [some (.ref 97), some (.int v1), some (.int (v2 + (σ 116 v3.toNatClampNeg))), some (.int (v3 + 1))] [] σ (qI K))) ∧ ((v1 = 2) → (vp_in v3 8 ∧ ((((σ 117 v3.toNatClampNeg) = 0) → yR d 136 4 [some (.ref 97), some (.int v1), some (.int (v2 + 0)), some (.int (v3 + 1))] [] σ (qI K)) ∧ (¬ ((σ 117 v3.toNatClampNeg) = 0) → yR d 136 4 [some (.ref 97), some (.int v1), some (.int (v2 + 1)), some (.int (v3 + 1))] [] σ (qI K))))))) ∧ ((v1 = 1) → (vp_in v3 8 ∧ ((¬ ((σ 115 v3.toNatClampNeg) = 0) → yR d 136 4 [some (.ref 97), some (.int v1), some (.int (v2 + 0)), some (.int (v3 + 1))] [] σ (qI K)) ∧ (((σ 115 v3.toNatClampNeg) = 0) → yR d 136 4 [some (.ref 97), some (.int v1), some (.int (v2 + 1)), some (.int (v3 + 1))] [] σ (qI K))))))) ∧ ((v1 = 0) → (vp_in v3 8 ∧ yR d 136 4 [some (.ref 97), some (.int v1), some (.int (v2 + (σ 115 v3.toNatClampNeg))), some (.int (v3 + 1))] [] σ (qI K)))))))) : yR d 136 4 [some (.ref 97), some (.int v1), some (.int v2), some (.int v3)] [] σ (qI K) := wp_136 28 [4] (show (vp_in 0 89 ∧ ((((σ 98 0) ≤ v3) → K v2 σ) ∧ (¬ ((σ 98 0) ≤ v3) → ((¬ (v1 = 0) → ((¬ (v1 = 1) → ((¬ (v1 = 2) → (vp_in v3 8 ∧ yR d 136 4 [some (.ref 97), some (.int v1), some (.int (v2 + (σ 116 v3.toNatClampNeg))), some (.int (v3 + 1))] [] σ (qI K))) ∧ ((v1 = 2) → (vp_in v3 8 ∧ ((((σ 117 v3.toNatClampNeg) = 0) → yR d 136 4 [some (.ref 97), some (.int v1), some (.int (v2 + 0)), some (.int (v3 + 1))] [] σ (qI K)) ∧ (¬ ((σ 117 v3.toNatClampNeg) = 0) → yR d 136 4 [some (.ref 97), some (.int v1), some (.int (v2 + 1)), some (.int (v3 + 1))] [] σ (qI K))))))) ∧ ((v1 = 1) → (vp_in v3 8 ∧ ((¬ ((σ 115 v3.toNatClampNeg) = 0) → yR d 136 4 [some (.ref 97), some (.int v1), some (.int (v2 + 0)), some (.int (v3 + 1))] [] σ (qI K)) ∧ (((σ 115 v3.toNatClampNeg) = 0) → yR d 136 4 [some (.ref 97), some (.int v1), some (.int (v2 + 1)), some (.int (v3 + 1))] [] σ (qI K))))))) ∧ ((v1 = 0) → (vp_in v3 8 ∧ yR d 136 4 [some (.ref 97), some (.int v1), some (.int (v2 + (σ 115 v3.toNatClampNeg))), some (.int (v3 + 1))] [] σ (qI K))))))) from ⟨h.1, ⟨fun q1 => (h.2.1 q1), fun q1 => ⟨fun q2 => ⟨fun q3 => ⟨fun q4 => ⟨((((h.2.2 q1).1 q2).1 q3).1 q4).1, ((((h.2.2 q1).1 q2).1 q3).1 q4).2⟩, fun q4 => ⟨((((h.2.2 q1).1 q2).1 q3).2 q4).1, ⟨fun q5 => (((((h.2.2 q1).1 q2).1 q3).2 q4).2.1 q5), fun q5 => (((((h.2.2 q1).1 q2).1 q3).2 q4).2.2 q5)⟩⟩⟩, fun q3 => ⟨(((h.2.2 q1).1 q2).2 q3).1, ⟨fun q6 => ((((h.2.2 q1).1 q2).2 q3).2.1 q6), fun q6 => ((((h.2.2 q1).1 q2).2 q3).2.2 q6)⟩⟩⟩, fun q2 => ⟨((h.2.2 q1).2 q2).1, ((h.2.2 q1).2 q2).2⟩⟩⟩⟩)
theorem w_137_0 {d : Nat} {σ : yS} {v1 : Int32} {K : Int32 → yS → Prop} (h : yR d 80 0 [some (.int v1), some (.int 0), some (.int 3)] [] σ (qI (fun x1 σ1 => ((¬ (x1 = 0) → yR d 135 0 [some (.ref 97), none] [] σ1 (qV (fun σ2 => yR d 136 0 [some (.ref 97), some (.int v1), none, none] [] σ2 (qI (fun x3 σ3 => K x3 σ3))))) ∧ ((x1 = 0) → yR d 81 0 [some (.ref 97), some (.int (-2000000))] [] σ1 (qI (fun x4 σ4 => K x4 σ4))))))) : yR (d + 1) 137 0 [some (.ref 97), some (.int v1)] [] σ (qI K) := wp_137 12 [] (show yR d 80 0 [some (.int v1), some (.int 0), some (.int 3)] [] σ (qI (fun x1 σ1 => ((¬ (x1 = 0) → yR d 135 0 [some (.ref 97), none] [] σ1 (qV (fun σ2 => yR d 136 0 [some (.ref 97), some (.int v1), none, none] [] σ2 (qI (fun x3 σ3 => K x3 σ3))))) ∧ ((x1 = 0) → yR d 81 0 [some (.ref 97), some (.int (-2000000))] [] σ1 (qI (fun x4 σ4 => K x4 σ4)))))) from (yR.mono h (qI_mono (fun x1 σ1 q1 => ⟨fun q2 => (q1.1 q2), fun q2 => (q1.2 q2)⟩))))
theorem w_138_0 {d : Nat} {σ : yS} {v1 : Int32} {K : Int32 → yS → Prop} (h : (((0 ≤ v1) → yR d 135 0 [some (.ref 97), none] [] σ (qV (fun σ1 => ((((σ1 97 33) ≤ v1) → K (-1999999) σ1) ∧ (¬ ((σ1 97 33) ≤ v1) → (vp_in v1 240 ∧ K (σ1 114 v1.toNatClampNeg) σ1)))))) ∧ (¬ (0 ≤ v1) → yR d 81 0 [some (.ref 97), some (.int (-2000000))] [] σ (qI (fun x2 σ2 => K x2 σ2))))) : yR (d + 1) 138 0 [some (.ref 97), some (.int v1)] [] σ (qI K) := wp_138 15 [] (show (((0 ≤ v1) → yR d 135 0 [some (.ref 97), none] [] σ (qV (fun σ1 => ((((σ1 97 33) ≤ v1) → K (-1999999) σ1) ∧ (¬ ((σ1 97 33) ≤ v1) → (vp_in v1 240 ∧ K (σ1 114 v1.toNatClampNeg) σ1)))))) ∧ (¬ (0 ≤ v1) → yR d 81 0 [some (.ref 97), some (.int (-2000000))] [] σ (qI (fun x2 σ2 => K x2 σ2)))) from ⟨fun q1 => (yR.mono (h.1 q1) (qV_mono (fun σ1 q2 => ⟨fun q3 => (q2.1 q3), fun q3 => ⟨(q2.2 q3).1, (q2.2 q3).2⟩⟩))), fun q1 => (h.2 q1)⟩)
theorem w_139_0 {d : Nat} {σ : yS} {v1 v2 : Int32} {K : Int32 → yS → Prop} (h : (((3 ≤ v2) → yR d 139 52 [some (.ref 97), some (.int v1), some (.int v2), some (.int 0), some (.int 0)] [] σ (qI K)) ∧ (¬ (3 ≤ v2) → ((¬ (v2 = 0) → ((¬ (v2 = 1) → (vp_in v1 8 ∧ ((((σ 117 v1.toNatClampNeg) = 0) → K 0 σ) ∧ (¬ ((σ 117 v1.toNatClampNeg) = 0) → K 1 σ)))) ∧ ((v2 = 1) → (vp_in v1 8 ∧ K (σ 116 v1.toNatClampNeg) σ)))) ∧ ((v2 = 0) → (vp_in v1 8 ∧ K (σ 115 v1.toNatClampNeg) σ)))))) : yR d 139 0 [some (.ref 97), some (.int v1), some (.int v2), none, none] [] σ (qI K) := wp_139 17 [52] (show (((3 ≤ v2) → yR d 139 52 [some (.ref 97), some (.int v1), some (.int v2), some (.int 0), some (.int 0)] [] σ (qI K)) ∧ (¬ (3 ≤ v2) → ((¬ (v2 = 0) → ((¬ (v2 = 1) → (vp_in v1 8 ∧ ((((σ 117 v1.toNatClampNeg) = 0) → K 0 σ) ∧ (¬ ((σ 117 v1.toNatClampNeg) = 0) → K 1 σ)))) ∧ ((v2 = 1) → (vp_in v1 8 ∧ K (σ 116 v1.toNatClampNeg) σ)))) ∧ ((v2 = 0) → (vp_in v1 8 ∧ K (σ 115 v1.toNatClampNeg) σ))))) from ⟨fun q1 => (h.1 q1), fun q1 => ⟨fun q2 => ⟨fun q3 => ⟨(((h.2 q1).1 q2).1 q3).1, ⟨fun q4 => ((((h.2 q1).1 q2).1 q3).2.1 q4), fun q4 => ((((h.2 q1).1 q2).1 q3).2.2 q4)⟩⟩, fun q3 => ⟨(((h.2 q1).1 q2).2 q3).1, (((h.2 q1).1 q2).2 q3).2⟩⟩, fun q2 => ⟨((h.2 q1).2 q2).1, ((h.2 q1).2 q2).2⟩⟩⟩)
theorem w_139_52 {d : Nat} {σ : yS} {v1 v2 v3 v4 : Int32} {K : Int32 → yS → Prop} (h : (((v1 < v4) → (vp_in v1 8 ∧ ((¬ ((σ 115 v1.toNatClampNeg) = 0) → (vp_in (v3 - 1) 240 ∧ K (σ 114 (v3 - 1).toNatClampNeg) σ)) ∧ (((σ 115 v1.toNatClampNeg) = 0) → K (-1999999) σ)))) ∧ (¬ (v1 < v4) → (vp_in v4 8 ∧ yR d 139 52 [some (.ref 97), some (.int v1), some (.int v2), some (.int (v3 + (σ 115 v4.toNatClampNeg))), some (.int (v4 + 1))] [] σ (qI K))))) : yR d 139 52 [some (.ref 97), some (.int v1), some (.int v2), some (.int v3), some (.int v4)] [] σ (qI K) := wp_139 16 [52] (show (((v1 < v4) → (vp_in v1 8 ∧ ((¬ ((σ 115 v1.toNatClampNeg) = 0) → (vp_in (v3 - 1) 240 ∧ K (σ 114 (v3 - 1).toNatClampNeg) σ)) ∧ (((σ 115 v1.toNatClampNeg) = 0) → K (-1999999) σ)))) ∧ (¬ (v1 < v4) → (vp_in v4 8 ∧ yR d 139 52 [some (.ref 97), some (.int v1), some (.int v2), some (.int (v3 + (σ 115 v4.toNatClampNeg))), some (.int (v4 + 1))] [] σ (qI K)))) from ⟨fun q1 => ⟨(h.1 q1).1, ⟨fun q2 => ⟨((h.1 q1).2.1 q2).1, ((h.1 q1).2.1 q2).2⟩, fun q2 => ((h.1 q1).2.2 q2)⟩⟩, fun q1 => ⟨(h.2 q1).1, (h.2 q1).2⟩⟩)
theorem w_140_0 {d : Nat} {σ : yS} {v1 v2 : Int32} {K : Int32 → yS → Prop} (h : yR d 93 0 [some (.ref 97), some (.int v1)] [] σ (qI (fun x1 σ1 => (((x1 = 0) → yR d 81 0 [some (.ref 97), some (.int (-2000000))] [] σ1 (qI (fun x2 σ2 => K x2 σ2))) ∧ (¬ (x1 = 0) → yR d 80 0 [some (.int v2), some (.int 0), some (.int 3)] [] σ1 (qI (fun x3 σ3 => ((¬ (x3 = 0) → yR d 135 0 [some (.ref 97), none] [] σ3 (qV (fun σ4 => yR d 139 0 [some (.ref 97), some (.int v1), some (.int v2), none, none] [] σ4 (qI (fun x5 σ5 => K x5 σ5))))) ∧ ((x3 = 0) → yR d 81 0 [some (.ref 97), some (.int (-2000000))] [] σ3 (qI (fun x6 σ6 => K x6 σ6))))))))))) : yR (d + 1) 140 0 [some (.ref 97), some (.int v1), some (.int v2)] [] σ (qI K) := wp_140 17 [] (show yR d 93 0 [some (.ref 97), some (.int v1)] [] σ (qI (fun x1 σ1 => (((x1 = 0) → yR d 81 0 [some (.ref 97), some (.int (-2000000))] [] σ1 (qI (fun x2 σ2 => K x2 σ2))) ∧ (¬ (x1 = 0) → yR d 80 0 [some (.int v2), some (.int 0), some (.int 3)] [] σ1 (qI (fun x3 σ3 => ((¬ (x3 = 0) → yR d 135 0 [some (.ref 97), none] [] σ3 (qV (fun σ4 => yR d 139 0 [some (.ref 97), some (.int v1), some (.int v2), none, none] [] σ4 (qI (fun x5 σ5 => K x5 σ5))))) ∧ ((x3 = 0) → yR d 81 0 [some (.ref 97), some (.int (-2000000))] [] σ3 (qI (fun x6 σ6 => K x6 σ6)))))))))) from (yR.mono h (qI_mono (fun x1 σ1 q1 => ⟨fun q2 => (q1.1 q2), fun q2 => (yR.mono (q1.2 q2) (qI_mono (fun x3 σ3 q4 => ⟨fun q5 => (q4.1 q5), fun q5 => (q4.2 q5)⟩)))⟩))))
theorem w_141_0 {d : Nat} {σ : yS} {v1 : Int32} {K : Int32 → yS → Prop} (h : yR d 80 0 [some (.int v1), some (.int 0), some (.int 3)] [] σ (qI (fun x1 σ1 => ((¬ (x1 = 0) → yR d 135 0 [some (.ref 97), none] [] σ1 (qV (fun σ2 => (vp_in v1 4 ∧ K (σ2 112 v1.toNatClampNeg) σ2)))) ∧ ((x1 = 0) → yR d 81 0 [some (.ref 97), some (.int (-2000000))] [] σ1 (qI (fun x3 σ3 => K x3 σ3))))))) : yR (d + 1) 141 0 [some (.ref 97), some (.int v1)] [] σ (qI K) := wp_141 13 [] (show yR d 80 0 [some (.int v1), some (.int 0), some (.int 3)] [] σ (qI (fun x1 σ1 => ((¬ (x1 = 0) → yR d 135 0 [some (.ref 97), none] [] σ1 (qV (fun σ2 => (vp_in v1 4 ∧ K (σ2 112 v1.toNatClampNeg) σ2)))) ∧ ((x1 = 0) → yR d 81 0 [some (.ref 97), some (.int (-2000000))] [] σ1 (qI (fun x3 σ3 => K x3 σ3)))))) from (yR.mono h (qI_mono (fun x1 σ1 q1 => ⟨fun q2 => (yR.mono (q1.1 q2) (qV_mono (fun σ2 q3 => ⟨q3.1, q3.2⟩))), fun q2 => (q1.2 q2)⟩))))
theorem w_142_0 {d : Nat} {σ : yS} {v1 v2 : Int32} {K : Int32 → yS → Prop} (h : yR d 93 0 [some (.ref 97), some (.int v1)] [] σ (qI (fun x1 σ1 => (((x1 = 0) → yR d 81 0 [some (.ref 97), some (.int (-2000000))] [] σ1 (qI (fun x2 σ2 => K x2 σ2))) ∧ (¬ (x1 = 0) → (((0 ≤ v2) → yR d 134 0 [some (.ref 97), none] [] σ1 (qV (fun σ3 => yR d 133 0 [some (.ref 97), some (.int v1), some (.int 1), none, none] [] σ3 (qV (fun σ4 => ((((σ4 97 33) ≤ v2) → K (-1999999) σ4) ∧ (¬ ((σ4 97 33) ≤ v2) → (vp_in v2 240 ∧ K (σ4 114 v2.toNatClampNeg) σ4)))))))) ∧ (¬ (0 ≤ v2) → yR d 81 0 [some (.ref 97), some (.int (-2000000))] [] σ1 (qI (fun x5 σ5 => K x5 σ5))))))))) : yR (d + 1) 142 0 [some (.ref 97), some (.int v1), some (.int v2)] [] σ (qI K) := wp_142 23 [] (show yR d 93 0 [some (.ref 97), some (.int v1)] [] σ (qI (fun x1 σ1 => (((x1 = 0) → yR d 81 0 [some (.ref 97), some (.int (-2000000))] [] σ1 (qI (fun x2 σ2 => K x2 σ2))) ∧ (¬ (x1 = 0) → (((0 ≤ v2) → yR d 134 0 [some (.ref 97), none] [] σ1 (qV (fun σ3 => yR d 133 0 [some (.ref 97), some (.int v1), some (.int 1), none, none] [] σ3 (qV (fun σ4 => ((((σ4 97 33) ≤ v2) → K (-1999999) σ4) ∧ (¬ ((σ4 97 33) ≤ v2) → (vp_in v2 240 ∧ K (σ4 114 v2.toNatClampNeg) σ4)))))))) ∧ (¬ (0 ≤ v2) → yR d 81 0 [some (.ref 97), some (.int (-2000000))] [] σ1 (qI (fun x5 σ5 => K x5 σ5)))))))) from (yR.mono h (qI_mono (fun x1 σ1 q1 => ⟨fun q2 => (q1.1 q2), fun q2 => ⟨fun q4 => (yR.mono ((q1.2 q2).1 q4) (qV_mono (fun σ3 q5 => (yR.mono q5 (qV_mono (fun σ4 q6 => ⟨fun q7 => (q6.1 q7), fun q7 => ⟨(q6.2 q7).1, (q6.2 q7).2⟩⟩)))))), fun q4 => ((q1.2 q2).2 q4)⟩⟩))))
theorem w_143_0 {d : Nat} {σ : yS} {v1 : Int32} {K : Int32 → yS → Prop} (h : (((3 ≤ v1) → ((¬ (v1 = 3) → ((¬ (v1 = 4) → ((¬ (v1 = 5) → K (σ 97 3) σ) ∧ ((v1 = 5) → yR d 92 0 [some (.ref 97)] [] σ (qI (fun x1 σ1 => K x1 σ1))))) ∧ ((v1 = 4) → (vp_in 0 89 ∧ K (σ 98 0) σ)))) ∧ ((v1 = 3) → K (σ 97 6) σ))) ∧ (¬ (3 ≤ v1) → (vp_in v1 3 ∧ K (σ 101 v1.toNatClampNeg) σ)))) : yR (d + 1) 143 0 [some (.ref 97), some (.int v1)] [] σ (qI K) := wp_143 17 [] (show (((3 ≤ v1) → ((¬ (v1 = 3) → ((¬ (v1 = 4) → ((¬ (v1 = 5) → K (σ 97 3) σ) ∧ ((v1 = 5) → yR d 92 0 [some (.ref 97)] [] σ (qI (fun x1 σ1 => K x1 σ1))))) ∧ ((v1 = 4) → (vp_in 0 89 ∧ K (σ 98 0) σ)))) ∧ ((v1 = 3) → K (σ 97 6) σ))) ∧ (¬ (3 ≤ v1) → (vp_in v1 3 ∧ K (σ 101 v1.toNatClampNeg) σ))) from ⟨fun q1 => ⟨fun q2 => ⟨fun q3 => ⟨fun q4 => ((((h.1 q1).1 q2).1 q3).1 q4), fun q4 => ((((h.1 q1).1 q2).1 q3).2 q4)⟩, fun q3 => ⟨(((h.1 q1).1 q2).2 q3).1, (((h.1 q1).1 q2).2 q3).2⟩⟩, fun q2 => ((h.1 q1).2 q2)⟩, fun q1 => ⟨(h.2 q1).1, (h.2 q1).2⟩⟩)
theorem w_144_0 {d : Nat} {σ : yS} {v1 : Int32} {K : Int32 → yS → Prop} (h : yR d 80 0 [some (.int v1), some (.int 0), some (.int 6)] [] σ (qI (fun x1 σ1 => (((x1 = 0) → yR d 81 0 [some (.ref 97), some (.int (-2000000))] [] σ1 (qI (fun x2 σ2 => K x2 σ2))) ∧ (¬ (x1 = 0) → yR d 143 0 [some (.ref 97), some (.int v1)] [] σ1 (qI (fun x3 σ3 => K x3 σ3))))))) : yR (d + 1) 144 0 [some (.ref 97), some (.int v1)] [] σ (qI K) := wp_144 11 [] (show yR d 80 0 [some (.int v1), some (.int 0), some (.int 6)] [] σ (qI (fun x1 σ1 => (((x1 = 0) → yR d 81 0 [some (.ref 97), some (.int (-2000000))] [] σ1 (qI (fun x2 σ2 => K x2 σ2))) ∧ (¬ (x1 = 0) → yR d 143 0 [some (.ref 97), some (.int v1)] [] σ1 (qI (fun x3 σ3 => K x3 σ3)))))) from (yR.mono h (qI_mono (fun x1 σ1 q1 => ⟨fun q2 => (q1.1 q2), fun q2 => (q1.2 q2)⟩))))
theorem w_145_0 {d : Nat} {σ : yS} {v1 : Int32} {K : yS → Prop} (h : K (sgA σ 97 (upd (upd (σ 97) 37 (lgHi ((31 * (lgOf (σ 97 37) (σ 97 1037))) + (Int32.toInt64 v1)))) 1037 (lgLo ((31 * (lgOf (σ 97 37) (σ 97 1037))) + (Int32.toInt64 v1)))))) : yR d 145 0 [some (.ref 97), some (.int v1)] [] σ (qV K) := wp_145 11 [] h
theorem w_146_0 {d : Nat} {σ : yS} {K : Int64 → yS → Prop} (h : yR (d + 1) 146 9 [some (.ref 97), some (.int 0), none] [] (sgA σ 97 (upd (upd (σ 97) 37 (lgHi 2467)) 1037 (lgLo 2467))) (qL K)) : yR (d + 1) 146 0 [some (.ref 97), none, none] [] σ (qL K) := wp_146 7 [9, 32, 62, 74, 120, 142, 168] h
theorem w_146_9 {d : Nat} {σ : yS} {v1 : Int32} {K : Int64 → yS → Prop} (h : (((7 ≤ v1) → yR (d + 1) 146 32 [some (.ref 97), some (.int 0), none] [] σ (qL K)) ∧ (¬ (7 ≤ v1) → yR d 143 0 [some (.ref 97), some (.int v1)] [] σ (qI (fun x1 σ1 => yR d 145 0 [some (.ref 97), some (.int x1)] [] σ1 (qV (fun σ2 => yR (d + 1) 146 9 [some (.ref 97), some (.int (v1 + 1)), none] [] σ2 (qL K)))))))) : yR (d + 1) 146 9 [some (.ref 97), some (.int v1), none] [] σ (qL K) := wp_146 12 [9, 32, 62, 74, 120, 142, 168] (show (((7 ≤ v1) → yR (d + 1) 146 32 [some (.ref 97), some (.int 0), none] [] σ (qL K)) ∧ (¬ (7 ≤ v1) → yR d 143 0 [some (.ref 97), some (.int v1)] [] σ (qI (fun x1 σ1 => yR d 145 0 [some (.ref 97), some (.int x1)] [] σ1 (qV (fun σ2 => yR (d + 1) 146 9 [some (.ref 97), some (.int (v1 + 1)), none] [] σ2 (qL K))))))) from ⟨fun q1 => (h.1 q1), fun q1 => (h.2 q1)⟩)
theorem w_146_32 {d : Nat} {σ : yS} {v1 : Int32} {K : Int64 → yS → Prop} (h : (((4 ≤ v1) → yR d 135 0 [some (.ref 97), none] [] σ (qV (fun σ1 => yR (d + 1) 146 62 [some (.ref 97), some (.int 0), none] [] σ1 (qL K)))) ∧ (¬ (4 ≤ v1) → (vp_in (85 + v1) 89 ∧ yR d 145 0 [some (.ref 97), some (.int (σ 98 (85 + v1).toNatClampNeg))] [] σ (qV (fun σ2 => yR (d + 1) 146 32 [some (.ref 97), some (.int (v1 + 1)), none] [] σ2 (qL K))))))) : yR (d + 1) 146 32 [some (.ref 97), some (.int v1), none] [] σ (qL K) := wp_146 15 [9, 32, 62, 74, 120, 142, 168] (show (((4 ≤ v1) → yR d 135 0 [some (.ref 97), none] [] σ (qV (fun σ1 => yR (d + 1) 146 62 [some (.ref 97), some (.int 0), none] [] σ1 (qL K)))) ∧ (¬ (4 ≤ v1) → (vp_in (85 + v1) 89 ∧ yR d 145 0 [some (.ref 97), some (.int (σ 98 (85 + v1).toNatClampNeg))] [] σ (qV (fun σ2 => yR (d + 1) 146 32 [some (.ref 97), some (.int (v1 + 1)), none] [] σ2 (qL K)))))) from ⟨fun q1 => (h.1 q1), fun q1 => ⟨(h.2 q1).1, (h.2 q1).2⟩⟩)
theorem w_146_62 {d : Nat} {σ : yS} {v1 : Int32} {K : Int64 → yS → Prop} (h : (vp_in 0 89 ∧ ((((σ 98 0) ≤ v1) → yR (d + 1) 146 120 [some (.ref 97), some (.int 0), none] [] σ (qL K)) ∧ (¬ ((σ 98 0) ≤ v1) → yR (d + 1) 146 74 [some (.ref 97), some (.int v1), some (.int 0)] [] σ (qL K))))) : yR (d + 1) 146 62 [some (.ref 97), some (.int v1), none] [] σ (qL K) := wp_146 10 [9, 32, 62, 74, 120, 142, 168] (show (vp_in 0 89 ∧ ((((σ 98 0) ≤ v1) → yR (d + 1) 146 120 [some (.ref 97), some (.int 0), none] [] σ (qL K)) ∧ (¬ ((σ 98 0) ≤ v1) → yR (d + 1) 146 74 [some (.ref 97), some (.int v1), some (.int 0)] [] σ (qL K)))) from ⟨h.1, ⟨fun q1 => (h.2.1 q1), fun q1 => (h.2.2 q1)⟩⟩)
theorem w_146_74 {d : Nat} {σ : yS} {v1 v2 : Int32} {K : Int64 → yS → Prop} (h : (((8 ≤ v2) → yR (d + 1) 146 62 [some (.ref 97), some (.int (v1 + 1)), none] [] σ (qL K)) ∧ (¬ (8 ≤ v2) → (((4 ≤ v2) → yR d 139 0 [some (.ref 97), some (.int v1), some (.int (v2 - 4)), none, none] [] σ (qI (fun x1 σ1 => yR d 145 0 [some (.ref 97), some (.int x1)] [] σ1 (qV (fun σ2 => yR (d + 1) 146 74 [some (.ref 97), some (.int v1), some (.int (v2 + 1))] [] σ2 (qL K)))))) ∧ (¬ (4 ≤ v2) → yR d 117 0 [some (.ref 97), some (.int v1), some (.int v2), none, none, none, none] [] σ (qI (fun x3 σ3 => yR d 145 0 [some (.ref 97), some (.int x3)] [] σ3 (qV (fun σ4 => yR (d + 1) 146 74 [some (.ref 97), some (.int v1), some (.int (v2 + 1))] [] σ4 (qL K)))))))))) : yR (d + 1) 146 74 [some (.ref 97), some (.int v1), some (.int v2)] [] σ (qL K) := wp_146 18 [9, 32, 62, 74, 120, 142, 168] (show (((8 ≤ v2) → yR (d + 1) 146 62 [some (.ref 97), some (.int (v1 + 1)), some (.int v2)] [] σ (qL K)) ∧ (¬ (8 ≤ v2) → (((4 ≤ v2) → yR d 139 0 [some (.ref 97), some (.int v1), some (.int (v2 - 4)), none, none] [] σ (qI (fun x1 σ1 => yR d 145 0 [some (.ref 97), some (.int x1)] [] σ1 (qV (fun σ2 => yR (d + 1) 146 74 [some (.ref 97), some (.int v1), some (.int (v2 + 1))] [] σ2 (qL K)))))) ∧ (¬ (4 ≤ v2) → yR d 117 0 [some (.ref 97), some (.int v1), some (.int v2), none, none, none, none] [] σ (qI (fun x3 σ3 => yR d 145 0 [some (.ref 97), some (.int x3)] [] σ3 (qV (fun σ4 => yR (d + 1) 146 74 [some (.ref 97), some (.int v1), some (.int (v2 + 1))] [] σ4 (qL K))))))))) from ⟨fun q1 => (yR.mask [true, true, false] (h.1 q1)), fun q1 => ⟨fun q2 => ((h.2 q1).1 q2), fun q2 => ((h.2 q1).2 q2)⟩⟩)
theorem w_146_120 {d : Nat} {σ : yS} {v1 : Int32} {K : Int64 → yS → Prop} (h : (((4 ≤ v1) → yR (d + 1) 146 142 [some (.ref 97), some (.int 0), none] [] σ (qL K)) ∧ (¬ (4 ≤ v1) → yR d 136 0 [some (.ref 97), some (.int v1), none, none] [] σ (qI (fun x1 σ1 => yR d 145 0 [some (.ref 97), some (.int x1)] [] σ1 (qV (fun σ2 => yR (d + 1) 146 120 [some (.ref 97), some (.int (v1 + 1)), none] [] σ2 (qL K)))))))) : yR (d + 1) 146 120 [some (.ref 97), some (.int v1), none] [] σ (qL K) := wp_146 12 [9, 32, 62, 74, 120, 142, 168] (show (((4 ≤ v1) → yR (d + 1) 146 142 [some (.ref 97), some (.int 0), none] [] σ (qL K)) ∧ (¬ (4 ≤ v1) → yR d 136 0 [some (.ref 97), some (.int v1), none, none] [] σ (qI (fun x1 σ1 => yR d 145 0 [some (.ref 97), some (.int x1)] [] σ1 (qV (fun σ2 => yR (d + 1) 146 120 [some (.ref 97), some (.int (v1 + 1)), none] [] σ2 (qL K))))))) from ⟨fun q1 => (h.1 q1), fun q1 => (h.2 q1)⟩)
theorem w_146_142 {d : Nat} {σ : yS} {v1 : Int32} {K : Int64 → yS → Prop} (h : ((((σ 97 33) ≤ v1) → yR (d + 1) 146 168 [some (.ref 97), some (.int 0), none] [] σ (qL K)) ∧ (¬ ((σ 97 33) ≤ v1) → (vp_in v1 240 ∧ yR d 145 0 [some (.ref 97), some (.int (σ 114 v1.toNatClampNeg))] [] σ (qV (fun σ1 => yR (d + 1) 146 142 [some (.ref 97), some (.int (v1 + 1)), none] [] σ1 (qL K))))))) : yR (d + 1) 146 142 [some (.ref 97), some (.int v1), none] [] σ (qL K) := wp_146 14 [9, 32, 62, 74, 120, 142, 168] (show ((((σ 97 33) ≤ v1) → yR (d + 1) 146 168 [some (.ref 97), some (.int 0), none] [] σ (qL K)) ∧ (¬ ((σ 97 33) ≤ v1) → (vp_in v1 240 ∧ yR d 145 0 [some (.ref 97), some (.int (σ 114 v1.toNatClampNeg))] [] σ (qV (fun σ1 => yR (d + 1) 146 142 [some (.ref 97), some (.int (v1 + 1)), none] [] σ1 (qL K)))))) from ⟨fun q1 => (h.1 q1), fun q1 => ⟨(h.2 q1).1, (h.2 q1).2⟩⟩)
theorem w_146_168 {d : Nat} {σ : yS} {v1 : Int32} {K : Int64 → yS → Prop} (h : (((4 ≤ v1) → K (lgOf (σ 97 37) (σ 97 1037)) σ) ∧ (¬ (4 ≤ v1) → (vp_in v1 4 ∧ yR d 145 0 [some (.ref 97), some (.int (σ 112 v1.toNatClampNeg))] [] σ (qV (fun σ1 => yR (d + 1) 146 168 [some (.ref 97), some (.int (v1 + 1)), none] [] σ1 (qL K))))))) : yR (d + 1) 146 168 [some (.ref 97), some (.int v1), none] [] σ (qL K) := wp_146 13 [9, 32, 62, 74, 120, 142, 168] (show (((4 ≤ v1) → K (lgOf (σ 97 37) (σ 97 1037)) σ) ∧ (¬ (4 ≤ v1) → (vp_in v1 4 ∧ yR d 145 0 [some (.ref 97), some (.int (σ 112 v1.toNatClampNeg))] [] σ (qV (fun σ1 => yR (d + 1) 146 168 [some (.ref 97), some (.int (v1 + 1)), none] [] σ1 (qL K)))))) from ⟨fun q1 => (h.1 q1), fun q1 => ⟨(h.2 q1).1, (h.2 q1).2⟩⟩)
end
section
/-! THE CLASS'S MACHINE AS FUNCTIONS of the state (cells 84 .. 89; the program in 3 .. 6) -/
def inN (n : Int32) (k : Nat) : Bool := decide (¬ (n < 0 ∨ k ≤ n.toNatClampNeg))
theorem inN_t {n : Int32} {k : Nat} : inN n k = true ↔ vp_in n k := by unfold inN vp_in; simp
theorem inN_f {n : Int32} {k : Nat} : inN n k = false ↔ ¬ vp_in n k := by unfold inN vp_in; simp
def b2 (b : Bool) : Int32 := if b then 1 else 0
theorem b2_bo (b : Bool) : yBo (b2 b) := by cases b <;> simp [b2, yBo]
theorem b2_t : b2 true = 1 := rfl
theorem b2_f : b2 false = 0 := rfl
theorem one_ne : ¬ (1 : Int32) = 0 := by decide
section SP0
variable {d : Nat} {σ : yS} {K : Int32 → yS → Prop} {KV : yS → Prop}
theorem sp_below {v b : Int32} (h1 : ¬ v < 0 → v < b → K 1 σ) (h0 : (v < 0 ∨ b ≤ v) → K 0 σ) : yR d 76 0 [some (.int v), some (.int b)] [] σ (qI K) := by
  refine w_76_0 ⟨fun q => h0 (Or.inl q), fun q => ⟨fun q2 => h0 (Or.inr q2), fun q2 => h1 q (Int32.not_le.mp q2)⟩⟩
theorem vp_lt {v : Int32} {n : Nat} {b : Int32} (hb : b.toInt = n) : (¬ v < 0 ∧ ¬ b ≤ v) ↔ vp_in v n := by
  rw [vp_in_iff, Int32.lt_iff_toInt_lt, Int32.le_iff_toInt_le, hb, Int32.toInt_zero]
  omega
theorem sp_isNode {v : Int32} (h1 : vp_in v 60 → K 1 σ) (h0 : ¬ vp_in v 60 → K 0 σ) : yR d 77 0 [some (.int v)] [] σ (qI K) := by
  have e : (¬ v < 0 ∧ ¬ (60 : Int32) ≤ v) ↔ vp_in v 60 := vp_lt (by decide)
  exact w_77_0 ⟨fun q => h0 (fun z => (e.mpr z).1 q), fun q => ⟨fun q2 => h0 (fun z => (e.mpr z).2 q2), fun q2 => h1 (e.mp ⟨q, q2⟩)⟩⟩
theorem sp_isName {v : Int32} (h1 : vp_in v 4 → K 1 σ) (h0 : ¬ vp_in v 4 → K 0 σ) : yR d 75 0 [some (.int v)] [] σ (qI K) := by
  have e : (¬ v < 0 ∧ ¬ (4 : Int32) ≤ v) ↔ vp_in v 4 := vp_lt (by decide)
  exact w_75_0 ⟨fun q => h0 (fun z => (e.mpr z).1 q), fun q => ⟨fun q2 => h0 (fun z => (e.mpr z).2 q2), fun q2 => h1 (e.mp ⟨q, q2⟩)⟩⟩
def yieldsC (v : Int32) (σ : yS) : Bool × yS := if σ 84 7 < 1000 then (true, sg (sg σ 84 7 (σ 84 7 + 1)) 84 6 v) else (false, sg σ 84 8 1)
theorem sp_yields {v : Int32} (h : K (b2 (yieldsC v σ).1) (yieldsC v σ).2) : yR d 8 0 [some (.ref 84), some (.int v)] [] σ (qI K) := by
  unfold yieldsC at h
  refine w_8_0 ⟨fun q => ?_, fun q => ?_⟩
  · rw [if_pos q] at h; exact h
  · rw [if_neg q] at h; exact h
def renewC (n : Int32) (σ : yS) : yS := if inN n 60 = true then sg σ 86 n.toNatClampNeg 0 else σ
theorem sp_renew {n : Int32} (h : KV (renewC n σ)) : yR (d + 1) 9 0 [some (.ref 84), some (.int n)] [] σ (qV KV) := by
  unfold renewC at h
  refine w_9_0 (sp_isNode (fun q => ⟨fun q2 => absurd q2 one_ne, fun _ => ⟨q, ?_⟩⟩) (fun q => ⟨fun _ => ?_, fun q2 => absurd rfl q2⟩))
  · rw [if_pos (inN_t.mpr q)] at h; exact h
  · rw [if_neg (by rw [inN_f.mpr q]; decide)] at h; exact h
/-- what a pair makes of both -/
def reckC (k : Int32) (x y : Int64) : Int64 := if k = 42 then x * y else if k = 43 then x + y else if k = 45 then x - y else y
theorem sp_reck {KL : Int64 → yS → Prop} {k : Int32} {x y : Int64} (h : KL (reckC k x y) σ) : yR d 18 0 [some (.int k), some (.long x), none, some (.long y), none] [] σ (qL KL) := by
  unfold reckC at h
  refine w_18_0 ⟨fun q => ?_, fun q => ⟨fun q2 => ?_, fun q2 => ⟨fun q3 => ?_, fun q3 => ⟨fun q4 => ?_, fun q4 => ?_⟩⟩⟩⟩
  · rw [if_pos q] at h; exact h
  · rw [if_neg q, if_pos q2] at h; exact h
  · rw [if_neg q, if_neg q2, if_neg (by rw [q3]; decide)] at h; exact h
  · rw [if_neg q, if_neg q2, if_pos q4] at h; exact h
  · rw [if_neg q, if_neg q2, if_neg q4] at h; exact h
def numC (x : Int64) : Bool := decide (¬ lg_cmp x (-999999) < 0 ∧ ¬ 0 < lg_cmp x 999999)
theorem sp_isNumber {x : Int64} (h : K (b2 (numC x)) σ) : yR d 78 0 [some (.long x), none] [] σ (qI K) := by
  unfold numC at h
  refine w_78_0 ⟨fun q => ?_, fun q => ⟨fun q2 => ?_, fun q2 => ?_⟩⟩
  · rw [decide_eq_false (fun z => z.1 q)] at h; exact h
  · rw [decide_eq_false (fun z => z.2 q2)] at h; exact h
  · rw [decide_eq_true ⟨q, q2⟩] at h; exact h
/-- whether a pair has a result -/
def hasC (k x y : Int32) : Bool := if k = 126 then decide (x ≤ y) else if k = 60 then decide (x < y) else if k = 62 then decide (y < x) else if k = 61 then decide (x = y) else numC (reckC k x.toInt64 y.toInt64)
theorem sp_has {n x y : Int32} (hn : vp_in n 60) (h : K (b2 (hasC (σ 3 n.toNatClampNeg) x y)) σ) : yR (d + 1) 16 0 [some (.ref 84), some (.int n), some (.int x), some (.int y)] [] σ (qI K) := by
  unfold hasC at h
  have e1 : ¬ (60 : Int32) = 126 := by decide
  have e2 : ¬ (61 : Int32) = 126 := by decide
  have e3 : ¬ (62 : Int32) = 126 := by decide
  have e4 : ¬ (61 : Int32) = 60 := by decide
  have e5 : ¬ (62 : Int32) = 60 := by decide
  have e6 : ¬ (61 : Int32) = 62 := by decide
  refine w_16_0 ⟨hn, fun q => ?_, fun q => ⟨fun q2 => ?_, fun q2 => ⟨fun q3 => ?_, fun q3 => ⟨fun q4 => ?_, fun q4 => sp_reck (sp_isNumber ?_)⟩⟩⟩⟩
  · rw [q, if_neg e1, if_pos rfl] at h
    refine ⟨fun z => ?_, fun z => ?_⟩
    · rw [decide_eq_false (Int32.not_lt.mpr z)] at h; exact h
    · rw [decide_eq_true (Int32.not_le.mp z)] at h; exact h
  · rw [q2, if_neg e2, if_neg e4, if_neg e6, if_pos rfl] at h
    refine ⟨fun z => ?_, fun z => ?_⟩
    · rw [decide_eq_false z] at h; exact h
    · rw [decide_eq_true z] at h; exact h
  · rw [q3, if_neg e3, if_neg e5, if_pos rfl] at h
    refine ⟨fun z => ?_, fun z => ?_⟩
    · rw [decide_eq_false (Int32.not_lt.mpr z)] at h; exact h
    · rw [decide_eq_true (Int32.not_le.mp z)] at h; exact h
  · rw [q4, if_pos rfl] at h
    refine ⟨fun z => ?_, fun z => ?_⟩
    · rw [decide_eq_false (Int32.not_le.mpr z)] at h; exact h
    · rw [decide_eq_true (Int32.not_lt.mp z)] at h; exact h
  · rw [if_neg q4, if_neg q, if_neg q3, if_neg q2] at h
    exact ⟨b2_bo _, h⟩
def pairY (n : Nat) (x y : Int32) (σ : yS) : Bool × yS := if σ 3 n = 126 then yieldsC x (sg (sg (sg σ 86 n 3) 89 n x) 88 n y) else yieldsC (reckC (σ 3 n) x.toInt64 y.toInt64).toInt32 σ
theorem sp_pairY {n x y : Int32} (hn : vp_in n 60) (h : K (b2 (pairY n.toNatClampNeg x y σ).1) (pairY n.toNatClampNeg x y σ).2) : yR (d + 1) 17 0 [some (.ref 84), some (.int n), some (.int x), some (.int y)] [] σ (qI K) := by
  unfold pairY at h
  refine w_17_0 ⟨hn, fun q => sp_reck (sp_yields ?_), fun q => sp_yields ?_⟩
  · rw [if_neg q] at h; exact ⟨b2_bo _, h⟩
  · rw [if_pos q] at h; exact ⟨b2_bo _, h⟩
def leafC (i : Nat) (σ : yS) : Bool × yS := if σ 86 i = 0 then (if σ 3 i = 48 then yieldsC (σ 6 i) (sg σ 86 i 4) else if inN (σ 6 i) 4 = true then yieldsC (σ 85 (σ 6 i).toNatClampNeg) (sg σ 86 i 4) else (false, sg σ 86 i 4)) else (false, σ)
theorem sp_leaf {n : Int32} (hn : vp_in n 60) (h : K (b2 (leafC n.toNatClampNeg σ).1) (leafC n.toNatClampNeg σ).2) : yR (d + 1) 10 0 [some (.ref 84), some (.int n), none] [] σ (qI K) := by
  unfold leafC at h
  refine w_10_0 ⟨hn, fun q => ⟨fun q2 => sp_isName (fun q3 => ⟨fun z => absurd z one_ne, fun _ => ⟨q3, sp_yields ?_⟩⟩) (fun q3 => ⟨fun _ => ?_, fun z => absurd rfl z⟩), fun q2 => sp_yields ?_⟩, fun q => ?_⟩
  · rw [if_pos q, if_neg q2, if_pos (inN_t.mpr q3)] at h
    have e : (sg σ 86 n.toNatClampNeg 4) 85 (σ 6 n.toNatClampNeg).toNatClampNeg = σ 85 (σ 6 n.toNatClampNeg).toNatClampNeg := rfl
    rw [e]
    cases hb : (yieldsC (σ 85 (σ 6 n.toNatClampNeg).toNatClampNeg) (sg σ 86 n.toNatClampNeg 4)).1 with
    | true => rw [hb] at h; exact ⟨fun z => absurd z one_ne, fun _ => h⟩
    | false => rw [hb] at h; exact ⟨fun _ => h, fun z => absurd rfl z⟩
  · rw [if_pos q, if_neg q2, if_neg (by rw [inN_f.mpr q3]; decide)] at h; exact h
  · rw [if_pos q, if_pos q2] at h; exact ⟨b2_bo _, h⟩
  · rw [if_neg q] at h; exact h
end SP0
end
section
section ASK
variable {d : Nat} {σ : yS} {K : Int32 → yS → Prop} {A : Int32 → yS → Bool × yS} {n v2 : Int32}
def eithR (A : Int32 → yS → Bool × yS) (i : Nat) (σ : yS) : Bool × yS := if (A (σ 5 i) σ).1 = true then yieldsC ((A (σ 5 i) σ).2 84 6) (A (σ 5 i) σ).2 else (false, (A (σ 5 i) σ).2)
def eithL (A : Int32 → yS → Bool × yS) (i : Nat) (σ : yS) : Bool × yS := if (A (σ 4 i) σ).1 = true then yieldsC ((A (σ 4 i) σ).2 84 6) (A (σ 4 i) σ).2 else eithR A i (renewC ((A (σ 4 i) σ).2 5 i) (sg (A (σ 4 i) σ).2 86 i 2))
def eith2 (A : Int32 → yS → Bool × yS) (i : Nat) (σ : yS) : Bool × yS := if σ 86 i = 1 then eithL A i σ else eithR A i σ
def eithC (A : Int32 → yS → Bool × yS) (i : Nat) (σ : yS) : Bool × yS := if σ 86 i = 0 then eith2 A i (renewC (σ 4 i) (sg σ 86 i 1)) else eith2 A i σ
/-- the asking one deeper -/
def okA (d : Nat) (A : Int32 → yS → Bool × yS) (v : Int32) : Prop := ∀ (n : Int32) (σ : yS) (K : Int32 → yS → Prop), K (b2 (A n σ).1) (A n σ).2 → yR d 7 0 [some (.ref 84), some (.int n), some (.int v)] [] σ (qI K)
theorem br_t1 {P Q : Prop} (h : P) : (¬ ((1 : Int32) = 0) → P) ∧ ((1 : Int32) = 0 → Q) := ⟨fun _ => h, fun z => absurd z one_ne⟩
theorem br_f1 {P Q : Prop} (h : Q) : (¬ ((0 : Int32) = 0) → P) ∧ ((0 : Int32) = 0 → Q) := ⟨fun z => absurd rfl z, fun _ => h⟩
theorem br_t2 {P Q : Prop} (h : Q) : ((1 : Int32) = 0 → P) ∧ (¬ (1 : Int32) = 0 → Q) := ⟨fun z => absurd z one_ne, fun _ => h⟩
theorem br_f2 {P Q : Prop} (h : P) : ((0 : Int32) = 0 → P) ∧ (¬ (0 : Int32) = 0 → Q) := ⟨fun _ => h, fun z => absurd rfl z⟩
theorem sp_yBr {v : Int32} (h : K (b2 (yieldsC v σ).1) (yieldsC v σ).2) : yR d 8 0 [some (.ref 84), some (.int v)] [] σ (qI (fun x τ => ((x = 0) → K 0 τ) ∧ (¬ (x = 0) → K 1 τ))) := by
  refine sp_yields ?_
  cases hb : (yieldsC v σ).1 with
  | true => rw [hb] at h; exact br_t2 h
  | false => rw [hb] at h; exact br_f2 h
theorem sp_eithR (hA : okA d A (v2 + 1)) (h : K (b2 (eithR A n.toNatClampNeg σ).1) (eithR A n.toNatClampNeg σ).2) : yR d 7 0 [some (.ref 84), some (.int (σ 5 n.toNatClampNeg)), some (.int (v2 + 1))] [] σ (qI (fun x1 σ1 => (((x1 = 0) → K 0 σ1) ∧ (¬ (x1 = 0) → yR d 8 0 [some (.ref 84), some (.int (σ1 84 6))] [] σ1 (qI (fun x2 σ2 => (((x2 = 0) → K 0 σ2) ∧ (¬ (x2 = 0) → K 1 σ2)))))))) := by
  refine hA _ _ _ ?_
  unfold eithR at h
  cases hb : (A (σ 5 n.toNatClampNeg) σ).1 with
  | true => rw [hb, if_pos rfl] at h; exact br_t2 (sp_yBr h)
  | false => rw [hb, if_neg (by decide)] at h; exact br_f2 h
theorem sp_either (hA : okA (d + 1) A (v2 + 1)) (hn : vp_in n 60) (h : K (b2 (eithC A n.toNatClampNeg σ).1) (eithC A n.toNatClampNeg σ).2) : yR (d + 1 + 1) 11 0 [some (.ref 84), some (.int n), some (.int v2)] [] σ (qI K) := by
  have left : ∀ τ : yS, K (b2 (eithL A n.toNatClampNeg τ).1) (eithL A n.toNatClampNeg τ).2 → yR (d + 1) 7 0 [some (.ref 84), some (.int (τ 4 n.toNatClampNeg)), some (.int (v2 + 1))] [] τ (qI (fun x3 σ3 => (((x3 = 0) → yR (d + 1) 9 0 [some (.ref 84), some (.int (σ3 5 n.toNatClampNeg))] [] (sg σ3 86 n.toNatClampNeg 2) (qV (fun σ4 => yR (d + 1) 7 0 [some (.ref 84), some (.int (σ4 5 n.toNatClampNeg)), some (.int (v2 + 1))] [] σ4 (qI (fun x5 σ5 => (((x5 = 0) → K 0 σ5) ∧ (¬ (x5 = 0) → yR (d + 1) 8 0 [some (.ref 84), some (.int (σ5 84 6))] [] σ5 (qI (fun x6 σ6 => (((x6 = 0) → K 0 σ6) ∧ (¬ (x6 = 0) → K 1 σ6))))))))))) ∧ (¬ (x3 = 0) → yR (d + 1) 8 0 [some (.ref 84), some (.int (σ3 84 6))] [] σ3 (qI (fun x7 σ7 => (yBo x7 ∧ K x7 σ7))))))) := by
    intro τ h
    refine hA _ _ _ ?_
    unfold eithL at h
    cases hb : (A (τ 4 n.toNatClampNeg) τ).1 with
    | true => rw [hb, if_pos rfl] at h; exact br_t2 (sp_yields ⟨b2_bo _, h⟩)
    | false => rw [hb, if_neg (by decide)] at h; exact br_f2 (sp_renew (sp_eithR hA h))
  unfold eithC at h
  refine w_11_0 ⟨hn, fun q => ?_, fun q => sp_renew ?_⟩
  · rw [if_neg q] at h
    unfold eith2 at h
    refine ⟨fun q2 => ?_, fun q2 => ?_⟩
    · rw [if_neg q2] at h; exact sp_eithR hA h
    · rw [if_pos q2] at h; exact left σ h
  · rw [if_pos q] at h
    unfold eith2 at h
    refine ⟨fun q2 => ?_, fun q2 => ?_⟩
    · rw [if_neg q2] at h; exact sp_eithR hA h
    · rw [if_pos q2] at h; exact left _ h
def frst2 (A : Int32 → yS → Bool × yS) (i : Nat) (σ : yS) : Bool × yS := if σ 6 i ≤ σ 89 i then (false, σ) else if (A (σ 5 i) σ).1 = true then yieldsC ((A (σ 5 i) σ).2 84 6) (sg (A (σ 5 i) σ).2 89 i ((A (σ 5 i) σ).2 89 i + 1)) else (false, (A (σ 5 i) σ).2)
def frstC (A : Int32 → yS → Bool × yS) (i : Nat) (σ : yS) : Bool × yS := if σ 86 i = 0 then frst2 A i (renewC (σ 5 i) (sg (sg σ 86 i 2) 89 i 0)) else frst2 A i σ
theorem sp_first (hA : okA (d + 1) A (v2 + 1)) (hn : vp_in n 60) (h : K (b2 (frstC A n.toNatClampNeg σ).1) (frstC A n.toNatClampNeg σ).2) : yR (d + 1 + 1) 12 0 [some (.ref 84), some (.int n), some (.int v2)] [] σ (qI K) := by
  have go : ∀ τ : yS, K (b2 (frst2 A n.toNatClampNeg τ).1) (frst2 A n.toNatClampNeg τ).2 → ((((τ 6 n.toNatClampNeg) ≤ (τ 89 n.toNatClampNeg)) → K 0 τ) ∧ (¬ ((τ 6 n.toNatClampNeg) ≤ (τ 89 n.toNatClampNeg)) → yR (d + 1) 7 0 [some (.ref 84), some (.int (τ 5 n.toNatClampNeg)), some (.int (v2 + 1))] [] τ (qI (fun x1 σ1 => ((¬ (x1 = 0) → yR (d + 1) 8 0 [some (.ref 84), some (.int (σ1 84 6))] [] (sg σ1 89 n.toNatClampNeg ((σ1 89 n.toNatClampNeg) + 1)) (qI (fun x2 σ2 => (yBo x2 ∧ K x2 σ2)))) ∧ ((x1 = 0) → K 0 σ1)))))) := by
    intro τ h
    unfold frst2 at h
    refine ⟨fun q => ?_, fun q => hA _ _ _ ?_⟩
    · rw [if_pos q] at h; exact h
    · rw [if_neg q] at h
      cases hb : (A (τ 5 n.toNatClampNeg) τ).1 with
      | true => rw [hb, if_pos rfl] at h; exact br_t1 (sp_yields ⟨b2_bo _, h⟩)
      | false => rw [hb, if_neg (by decide)] at h; exact br_f1 h
  unfold frstC at h
  refine w_12_0 ⟨hn, fun q => ?_, fun q => sp_renew ?_⟩
  · rw [if_neg q] at h; exact go σ h
  · rw [if_pos q] at h; exact go _ h
def noneC (A : Int32 → yS → Bool × yS) (i : Nat) (σ : yS) : Bool × yS :=
  if σ 86 i = 0 then (if (A (renewC (σ 5 i) (sg σ 86 i 4) 5 i) (renewC (σ 5 i) (sg σ 86 i 4))).1 = true then (false, (A (renewC (σ 5 i) (sg σ 86 i 4) 5 i) (renewC (σ 5 i) (sg σ 86 i 4))).2) else yieldsC 0 (A (renewC (σ 5 i) (sg σ 86 i 4) 5 i) (renewC (σ 5 i) (sg σ 86 i 4))).2) else (false, σ)
theorem sp_none (hA : okA (d + 1) A (v2 + 1)) (hn : vp_in n 60) (h : K (b2 (noneC A n.toNatClampNeg σ).1) (noneC A n.toNatClampNeg σ).2) : yR (d + 1 + 1) 13 0 [some (.ref 84), some (.int n), some (.int v2)] [] σ (qI K) := by
  unfold noneC at h
  refine w_13_0 ⟨hn, fun q => sp_renew (hA _ _ _ ?_), fun q => ?_⟩
  · rw [if_pos q] at h
    generalize renewC (σ 5 n.toNatClampNeg) (sg σ 86 n.toNatClampNeg 4) = τ at h ⊢
    cases hb : (A (τ 5 n.toNatClampNeg) τ).1 with
    | true => rw [hb, if_pos rfl] at h; exact br_t1 h
    | false => rw [hb, if_neg (by decide)] at h; exact br_f1 (sp_yBr h)
  · rw [if_neg q] at h; exact h
def targ2 (A : Int32 → yS → Bool × yS) (i : Nat) (x : Int32) (σ : yS) : Bool × yS :=
  if (A (σ 5 i) (sg σ 86 i 2)).1 = true then yieldsC ((A (σ 5 i) (sg σ 86 i 2)).2 84 6) (sg (sg (A (σ 5 i) (sg σ 86 i 2)).2 89 i ((A (σ 5 i) (sg σ 86 i 2)).2 85 x.toNatClampNeg)) 85 x.toNatClampNeg ((A (σ 5 i) (sg σ 86 i 2)).2 84 6)) else (false, (A (σ 5 i) (sg σ 86 i 2)).2)
def targC (A : Int32 → yS → Bool × yS) (i : Nat) (σ : yS) : Bool × yS :=
  if inN (σ 6 i) 4 = true then (if σ 86 i = 0 then targ2 A i (σ 6 i) (renewC (σ 5 i) σ) else if σ 3 i = 94 then targ2 A i (σ 6 i) (sg σ 85 (σ 6 i).toNatClampNeg (σ 89 i)) else targ2 A i (σ 6 i) σ) else (false, σ)
theorem sp_targ (hA : okA (d + 1) A (v2 + 1)) (hn : vp_in n 60) (h : K (b2 (targC A n.toNatClampNeg σ).1) (targC A n.toNatClampNeg σ).2) : yR (d + 1 + 1) 14 0 [some (.ref 84), some (.int n), some (.int v2), none] [] σ (qI K) := by
  have go : ∀ (τ : yS) (x : Int32), vp_in x 4 → K (b2 (targ2 A n.toNatClampNeg x τ).1) (targ2 A n.toNatClampNeg x τ).2 → yR (d + 1) 7 0 [some (.ref 84), some (.int (τ 5 n.toNatClampNeg)), some (.int (v2 + 1))] [] (sg τ 86 n.toNatClampNeg 2) (qI (fun x2 σ2 => ((¬ (x2 = 0) → (vp_in x 4 ∧ yR (d + 1) 8 0 [some (.ref 84), some (.int (σ2 84 6))] [] (sg (sg σ2 89 n.toNatClampNeg (σ2 85 x.toNatClampNeg)) 85 x.toNatClampNeg (σ2 84 6)) (qI (fun x3 σ3 => (yBo x3 ∧ K x3 σ3))))) ∧ ((x2 = 0) → K 0 σ2)))) := by
    intro τ x hx h
    refine hA _ _ _ ?_
    unfold targ2 at h
    cases hb : (A (τ 5 n.toNatClampNeg) (sg τ 86 n.toNatClampNeg 2)).1 with
    | true => rw [hb, if_pos rfl] at h; exact br_t1 ⟨hx, sp_yields ⟨b2_bo _, h⟩⟩
    | false => rw [hb, if_neg (by decide)] at h; exact br_f1 h
  unfold targC at h
  refine w_14_0 ⟨hn, sp_isName (fun q => br_t1 ?_) (fun q => br_f1 ?_)⟩
  · rw [if_pos (inN_t.mpr q)] at h
    refine ⟨fun q2 => ⟨fun q3 => ?_, fun q3 => ⟨q, ?_⟩⟩, fun q2 => sp_renew ?_⟩
    · rw [if_neg q2, if_neg q3] at h; exact go σ _ q h
    · rw [if_neg q2, if_pos q3] at h
      refine (go (sg σ 85 (σ 6 n.toNatClampNeg).toNatClampNeg (σ 89 n.toNatClampNeg)) _ q h).mono (qI_mono fun x τ hx => ⟨fun z => (hx.1 z).2, hx.2⟩)
    · rw [if_pos q2] at h; exact go _ _ q h
  · rw [if_neg (by rw [inN_f.mpr q]; decide)] at h; exact h
end ASK
end
section
section PAIR
variable {d : Nat} {σ : yS} {K : Int32 → yS → Prop} {A : Int32 → yS → Bool × yS} {n v2 : Int32}
def pairR (A : Int32 → yS → Bool × yS) (i : Nat) (G : yS → Bool × yS) (σ : yS) : Bool × yS :=
  if (A (σ 5 i) σ).1 = true then (if hasC ((A (σ 5 i) σ).2 3 i) ((A (σ 5 i) σ).2 87 i) ((A (σ 5 i) σ).2 84 6) = true then pairY i ((A (σ 5 i) σ).2 87 i) ((A (σ 5 i) σ).2 84 6) (A (σ 5 i) σ).2 else G (A (σ 5 i) σ).2) else G (sg (A (σ 5 i) σ).2 86 i 1)
def pairL (A : Int32 → yS → Bool × yS) (i : Nat) : Nat → yS → Bool × yS
  | 0, σ => (false, σ)
  | m + 1, σ => if σ 86 i = 1 then (if (A (σ 4 i) σ).1 = true then pairR A i (pairL A i m) (renewC ((A (σ 4 i) σ).2 5 i) (sg (sg (A (σ 4 i) σ).2 87 i ((A (σ 4 i) σ).2 84 6)) 86 i 2)) else (false, (A (σ 4 i) σ).2)) else pairR A i (pairL A i m) σ
def pairE (A : Int32 → yS → Bool × yS) (i : Nat) (σ : yS) : Bool × yS := if σ 86 i = 3 then (if σ 88 i ≤ σ 89 i then pairL A i 2002 (sg σ 86 i 2) else yieldsC ((sg σ 89 i (σ 89 i + 1)) 89 i) (sg σ 89 i (σ 89 i + 1))) else pairL A i 2002 σ
def pairC (A : Int32 → yS → Bool × yS) (i : Nat) (σ : yS) : Bool × yS := if σ 86 i = 0 then pairE A i (renewC (σ 4 i) (sg σ 86 i 1)) else pairE A i σ
theorem sp_pairL (hA : okA (d + 1) A (v2 + 1)) (hn : vp_in n 60) : ∀ (m j : Nat), j + m = 2002 → ∀ (σ : yS), K (b2 (pairL A n.toNatClampNeg m σ).1) (pairL A n.toNatClampNeg m σ).2 → yR (d + 1 + 1) 15 84 [some (.ref 84), some (.int n), some (.int v2), some (.int (nI j))] [] σ (qI K) := by
  intro m
  induction m with
  | zero =>
    intro j hj σ h
    have e : j = 2002 := by omega
    subst e
    exact w_15_84 ⟨fun _ => h, fun q => absurd (by decide +kernel) q⟩
  | succ m ih =>
    intro j hj σ h
    have hlt : ¬ (2002 : Int32) ≤ nI j := nI_ge (a := j) (b := 2002) (by omega) (by decide)
    have hnx : ∀ τ : yS, K (b2 (pairL A n.toNatClampNeg m τ).1) (pairL A n.toNatClampNeg m τ).2 → yR (d + 1 + 1) 15 84 [some (.ref 84), some (.int n), some (.int v2), some (.int (nI j + 1))] [] τ (qI K) := by
      intro τ hτ
      rw [nI_1]
      exact ih (j + 1) (by omega) τ hτ
    have right : ∀ τ : yS, K (b2 (pairR A n.toNatClampNeg (pairL A n.toNatClampNeg m) τ).1) (pairR A n.toNatClampNeg (pairL A n.toNatClampNeg m) τ).2 → yR (d + 1) 7 0 [some (.ref 84), some (.int (τ 5 n.toNatClampNeg)), some (.int (v2 + 1))] [] τ (qI (fun x1 σ1 => ((¬ (x1 = 0) → yR (d + 1) 16 0 [some (.ref 84), some (.int n), some (.int (σ1 87 n.toNatClampNeg)), some (.int (σ1 84 6))] [] σ1 (qI (fun x2 σ2 => (((x2 = 0) → yR (d + 1 + 1) 15 84 [some (.ref 84), some (.int n), some (.int v2), some (.int (nI j + 1))] [] σ2 (qI K)) ∧ (¬ (x2 = 0) → yR (d + 1) 17 0 [some (.ref 84), some (.int n), some (.int (σ2 87 n.toNatClampNeg)), some (.int (σ2 84 6))] [] σ2 (qI (fun x3 σ3 => (yBo x3 ∧ K x3 σ3)))))))) ∧ ((x1 = 0) → yR (d + 1 + 1) 15 84 [some (.ref 84), some (.int n), some (.int v2), some (.int (nI j + 1))] [] (sg σ1 86 n.toNatClampNeg 1) (qI K))))) := by
      intro τ h
      refine hA _ _ _ ?_
      unfold pairR at h
      cases hb : (A (τ 5 n.toNatClampNeg) τ).1 with
      | true =>
        rw [hb, if_pos rfl] at h
        refine br_t1 (sp_has hn ?_)
        cases hc : hasC ((A (τ 5 n.toNatClampNeg) τ).2 3 n.toNatClampNeg) ((A (τ 5 n.toNatClampNeg) τ).2 87 n.toNatClampNeg) ((A (τ 5 n.toNatClampNeg) τ).2 84 6) with
        | true => rw [hc, if_pos rfl] at h; exact br_t2 (sp_pairY hn ⟨b2_bo _, h⟩)
        | false => rw [hc, if_neg (by decide)] at h; exact br_f2 (hnx _ h)
      | false => rw [hb, if_neg (by decide)] at h; exact br_f1 (hnx _ h)
    unfold pairL at h
    refine w_15_84 ⟨fun q => absurd q hlt, fun _ => ⟨hn, fun q => ?_, fun q => hA _ _ _ ?_⟩⟩
    · rw [if_neg q] at h; exact right σ h
    · rw [if_pos q] at h
      cases hb : (A (σ 4 n.toNatClampNeg) σ).1 with
      | true => rw [hb, if_pos rfl] at h; exact br_t1 (sp_renew (right _ h))
      | false => rw [hb, if_neg (by decide)] at h; exact br_f1 h
theorem sp_pair (hA : okA (d + 1) A (v2 + 1)) (hn : vp_in n 60) (h : K (b2 (pairC A n.toNatClampNeg σ).1) (pairC A n.toNatClampNeg σ).2) : yR (d + 1 + 1) 15 0 [some (.ref 84), some (.int n), some (.int v2), none] [] σ (qI K) := by
  have go : ∀ τ : yS, K (b2 (pairE A n.toNatClampNeg τ).1) (pairE A n.toNatClampNeg τ).2 → ((¬ ((τ 86 n.toNatClampNeg) = 3) → yR (d + 1 + 1) 15 84 [some (.ref 84), some (.int n), some (.int v2), some (.int 0)] [] τ (qI K)) ∧ (((τ 86 n.toNatClampNeg) = 3) → ((((τ 88 n.toNatClampNeg) ≤ (τ 89 n.toNatClampNeg)) → yR (d + 1 + 1) 15 84 [some (.ref 84), some (.int n), some (.int v2), some (.int 0)] [] (sg τ 86 n.toNatClampNeg 2) (qI K)) ∧ (¬ ((τ 88 n.toNatClampNeg) ≤ (τ 89 n.toNatClampNeg)) → yR (d + 1) 8 0 [some (.ref 84), some (.int ((sg τ 89 n.toNatClampNeg ((τ 89 n.toNatClampNeg) + 1)) 89 n.toNatClampNeg))] [] (sg τ 89 n.toNatClampNeg ((τ 89 n.toNatClampNeg) + 1)) (qI (fun x1 σ1 => (yBo x1 ∧ K x1 σ1))))))) := by
    intro τ h
    unfold pairE at h
    refine ⟨fun q => ?_, fun q => ⟨fun q2 => ?_, fun q2 => ?_⟩⟩
    · rw [if_neg q] at h; exact sp_pairL hA hn 2002 0 rfl τ h
    · rw [if_pos q, if_pos q2] at h; exact sp_pairL hA hn 2002 0 rfl _ h
    · rw [if_pos q, if_neg q2] at h; exact sp_yields ⟨b2_bo _, h⟩
  unfold pairC at h
  refine w_15_0 ⟨hn, fun q => ?_, fun q => sp_renew ?_⟩
  · rw [if_neg q] at h; exact go σ h
  · rw [if_pos q] at h; exact go _ h
/-- ask: f levels may still be opened -/
def askC : Nat → Int32 → yS → Bool × yS
  | 0, _, σ => (false, σ)
  | f + 1, n, σ => if σ 84 8 = 0 then (if inN n 60 = true then
      (if σ 3 n.toNatClampNeg = 33 then noneC (askC f) n.toNatClampNeg σ
       else if σ 3 n.toNatClampNeg = 48 then leafC n.toNatClampNeg σ
       else if σ 3 n.toNatClampNeg = 58 then targC (askC f) n.toNatClampNeg σ
       else if σ 3 n.toNatClampNeg = 92 then frstC (askC f) n.toNatClampNeg σ
       else if σ 3 n.toNatClampNeg = 94 then targC (askC f) n.toNatClampNeg σ
       else if σ 3 n.toNatClampNeg = 97 then leafC n.toNatClampNeg σ
       else if σ 3 n.toNatClampNeg = 124 then eithC (askC f) n.toNatClampNeg σ
       else pairC (askC f) n.toNatClampNeg σ) else (false, σ)) else (false, σ)
theorem sp_ask : ∀ (f j d : Nat), j + f = 61 → okA (d + 2 * f + 3) (askC f) (nI j) := by
  intro f
  induction f with
  | zero =>
    intro j d hj n σ K h
    have e : j = 61 := by omega
    subst e
    refine w_7_0 ⟨fun _ => h, fun _ => ⟨fun _ => h, fun q => absurd (by decide +kernel) q⟩⟩
  | succ f ih =>
    intro j d hj n σ K h
    have hA : okA (d + 2 * f + 3) (askC f) (nI j + 1) := by rw [nI_1]; exact ih (j + 1) d (by omega)
    have hj60 : ¬ (60 : Int32) < nI j := nI_nlt (a := 60) (b := j) (by omega) (by decide)
    show yR (d + 2 * f + 2 + 1 + 1 + 1) 7 0 _ _ _ _
    have hA' : okA (d + 2 * f + 2 + 1) (askC f) (nI j + 1) := hA
    unfold askC at h
    refine w_7_0 ⟨fun q => ?_, fun q => ⟨fun q2 => absurd q2 hj60, fun _ => sp_isNode (fun hn => br_t1 ⟨hn, ?_⟩) (fun hn => br_f1 ?_)⟩⟩
    · rw [if_neg q] at h; exact h
    · rw [if_pos q, if_pos (inN_t.mpr hn)] at h
      refine ⟨fun q1 => ?_, fun q1 => ⟨fun q2 => ?_, fun q2 => ⟨fun q3 => ?_, fun q3 => ⟨fun q4 => ?_, fun q4 => ⟨fun q5 => ?_, fun q5 => ⟨fun q6 => ?_, fun q6 => ⟨fun q7 => ?_, fun q7 => ?_⟩⟩⟩⟩⟩⟩⟩
      · rw [if_pos q1] at h; exact sp_none hA' hn ⟨b2_bo _, h⟩
      · rw [if_neg q1, if_pos q2] at h; exact sp_leaf hn ⟨b2_bo _, h⟩
      · rw [if_neg q1, if_neg q2, if_pos q3] at h; exact sp_targ hA' hn ⟨b2_bo _, h⟩
      · rw [if_neg q1, if_neg q2, if_neg q3, if_pos q4] at h; exact sp_first hA' hn ⟨b2_bo _, h⟩
      · rw [if_neg q1, if_neg q2, if_neg q3, if_neg q4, if_pos q5] at h; exact sp_targ hA' hn ⟨b2_bo _, h⟩
      · rw [if_neg q1, if_neg q2, if_neg q3, if_neg q4, if_neg q5, if_pos q6] at h; exact sp_leaf hn ⟨b2_bo _, h⟩
      · rw [if_neg q1, if_neg q2, if_neg q3, if_neg q4, if_neg q5, if_neg q6, if_pos q7] at h; exact sp_either hA' hn ⟨b2_bo _, h⟩
      · rw [if_neg q1, if_neg q2, if_neg q3, if_neg q4, if_neg q5, if_neg q6, if_neg q7] at h; exact sp_pair hA' hn ⟨b2_bo _, h⟩
    · rw [if_pos q, if_neg (by rw [inN_f.mpr hn]; decide)] at h; exact h
end PAIR
end
section
/-! THE REFERENCE'S MACHINE: one turn of its loop (method 132 at 10), by sort and phase of the node where it stands -/
def srt (w : Int32) : Int32 := w &&& 15
def nmb (w : Int32) : Int32 := (w >>> (4 &&& 31)) &&& 1023
def fst1 (w : Int32) : Int32 := (w >>> (14 &&& 31)) &&& 63
def snd1 (w : Int32) : Int32 := (w >>> (20 &&& 31)) &&& 63
def mLP (d : Nat) (v : Int32) (K : Int32 → yS → Prop) (τ : yS) : Prop := yR (d + 5) 132 10 [some (.ref 97), some (.int v)] [] τ (qI K)
def mYield (v : Int32) (τ : yS) : yS := sg (sg (sg (sg (sg τ 97 25 (τ 97 25 + 1)) 97 29 1) 97 30 v) 97 28 0) 97 27 (τ 108 (τ 97 27).toNatClampNeg)
def mNone (τ : yS) : yS := sg (sg (sg τ 97 29 0) 97 28 0) 97 27 (τ 108 (τ 97 27).toNatClampNeg)
def mAsk (p : Int32) (τ : yS) : yS := sg (sg τ 97 27 p) 97 28 1
def mAskN (p : Int32) (τ : yS) : yS := sg (sg (sg τ 97 27 p) 97 28 1) 109 p.toNatClampNeg 0
theorem sg_self (σ : yS) (c k : Nat) : sg σ c k (σ c k) = σ := by
  funext c' k'
  unfold sg upd
  by_cases h : c' = c
  · subst h; simp only [if_true]
    by_cases h2 : k' = k
    · subst h2; simp
    · simp [h2]
  · simp [h]
theorem sg_fix {σ : yS} {c k : Nat} {v : Int32} (h : σ c k = v) : sg σ c k v = σ := by rw [← h]; exact sg_self σ c k
theorem sg_same (σ : yS) (c k : Nat) (v : Int32) : sg σ c k v c k = v := by simp [sg, upd]
theorem sg_cell (σ : yS) {c c' : Nat} (k : Nat) (v : Int32) (h : c' ≠ c) : sg σ c k v c' = σ c' := by simp [sg, h]
theorem sg_ne (σ : yS) (c : Nat) {k k' : Nat} (v : Int32) (h : k' ≠ k) : sg σ c k v c k' = σ c k' := by simp [sg, upd, h]
section MT
variable {d : Nat} {τ : yS} {K : Int32 → yS → Prop} {KV : yS → Prop} {v : Int32} {i mb : Nat}
theorem sm_node (hb : τ 97 24 = nI mb) (hi : mb + i < 89) (h : K (τ 98 (mb + i)) τ) : yR d 119 0 [some (.ref 97), some (.int (nI i))] [] τ (qI K) := by
  have e : τ 97 24 + nI i = nI (mb + i) := by rw [hb, nI_add]
  refine w_119_0 ⟨by rw [e]; exact vp_in_nI hi (by decide), ?_⟩
  rw [e, nI_clamp (by omega)]
  exact h
theorem sm_yields (hh : τ 97 27 = nI i) (hi : i < 60) (h : (τ 97 25 = 1000 → KV (sg τ 97 26 1)) ∧ (¬ τ 97 25 = 1000 → KV (mYield v τ))) : yR d 121 0 [some (.ref 97), some (.int v)] [] τ (qV KV) :=
  w_121_0 ⟨fun q => ⟨by rw [hh]; exact vp_in_nI hi (by decide), h.2 q⟩, h.1⟩
theorem sm_none (hh : τ 97 27 = nI i) (hi : i < 60) (h : KV (mNone τ)) : yR d 122 0 [some (.ref 97)] [] τ (qV KV) :=
  w_122_0 ⟨by rw [hh]; exact vp_in_nI hi (by decide), h⟩
theorem sm_ask {p : Int32} (h : KV (mAsk p τ)) : yR d 120 0 [some (.ref 97), some (.int p), some (.int 0)] [] τ (qV KV) := w_120_0 (br_f2 h)
theorem sm_askN {p : Int32} (hp : vp_in p 60) (h : KV (mAskN p τ)) : yR d 120 0 [some (.ref 97), some (.int p), some (.int 1)] [] τ (qV KV) := w_120_0 (br_t2 ⟨hp, h⟩)
theorem sm_in {x a b : Int32} (h1 : a ≤ x → x ≤ b → K 1 τ) (h0 : (x < a ∨ b < x) → K 0 τ) : yR d 80 0 [some (.int x), some (.int a), some (.int b)] [] τ (qI K) :=
  w_80_0 ⟨fun q => h0 (Or.inl q), fun q => ⟨fun q2 => h0 (Or.inr q2), fun q2 => h1 (Int32.not_lt.mp q) (Int32.not_lt.mp q2)⟩⟩
/-- standing at node i, with the word w there -/
def mAt (τ : yS) (mb i : Nat) (w : Int32) : Prop := τ 97 27 = nI i ∧ i < 60 ∧ τ 97 26 = 0 ∧ τ 97 24 = nI mb ∧ mb + i < 89 ∧ τ 98 (mb + i) = w
/-- what a yielded result leads to -/
def mYl (d : Nat) (v0 : Int32) (K : Int32 → yS → Prop) (v : Int32) (τ : yS) : Prop := (τ 97 25 = 1000 → mLP d v0 K (sg τ 97 26 1)) ∧ (¬ τ 97 25 = 1000 → mLP d v0 K (mYield v τ))
theorem nI_nn {i : Nat} (h : i < 60) : ¬ nI i = -1999999 := by
  intro e
  have h1 : (nI i).toInt = (i : Int) := nI_toInt (by omega)
  rw [e] at h1
  have h2 : (-1999999 : Int32).toInt = -1999999 := by decide
  rw [h2] at h1
  omega
theorem lp_asked {w : Int32} (ha : mAt τ mb i w) (h1 : τ 97 28 = 1) (h : yR (d + 4) 125 0 [some (.ref 97), some (.int (nI i)), none, none] [] τ (qV (mLP d v K))) : mLP d v K τ := by
  obtain ⟨e1, e2, e3, -⟩ := ha
  refine w_132_10 ⟨fun q => absurd (e1.symm.trans q) (nI_nn e2), fun _ => ⟨fun q => absurd e3 q, fun _ => ⟨fun q => absurd (h1.symm.trans q) one_ne, fun _ => ?_⟩⟩⟩
  rw [e1]
  exact h
theorem lp_told {w : Int32} (ha : mAt τ mb i w) (h0 : τ 97 28 = 0) (h1 : τ 97 29 = 1) (h : yR (d + 4) 128 0 [some (.ref 97), some (.int (nI i)), some (.int (τ 97 30)), none, none] [] τ (qV (mLP d v K))) : mLP d v K τ := by
  obtain ⟨e1, e2, e3, -⟩ := ha
  refine w_132_10 ⟨fun q => absurd (e1.symm.trans q) (nI_nn e2), fun _ => ⟨fun q => absurd e3 q, fun _ => ⟨fun _ => ⟨fun q => absurd (h1.symm.trans q) one_ne, fun _ => ?_⟩, fun q => absurd h0 q⟩⟩⟩
  rw [e1]
  exact h
theorem lp_ended {w : Int32} (ha : mAt τ mb i w) (h0 : τ 97 28 = 0) (h1 : τ 97 29 = 0) (h : yR (d + 4) 130 0 [some (.ref 97), some (.int (nI i)), none, none] [] τ (qV (mLP d v K))) : mLP d v K τ := by
  obtain ⟨e1, e2, e3, -⟩ := ha
  refine w_132_10 ⟨fun q => absurd (e1.symm.trans q) (nI_nn e2), fun _ => ⟨fun q => absurd e3 q, fun _ => ⟨fun _ => ⟨fun _ => ?_, fun q => absurd h1 q⟩, fun q => absurd h0 q⟩⟩⟩
  rw [e1]
  exact h
theorem ta_num {w : Int32} (ha : mAt τ mb i w) (h1 : τ 97 28 = 1) (hs : srt w = 0) (hp : τ 109 i = 0) (h : mYl d v K (nmb w) (sg τ 109 i 1)) : mLP d v K τ := by
  refine lp_asked ha h1 ?_
  obtain ⟨e1, e2, e3, e4, e5, e6⟩ := ha
  have ec : (nI i).toNatClampNeg = i := nI_clamp (by omega)
  have hs' : w &&& 15 = 0 := hs
  refine w_125_0 (sm_node e4 e5 ?_)
  rw [e6]
  refine ⟨vp_in_nI e2 (by decide), w_85_0 ?_⟩
  rw [hs', ec]
  exact ⟨fun _ => ⟨fun q => absurd hp q, fun _ => w_85_0 (by rw [hs']; exact br_f1 (w_86_0 (sm_yields (τ := sg τ 109 i 1) e1 e2 h)))⟩, fun q => absurd rfl q⟩
theorem ta_name {w : Int32} (ha : mAt τ mb i w) (h1 : τ 97 28 = 1) (hs : srt w = 1) (hp : τ 109 i = 0) (hn : vp_in (nmb w) 4) (h : mYl d v K (τ 112 (nmb w).toNatClampNeg) (sg τ 109 i 1)) : mLP d v K τ := by
  refine lp_asked ha h1 ?_
  obtain ⟨e1, e2, e3, e4, e5, e6⟩ := ha
  have ec : (nI i).toNatClampNeg = i := nI_clamp (by omega)
  have hs' : w &&& 15 = 1 := hs
  refine w_125_0 (sm_node e4 e5 ?_)
  rw [e6]
  refine ⟨vp_in_nI e2 (by decide), w_85_0 ?_⟩
  rw [hs', ec]
  exact ⟨fun q => absurd q (by decide), fun _ => ⟨fun _ => ⟨fun q => absurd hp q, fun _ => w_85_0 (by rw [hs']; exact br_t1 (w_86_0 ⟨hn, sm_yields (τ := sg τ 109 i 1) e1 e2 h⟩))⟩, fun q => absurd rfl q⟩⟩
theorem ta_leaf1_0 {w : Int32} (ha : mAt τ mb i w) (h1 : τ 97 28 = 1) (hs : srt w = 0) (hp : ¬ τ 109 i = 0) (h : mLP d v K (mNone (sg τ 109 i 1))) : mLP d v K τ := by
  refine lp_asked ha h1 ?_
  obtain ⟨e1, e2, e3, e4, e5, e6⟩ := ha
  have ec : (nI i).toNatClampNeg = i := nI_clamp (by omega)
  have hs' : w &&& 15 = 0 := hs
  refine w_125_0 (sm_node e4 e5 ?_)
  rw [e6]
  refine ⟨vp_in_nI e2 (by decide), w_85_0 ?_⟩
  rw [hs', ec]
  exact ⟨fun _ => ⟨fun _ => sm_none (τ := sg τ 109 i 1) e1 e2 h, fun q => absurd q hp⟩, fun q => absurd rfl q⟩
theorem ta_leaf1_1 {w : Int32} (ha : mAt τ mb i w) (h1 : τ 97 28 = 1) (hs : srt w = 1) (hp : ¬ τ 109 i = 0) (h : mLP d v K (mNone (sg τ 109 i 1))) : mLP d v K τ := by
  refine lp_asked ha h1 ?_
  obtain ⟨e1, e2, e3, e4, e5, e6⟩ := ha
  have ec : (nI i).toNatClampNeg = i := nI_clamp (by omega)
  have hs' : w &&& 15 = 1 := hs
  refine w_125_0 (sm_node e4 e5 ?_)
  rw [e6]
  refine ⟨vp_in_nI e2 (by decide), w_85_0 ?_⟩
  rw [hs', ec]
  exact ⟨fun q => absurd q (by decide), fun _ => ⟨fun _ => ⟨fun _ => sm_none (τ := sg τ 109 i 1) e1 e2 h, fun q => absurd q hp⟩, fun q => absurd rfl q⟩⟩
theorem ta_two0_2 {w : Int32} (ha : mAt τ mb i w) (h1 : τ 97 28 = 1) (hs : srt w = 2) (hp : τ 109 i = 0) (hf : vp_in (fst1 w) 60) (h : mLP d v K (mAskN (fst1 w) (sg τ 109 i 1))) : mLP d v K τ := by
  refine lp_asked ha h1 ?_
  obtain ⟨e1, e2, e3, e4, e5, e6⟩ := ha
  have ec : (nI i).toNatClampNeg = i := nI_clamp (by omega)
  have hs' : w &&& 15 = 2 := hs
  refine w_125_0 (sm_node e4 e5 ?_)
  rw [e6]
  refine ⟨vp_in_nI e2 (by decide), w_85_0 ?_⟩
  rw [hs', ec]
  exact ⟨fun q => absurd q (by decide), fun _ => ⟨fun q => absurd q (by decide), fun _ => ⟨fun _ => ⟨fun q => absurd hp q, fun _ => ⟨fun _ => w_87_0 (sm_askN hf h), fun q => absurd (hp.symm.trans q) (by decide)⟩⟩, fun q => absurd rfl q⟩⟩⟩
theorem ta_two2_2 {w : Int32} (ha : mAt τ mb i w) (h1 : τ 97 28 = 1) (hs : srt w = 2) (hp : τ 109 i = 2) (h : mLP d v K (mAsk (snd1 w) τ)) : mLP d v K τ := by
  refine lp_asked ha h1 ?_
  obtain ⟨e1, e2, e3, e4, e5, e6⟩ := ha
  have ec : (nI i).toNatClampNeg = i := nI_clamp (by omega)
  have hs' : w &&& 15 = 2 := hs
  refine w_125_0 (sm_node e4 e5 ?_)
  rw [e6]
  refine ⟨vp_in_nI e2 (by decide), w_85_0 ?_⟩
  rw [hs', ec]
  exact ⟨fun q => absurd q (by decide), fun _ => ⟨fun q => absurd q (by decide), fun _ => ⟨fun _ => ⟨fun _ => ⟨fun q => absurd hp q, fun _ => w_88_0 (sm_ask (by rw [sg_self]; exact h))⟩, fun q => absurd (hp.symm.trans q) (by decide)⟩, fun q => absurd rfl q⟩⟩⟩
theorem ta_two1_2 {w : Int32} (ha : mAt τ mb i w) (h1 : τ 97 28 = 1) (hs : srt w = 2) (hp : τ 109 i = 1) (h : mLP d v K (mAsk (fst1 w) τ)) : mLP d v K τ := by
  refine lp_asked ha h1 ?_
  obtain ⟨e1, e2, e3, e4, e5, e6⟩ := ha
  have ec : (nI i).toNatClampNeg = i := nI_clamp (by omega)
  have hs' : w &&& 15 = 2 := hs
  refine w_125_0 (sm_node e4 e5 ?_)
  rw [e6]
  refine ⟨vp_in_nI e2 (by decide), w_85_0 ?_⟩
  rw [hs', ec]
  exact ⟨fun q => absurd q (by decide), fun _ => ⟨fun q => absurd q (by decide), fun _ => ⟨fun _ => ⟨fun _ => ⟨fun _ => w_87_0 (sm_ask (by rw [sg_self]; exact h)), fun q => absurd (hp.symm.trans q) (by decide)⟩, fun q => absurd (hp.symm.trans q) (by decide)⟩, fun q => absurd rfl q⟩⟩⟩
theorem ta_two0_3 {w : Int32} (ha : mAt τ mb i w) (h1 : τ 97 28 = 1) (hs : srt w = 3) (hp : τ 109 i = 0) (hf : vp_in (fst1 w) 60) (h : mLP d v K (mAskN (fst1 w) (sg τ 109 i 1))) : mLP d v K τ := by
  refine lp_asked ha h1 ?_
  obtain ⟨e1, e2, e3, e4, e5, e6⟩ := ha
  have ec : (nI i).toNatClampNeg = i := nI_clamp (by omega)
  have hs' : w &&& 15 = 3 := hs
  refine w_125_0 (sm_node e4 e5 ?_)
  rw [e6]
  refine ⟨vp_in_nI e2 (by decide), w_85_0 ?_⟩
  rw [hs', ec]
  exact ⟨fun q => absurd q (by decide), fun _ => ⟨fun q => absurd q (by decide), fun _ => ⟨fun q => absurd q (by decide), fun _ => ⟨fun _ => ⟨fun q => absurd hp q, fun _ => ⟨fun _ => w_87_0 (sm_askN hf h), fun q => absurd (hp.symm.trans q) (by decide)⟩⟩, fun q => absurd rfl q⟩⟩⟩⟩
theorem ta_two2_3 {w : Int32} (ha : mAt τ mb i w) (h1 : τ 97 28 = 1) (hs : srt w = 3) (hp : τ 109 i = 2) (h : mLP d v K (mAsk (snd1 w) τ)) : mLP d v K τ := by
  refine lp_asked ha h1 ?_
  obtain ⟨e1, e2, e3, e4, e5, e6⟩ := ha
  have ec : (nI i).toNatClampNeg = i := nI_clamp (by omega)
  have hs' : w &&& 15 = 3 := hs
  refine w_125_0 (sm_node e4 e5 ?_)
  rw [e6]
  refine ⟨vp_in_nI e2 (by decide), w_85_0 ?_⟩
  rw [hs', ec]
  exact ⟨fun q => absurd q (by decide), fun _ => ⟨fun q => absurd q (by decide), fun _ => ⟨fun q => absurd q (by decide), fun _ => ⟨fun _ => ⟨fun _ => ⟨fun q => absurd hp q, fun _ => w_88_0 (sm_ask (by rw [sg_self]; exact h))⟩, fun q => absurd (hp.symm.trans q) (by decide)⟩, fun q => absurd rfl q⟩⟩⟩⟩
theorem ta_two1_3 {w : Int32} (ha : mAt τ mb i w) (h1 : τ 97 28 = 1) (hs : srt w = 3) (hp : τ 109 i = 1) (h : mLP d v K (mAsk (fst1 w) τ)) : mLP d v K τ := by
  refine lp_asked ha h1 ?_
  obtain ⟨e1, e2, e3, e4, e5, e6⟩ := ha
  have ec : (nI i).toNatClampNeg = i := nI_clamp (by omega)
  have hs' : w &&& 15 = 3 := hs
  refine w_125_0 (sm_node e4 e5 ?_)
  rw [e6]
  refine ⟨vp_in_nI e2 (by decide), w_85_0 ?_⟩
  rw [hs', ec]
  exact ⟨fun q => absurd q (by decide), fun _ => ⟨fun q => absurd q (by decide), fun _ => ⟨fun q => absurd q (by decide), fun _ => ⟨fun _ => ⟨fun _ => ⟨fun _ => w_87_0 (sm_ask (by rw [sg_self]; exact h)), fun q => absurd (hp.symm.trans q) (by decide)⟩, fun q => absurd (hp.symm.trans q) (by decide)⟩, fun q => absurd rfl q⟩⟩⟩⟩
theorem ta_two0_4 {w : Int32} (ha : mAt τ mb i w) (h1 : τ 97 28 = 1) (hs : srt w = 4) (hp : τ 109 i = 0) (hf : vp_in (fst1 w) 60) (h : mLP d v K (mAskN (fst1 w) (sg τ 109 i 1))) : mLP d v K τ := by
  refine lp_asked ha h1 ?_
  obtain ⟨e1, e2, e3, e4, e5, e6⟩ := ha
  have ec : (nI i).toNatClampNeg = i := nI_clamp (by omega)
  have hs' : w &&& 15 = 4 := hs
  refine w_125_0 (sm_node e4 e5 ?_)
  rw [e6]
  refine ⟨vp_in_nI e2 (by decide), w_85_0 ?_⟩
  rw [hs', ec]
  exact ⟨fun q => absurd q (by decide), fun _ => ⟨fun q => absurd q (by decide), fun _ => ⟨fun q => absurd q (by decide), fun _ => ⟨fun q => absurd q (by decide), fun _ => ⟨fun _ => ⟨fun q => absurd hp q, fun _ => ⟨fun _ => w_87_0 (sm_askN hf h), fun q => absurd (hp.symm.trans q) (by decide)⟩⟩, fun q => absurd rfl q⟩⟩⟩⟩⟩
theorem ta_two2_4 {w : Int32} (ha : mAt τ mb i w) (h1 : τ 97 28 = 1) (hs : srt w = 4) (hp : τ 109 i = 2) (h : mLP d v K (mAsk (snd1 w) τ)) : mLP d v K τ := by
  refine lp_asked ha h1 ?_
  obtain ⟨e1, e2, e3, e4, e5, e6⟩ := ha
  have ec : (nI i).toNatClampNeg = i := nI_clamp (by omega)
  have hs' : w &&& 15 = 4 := hs
  refine w_125_0 (sm_node e4 e5 ?_)
  rw [e6]
  refine ⟨vp_in_nI e2 (by decide), w_85_0 ?_⟩
  rw [hs', ec]
  exact ⟨fun q => absurd q (by decide), fun _ => ⟨fun q => absurd q (by decide), fun _ => ⟨fun q => absurd q (by decide), fun _ => ⟨fun q => absurd q (by decide), fun _ => ⟨fun _ => ⟨fun _ => ⟨fun q => absurd hp q, fun _ => w_88_0 (sm_ask (by rw [sg_self]; exact h))⟩, fun q => absurd (hp.symm.trans q) (by decide)⟩, fun q => absurd rfl q⟩⟩⟩⟩⟩
theorem ta_two1_4 {w : Int32} (ha : mAt τ mb i w) (h1 : τ 97 28 = 1) (hs : srt w = 4) (hp : τ 109 i = 1) (h : mLP d v K (mAsk (fst1 w) τ)) : mLP d v K τ := by
  refine lp_asked ha h1 ?_
  obtain ⟨e1, e2, e3, e4, e5, e6⟩ := ha
  have ec : (nI i).toNatClampNeg = i := nI_clamp (by omega)
  have hs' : w &&& 15 = 4 := hs
  refine w_125_0 (sm_node e4 e5 ?_)
  rw [e6]
  refine ⟨vp_in_nI e2 (by decide), w_85_0 ?_⟩
  rw [hs', ec]
  exact ⟨fun q => absurd q (by decide), fun _ => ⟨fun q => absurd q (by decide), fun _ => ⟨fun q => absurd q (by decide), fun _ => ⟨fun q => absurd q (by decide), fun _ => ⟨fun _ => ⟨fun _ => ⟨fun _ => w_87_0 (sm_ask (by rw [sg_self]; exact h)), fun q => absurd (hp.symm.trans q) (by decide)⟩, fun q => absurd (hp.symm.trans q) (by decide)⟩, fun q => absurd rfl q⟩⟩⟩⟩⟩
theorem ta_two0_5 {w : Int32} (ha : mAt τ mb i w) (h1 : τ 97 28 = 1) (hs : srt w = 5) (hp : τ 109 i = 0) (hf : vp_in (fst1 w) 60) (h : mLP d v K (mAskN (fst1 w) (sg τ 109 i 1))) : mLP d v K τ := by
  refine lp_asked ha h1 ?_
  obtain ⟨e1, e2, e3, e4, e5, e6⟩ := ha
  have ec : (nI i).toNatClampNeg = i := nI_clamp (by omega)
  have hs' : w &&& 15 = 5 := hs
  refine w_125_0 (sm_node e4 e5 ?_)
  rw [e6]
  refine ⟨vp_in_nI e2 (by decide), w_85_0 ?_⟩
  rw [hs', ec]
  exact ⟨fun q => absurd q (by decide), fun _ => ⟨fun q => absurd q (by decide), fun _ => ⟨fun q => absurd q (by decide), fun _ => ⟨fun q => absurd q (by decide), fun _ => ⟨fun q => absurd q (by decide), fun _ => ⟨fun _ => ⟨fun q => absurd hp q, fun _ => ⟨fun _ => w_87_0 (sm_askN hf h), fun q => absurd (hp.symm.trans q) (by decide)⟩⟩, fun q => absurd rfl q⟩⟩⟩⟩⟩⟩
theorem ta_two2_5 {w : Int32} (ha : mAt τ mb i w) (h1 : τ 97 28 = 1) (hs : srt w = 5) (hp : τ 109 i = 2) (h : mLP d v K (mAsk (snd1 w) τ)) : mLP d v K τ := by
  refine lp_asked ha h1 ?_
  obtain ⟨e1, e2, e3, e4, e5, e6⟩ := ha
  have ec : (nI i).toNatClampNeg = i := nI_clamp (by omega)
  have hs' : w &&& 15 = 5 := hs
  refine w_125_0 (sm_node e4 e5 ?_)
  rw [e6]
  refine ⟨vp_in_nI e2 (by decide), w_85_0 ?_⟩
  rw [hs', ec]
  exact ⟨fun q => absurd q (by decide), fun _ => ⟨fun q => absurd q (by decide), fun _ => ⟨fun q => absurd q (by decide), fun _ => ⟨fun q => absurd q (by decide), fun _ => ⟨fun q => absurd q (by decide), fun _ => ⟨fun _ => ⟨fun _ => ⟨fun q => absurd hp q, fun _ => w_88_0 (sm_ask (by rw [sg_self]; exact h))⟩, fun q => absurd (hp.symm.trans q) (by decide)⟩, fun q => absurd rfl q⟩⟩⟩⟩⟩⟩
theorem ta_two1_5 {w : Int32} (ha : mAt τ mb i w) (h1 : τ 97 28 = 1) (hs : srt w = 5) (hp : τ 109 i = 1) (h : mLP d v K (mAsk (fst1 w) τ)) : mLP d v K τ := by
  refine lp_asked ha h1 ?_
  obtain ⟨e1, e2, e3, e4, e5, e6⟩ := ha
  have ec : (nI i).toNatClampNeg = i := nI_clamp (by omega)
  have hs' : w &&& 15 = 5 := hs
  refine w_125_0 (sm_node e4 e5 ?_)
  rw [e6]
  refine ⟨vp_in_nI e2 (by decide), w_85_0 ?_⟩
  rw [hs', ec]
  exact ⟨fun q => absurd q (by decide), fun _ => ⟨fun q => absurd q (by decide), fun _ => ⟨fun q => absurd q (by decide), fun _ => ⟨fun q => absurd q (by decide), fun _ => ⟨fun q => absurd q (by decide), fun _ => ⟨fun _ => ⟨fun _ => ⟨fun _ => w_87_0 (sm_ask (by rw [sg_self]; exact h)), fun q => absurd (hp.symm.trans q) (by decide)⟩, fun q => absurd (hp.symm.trans q) (by decide)⟩, fun q => absurd rfl q⟩⟩⟩⟩⟩⟩
theorem ta_two0_6 {w : Int32} (ha : mAt τ mb i w) (h1 : τ 97 28 = 1) (hs : srt w = 6) (hp : τ 109 i = 0) (hf : vp_in (fst1 w) 60) (h : mLP d v K (mAskN (fst1 w) (sg τ 109 i 1))) : mLP d v K τ := by
  refine lp_asked ha h1 ?_
  obtain ⟨e1, e2, e3, e4, e5, e6⟩ := ha
  have ec : (nI i).toNatClampNeg = i := nI_clamp (by omega)
  have hs' : w &&& 15 = 6 := hs
  refine w_125_0 (sm_node e4 e5 ?_)
  rw [e6]
  refine ⟨vp_in_nI e2 (by decide), w_85_0 ?_⟩
  rw [hs', ec]
  exact ⟨fun q => absurd q (by decide), fun _ => ⟨fun q => absurd q (by decide), fun _ => ⟨fun q => absurd q (by decide), fun _ => ⟨fun q => absurd q (by decide), fun _ => ⟨fun q => absurd q (by decide), fun _ => ⟨fun q => absurd q (by decide), fun _ => ⟨fun _ => ⟨fun q => absurd hp q, fun _ => ⟨fun _ => w_87_0 (sm_askN hf h), fun q => absurd (hp.symm.trans q) (by decide)⟩⟩, fun q => absurd rfl q⟩⟩⟩⟩⟩⟩⟩
theorem ta_two2_6 {w : Int32} (ha : mAt τ mb i w) (h1 : τ 97 28 = 1) (hs : srt w = 6) (hp : τ 109 i = 2) (h : mLP d v K (mAsk (snd1 w) τ)) : mLP d v K τ := by
  refine lp_asked ha h1 ?_
  obtain ⟨e1, e2, e3, e4, e5, e6⟩ := ha
  have ec : (nI i).toNatClampNeg = i := nI_clamp (by omega)
  have hs' : w &&& 15 = 6 := hs
  refine w_125_0 (sm_node e4 e5 ?_)
  rw [e6]
  refine ⟨vp_in_nI e2 (by decide), w_85_0 ?_⟩
  rw [hs', ec]
  exact ⟨fun q => absurd q (by decide), fun _ => ⟨fun q => absurd q (by decide), fun _ => ⟨fun q => absurd q (by decide), fun _ => ⟨fun q => absurd q (by decide), fun _ => ⟨fun q => absurd q (by decide), fun _ => ⟨fun q => absurd q (by decide), fun _ => ⟨fun _ => ⟨fun _ => ⟨fun q => absurd hp q, fun _ => w_88_0 (sm_ask (by rw [sg_self]; exact h))⟩, fun q => absurd (hp.symm.trans q) (by decide)⟩, fun q => absurd rfl q⟩⟩⟩⟩⟩⟩⟩
theorem ta_two1_6 {w : Int32} (ha : mAt τ mb i w) (h1 : τ 97 28 = 1) (hs : srt w = 6) (hp : τ 109 i = 1) (h : mLP d v K (mAsk (fst1 w) τ)) : mLP d v K τ := by
  refine lp_asked ha h1 ?_
  obtain ⟨e1, e2, e3, e4, e5, e6⟩ := ha
  have ec : (nI i).toNatClampNeg = i := nI_clamp (by omega)
  have hs' : w &&& 15 = 6 := hs
  refine w_125_0 (sm_node e4 e5 ?_)
  rw [e6]
  refine ⟨vp_in_nI e2 (by decide), w_85_0 ?_⟩
  rw [hs', ec]
  exact ⟨fun q => absurd q (by decide), fun _ => ⟨fun q => absurd q (by decide), fun _ => ⟨fun q => absurd q (by decide), fun _ => ⟨fun q => absurd q (by decide), fun _ => ⟨fun q => absurd q (by decide), fun _ => ⟨fun q => absurd q (by decide), fun _ => ⟨fun _ => ⟨fun _ => ⟨fun _ => w_87_0 (sm_ask (by rw [sg_self]; exact h)), fun q => absurd (hp.symm.trans q) (by decide)⟩, fun q => absurd (hp.symm.trans q) (by decide)⟩, fun q => absurd rfl q⟩⟩⟩⟩⟩⟩⟩
theorem ta_two0_8 {w : Int32} (ha : mAt τ mb i w) (h1 : τ 97 28 = 1) (hs : srt w = 8) (hp : τ 109 i = 0) (hf : vp_in (fst1 w) 60) (h : mLP d v K (mAskN (fst1 w) (sg τ 109 i 1))) : mLP d v K τ := by
  refine lp_asked ha h1 ?_
  obtain ⟨e1, e2, e3, e4, e5, e6⟩ := ha
  have ec : (nI i).toNatClampNeg = i := nI_clamp (by omega)
  have hs' : w &&& 15 = 8 := hs
  refine w_125_0 (sm_node e4 e5 ?_)
  rw [e6]
  refine ⟨vp_in_nI e2 (by decide), w_85_0 ?_⟩
  rw [hs', ec]
  exact ⟨fun q => absurd q (by decide), fun _ => ⟨fun q => absurd q (by decide), fun _ => ⟨fun q => absurd q (by decide), fun _ => ⟨fun q => absurd q (by decide), fun _ => ⟨fun q => absurd q (by decide), fun _ => ⟨fun q => absurd q (by decide), fun _ => ⟨fun q => absurd q (by decide), fun _ => ⟨fun q => absurd q (by decide), fun _ => ⟨fun _ => ⟨fun q => absurd hp q, fun _ => ⟨fun _ => w_87_0 (sm_askN hf h), fun q => absurd (hp.symm.trans q) (by decide)⟩⟩, fun q => absurd rfl q⟩⟩⟩⟩⟩⟩⟩⟩⟩
theorem ta_two2_8 {w : Int32} (ha : mAt τ mb i w) (h1 : τ 97 28 = 1) (hs : srt w = 8) (hp : τ 109 i = 2) (h : mLP d v K (mAsk (snd1 w) τ)) : mLP d v K τ := by
  refine lp_asked ha h1 ?_
  obtain ⟨e1, e2, e3, e4, e5, e6⟩ := ha
  have ec : (nI i).toNatClampNeg = i := nI_clamp (by omega)
  have hs' : w &&& 15 = 8 := hs
  refine w_125_0 (sm_node e4 e5 ?_)
  rw [e6]
  refine ⟨vp_in_nI e2 (by decide), w_85_0 ?_⟩
  rw [hs', ec]
  exact ⟨fun q => absurd q (by decide), fun _ => ⟨fun q => absurd q (by decide), fun _ => ⟨fun q => absurd q (by decide), fun _ => ⟨fun q => absurd q (by decide), fun _ => ⟨fun q => absurd q (by decide), fun _ => ⟨fun q => absurd q (by decide), fun _ => ⟨fun q => absurd q (by decide), fun _ => ⟨fun q => absurd q (by decide), fun _ => ⟨fun _ => ⟨fun _ => ⟨fun q => absurd hp q, fun _ => w_88_0 (sm_ask (by rw [sg_self]; exact h))⟩, fun q => absurd (hp.symm.trans q) (by decide)⟩, fun q => absurd rfl q⟩⟩⟩⟩⟩⟩⟩⟩⟩
theorem ta_two1_8 {w : Int32} (ha : mAt τ mb i w) (h1 : τ 97 28 = 1) (hs : srt w = 8) (hp : τ 109 i = 1) (h : mLP d v K (mAsk (fst1 w) τ)) : mLP d v K τ := by
  refine lp_asked ha h1 ?_
  obtain ⟨e1, e2, e3, e4, e5, e6⟩ := ha
  have ec : (nI i).toNatClampNeg = i := nI_clamp (by omega)
  have hs' : w &&& 15 = 8 := hs
  refine w_125_0 (sm_node e4 e5 ?_)
  rw [e6]
  refine ⟨vp_in_nI e2 (by decide), w_85_0 ?_⟩
  rw [hs', ec]
  exact ⟨fun q => absurd q (by decide), fun _ => ⟨fun q => absurd q (by decide), fun _ => ⟨fun q => absurd q (by decide), fun _ => ⟨fun q => absurd q (by decide), fun _ => ⟨fun q => absurd q (by decide), fun _ => ⟨fun q => absurd q (by decide), fun _ => ⟨fun q => absurd q (by decide), fun _ => ⟨fun q => absurd q (by decide), fun _ => ⟨fun _ => ⟨fun _ => ⟨fun _ => w_87_0 (sm_ask (by rw [sg_self]; exact h)), fun q => absurd (hp.symm.trans q) (by decide)⟩, fun q => absurd (hp.symm.trans q) (by decide)⟩, fun q => absurd rfl q⟩⟩⟩⟩⟩⟩⟩⟩⟩
theorem ta_two0_9 {w : Int32} (ha : mAt τ mb i w) (h1 : τ 97 28 = 1) (hs : srt w = 9) (hp : τ 109 i = 0) (hf : vp_in (fst1 w) 60) (h : mLP d v K (mAskN (fst1 w) (sg τ 109 i 1))) : mLP d v K τ := by
  refine lp_asked ha h1 ?_
  obtain ⟨e1, e2, e3, e4, e5, e6⟩ := ha
  have ec : (nI i).toNatClampNeg = i := nI_clamp (by omega)
  have hs' : w &&& 15 = 9 := hs
  refine w_125_0 (sm_node e4 e5 ?_)
  rw [e6]
  refine ⟨vp_in_nI e2 (by decide), w_85_0 ?_⟩
  rw [hs', ec]
  exact ⟨fun q => absurd q (by decide), fun _ => ⟨fun q => absurd q (by decide), fun _ => ⟨fun q => absurd q (by decide), fun _ => ⟨fun q => absurd q (by decide), fun _ => ⟨fun q => absurd q (by decide), fun _ => ⟨fun q => absurd q (by decide), fun _ => ⟨fun q => absurd q (by decide), fun _ => ⟨fun q => absurd q (by decide), fun _ => ⟨fun q => absurd q (by decide), fun _ => ⟨fun _ => ⟨fun q => absurd hp q, fun _ => ⟨fun _ => w_87_0 (sm_askN hf h), fun q => absurd (hp.symm.trans q) (by decide)⟩⟩, fun q => absurd rfl q⟩⟩⟩⟩⟩⟩⟩⟩⟩⟩
theorem ta_two2_9 {w : Int32} (ha : mAt τ mb i w) (h1 : τ 97 28 = 1) (hs : srt w = 9) (hp : τ 109 i = 2) (h : mLP d v K (mAsk (snd1 w) τ)) : mLP d v K τ := by
  refine lp_asked ha h1 ?_
  obtain ⟨e1, e2, e3, e4, e5, e6⟩ := ha
  have ec : (nI i).toNatClampNeg = i := nI_clamp (by omega)
  have hs' : w &&& 15 = 9 := hs
  refine w_125_0 (sm_node e4 e5 ?_)
  rw [e6]
  refine ⟨vp_in_nI e2 (by decide), w_85_0 ?_⟩
  rw [hs', ec]
  exact ⟨fun q => absurd q (by decide), fun _ => ⟨fun q => absurd q (by decide), fun _ => ⟨fun q => absurd q (by decide), fun _ => ⟨fun q => absurd q (by decide), fun _ => ⟨fun q => absurd q (by decide), fun _ => ⟨fun q => absurd q (by decide), fun _ => ⟨fun q => absurd q (by decide), fun _ => ⟨fun q => absurd q (by decide), fun _ => ⟨fun q => absurd q (by decide), fun _ => ⟨fun _ => ⟨fun _ => ⟨fun q => absurd hp q, fun _ => w_88_0 (sm_ask (by rw [sg_self]; exact h))⟩, fun q => absurd (hp.symm.trans q) (by decide)⟩, fun q => absurd rfl q⟩⟩⟩⟩⟩⟩⟩⟩⟩⟩
theorem ta_two1_9 {w : Int32} (ha : mAt τ mb i w) (h1 : τ 97 28 = 1) (hs : srt w = 9) (hp : τ 109 i = 1) (h : mLP d v K (mAsk (fst1 w) τ)) : mLP d v K τ := by
  refine lp_asked ha h1 ?_
  obtain ⟨e1, e2, e3, e4, e5, e6⟩ := ha
  have ec : (nI i).toNatClampNeg = i := nI_clamp (by omega)
  have hs' : w &&& 15 = 9 := hs
  refine w_125_0 (sm_node e4 e5 ?_)
  rw [e6]
  refine ⟨vp_in_nI e2 (by decide), w_85_0 ?_⟩
  rw [hs', ec]
  exact ⟨fun q => absurd q (by decide), fun _ => ⟨fun q => absurd q (by decide), fun _ => ⟨fun q => absurd q (by decide), fun _ => ⟨fun q => absurd q (by decide), fun _ => ⟨fun q => absurd q (by decide), fun _ => ⟨fun q => absurd q (by decide), fun _ => ⟨fun q => absurd q (by decide), fun _ => ⟨fun q => absurd q (by decide), fun _ => ⟨fun q => absurd q (by decide), fun _ => ⟨fun _ => ⟨fun _ => ⟨fun _ => w_87_0 (sm_ask (by rw [sg_self]; exact h)), fun q => absurd (hp.symm.trans q) (by decide)⟩, fun q => absurd (hp.symm.trans q) (by decide)⟩, fun q => absurd rfl q⟩⟩⟩⟩⟩⟩⟩⟩⟩⟩
theorem ta_two0_10 {w : Int32} (ha : mAt τ mb i w) (h1 : τ 97 28 = 1) (hs : srt w = 10) (hp : τ 109 i = 0) (hf : vp_in (fst1 w) 60) (h : mLP d v K (mAskN (fst1 w) (sg τ 109 i 1))) : mLP d v K τ := by
  refine lp_asked ha h1 ?_
  obtain ⟨e1, e2, e3, e4, e5, e6⟩ := ha
  have ec : (nI i).toNatClampNeg = i := nI_clamp (by omega)
  have hs' : w &&& 15 = 10 := hs
  refine w_125_0 (sm_node e4 e5 ?_)
  rw [e6]
  refine ⟨vp_in_nI e2 (by decide), w_85_0 ?_⟩
  rw [hs', ec]
  exact ⟨fun q => absurd q (by decide), fun _ => ⟨fun q => absurd q (by decide), fun _ => ⟨fun q => absurd q (by decide), fun _ => ⟨fun q => absurd q (by decide), fun _ => ⟨fun q => absurd q (by decide), fun _ => ⟨fun q => absurd q (by decide), fun _ => ⟨fun q => absurd q (by decide), fun _ => ⟨fun q => absurd q (by decide), fun _ => ⟨fun q => absurd q (by decide), fun _ => ⟨fun q => absurd q (by decide), fun _ => ⟨fun _ => ⟨fun q => absurd hp q, fun _ => ⟨fun _ => w_87_0 (sm_askN hf h), fun q => absurd (hp.symm.trans q) (by decide)⟩⟩, fun q => absurd rfl q⟩⟩⟩⟩⟩⟩⟩⟩⟩⟩⟩
theorem ta_two2_10 {w : Int32} (ha : mAt τ mb i w) (h1 : τ 97 28 = 1) (hs : srt w = 10) (hp : τ 109 i = 2) (h : mLP d v K (mAsk (snd1 w) τ)) : mLP d v K τ := by
  refine lp_asked ha h1 ?_
  obtain ⟨e1, e2, e3, e4, e5, e6⟩ := ha
  have ec : (nI i).toNatClampNeg = i := nI_clamp (by omega)
  have hs' : w &&& 15 = 10 := hs
  refine w_125_0 (sm_node e4 e5 ?_)
  rw [e6]
  refine ⟨vp_in_nI e2 (by decide), w_85_0 ?_⟩
  rw [hs', ec]
  exact ⟨fun q => absurd q (by decide), fun _ => ⟨fun q => absurd q (by decide), fun _ => ⟨fun q => absurd q (by decide), fun _ => ⟨fun q => absurd q (by decide), fun _ => ⟨fun q => absurd q (by decide), fun _ => ⟨fun q => absurd q (by decide), fun _ => ⟨fun q => absurd q (by decide), fun _ => ⟨fun q => absurd q (by decide), fun _ => ⟨fun q => absurd q (by decide), fun _ => ⟨fun q => absurd q (by decide), fun _ => ⟨fun _ => ⟨fun _ => ⟨fun q => absurd hp q, fun _ => w_88_0 (sm_ask (by rw [sg_self]; exact h))⟩, fun q => absurd (hp.symm.trans q) (by decide)⟩, fun q => absurd rfl q⟩⟩⟩⟩⟩⟩⟩⟩⟩⟩⟩
theorem ta_two1_10 {w : Int32} (ha : mAt τ mb i w) (h1 : τ 97 28 = 1) (hs : srt w = 10) (hp : τ 109 i = 1) (h : mLP d v K (mAsk (fst1 w) τ)) : mLP d v K τ := by
  refine lp_asked ha h1 ?_
  obtain ⟨e1, e2, e3, e4, e5, e6⟩ := ha
  have ec : (nI i).toNatClampNeg = i := nI_clamp (by omega)
  have hs' : w &&& 15 = 10 := hs
  refine w_125_0 (sm_node e4 e5 ?_)
  rw [e6]
  refine ⟨vp_in_nI e2 (by decide), w_85_0 ?_⟩
  rw [hs', ec]
  exact ⟨fun q => absurd q (by decide), fun _ => ⟨fun q => absurd q (by decide), fun _ => ⟨fun q => absurd q (by decide), fun _ => ⟨fun q => absurd q (by decide), fun _ => ⟨fun q => absurd q (by decide), fun _ => ⟨fun q => absurd q (by decide), fun _ => ⟨fun q => absurd q (by decide), fun _ => ⟨fun q => absurd q (by decide), fun _ => ⟨fun q => absurd q (by decide), fun _ => ⟨fun q => absurd q (by decide), fun _ => ⟨fun _ => ⟨fun _ => ⟨fun _ => w_87_0 (sm_ask (by rw [sg_self]; exact h)), fun q => absurd (hp.symm.trans q) (by decide)⟩, fun q => absurd (hp.symm.trans q) (by decide)⟩, fun q => absurd rfl q⟩⟩⟩⟩⟩⟩⟩⟩⟩⟩⟩
theorem ta_rng0 {w : Int32} (ha : mAt τ mb i w) (h1 : τ 97 28 = 1) (hs : srt w = 7) (hp : τ 109 i = 0) (hf : vp_in (fst1 w) 60) (h : mLP d v K (mAskN (fst1 w) (sg τ 109 i 1))) : mLP d v K τ := by
  refine lp_asked ha h1 ?_
  obtain ⟨e1, e2, e3, e4, e5, e6⟩ := ha
  have ec : (nI i).toNatClampNeg = i := nI_clamp (by omega)
  have hs' : w &&& 15 = 7 := hs
  refine w_125_0 (sm_node e4 e5 ?_)
  rw [e6]
  refine ⟨vp_in_nI e2 (by decide), w_85_0 ?_⟩
  rw [hs', ec]
  exact ⟨fun q => absurd q (by decide), fun _ => ⟨fun q => absurd q (by decide), fun _ => ⟨fun q => absurd q (by decide), fun _ => ⟨fun q => absurd q (by decide), fun _ => ⟨fun q => absurd q (by decide), fun _ => ⟨fun q => absurd q (by decide), fun _ => ⟨fun q => absurd q (by decide), fun _ => ⟨fun _ => (by rw [hp]; exact w_127_0 ⟨fun _ => ⟨vp_in_nI e2 (by decide), sm_node (τ := sg τ 109 (nI i).toNatClampNeg 1) (i := i) e4 e5 (by rw [ec]; show yR _ _ _ [some (.int (τ 98 (mb + i)))] _ _ _; rw [e6]; exact w_87_0 (br_f1 (sm_askN hf h)))⟩, fun q => absurd q (by decide)⟩), fun q => absurd rfl q⟩⟩⟩⟩⟩⟩⟩⟩
theorem ta_rng3m {w : Int32} (ha : mAt τ mb i w) (h1 : τ 97 28 = 1) (hs : srt w = 7) (hp : τ 109 i = 3) (hl : ¬ τ 111 i ≤ τ 110 i) (h : mYl d v K (τ 110 i + 1) (sg τ 110 i (τ 110 i + 1))) : mLP d v K τ := by
  refine lp_asked ha h1 ?_
  obtain ⟨e1, e2, e3, e4, e5, e6⟩ := ha
  have ec : (nI i).toNatClampNeg = i := nI_clamp (by omega)
  have hs' : w &&& 15 = 7 := hs
  refine w_125_0 (sm_node e4 e5 ?_)
  rw [e6]
  refine ⟨vp_in_nI e2 (by decide), w_85_0 ?_⟩
  rw [hs', ec]
  exact ⟨fun q => absurd q (by decide), fun _ => ⟨fun q => absurd q (by decide), fun _ => ⟨fun q => absurd q (by decide), fun _ => ⟨fun q => absurd q (by decide), fun _ => ⟨fun q => absurd q (by decide), fun _ => ⟨fun q => absurd q (by decide), fun _ => ⟨fun q => absurd q (by decide), fun _ => ⟨fun _ => (by rw [hp]; exact w_127_0 ⟨fun q => absurd rfl q, fun _ => ⟨vp_in_nI e2 (by decide), by rw [ec]; exact ⟨fun q => absurd q hl, fun _ => sm_yields (τ := sg τ 110 i (τ 110 i + 1)) e1 e2 (by rw [sg_same]; exact h)⟩⟩⟩), fun q => absurd rfl q⟩⟩⟩⟩⟩⟩⟩⟩
theorem ta_rng3e {w : Int32} (ha : mAt τ mb i w) (h1 : τ 97 28 = 1) (hs : srt w = 7) (hp : τ 109 i = 3) (hl : τ 111 i ≤ τ 110 i) (h : mLP d v K (mAsk (snd1 w) (sg τ 109 i 2))) : mLP d v K τ := by
  refine lp_asked ha h1 ?_
  obtain ⟨e1, e2, e3, e4, e5, e6⟩ := ha
  have ec : (nI i).toNatClampNeg = i := nI_clamp (by omega)
  have hs' : w &&& 15 = 7 := hs
  refine w_125_0 (sm_node e4 e5 ?_)
  rw [e6]
  refine ⟨vp_in_nI e2 (by decide), w_85_0 ?_⟩
  rw [hs', ec]
  exact ⟨fun q => absurd q (by decide), fun _ => ⟨fun q => absurd q (by decide), fun _ => ⟨fun q => absurd q (by decide), fun _ => ⟨fun q => absurd q (by decide), fun _ => ⟨fun q => absurd q (by decide), fun _ => ⟨fun q => absurd q (by decide), fun _ => ⟨fun q => absurd q (by decide), fun _ => ⟨fun _ => (by rw [hp]; exact w_127_0 ⟨fun q => absurd rfl q, fun _ => ⟨vp_in_nI e2 (by decide), by rw [ec]; exact ⟨fun _ => sm_node (τ := sg τ 109 i 2) (i := i) e4 e5 (by show yR _ _ _ [some (.int (τ 98 (mb + i)))] _ _ _; rw [e6]; exact w_88_0 (sm_ask h)), fun q => absurd hl q⟩⟩⟩), fun q => absurd rfl q⟩⟩⟩⟩⟩⟩⟩⟩
theorem ta_fst0 {w : Int32} (ha : mAt τ mb i w) (h1 : τ 97 28 = 1) (hs : srt w = 11) (hp : τ 109 i = 0) (hf : vp_in (fst1 w) 60) (hz : ¬ 0 = nmb w) (h : mLP d v K (mAskN (fst1 w) (sg (sg τ 110 i 0) 109 i 1))) : mLP d v K τ := by
  refine lp_asked ha h1 ?_
  obtain ⟨e1, e2, e3, e4, e5, e6⟩ := ha
  have ec : (nI i).toNatClampNeg = i := nI_clamp (by omega)
  have hs' : w &&& 15 = 11 := hs
  refine w_125_0 (sm_node e4 e5 ?_)
  rw [e6]
  refine ⟨vp_in_nI e2 (by decide), w_85_0 ?_⟩
  rw [hs', ec]
  exact ⟨fun q => absurd q (by decide), fun _ => ⟨fun q => absurd q (by decide), fun _ => ⟨fun q => absurd q (by decide), fun _ => ⟨fun q => absurd q (by decide), fun _ => ⟨fun q => absurd q (by decide), fun _ => ⟨fun q => absurd q (by decide), fun _ => ⟨fun q => absurd q (by decide), fun _ => ⟨fun q => absurd q (by decide), fun _ => ⟨fun q => absurd q (by decide), fun _ => ⟨fun q => absurd q (by decide), fun _ => ⟨fun q => absurd q (by decide), fun _ => ⟨fun _ => (by rw [hp]; exact w_126_0 ⟨fun q => absurd rfl q, fun _ => ⟨vp_in_nI e2 (by decide), by rw [ec]; exact sm_node (τ := sg (sg τ 110 i 0) 109 i 1) (i := i) e4 e5 (by show yR _ _ _ [some (.int (τ 98 (mb + i)))] _ _ _; rw [e6]; exact w_86_0 ⟨fun _ => sm_node (τ := sg (sg τ 110 i 0) 109 i 1) (i := i) e4 e5 (by show yR _ _ _ [some (.int (τ 98 (mb + i)))] _ _ _; rw [e6]; exact w_87_0 (sm_askN hf h)), fun q => absurd ((sg_same τ 110 i 0).symm.trans q) hz⟩)⟩⟩), fun q => absurd rfl q⟩⟩⟩⟩⟩⟩⟩⟩⟩⟩⟩⟩
theorem ta_fst0z {w : Int32} (ha : mAt τ mb i w) (h1 : τ 97 28 = 1) (hs : srt w = 11) (hp : τ 109 i = 0) (hz : 0 = nmb w) (h : mLP d v K (mNone (sg (sg τ 110 i 0) 109 i 1))) : mLP d v K τ := by
  refine lp_asked ha h1 ?_
  obtain ⟨e1, e2, e3, e4, e5, e6⟩ := ha
  have ec : (nI i).toNatClampNeg = i := nI_clamp (by omega)
  have hs' : w &&& 15 = 11 := hs
  refine w_125_0 (sm_node e4 e5 ?_)
  rw [e6]
  refine ⟨vp_in_nI e2 (by decide), w_85_0 ?_⟩
  rw [hs', ec]
  exact ⟨fun q => absurd q (by decide), fun _ => ⟨fun q => absurd q (by decide), fun _ => ⟨fun q => absurd q (by decide), fun _ => ⟨fun q => absurd q (by decide), fun _ => ⟨fun q => absurd q (by decide), fun _ => ⟨fun q => absurd q (by decide), fun _ => ⟨fun q => absurd q (by decide), fun _ => ⟨fun q => absurd q (by decide), fun _ => ⟨fun q => absurd q (by decide), fun _ => ⟨fun q => absurd q (by decide), fun _ => ⟨fun q => absurd q (by decide), fun _ => ⟨fun _ => (by rw [hp]; exact w_126_0 ⟨fun q => absurd rfl q, fun _ => ⟨vp_in_nI e2 (by decide), by rw [ec]; exact sm_node (τ := sg (sg τ 110 i 0) 109 i 1) (i := i) e4 e5 (by show yR _ _ _ [some (.int (τ 98 (mb + i)))] _ _ _; rw [e6]; exact w_86_0 ⟨fun q => absurd ((sg_same τ 110 i 0).trans hz) q, fun _ => sm_none (τ := sg (sg τ 110 i 0) 109 i 1) e1 e2 h⟩)⟩⟩), fun q => absurd rfl q⟩⟩⟩⟩⟩⟩⟩⟩⟩⟩⟩⟩
theorem ta_fst1 {w : Int32} (ha : mAt τ mb i w) (h1 : τ 97 28 = 1) (hs : srt w = 11) (hp : τ 109 i = 1) (hz : ¬ τ 110 i = nmb w) (h : mLP d v K (mAsk (fst1 w) τ)) : mLP d v K τ := by
  refine lp_asked ha h1 ?_
  obtain ⟨e1, e2, e3, e4, e5, e6⟩ := ha
  have ec : (nI i).toNatClampNeg = i := nI_clamp (by omega)
  have hs' : w &&& 15 = 11 := hs
  refine w_125_0 (sm_node e4 e5 ?_)
  rw [e6]
  refine ⟨vp_in_nI e2 (by decide), w_85_0 ?_⟩
  rw [hs', ec]
  exact ⟨fun q => absurd q (by decide), fun _ => ⟨fun q => absurd q (by decide), fun _ => ⟨fun q => absurd q (by decide), fun _ => ⟨fun q => absurd q (by decide), fun _ => ⟨fun q => absurd q (by decide), fun _ => ⟨fun q => absurd q (by decide), fun _ => ⟨fun q => absurd q (by decide), fun _ => ⟨fun q => absurd q (by decide), fun _ => ⟨fun q => absurd q (by decide), fun _ => ⟨fun q => absurd q (by decide), fun _ => ⟨fun q => absurd q (by decide), fun _ => ⟨fun _ => (by rw [hp]; exact w_126_0 ⟨fun _ => ⟨vp_in_nI e2 (by decide), by rw [ec, sg_self]; exact sm_node (τ := sg τ 109 i 1) (i := i) e4 e5 (by show yR _ _ _ [some (.int (τ 98 (mb + i)))] _ _ _; rw [e6]; exact w_86_0 ⟨fun _ => sm_node (τ := sg τ 109 i 1) (i := i) e4 e5 (by show yR _ _ _ [some (.int (τ 98 (mb + i)))] _ _ _; rw [e6]; exact w_87_0 (sm_ask (by rw [sg_fix hp]; exact h))), fun q => absurd q hz⟩)⟩, fun q => absurd q (by decide)⟩), fun q => absurd rfl q⟩⟩⟩⟩⟩⟩⟩⟩⟩⟩⟩⟩
theorem ta_fst1z {w : Int32} (ha : mAt τ mb i w) (h1 : τ 97 28 = 1) (hs : srt w = 11) (hp : τ 109 i = 1) (hz : τ 110 i = nmb w) (h : mLP d v K (mNone (sg τ 109 i 1))) : mLP d v K τ := by
  refine lp_asked ha h1 ?_
  obtain ⟨e1, e2, e3, e4, e5, e6⟩ := ha
  have ec : (nI i).toNatClampNeg = i := nI_clamp (by omega)
  have hs' : w &&& 15 = 11 := hs
  refine w_125_0 (sm_node e4 e5 ?_)
  rw [e6]
  refine ⟨vp_in_nI e2 (by decide), w_85_0 ?_⟩
  rw [hs', ec]
  exact ⟨fun q => absurd q (by decide), fun _ => ⟨fun q => absurd q (by decide), fun _ => ⟨fun q => absurd q (by decide), fun _ => ⟨fun q => absurd q (by decide), fun _ => ⟨fun q => absurd q (by decide), fun _ => ⟨fun q => absurd q (by decide), fun _ => ⟨fun q => absurd q (by decide), fun _ => ⟨fun q => absurd q (by decide), fun _ => ⟨fun q => absurd q (by decide), fun _ => ⟨fun q => absurd q (by decide), fun _ => ⟨fun q => absurd q (by decide), fun _ => ⟨fun _ => (by rw [hp]; exact w_126_0 ⟨fun _ => ⟨vp_in_nI e2 (by decide), by rw [ec, sg_self]; exact sm_node (τ := sg τ 109 i 1) (i := i) e4 e5 (by show yR _ _ _ [some (.int (τ 98 (mb + i)))] _ _ _; rw [e6]; exact w_86_0 ⟨fun q => absurd hz q, fun _ => sm_none (τ := sg τ 109 i 1) e1 e2 h⟩)⟩, fun q => absurd q (by decide)⟩), fun q => absurd rfl q⟩⟩⟩⟩⟩⟩⟩⟩⟩⟩⟩⟩
theorem ta_not0 {w : Int32} (ha : mAt τ mb i w) (h1 : τ 97 28 = 1) (hs : srt w = 12) (hp : τ 109 i = 0) (hf : vp_in (fst1 w) 60) (h : mLP d v K (mAskN (fst1 w) (sg τ 109 i 1))) : mLP d v K τ := by
  refine lp_asked ha h1 ?_
  obtain ⟨e1, e2, e3, e4, e5, e6⟩ := ha
  have ec : (nI i).toNatClampNeg = i := nI_clamp (by omega)
  have hs' : w &&& 15 = 12 := hs
  refine w_125_0 (sm_node e4 e5 ?_)
  rw [e6]
  refine ⟨vp_in_nI e2 (by decide), w_85_0 ?_⟩
  rw [hs', ec]
  exact ⟨fun q => absurd q (by decide), fun _ => ⟨fun q => absurd q (by decide), fun _ => ⟨fun q => absurd q (by decide), fun _ => ⟨fun q => absurd q (by decide), fun _ => ⟨fun q => absurd q (by decide), fun _ => ⟨fun q => absurd q (by decide), fun _ => ⟨fun q => absurd q (by decide), fun _ => ⟨fun q => absurd q (by decide), fun _ => ⟨fun q => absurd q (by decide), fun _ => ⟨fun q => absurd q (by decide), fun _ => ⟨fun q => absurd q (by decide), fun _ => ⟨fun q => absurd q (by decide), fun _ => ⟨fun _ => ⟨fun q => absurd hp q, fun _ => w_87_0 (sm_askN hf h)⟩, fun q => absurd rfl q⟩⟩⟩⟩⟩⟩⟩⟩⟩⟩⟩⟩⟩
theorem ta_not1 {w : Int32} (ha : mAt τ mb i w) (h1 : τ 97 28 = 1) (hs : srt w = 12) (hp : ¬ τ 109 i = 0) (h : mLP d v K (mNone (sg τ 109 i 1))) : mLP d v K τ := by
  refine lp_asked ha h1 ?_
  obtain ⟨e1, e2, e3, e4, e5, e6⟩ := ha
  have ec : (nI i).toNatClampNeg = i := nI_clamp (by omega)
  have hs' : w &&& 15 = 12 := hs
  refine w_125_0 (sm_node e4 e5 ?_)
  rw [e6]
  refine ⟨vp_in_nI e2 (by decide), w_85_0 ?_⟩
  rw [hs', ec]
  exact ⟨fun q => absurd q (by decide), fun _ => ⟨fun q => absurd q (by decide), fun _ => ⟨fun q => absurd q (by decide), fun _ => ⟨fun q => absurd q (by decide), fun _ => ⟨fun q => absurd q (by decide), fun _ => ⟨fun q => absurd q (by decide), fun _ => ⟨fun q => absurd q (by decide), fun _ => ⟨fun q => absurd q (by decide), fun _ => ⟨fun q => absurd q (by decide), fun _ => ⟨fun q => absurd q (by decide), fun _ => ⟨fun q => absurd q (by decide), fun _ => ⟨fun q => absurd q (by decide), fun _ => ⟨fun _ => ⟨fun _ => sm_none (τ := sg τ 109 i 1) e1 e2 h, fun q => absurd q hp⟩, fun q => absurd rfl q⟩⟩⟩⟩⟩⟩⟩⟩⟩⟩⟩⟩⟩
theorem ta_set0 {w : Int32} (ha : mAt τ mb i w) (h1 : τ 97 28 = 1) (hs : srt w = 13) (hp : τ 109 i = 0) (hf : vp_in (fst1 w) 60) (h : mLP d v K (mAskN (fst1 w) (sg τ 109 i 1))) : mLP d v K τ := by
  refine lp_asked ha h1 ?_
  obtain ⟨e1, e2, e3, e4, e5, e6⟩ := ha
  have ec : (nI i).toNatClampNeg = i := nI_clamp (by omega)
  have hs' : w &&& 15 = 13 := hs
  refine w_125_0 (sm_node e4 e5 ?_)
  rw [e6]
  refine ⟨vp_in_nI e2 (by decide), w_85_0 ?_⟩
  rw [hs', ec]
  exact ⟨fun q => absurd q (by decide), fun _ => ⟨fun q => absurd q (by decide), fun _ => ⟨fun q => absurd q (by decide), fun _ => ⟨fun q => absurd q (by decide), fun _ => ⟨fun q => absurd q (by decide), fun _ => ⟨fun q => absurd q (by decide), fun _ => ⟨fun q => absurd q (by decide), fun _ => ⟨fun q => absurd q (by decide), fun _ => ⟨fun q => absurd q (by decide), fun _ => ⟨fun q => absurd q (by decide), fun _ => ⟨fun q => absurd q (by decide), fun _ => ⟨fun q => absurd q (by decide), fun _ => ⟨fun q => absurd q (by decide), fun _ => ⟨fun _ => w_87_0 ⟨fun q => absurd hp q, fun _ => sm_askN hf h⟩, fun q => absurd rfl q⟩⟩⟩⟩⟩⟩⟩⟩⟩⟩⟩⟩⟩⟩
theorem ta_set1 {w : Int32} (ha : mAt τ mb i w) (h1 : τ 97 28 = 1) (hs : srt w = 13) (hp : ¬ τ 109 i = 0) (h : mLP d v K (mAsk (fst1 w) (sg τ 109 i 1))) : mLP d v K τ := by
  refine lp_asked ha h1 ?_
  obtain ⟨e1, e2, e3, e4, e5, e6⟩ := ha
  have ec : (nI i).toNatClampNeg = i := nI_clamp (by omega)
  have hs' : w &&& 15 = 13 := hs
  refine w_125_0 (sm_node e4 e5 ?_)
  rw [e6]
  refine ⟨vp_in_nI e2 (by decide), w_85_0 ?_⟩
  rw [hs', ec]
  exact ⟨fun q => absurd q (by decide), fun _ => ⟨fun q => absurd q (by decide), fun _ => ⟨fun q => absurd q (by decide), fun _ => ⟨fun q => absurd q (by decide), fun _ => ⟨fun q => absurd q (by decide), fun _ => ⟨fun q => absurd q (by decide), fun _ => ⟨fun q => absurd q (by decide), fun _ => ⟨fun q => absurd q (by decide), fun _ => ⟨fun q => absurd q (by decide), fun _ => ⟨fun q => absurd q (by decide), fun _ => ⟨fun q => absurd q (by decide), fun _ => ⟨fun q => absurd q (by decide), fun _ => ⟨fun q => absurd q (by decide), fun _ => ⟨fun _ => w_87_0 ⟨fun _ => sm_ask h, fun q => absurd q hp⟩, fun q => absurd rfl q⟩⟩⟩⟩⟩⟩⟩⟩⟩⟩⟩⟩⟩⟩
theorem ta_lend0 {w : Int32} (ha : mAt τ mb i w) (h1 : τ 97 28 = 1) (hs : srt w = 14) (hp : τ 109 i = 0) (hf : vp_in (fst1 w) 60) (h : mLP d v K (mAskN (fst1 w) (sg τ 109 i 1))) : mLP d v K τ := by
  refine lp_asked ha h1 ?_
  obtain ⟨e1, e2, e3, e4, e5, e6⟩ := ha
  have ec : (nI i).toNatClampNeg = i := nI_clamp (by omega)
  have hs' : w &&& 15 = 14 := hs
  refine w_125_0 (sm_node e4 e5 ?_)
  rw [e6]
  refine ⟨vp_in_nI e2 (by decide), w_85_0 ?_⟩
  rw [hs', ec]
  exact ⟨fun q => absurd q (by decide), fun _ => ⟨fun q => absurd q (by decide), fun _ => ⟨fun q => absurd q (by decide), fun _ => ⟨fun q => absurd q (by decide), fun _ => ⟨fun q => absurd q (by decide), fun _ => ⟨fun q => absurd q (by decide), fun _ => ⟨fun q => absurd q (by decide), fun _ => ⟨fun q => absurd q (by decide), fun _ => ⟨fun q => absurd q (by decide), fun _ => ⟨fun q => absurd q (by decide), fun _ => ⟨fun q => absurd q (by decide), fun _ => ⟨fun q => absurd q (by decide), fun _ => ⟨fun q => absurd q (by decide), fun _ => ⟨fun q => absurd q (by decide), fun _ => ⟨fun _ => ⟨fun _ => w_87_0 ⟨fun q => absurd hp q, fun _ => sm_askN hf h⟩, fun q => absurd (hp.symm.trans q) (by decide)⟩, fun q => absurd rfl q⟩⟩⟩⟩⟩⟩⟩⟩⟩⟩⟩⟩⟩⟩⟩
theorem ta_lend1 {w : Int32} (ha : mAt τ mb i w) (h1 : τ 97 28 = 1) (hs : srt w = 14) (hp : τ 109 i = 1) (hn : vp_in (nmb w) 4) (h : mLP d v K (mAsk (fst1 w) (sg (sg τ 112 (nmb w).toNatClampNeg (τ 110 i)) 109 i 1))) : mLP d v K τ := by
  refine lp_asked ha h1 ?_
  obtain ⟨e1, e2, e3, e4, e5, e6⟩ := ha
  have ec : (nI i).toNatClampNeg = i := nI_clamp (by omega)
  have hs' : w &&& 15 = 14 := hs
  refine w_125_0 (sm_node e4 e5 ?_)
  rw [e6]
  refine ⟨vp_in_nI e2 (by decide), w_85_0 ?_⟩
  rw [hs', ec]
  exact ⟨fun q => absurd q (by decide), fun _ => ⟨fun q => absurd q (by decide), fun _ => ⟨fun q => absurd q (by decide), fun _ => ⟨fun q => absurd q (by decide), fun _ => ⟨fun q => absurd q (by decide), fun _ => ⟨fun q => absurd q (by decide), fun _ => ⟨fun q => absurd q (by decide), fun _ => ⟨fun q => absurd q (by decide), fun _ => ⟨fun q => absurd q (by decide), fun _ => ⟨fun q => absurd q (by decide), fun _ => ⟨fun q => absurd q (by decide), fun _ => ⟨fun q => absurd q (by decide), fun _ => ⟨fun q => absurd q (by decide), fun _ => ⟨fun q => absurd q (by decide), fun _ => ⟨fun _ => ⟨fun q => absurd hp q, fun _ => w_86_0 ⟨hn, w_87_0 ⟨fun _ => sm_ask h, fun q => absurd (hp.symm.trans q) (by decide)⟩⟩⟩, fun q => absurd rfl q⟩⟩⟩⟩⟩⟩⟩⟩⟩⟩⟩⟩⟩⟩⟩
theorem tt_alt {w : Int32} (ha : mAt τ mb i w) (h0 : τ 97 28 = 0) (h1 : τ 97 29 = 1) (hs : srt w = 3)  (h : mYl d v K (τ 97 30) τ) : mLP d v K τ := by
  refine lp_told ha h0 h1 ?_
  obtain ⟨e1, e2, e3, e4, e5, e6⟩ := ha
  have ec : (nI i).toNatClampNeg = i := nI_clamp (by omega)
  have hs' : w &&& 15 = 3 := hs
  refine w_128_0 (sm_node e4 e5 ?_)
  rw [e6]
  refine w_85_0 ?_
  rw [hs']
  exact ⟨fun q => absurd rfl q, fun _ => sm_yields e1 e2 h⟩
theorem tt_fst {w : Int32} (ha : mAt τ mb i w) (h0 : τ 97 28 = 0) (h1 : τ 97 29 = 1) (hs : srt w = 11)  (h : mYl d v K (τ 97 30) (sg τ 110 i (τ 110 i + 1))) : mLP d v K τ := by
  refine lp_told ha h0 h1 ?_
  obtain ⟨e1, e2, e3, e4, e5, e6⟩ := ha
  have ec : (nI i).toNatClampNeg = i := nI_clamp (by omega)
  have hs' : w &&& 15 = 11 := hs
  refine w_128_0 (sm_node e4 e5 ?_)
  rw [e6]
  refine w_85_0 ?_
  rw [hs']
  exact ⟨fun _ => ⟨fun q => absurd rfl q, fun _ => ⟨vp_in_nI e2 (by decide), by rw [ec]; exact sm_yields (τ := sg τ 110 i (τ 110 i + 1)) e1 e2 h⟩⟩, fun q => absurd q (by decide)⟩
theorem tt_not {w : Int32} (ha : mAt τ mb i w) (h0 : τ 97 28 = 0) (h1 : τ 97 29 = 1) (hs : srt w = 12)  (h : mLP d v K (mNone τ)) : mLP d v K τ := by
  refine lp_told ha h0 h1 ?_
  obtain ⟨e1, e2, e3, e4, e5, e6⟩ := ha
  have ec : (nI i).toNatClampNeg = i := nI_clamp (by omega)
  have hs' : w &&& 15 = 12 := hs
  refine w_128_0 (sm_node e4 e5 ?_)
  rw [e6]
  refine w_85_0 ?_
  rw [hs']
  exact ⟨fun _ => ⟨fun _ => ⟨fun q => absurd rfl q, fun _ => sm_none e1 e2 h⟩, fun q => absurd q (by decide)⟩, fun q => absurd q (by decide)⟩
theorem tt_set_13 {w : Int32} (ha : mAt τ mb i w) (h0 : τ 97 28 = 0) (h1 : τ 97 29 = 1) (hs : srt w = 13) (hn : vp_in (nmb w) 4) (h : mYl d v K (τ 97 30) (sg (sg τ 110 i (τ 112 (nmb w).toNatClampNeg)) 112 (nmb w).toNatClampNeg (τ 97 30))) : mLP d v K τ := by
  refine lp_told ha h0 h1 ?_
  obtain ⟨e1, e2, e3, e4, e5, e6⟩ := ha
  have ec : (nI i).toNatClampNeg = i := nI_clamp (by omega)
  have hs' : w &&& 15 = 13 := hs
  refine w_128_0 (sm_node e4 e5 ?_)
  rw [e6]
  refine w_85_0 ?_
  rw [hs']
  exact ⟨fun _ => ⟨fun _ => ⟨fun _ => ⟨fun _ => w_86_0 ⟨hn, vp_in_nI e2 (by decide), by rw [ec]; exact w_86_0 ⟨hn, sm_yields (τ := sg (sg τ 110 i (τ 112 (nmb w).toNatClampNeg)) 112 (nmb w).toNatClampNeg (τ 97 30)) e1 e2 h⟩⟩, fun q => absurd rfl q⟩, fun q => absurd q (by decide)⟩, fun q => absurd q (by decide)⟩, fun q => absurd q (by decide)⟩
theorem tt_set_14 {w : Int32} (ha : mAt τ mb i w) (h0 : τ 97 28 = 0) (h1 : τ 97 29 = 1) (hs : srt w = 14) (hn : vp_in (nmb w) 4) (h : mYl d v K (τ 97 30) (sg (sg τ 110 i (τ 112 (nmb w).toNatClampNeg)) 112 (nmb w).toNatClampNeg (τ 97 30))) : mLP d v K τ := by
  refine lp_told ha h0 h1 ?_
  obtain ⟨e1, e2, e3, e4, e5, e6⟩ := ha
  have ec : (nI i).toNatClampNeg = i := nI_clamp (by omega)
  have hs' : w &&& 15 = 14 := hs
  refine w_128_0 (sm_node e4 e5 ?_)
  rw [e6]
  refine w_85_0 ?_
  rw [hs']
  exact ⟨fun _ => ⟨fun _ => ⟨fun _ => ⟨fun q => absurd q (by decide), fun _ => ⟨fun q => absurd rfl q, fun _ => w_86_0 ⟨hn, vp_in_nI e2 (by decide), by rw [ec]; exact w_86_0 ⟨hn, sm_yields (τ := sg (sg τ 110 i (τ 112 (nmb w).toNatClampNeg)) 112 (nmb w).toNatClampNeg (τ 97 30)) e1 e2 h⟩⟩⟩⟩, fun q => absurd q (by decide)⟩, fun q => absurd q (by decide)⟩, fun q => absurd q (by decide)⟩
theorem tt_one_2 {w : Int32} (ha : mAt τ mb i w) (h0 : τ 97 28 = 0) (h1 : τ 97 29 = 1) (hs : srt w = 2) (hp : τ 109 i = 1) (hf : vp_in (snd1 w) 60) (h : mLP d v K (mAskN (snd1 w) (sg (sg τ 113 i (τ 97 30)) 109 i 2))) : mLP d v K τ := by
  refine lp_told ha h0 h1 ?_
  obtain ⟨e1, e2, e3, e4, e5, e6⟩ := ha
  have ec : (nI i).toNatClampNeg = i := nI_clamp (by omega)
  have hs' : w &&& 15 = 2 := hs
  refine w_128_0 (sm_node e4 e5 ?_)
  rw [e6]
  refine w_85_0 ?_
  rw [hs']
  exact ⟨fun _ => ⟨fun _ => ⟨fun _ => ⟨fun q => absurd q (by decide), fun _ => ⟨fun _ => ⟨vp_in_nI e2 (by decide), by rw [ec]; exact ⟨fun q => absurd hp q, fun _ => w_88_0 (sm_askN hf h)⟩⟩, fun q => absurd q (by decide)⟩⟩, fun q => absurd q (by decide)⟩, fun q => absurd q (by decide)⟩, fun q => absurd q (by decide)⟩
theorem tt_one_4 {w : Int32} (ha : mAt τ mb i w) (h0 : τ 97 28 = 0) (h1 : τ 97 29 = 1) (hs : srt w = 4) (hp : τ 109 i = 1) (hf : vp_in (snd1 w) 60) (h : mLP d v K (mAskN (snd1 w) (sg (sg τ 113 i (τ 97 30)) 109 i 2))) : mLP d v K τ := by
  refine lp_told ha h0 h1 ?_
  obtain ⟨e1, e2, e3, e4, e5, e6⟩ := ha
  have ec : (nI i).toNatClampNeg = i := nI_clamp (by omega)
  have hs' : w &&& 15 = 4 := hs
  refine w_128_0 (sm_node e4 e5 ?_)
  rw [e6]
  refine w_85_0 ?_
  rw [hs']
  exact ⟨fun _ => ⟨fun _ => ⟨fun _ => ⟨fun q => absurd q (by decide), fun _ => ⟨fun _ => ⟨vp_in_nI e2 (by decide), by rw [ec]; exact ⟨fun q => absurd hp q, fun _ => w_88_0 (sm_askN hf h)⟩⟩, fun q => absurd q (by decide)⟩⟩, fun q => absurd q (by decide)⟩, fun q => absurd q (by decide)⟩, fun q => absurd q (by decide)⟩
theorem tt_one_5 {w : Int32} (ha : mAt τ mb i w) (h0 : τ 97 28 = 0) (h1 : τ 97 29 = 1) (hs : srt w = 5) (hp : τ 109 i = 1) (hf : vp_in (snd1 w) 60) (h : mLP d v K (mAskN (snd1 w) (sg (sg τ 113 i (τ 97 30)) 109 i 2))) : mLP d v K τ := by
  refine lp_told ha h0 h1 ?_
  obtain ⟨e1, e2, e3, e4, e5, e6⟩ := ha
  have ec : (nI i).toNatClampNeg = i := nI_clamp (by omega)
  have hs' : w &&& 15 = 5 := hs
  refine w_128_0 (sm_node e4 e5 ?_)
  rw [e6]
  refine w_85_0 ?_
  rw [hs']
  exact ⟨fun _ => ⟨fun _ => ⟨fun _ => ⟨fun q => absurd q (by decide), fun _ => ⟨fun _ => ⟨vp_in_nI e2 (by decide), by rw [ec]; exact ⟨fun q => absurd hp q, fun _ => w_88_0 (sm_askN hf h)⟩⟩, fun q => absurd q (by decide)⟩⟩, fun q => absurd q (by decide)⟩, fun q => absurd q (by decide)⟩, fun q => absurd q (by decide)⟩
theorem tt_one_6 {w : Int32} (ha : mAt τ mb i w) (h0 : τ 97 28 = 0) (h1 : τ 97 29 = 1) (hs : srt w = 6) (hp : τ 109 i = 1) (hf : vp_in (snd1 w) 60) (h : mLP d v K (mAskN (snd1 w) (sg (sg τ 113 i (τ 97 30)) 109 i 2))) : mLP d v K τ := by
  refine lp_told ha h0 h1 ?_
  obtain ⟨e1, e2, e3, e4, e5, e6⟩ := ha
  have ec : (nI i).toNatClampNeg = i := nI_clamp (by omega)
  have hs' : w &&& 15 = 6 := hs
  refine w_128_0 (sm_node e4 e5 ?_)
  rw [e6]
  refine w_85_0 ?_
  rw [hs']
  exact ⟨fun _ => ⟨fun _ => ⟨fun _ => ⟨fun q => absurd q (by decide), fun _ => ⟨fun _ => ⟨vp_in_nI e2 (by decide), by rw [ec]; exact ⟨fun q => absurd hp q, fun _ => w_88_0 (sm_askN hf h)⟩⟩, fun q => absurd q (by decide)⟩⟩, fun q => absurd q (by decide)⟩, fun q => absurd q (by decide)⟩, fun q => absurd q (by decide)⟩
theorem tt_one_7 {w : Int32} (ha : mAt τ mb i w) (h0 : τ 97 28 = 0) (h1 : τ 97 29 = 1) (hs : srt w = 7) (hp : τ 109 i = 1) (hf : vp_in (snd1 w) 60) (h : mLP d v K (mAskN (snd1 w) (sg (sg τ 113 i (τ 97 30)) 109 i 2))) : mLP d v K τ := by
  refine lp_told ha h0 h1 ?_
  obtain ⟨e1, e2, e3, e4, e5, e6⟩ := ha
  have ec : (nI i).toNatClampNeg = i := nI_clamp (by omega)
  have hs' : w &&& 15 = 7 := hs
  refine w_128_0 (sm_node e4 e5 ?_)
  rw [e6]
  refine w_85_0 ?_
  rw [hs']
  exact ⟨fun _ => ⟨fun _ => ⟨fun _ => ⟨fun q => absurd q (by decide), fun _ => ⟨fun _ => ⟨vp_in_nI e2 (by decide), by rw [ec]; exact ⟨fun q => absurd hp q, fun _ => w_88_0 (sm_askN hf h)⟩⟩, fun q => absurd q (by decide)⟩⟩, fun q => absurd q (by decide)⟩, fun q => absurd q (by decide)⟩, fun q => absurd q (by decide)⟩
theorem tt_one_8 {w : Int32} (ha : mAt τ mb i w) (h0 : τ 97 28 = 0) (h1 : τ 97 29 = 1) (hs : srt w = 8) (hp : τ 109 i = 1) (hf : vp_in (snd1 w) 60) (h : mLP d v K (mAskN (snd1 w) (sg (sg τ 113 i (τ 97 30)) 109 i 2))) : mLP d v K τ := by
  refine lp_told ha h0 h1 ?_
  obtain ⟨e1, e2, e3, e4, e5, e6⟩ := ha
  have ec : (nI i).toNatClampNeg = i := nI_clamp (by omega)
  have hs' : w &&& 15 = 8 := hs
  refine w_128_0 (sm_node e4 e5 ?_)
  rw [e6]
  refine w_85_0 ?_
  rw [hs']
  exact ⟨fun _ => ⟨fun _ => ⟨fun _ => ⟨fun q => absurd q (by decide), fun _ => ⟨fun _ => ⟨vp_in_nI e2 (by decide), by rw [ec]; exact ⟨fun q => absurd hp q, fun _ => w_88_0 (sm_askN hf h)⟩⟩, fun q => absurd q (by decide)⟩⟩, fun q => absurd q (by decide)⟩, fun q => absurd q (by decide)⟩, fun q => absurd q (by decide)⟩
theorem tt_one_9 {w : Int32} (ha : mAt τ mb i w) (h0 : τ 97 28 = 0) (h1 : τ 97 29 = 1) (hs : srt w = 9) (hp : τ 109 i = 1) (hf : vp_in (snd1 w) 60) (h : mLP d v K (mAskN (snd1 w) (sg (sg τ 113 i (τ 97 30)) 109 i 2))) : mLP d v K τ := by
  refine lp_told ha h0 h1 ?_
  obtain ⟨e1, e2, e3, e4, e5, e6⟩ := ha
  have ec : (nI i).toNatClampNeg = i := nI_clamp (by omega)
  have hs' : w &&& 15 = 9 := hs
  refine w_128_0 (sm_node e4 e5 ?_)
  rw [e6]
  refine w_85_0 ?_
  rw [hs']
  exact ⟨fun _ => ⟨fun _ => ⟨fun _ => ⟨fun q => absurd q (by decide), fun _ => ⟨fun _ => ⟨vp_in_nI e2 (by decide), by rw [ec]; exact ⟨fun q => absurd hp q, fun _ => w_88_0 (sm_askN hf h)⟩⟩, fun q => absurd q (by decide)⟩⟩, fun q => absurd q (by decide)⟩, fun q => absurd q (by decide)⟩, fun q => absurd q (by decide)⟩
theorem tt_one_10 {w : Int32} (ha : mAt τ mb i w) (h0 : τ 97 28 = 0) (h1 : τ 97 29 = 1) (hs : srt w = 10) (hp : τ 109 i = 1) (hf : vp_in (snd1 w) 60) (h : mLP d v K (mAskN (snd1 w) (sg (sg τ 113 i (τ 97 30)) 109 i 2))) : mLP d v K τ := by
  refine lp_told ha h0 h1 ?_
  obtain ⟨e1, e2, e3, e4, e5, e6⟩ := ha
  have ec : (nI i).toNatClampNeg = i := nI_clamp (by omega)
  have hs' : w &&& 15 = 10 := hs
  refine w_128_0 (sm_node e4 e5 ?_)
  rw [e6]
  refine w_85_0 ?_
  rw [hs']
  exact ⟨fun _ => ⟨fun _ => ⟨fun _ => ⟨fun q => absurd q (by decide), fun _ => ⟨fun _ => ⟨vp_in_nI e2 (by decide), by rw [ec]; exact ⟨fun q => absurd hp q, fun _ => w_88_0 (sm_askN hf h)⟩⟩, fun q => absurd q (by decide)⟩⟩, fun q => absurd q (by decide)⟩, fun q => absurd q (by decide)⟩, fun q => absurd q (by decide)⟩
theorem tt_and {w : Int32} (ha : mAt τ mb i w) (h0 : τ 97 28 = 0) (h1 : τ 97 29 = 1) (hs : srt w = 2) (hp : τ 109 i = 2) (h : mYl d v K (τ 97 30) τ) : mLP d v K τ := by
  refine lp_told ha h0 h1 ?_
  obtain ⟨e1, e2, e3, e4, e5, e6⟩ := ha
  have ec : (nI i).toNatClampNeg = i := nI_clamp (by omega)
  have hs' : w &&& 15 = 2 := hs
  refine w_128_0 (sm_node e4 e5 ?_)
  rw [e6]
  refine w_85_0 ?_
  rw [hs']
  exact ⟨fun _ => ⟨fun _ => ⟨fun _ => ⟨fun q => absurd q (by decide), fun _ => ⟨fun _ => ⟨vp_in_nI e2 (by decide), by rw [ec]; exact ⟨fun _ => w_129_0 ⟨fun q => absurd rfl q, fun _ => sm_yields e1 e2 h⟩, fun q => absurd (hp.symm.trans q) (by decide)⟩⟩, fun q => absurd q (by decide)⟩⟩, fun q => absurd q (by decide)⟩, fun q => absurd q (by decide)⟩, fun q => absurd q (by decide)⟩
theorem tt_rngY {w : Int32} (ha : mAt τ mb i w) (h0 : τ 97 28 = 0) (h1 : τ 97 29 = 1) (hs : srt w = 7) (hp : τ 109 i = 2) (hl : ¬ τ 97 30 < τ 113 i) (h : mYl d v K (τ 113 i) (sg (sg (sg τ 109 i 3) 110 i (τ 113 i)) 111 i (τ 97 30))) : mLP d v K τ := by
  refine lp_told ha h0 h1 ?_
  obtain ⟨e1, e2, e3, e4, e5, e6⟩ := ha
  have ec : (nI i).toNatClampNeg = i := nI_clamp (by omega)
  have hs' : w &&& 15 = 7 := hs
  refine w_128_0 (sm_node e4 e5 ?_)
  rw [e6]
  refine w_85_0 ?_
  rw [hs']
  exact ⟨fun _ => ⟨fun _ => ⟨fun _ => ⟨fun q => absurd q (by decide), fun _ => ⟨fun _ => ⟨vp_in_nI e2 (by decide), by rw [ec]; exact ⟨fun _ => w_129_0 ⟨fun _ => ⟨fun q => absurd rfl q, fun _ => ⟨vp_in_nI e2 (by decide), by rw [ec]; exact ⟨fun q => absurd q hl, fun _ => sm_yields (τ := sg (sg (sg τ 109 i 3) 110 i (τ 113 i)) 111 i (τ 97 30)) e1 e2 (by rw [sg_same]; exact h)⟩⟩⟩, fun q => absurd q (by decide)⟩, fun q => absurd (hp.symm.trans q) (by decide)⟩⟩, fun q => absurd q (by decide)⟩⟩, fun q => absurd q (by decide)⟩, fun q => absurd q (by decide)⟩, fun q => absurd q (by decide)⟩
theorem tt_rngN {w : Int32} (ha : mAt τ mb i w) (h0 : τ 97 28 = 0) (h1 : τ 97 29 = 1) (hs : srt w = 7) (hp : τ 109 i = 2) (hl : τ 97 30 < τ 113 i) (h : mLP d v K (mAsk (snd1 w) τ)) : mLP d v K τ := by
  refine lp_told ha h0 h1 ?_
  obtain ⟨e1, e2, e3, e4, e5, e6⟩ := ha
  have ec : (nI i).toNatClampNeg = i := nI_clamp (by omega)
  have hs' : w &&& 15 = 7 := hs
  refine w_128_0 (sm_node e4 e5 ?_)
  rw [e6]
  refine w_85_0 ?_
  rw [hs']
  exact ⟨fun _ => ⟨fun _ => ⟨fun _ => ⟨fun q => absurd q (by decide), fun _ => ⟨fun _ => ⟨vp_in_nI e2 (by decide), by rw [ec]; exact ⟨fun _ => w_129_0 ⟨fun _ => ⟨fun q => absurd rfl q, fun _ => ⟨vp_in_nI e2 (by decide), by rw [ec]; exact ⟨fun _ => sm_node e4 e5 (by rw [e6]; exact w_88_0 (sm_ask h)), fun q => absurd hl q⟩⟩⟩, fun q => absurd q (by decide)⟩, fun q => absurd (hp.symm.trans q) (by decide)⟩⟩, fun q => absurd q (by decide)⟩⟩, fun q => absurd q (by decide)⟩, fun q => absurd q (by decide)⟩, fun q => absurd q (by decide)⟩
/-- whether both are done by the sign, and what comes -/
def mDone (s x y : Int32) : Bool := if s = 4 then decide (x < y) else if s = 5 then decide (y < x) else if s = 6 then decide (x = y) else numC (if s = 8 then x.toInt64 + y.toInt64 else if s = 9 then x.toInt64 - y.toInt64 else x.toInt64 * y.toInt64)
def mBy (s x y : Int32) : Int32 := if s = 8 then x + y else if s = 9 then x - y else if s = 10 then x * y else y
theorem sm_by {s x y : Int32} (h : K (mBy s x y) τ) : yR d 124 0 [some (.int s), some (.int x), some (.int y)] [] τ (qI K) := by
  unfold mBy at h
  refine w_124_0 ⟨fun q => ⟨fun q2 => ⟨fun q3 => ?_, fun q3 => ?_⟩, fun q2 => ?_⟩, fun q => ?_⟩
  · rw [if_neg q, if_neg q2, if_neg q3] at h; exact h
  · rw [if_neg q, if_neg q2, if_pos q3] at h; exact h
  · rw [if_neg q, if_pos q2] at h; exact h
  · rw [if_pos q] at h; exact h
theorem sm_cmp {x : Int64} (h : K (b2 (numC x)) τ) : ((lg_cmp x (-999999) < 0 → K 0 τ) ∧ (¬ lg_cmp x (-999999) < 0 → ((0 < lg_cmp x 999999 → K 0 τ) ∧ (¬ 0 < lg_cmp x 999999 → K 1 τ)))) := by
  unfold numC at h
  refine ⟨fun q => ?_, fun q => ⟨fun q2 => ?_, fun q2 => ?_⟩⟩
  · rw [decide_eq_false (fun z => z.1 q)] at h; exact h
  · rw [decide_eq_false (fun z => z.2 q2)] at h; exact h
  · rw [decide_eq_true ⟨q, q2⟩] at h; exact h
theorem sm_done {s x y : Int32} (h : K (b2 (mDone s x y)) τ) : yR d 123 0 [some (.int s), some (.int x), some (.int y), none, none] [] τ (qI K) := by
  unfold mDone at h
  have lt1 : ∀ a b : Int32, K (b2 (decide (a < b))) τ → ((b ≤ a → K 0 τ) ∧ (¬ b ≤ a → K 1 τ)) := fun a b h => ⟨fun z => by rw [decide_eq_false (Int32.not_lt.mpr z)] at h; exact h, fun z => by rw [decide_eq_true (Int32.not_le.mp z)] at h; exact h⟩
  have eq1 : ∀ a b : Int32, K (b2 (decide (a = b))) τ → ((¬ a = b → K 0 τ) ∧ (a = b → K 1 τ)) := fun a b h => ⟨fun z => by rw [decide_eq_false z] at h; exact h, fun z => by rw [decide_eq_true z] at h; exact h⟩
  refine w_123_0 ⟨fun q8 => ⟨fun q9 => ⟨fun q4 => ⟨fun q5 => ⟨fun q6 => ?_, fun q6 => ?_⟩, fun q5 => ?_⟩, fun q4 => ?_⟩, fun q9 => ⟨fun q4 => ⟨fun q5 => ⟨fun q6 => ?_, fun q6 => ?_⟩, fun q5 => ?_⟩, fun q4 => ?_⟩⟩, fun q8 => ⟨fun q4 => ⟨fun q5 => ⟨fun q6 => ?_, fun q6 => ?_⟩, fun q5 => ?_⟩, fun q4 => ?_⟩⟩
  · rw [if_neg q4, if_neg q5, if_neg q6, if_neg q8, if_neg q9] at h; exact sm_cmp h
  · rw [if_neg q4, if_neg q5, if_pos q6] at h; exact eq1 _ _ h
  · rw [if_neg q4, if_pos q5] at h; exact lt1 _ _ h
  · rw [if_pos q4] at h; exact lt1 _ _ h
  · rw [if_neg q4, if_neg q5, if_neg q6, if_neg q8, if_pos q9] at h; exact sm_cmp h
  · rw [if_neg q4, if_neg q5, if_pos q6] at h; exact eq1 _ _ h
  · rw [if_neg q4, if_pos q5] at h; exact lt1 _ _ h
  · rw [if_pos q4] at h; exact lt1 _ _ h
  · rw [if_neg q4, if_neg q5, if_neg q6, if_pos q8] at h; exact sm_cmp h
  · rw [if_neg q4, if_neg q5, if_pos q6] at h; exact eq1 _ _ h
  · rw [if_neg q4, if_pos q5] at h; exact lt1 _ _ h
  · rw [if_pos q4] at h; exact lt1 _ _ h
theorem tt_opY_4 {w : Int32} (ha : mAt τ mb i w) (h0 : τ 97 28 = 0) (h1 : τ 97 29 = 1) (hs : srt w = 4) (hp : τ 109 i = 2) (hl : mDone 4 (τ 113 i) (τ 97 30) = true) (h : mYl d v K (mBy 4 (τ 113 i) (τ 97 30)) τ) : mLP d v K τ := by
  refine lp_told ha h0 h1 ?_
  obtain ⟨e1, e2, e3, e4, e5, e6⟩ := ha
  have ec : (nI i).toNatClampNeg = i := nI_clamp (by omega)
  have hs' : w &&& 15 = 4 := hs
  refine w_128_0 (sm_node e4 e5 ?_)
  rw [e6]
  refine w_85_0 ?_
  rw [hs']
  exact ⟨fun _ => ⟨fun _ => ⟨fun _ => ⟨fun q => absurd q (by decide), fun _ => ⟨fun _ => ⟨vp_in_nI e2 (by decide), by rw [ec]; exact ⟨fun _ => w_129_0 ⟨fun _ => ⟨fun _ => ⟨vp_in_nI e2 (by decide), by rw [ec]; exact sm_done (by rw [hl]; exact br_t2 (sm_by (sm_yields e1 e2 h)))⟩, fun q => absurd q (by decide)⟩, fun q => absurd q (by decide)⟩, fun q => absurd (hp.symm.trans q) (by decide)⟩⟩, fun q => absurd q (by decide)⟩⟩, fun q => absurd q (by decide)⟩, fun q => absurd q (by decide)⟩, fun q => absurd q (by decide)⟩
theorem tt_opN_4 {w : Int32} (ha : mAt τ mb i w) (h0 : τ 97 28 = 0) (h1 : τ 97 29 = 1) (hs : srt w = 4) (hp : τ 109 i = 2) (hl : mDone 4 (τ 113 i) (τ 97 30) = false) (h : mLP d v K (mAsk (snd1 w) τ)) : mLP d v K τ := by
  refine lp_told ha h0 h1 ?_
  obtain ⟨e1, e2, e3, e4, e5, e6⟩ := ha
  have ec : (nI i).toNatClampNeg = i := nI_clamp (by omega)
  have hs' : w &&& 15 = 4 := hs
  refine w_128_0 (sm_node e4 e5 ?_)
  rw [e6]
  refine w_85_0 ?_
  rw [hs']
  exact ⟨fun _ => ⟨fun _ => ⟨fun _ => ⟨fun q => absurd q (by decide), fun _ => ⟨fun _ => ⟨vp_in_nI e2 (by decide), by rw [ec]; exact ⟨fun _ => w_129_0 ⟨fun _ => ⟨fun _ => ⟨vp_in_nI e2 (by decide), by rw [ec]; exact sm_done (by rw [hl]; exact br_f2 (sm_node e4 e5 (by rw [e6]; exact w_88_0 (sm_ask h))))⟩, fun q => absurd q (by decide)⟩, fun q => absurd q (by decide)⟩, fun q => absurd (hp.symm.trans q) (by decide)⟩⟩, fun q => absurd q (by decide)⟩⟩, fun q => absurd q (by decide)⟩, fun q => absurd q (by decide)⟩, fun q => absurd q (by decide)⟩
theorem tt_opY_5 {w : Int32} (ha : mAt τ mb i w) (h0 : τ 97 28 = 0) (h1 : τ 97 29 = 1) (hs : srt w = 5) (hp : τ 109 i = 2) (hl : mDone 5 (τ 113 i) (τ 97 30) = true) (h : mYl d v K (mBy 5 (τ 113 i) (τ 97 30)) τ) : mLP d v K τ := by
  refine lp_told ha h0 h1 ?_
  obtain ⟨e1, e2, e3, e4, e5, e6⟩ := ha
  have ec : (nI i).toNatClampNeg = i := nI_clamp (by omega)
  have hs' : w &&& 15 = 5 := hs
  refine w_128_0 (sm_node e4 e5 ?_)
  rw [e6]
  refine w_85_0 ?_
  rw [hs']
  exact ⟨fun _ => ⟨fun _ => ⟨fun _ => ⟨fun q => absurd q (by decide), fun _ => ⟨fun _ => ⟨vp_in_nI e2 (by decide), by rw [ec]; exact ⟨fun _ => w_129_0 ⟨fun _ => ⟨fun _ => ⟨vp_in_nI e2 (by decide), by rw [ec]; exact sm_done (by rw [hl]; exact br_t2 (sm_by (sm_yields e1 e2 h)))⟩, fun q => absurd q (by decide)⟩, fun q => absurd q (by decide)⟩, fun q => absurd (hp.symm.trans q) (by decide)⟩⟩, fun q => absurd q (by decide)⟩⟩, fun q => absurd q (by decide)⟩, fun q => absurd q (by decide)⟩, fun q => absurd q (by decide)⟩
theorem tt_opN_5 {w : Int32} (ha : mAt τ mb i w) (h0 : τ 97 28 = 0) (h1 : τ 97 29 = 1) (hs : srt w = 5) (hp : τ 109 i = 2) (hl : mDone 5 (τ 113 i) (τ 97 30) = false) (h : mLP d v K (mAsk (snd1 w) τ)) : mLP d v K τ := by
  refine lp_told ha h0 h1 ?_
  obtain ⟨e1, e2, e3, e4, e5, e6⟩ := ha
  have ec : (nI i).toNatClampNeg = i := nI_clamp (by omega)
  have hs' : w &&& 15 = 5 := hs
  refine w_128_0 (sm_node e4 e5 ?_)
  rw [e6]
  refine w_85_0 ?_
  rw [hs']
  exact ⟨fun _ => ⟨fun _ => ⟨fun _ => ⟨fun q => absurd q (by decide), fun _ => ⟨fun _ => ⟨vp_in_nI e2 (by decide), by rw [ec]; exact ⟨fun _ => w_129_0 ⟨fun _ => ⟨fun _ => ⟨vp_in_nI e2 (by decide), by rw [ec]; exact sm_done (by rw [hl]; exact br_f2 (sm_node e4 e5 (by rw [e6]; exact w_88_0 (sm_ask h))))⟩, fun q => absurd q (by decide)⟩, fun q => absurd q (by decide)⟩, fun q => absurd (hp.symm.trans q) (by decide)⟩⟩, fun q => absurd q (by decide)⟩⟩, fun q => absurd q (by decide)⟩, fun q => absurd q (by decide)⟩, fun q => absurd q (by decide)⟩
theorem tt_opY_6 {w : Int32} (ha : mAt τ mb i w) (h0 : τ 97 28 = 0) (h1 : τ 97 29 = 1) (hs : srt w = 6) (hp : τ 109 i = 2) (hl : mDone 6 (τ 113 i) (τ 97 30) = true) (h : mYl d v K (mBy 6 (τ 113 i) (τ 97 30)) τ) : mLP d v K τ := by
  refine lp_told ha h0 h1 ?_
  obtain ⟨e1, e2, e3, e4, e5, e6⟩ := ha
  have ec : (nI i).toNatClampNeg = i := nI_clamp (by omega)
  have hs' : w &&& 15 = 6 := hs
  refine w_128_0 (sm_node e4 e5 ?_)
  rw [e6]
  refine w_85_0 ?_
  rw [hs']
  exact ⟨fun _ => ⟨fun _ => ⟨fun _ => ⟨fun q => absurd q (by decide), fun _ => ⟨fun _ => ⟨vp_in_nI e2 (by decide), by rw [ec]; exact ⟨fun _ => w_129_0 ⟨fun _ => ⟨fun _ => ⟨vp_in_nI e2 (by decide), by rw [ec]; exact sm_done (by rw [hl]; exact br_t2 (sm_by (sm_yields e1 e2 h)))⟩, fun q => absurd q (by decide)⟩, fun q => absurd q (by decide)⟩, fun q => absurd (hp.symm.trans q) (by decide)⟩⟩, fun q => absurd q (by decide)⟩⟩, fun q => absurd q (by decide)⟩, fun q => absurd q (by decide)⟩, fun q => absurd q (by decide)⟩
theorem tt_opN_6 {w : Int32} (ha : mAt τ mb i w) (h0 : τ 97 28 = 0) (h1 : τ 97 29 = 1) (hs : srt w = 6) (hp : τ 109 i = 2) (hl : mDone 6 (τ 113 i) (τ 97 30) = false) (h : mLP d v K (mAsk (snd1 w) τ)) : mLP d v K τ := by
  refine lp_told ha h0 h1 ?_
  obtain ⟨e1, e2, e3, e4, e5, e6⟩ := ha
  have ec : (nI i).toNatClampNeg = i := nI_clamp (by omega)
  have hs' : w &&& 15 = 6 := hs
  refine w_128_0 (sm_node e4 e5 ?_)
  rw [e6]
  refine w_85_0 ?_
  rw [hs']
  exact ⟨fun _ => ⟨fun _ => ⟨fun _ => ⟨fun q => absurd q (by decide), fun _ => ⟨fun _ => ⟨vp_in_nI e2 (by decide), by rw [ec]; exact ⟨fun _ => w_129_0 ⟨fun _ => ⟨fun _ => ⟨vp_in_nI e2 (by decide), by rw [ec]; exact sm_done (by rw [hl]; exact br_f2 (sm_node e4 e5 (by rw [e6]; exact w_88_0 (sm_ask h))))⟩, fun q => absurd q (by decide)⟩, fun q => absurd q (by decide)⟩, fun q => absurd (hp.symm.trans q) (by decide)⟩⟩, fun q => absurd q (by decide)⟩⟩, fun q => absurd q (by decide)⟩, fun q => absurd q (by decide)⟩, fun q => absurd q (by decide)⟩
theorem tt_opY_8 {w : Int32} (ha : mAt τ mb i w) (h0 : τ 97 28 = 0) (h1 : τ 97 29 = 1) (hs : srt w = 8) (hp : τ 109 i = 2) (hl : mDone 8 (τ 113 i) (τ 97 30) = true) (h : mYl d v K (mBy 8 (τ 113 i) (τ 97 30)) τ) : mLP d v K τ := by
  refine lp_told ha h0 h1 ?_
  obtain ⟨e1, e2, e3, e4, e5, e6⟩ := ha
  have ec : (nI i).toNatClampNeg = i := nI_clamp (by omega)
  have hs' : w &&& 15 = 8 := hs
  refine w_128_0 (sm_node e4 e5 ?_)
  rw [e6]
  refine w_85_0 ?_
  rw [hs']
  exact ⟨fun _ => ⟨fun _ => ⟨fun _ => ⟨fun q => absurd q (by decide), fun _ => ⟨fun _ => ⟨vp_in_nI e2 (by decide), by rw [ec]; exact ⟨fun _ => w_129_0 ⟨fun _ => ⟨fun _ => ⟨vp_in_nI e2 (by decide), by rw [ec]; exact sm_done (by rw [hl]; exact br_t2 (sm_by (sm_yields e1 e2 h)))⟩, fun q => absurd q (by decide)⟩, fun q => absurd q (by decide)⟩, fun q => absurd (hp.symm.trans q) (by decide)⟩⟩, fun q => absurd q (by decide)⟩⟩, fun q => absurd q (by decide)⟩, fun q => absurd q (by decide)⟩, fun q => absurd q (by decide)⟩
theorem tt_opN_8 {w : Int32} (ha : mAt τ mb i w) (h0 : τ 97 28 = 0) (h1 : τ 97 29 = 1) (hs : srt w = 8) (hp : τ 109 i = 2) (hl : mDone 8 (τ 113 i) (τ 97 30) = false) (h : mLP d v K (mAsk (snd1 w) τ)) : mLP d v K τ := by
  refine lp_told ha h0 h1 ?_
  obtain ⟨e1, e2, e3, e4, e5, e6⟩ := ha
  have ec : (nI i).toNatClampNeg = i := nI_clamp (by omega)
  have hs' : w &&& 15 = 8 := hs
  refine w_128_0 (sm_node e4 e5 ?_)
  rw [e6]
  refine w_85_0 ?_
  rw [hs']
  exact ⟨fun _ => ⟨fun _ => ⟨fun _ => ⟨fun q => absurd q (by decide), fun _ => ⟨fun _ => ⟨vp_in_nI e2 (by decide), by rw [ec]; exact ⟨fun _ => w_129_0 ⟨fun _ => ⟨fun _ => ⟨vp_in_nI e2 (by decide), by rw [ec]; exact sm_done (by rw [hl]; exact br_f2 (sm_node e4 e5 (by rw [e6]; exact w_88_0 (sm_ask h))))⟩, fun q => absurd q (by decide)⟩, fun q => absurd q (by decide)⟩, fun q => absurd (hp.symm.trans q) (by decide)⟩⟩, fun q => absurd q (by decide)⟩⟩, fun q => absurd q (by decide)⟩, fun q => absurd q (by decide)⟩, fun q => absurd q (by decide)⟩
theorem tt_opY_9 {w : Int32} (ha : mAt τ mb i w) (h0 : τ 97 28 = 0) (h1 : τ 97 29 = 1) (hs : srt w = 9) (hp : τ 109 i = 2) (hl : mDone 9 (τ 113 i) (τ 97 30) = true) (h : mYl d v K (mBy 9 (τ 113 i) (τ 97 30)) τ) : mLP d v K τ := by
  refine lp_told ha h0 h1 ?_
  obtain ⟨e1, e2, e3, e4, e5, e6⟩ := ha
  have ec : (nI i).toNatClampNeg = i := nI_clamp (by omega)
  have hs' : w &&& 15 = 9 := hs
  refine w_128_0 (sm_node e4 e5 ?_)
  rw [e6]
  refine w_85_0 ?_
  rw [hs']
  exact ⟨fun _ => ⟨fun _ => ⟨fun _ => ⟨fun q => absurd q (by decide), fun _ => ⟨fun _ => ⟨vp_in_nI e2 (by decide), by rw [ec]; exact ⟨fun _ => w_129_0 ⟨fun _ => ⟨fun _ => ⟨vp_in_nI e2 (by decide), by rw [ec]; exact sm_done (by rw [hl]; exact br_t2 (sm_by (sm_yields e1 e2 h)))⟩, fun q => absurd q (by decide)⟩, fun q => absurd q (by decide)⟩, fun q => absurd (hp.symm.trans q) (by decide)⟩⟩, fun q => absurd q (by decide)⟩⟩, fun q => absurd q (by decide)⟩, fun q => absurd q (by decide)⟩, fun q => absurd q (by decide)⟩
theorem tt_opN_9 {w : Int32} (ha : mAt τ mb i w) (h0 : τ 97 28 = 0) (h1 : τ 97 29 = 1) (hs : srt w = 9) (hp : τ 109 i = 2) (hl : mDone 9 (τ 113 i) (τ 97 30) = false) (h : mLP d v K (mAsk (snd1 w) τ)) : mLP d v K τ := by
  refine lp_told ha h0 h1 ?_
  obtain ⟨e1, e2, e3, e4, e5, e6⟩ := ha
  have ec : (nI i).toNatClampNeg = i := nI_clamp (by omega)
  have hs' : w &&& 15 = 9 := hs
  refine w_128_0 (sm_node e4 e5 ?_)
  rw [e6]
  refine w_85_0 ?_
  rw [hs']
  exact ⟨fun _ => ⟨fun _ => ⟨fun _ => ⟨fun q => absurd q (by decide), fun _ => ⟨fun _ => ⟨vp_in_nI e2 (by decide), by rw [ec]; exact ⟨fun _ => w_129_0 ⟨fun _ => ⟨fun _ => ⟨vp_in_nI e2 (by decide), by rw [ec]; exact sm_done (by rw [hl]; exact br_f2 (sm_node e4 e5 (by rw [e6]; exact w_88_0 (sm_ask h))))⟩, fun q => absurd q (by decide)⟩, fun q => absurd q (by decide)⟩, fun q => absurd (hp.symm.trans q) (by decide)⟩⟩, fun q => absurd q (by decide)⟩⟩, fun q => absurd q (by decide)⟩, fun q => absurd q (by decide)⟩, fun q => absurd q (by decide)⟩
theorem tt_opY_10 {w : Int32} (ha : mAt τ mb i w) (h0 : τ 97 28 = 0) (h1 : τ 97 29 = 1) (hs : srt w = 10) (hp : τ 109 i = 2) (hl : mDone 10 (τ 113 i) (τ 97 30) = true) (h : mYl d v K (mBy 10 (τ 113 i) (τ 97 30)) τ) : mLP d v K τ := by
  refine lp_told ha h0 h1 ?_
  obtain ⟨e1, e2, e3, e4, e5, e6⟩ := ha
  have ec : (nI i).toNatClampNeg = i := nI_clamp (by omega)
  have hs' : w &&& 15 = 10 := hs
  refine w_128_0 (sm_node e4 e5 ?_)
  rw [e6]
  refine w_85_0 ?_
  rw [hs']
  exact ⟨fun _ => ⟨fun _ => ⟨fun _ => ⟨fun q => absurd q (by decide), fun _ => ⟨fun _ => ⟨vp_in_nI e2 (by decide), by rw [ec]; exact ⟨fun _ => w_129_0 ⟨fun _ => ⟨fun _ => ⟨vp_in_nI e2 (by decide), by rw [ec]; exact sm_done (by rw [hl]; exact br_t2 (sm_by (sm_yields e1 e2 h)))⟩, fun q => absurd q (by decide)⟩, fun q => absurd q (by decide)⟩, fun q => absurd (hp.symm.trans q) (by decide)⟩⟩, fun q => absurd q (by decide)⟩⟩, fun q => absurd q (by decide)⟩, fun q => absurd q (by decide)⟩, fun q => absurd q (by decide)⟩
theorem tt_opN_10 {w : Int32} (ha : mAt τ mb i w) (h0 : τ 97 28 = 0) (h1 : τ 97 29 = 1) (hs : srt w = 10) (hp : τ 109 i = 2) (hl : mDone 10 (τ 113 i) (τ 97 30) = false) (h : mLP d v K (mAsk (snd1 w) τ)) : mLP d v K τ := by
  refine lp_told ha h0 h1 ?_
  obtain ⟨e1, e2, e3, e4, e5, e6⟩ := ha
  have ec : (nI i).toNatClampNeg = i := nI_clamp (by omega)
  have hs' : w &&& 15 = 10 := hs
  refine w_128_0 (sm_node e4 e5 ?_)
  rw [e6]
  refine w_85_0 ?_
  rw [hs']
  exact ⟨fun _ => ⟨fun _ => ⟨fun _ => ⟨fun q => absurd q (by decide), fun _ => ⟨fun _ => ⟨vp_in_nI e2 (by decide), by rw [ec]; exact ⟨fun _ => w_129_0 ⟨fun _ => ⟨fun _ => ⟨vp_in_nI e2 (by decide), by rw [ec]; exact sm_done (by rw [hl]; exact br_f2 (sm_node e4 e5 (by rw [e6]; exact w_88_0 (sm_ask h))))⟩, fun q => absurd q (by decide)⟩, fun q => absurd q (by decide)⟩, fun q => absurd (hp.symm.trans q) (by decide)⟩⟩, fun q => absurd q (by decide)⟩⟩, fun q => absurd q (by decide)⟩, fun q => absurd q (by decide)⟩, fun q => absurd q (by decide)⟩
theorem te_not {w : Int32} (ha : mAt τ mb i w) (h0 : τ 97 28 = 0) (h1 : τ 97 29 = 0) (hs : srt w = 12)  (h : mYl d v K 0 τ) : mLP d v K τ := by
  refine lp_ended ha h0 h1 ?_
  obtain ⟨e1, e2, e3, e4, e5, e6⟩ := ha
  have ec : (nI i).toNatClampNeg = i := nI_clamp (by omega)
  have hs' : w &&& 15 = 12 := hs
  refine w_130_0 (sm_node e4 e5 ?_)
  rw [e6]
  refine w_85_0 ?_
  rw [hs']
  exact ⟨fun q => absurd rfl q, fun _ => sm_yields e1 e2 h⟩
theorem te_alt1 {w : Int32} (ha : mAt τ mb i w) (h0 : τ 97 28 = 0) (h1 : τ 97 29 = 0) (hs : srt w = 3) (hp : τ 109 i = 1) (hf : vp_in (snd1 w) 60) (h : mLP d v K (mAskN (snd1 w) (sg τ 109 i 2))) : mLP d v K τ := by
  refine lp_ended ha h0 h1 ?_
  obtain ⟨e1, e2, e3, e4, e5, e6⟩ := ha
  have ec : (nI i).toNatClampNeg = i := nI_clamp (by omega)
  have hs' : w &&& 15 = 3 := hs
  refine w_130_0 (sm_node e4 e5 ?_)
  rw [e6]
  refine w_85_0 ?_
  rw [hs']
  exact ⟨fun _ => ⟨fun q => absurd rfl q, fun _ => ⟨vp_in_nI e2 (by decide), by rw [ec]; exact ⟨fun q => absurd hp q, fun _ => w_88_0 (sm_askN hf h)⟩⟩⟩, fun q => absurd q (by decide)⟩
theorem te_alt2 {w : Int32} (ha : mAt τ mb i w) (h0 : τ 97 28 = 0) (h1 : τ 97 29 = 0) (hs : srt w = 3) (hp : ¬ τ 109 i = 1) (h : mLP d v K (mNone τ)) : mLP d v K τ := by
  refine lp_ended ha h0 h1 ?_
  obtain ⟨e1, e2, e3, e4, e5, e6⟩ := ha
  have ec : (nI i).toNatClampNeg = i := nI_clamp (by omega)
  have hs' : w &&& 15 = 3 := hs
  refine w_130_0 (sm_node e4 e5 ?_)
  rw [e6]
  refine w_85_0 ?_
  rw [hs']
  exact ⟨fun _ => ⟨fun q => absurd rfl q, fun _ => ⟨vp_in_nI e2 (by decide), by rw [ec]; exact ⟨fun _ => sm_none e1 e2 h, fun q => absurd q hp⟩⟩⟩, fun q => absurd q (by decide)⟩
theorem te_two2_2 {w : Int32} (ha : mAt τ mb i w) (h0 : τ 97 28 = 0) (h1 : τ 97 29 = 0) (hs : srt w = 2) (hp : τ 109 i = 2) (h : mLP d v K (mAsk (fst1 w) (sg τ 109 i 1))) : mLP d v K τ := by
  refine lp_ended ha h0 h1 ?_
  obtain ⟨e1, e2, e3, e4, e5, e6⟩ := ha
  have ec : (nI i).toNatClampNeg = i := nI_clamp (by omega)
  have hs' : w &&& 15 = 2 := hs
  refine w_130_0 (sm_node e4 e5 ?_)
  rw [e6]
  refine w_85_0 ?_
  rw [hs']
  exact ⟨fun _ => ⟨fun _ => w_90_0 (sm_in (fun _ _ => ⟨yB1, br_t2 ⟨vp_in_nI e2 (by decide), by rw [ec]; exact ⟨fun q => absurd hp q, fun _ => w_87_0 (sm_ask h)⟩⟩⟩) (fun q => absurd q (by decide))), fun q => absurd q (by decide)⟩, fun q => absurd q (by decide)⟩
theorem te_two1_2 {w : Int32} (ha : mAt τ mb i w) (h0 : τ 97 28 = 0) (h1 : τ 97 29 = 0) (hs : srt w = 2) (hp : ¬ τ 109 i = 2) (h : mLP d v K (mNone τ)) : mLP d v K τ := by
  refine lp_ended ha h0 h1 ?_
  obtain ⟨e1, e2, e3, e4, e5, e6⟩ := ha
  have ec : (nI i).toNatClampNeg = i := nI_clamp (by omega)
  have hs' : w &&& 15 = 2 := hs
  refine w_130_0 (sm_node e4 e5 ?_)
  rw [e6]
  refine w_85_0 ?_
  rw [hs']
  exact ⟨fun _ => ⟨fun _ => w_90_0 (sm_in (fun _ _ => ⟨yB1, br_t2 ⟨vp_in_nI e2 (by decide), by rw [ec]; exact ⟨fun _ => sm_none e1 e2 h, fun q => absurd q hp⟩⟩⟩) (fun q => absurd q (by decide))), fun q => absurd q (by decide)⟩, fun q => absurd q (by decide)⟩
theorem te_two2_4 {w : Int32} (ha : mAt τ mb i w) (h0 : τ 97 28 = 0) (h1 : τ 97 29 = 0) (hs : srt w = 4) (hp : τ 109 i = 2) (h : mLP d v K (mAsk (fst1 w) (sg τ 109 i 1))) : mLP d v K τ := by
  refine lp_ended ha h0 h1 ?_
  obtain ⟨e1, e2, e3, e4, e5, e6⟩ := ha
  have ec : (nI i).toNatClampNeg = i := nI_clamp (by omega)
  have hs' : w &&& 15 = 4 := hs
  refine w_130_0 (sm_node e4 e5 ?_)
  rw [e6]
  refine w_85_0 ?_
  rw [hs']
  exact ⟨fun _ => ⟨fun _ => w_90_0 (sm_in (fun _ _ => ⟨yB1, br_t2 ⟨vp_in_nI e2 (by decide), by rw [ec]; exact ⟨fun q => absurd hp q, fun _ => w_87_0 (sm_ask h)⟩⟩⟩) (fun q => absurd q (by decide))), fun q => absurd q (by decide)⟩, fun q => absurd q (by decide)⟩
theorem te_two1_4 {w : Int32} (ha : mAt τ mb i w) (h0 : τ 97 28 = 0) (h1 : τ 97 29 = 0) (hs : srt w = 4) (hp : ¬ τ 109 i = 2) (h : mLP d v K (mNone τ)) : mLP d v K τ := by
  refine lp_ended ha h0 h1 ?_
  obtain ⟨e1, e2, e3, e4, e5, e6⟩ := ha
  have ec : (nI i).toNatClampNeg = i := nI_clamp (by omega)
  have hs' : w &&& 15 = 4 := hs
  refine w_130_0 (sm_node e4 e5 ?_)
  rw [e6]
  refine w_85_0 ?_
  rw [hs']
  exact ⟨fun _ => ⟨fun _ => w_90_0 (sm_in (fun _ _ => ⟨yB1, br_t2 ⟨vp_in_nI e2 (by decide), by rw [ec]; exact ⟨fun _ => sm_none e1 e2 h, fun q => absurd q hp⟩⟩⟩) (fun q => absurd q (by decide))), fun q => absurd q (by decide)⟩, fun q => absurd q (by decide)⟩
theorem te_two2_5 {w : Int32} (ha : mAt τ mb i w) (h0 : τ 97 28 = 0) (h1 : τ 97 29 = 0) (hs : srt w = 5) (hp : τ 109 i = 2) (h : mLP d v K (mAsk (fst1 w) (sg τ 109 i 1))) : mLP d v K τ := by
  refine lp_ended ha h0 h1 ?_
  obtain ⟨e1, e2, e3, e4, e5, e6⟩ := ha
  have ec : (nI i).toNatClampNeg = i := nI_clamp (by omega)
  have hs' : w &&& 15 = 5 := hs
  refine w_130_0 (sm_node e4 e5 ?_)
  rw [e6]
  refine w_85_0 ?_
  rw [hs']
  exact ⟨fun _ => ⟨fun _ => w_90_0 (sm_in (fun _ _ => ⟨yB1, br_t2 ⟨vp_in_nI e2 (by decide), by rw [ec]; exact ⟨fun q => absurd hp q, fun _ => w_87_0 (sm_ask h)⟩⟩⟩) (fun q => absurd q (by decide))), fun q => absurd q (by decide)⟩, fun q => absurd q (by decide)⟩
theorem te_two1_5 {w : Int32} (ha : mAt τ mb i w) (h0 : τ 97 28 = 0) (h1 : τ 97 29 = 0) (hs : srt w = 5) (hp : ¬ τ 109 i = 2) (h : mLP d v K (mNone τ)) : mLP d v K τ := by
  refine lp_ended ha h0 h1 ?_
  obtain ⟨e1, e2, e3, e4, e5, e6⟩ := ha
  have ec : (nI i).toNatClampNeg = i := nI_clamp (by omega)
  have hs' : w &&& 15 = 5 := hs
  refine w_130_0 (sm_node e4 e5 ?_)
  rw [e6]
  refine w_85_0 ?_
  rw [hs']
  exact ⟨fun _ => ⟨fun _ => w_90_0 (sm_in (fun _ _ => ⟨yB1, br_t2 ⟨vp_in_nI e2 (by decide), by rw [ec]; exact ⟨fun _ => sm_none e1 e2 h, fun q => absurd q hp⟩⟩⟩) (fun q => absurd q (by decide))), fun q => absurd q (by decide)⟩, fun q => absurd q (by decide)⟩
theorem te_two2_6 {w : Int32} (ha : mAt τ mb i w) (h0 : τ 97 28 = 0) (h1 : τ 97 29 = 0) (hs : srt w = 6) (hp : τ 109 i = 2) (h : mLP d v K (mAsk (fst1 w) (sg τ 109 i 1))) : mLP d v K τ := by
  refine lp_ended ha h0 h1 ?_
  obtain ⟨e1, e2, e3, e4, e5, e6⟩ := ha
  have ec : (nI i).toNatClampNeg = i := nI_clamp (by omega)
  have hs' : w &&& 15 = 6 := hs
  refine w_130_0 (sm_node e4 e5 ?_)
  rw [e6]
  refine w_85_0 ?_
  rw [hs']
  exact ⟨fun _ => ⟨fun _ => w_90_0 (sm_in (fun _ _ => ⟨yB1, br_t2 ⟨vp_in_nI e2 (by decide), by rw [ec]; exact ⟨fun q => absurd hp q, fun _ => w_87_0 (sm_ask h)⟩⟩⟩) (fun q => absurd q (by decide))), fun q => absurd q (by decide)⟩, fun q => absurd q (by decide)⟩
theorem te_two1_6 {w : Int32} (ha : mAt τ mb i w) (h0 : τ 97 28 = 0) (h1 : τ 97 29 = 0) (hs : srt w = 6) (hp : ¬ τ 109 i = 2) (h : mLP d v K (mNone τ)) : mLP d v K τ := by
  refine lp_ended ha h0 h1 ?_
  obtain ⟨e1, e2, e3, e4, e5, e6⟩ := ha
  have ec : (nI i).toNatClampNeg = i := nI_clamp (by omega)
  have hs' : w &&& 15 = 6 := hs
  refine w_130_0 (sm_node e4 e5 ?_)
  rw [e6]
  refine w_85_0 ?_
  rw [hs']
  exact ⟨fun _ => ⟨fun _ => w_90_0 (sm_in (fun _ _ => ⟨yB1, br_t2 ⟨vp_in_nI e2 (by decide), by rw [ec]; exact ⟨fun _ => sm_none e1 e2 h, fun q => absurd q hp⟩⟩⟩) (fun q => absurd q (by decide))), fun q => absurd q (by decide)⟩, fun q => absurd q (by decide)⟩
theorem te_two2_7 {w : Int32} (ha : mAt τ mb i w) (h0 : τ 97 28 = 0) (h1 : τ 97 29 = 0) (hs : srt w = 7) (hp : τ 109 i = 2) (h : mLP d v K (mAsk (fst1 w) (sg τ 109 i 1))) : mLP d v K τ := by
  refine lp_ended ha h0 h1 ?_
  obtain ⟨e1, e2, e3, e4, e5, e6⟩ := ha
  have ec : (nI i).toNatClampNeg = i := nI_clamp (by omega)
  have hs' : w &&& 15 = 7 := hs
  refine w_130_0 (sm_node e4 e5 ?_)
  rw [e6]
  refine w_85_0 ?_
  rw [hs']
  exact ⟨fun _ => ⟨fun _ => w_90_0 (sm_in (fun _ _ => ⟨yB1, br_t2 ⟨vp_in_nI e2 (by decide), by rw [ec]; exact ⟨fun q => absurd hp q, fun _ => w_87_0 (sm_ask h)⟩⟩⟩) (fun q => absurd q (by decide))), fun q => absurd q (by decide)⟩, fun q => absurd q (by decide)⟩
theorem te_two1_7 {w : Int32} (ha : mAt τ mb i w) (h0 : τ 97 28 = 0) (h1 : τ 97 29 = 0) (hs : srt w = 7) (hp : ¬ τ 109 i = 2) (h : mLP d v K (mNone τ)) : mLP d v K τ := by
  refine lp_ended ha h0 h1 ?_
  obtain ⟨e1, e2, e3, e4, e5, e6⟩ := ha
  have ec : (nI i).toNatClampNeg = i := nI_clamp (by omega)
  have hs' : w &&& 15 = 7 := hs
  refine w_130_0 (sm_node e4 e5 ?_)
  rw [e6]
  refine w_85_0 ?_
  rw [hs']
  exact ⟨fun _ => ⟨fun _ => w_90_0 (sm_in (fun _ _ => ⟨yB1, br_t2 ⟨vp_in_nI e2 (by decide), by rw [ec]; exact ⟨fun _ => sm_none e1 e2 h, fun q => absurd q hp⟩⟩⟩) (fun q => absurd q (by decide))), fun q => absurd q (by decide)⟩, fun q => absurd q (by decide)⟩
theorem te_two2_8 {w : Int32} (ha : mAt τ mb i w) (h0 : τ 97 28 = 0) (h1 : τ 97 29 = 0) (hs : srt w = 8) (hp : τ 109 i = 2) (h : mLP d v K (mAsk (fst1 w) (sg τ 109 i 1))) : mLP d v K τ := by
  refine lp_ended ha h0 h1 ?_
  obtain ⟨e1, e2, e3, e4, e5, e6⟩ := ha
  have ec : (nI i).toNatClampNeg = i := nI_clamp (by omega)
  have hs' : w &&& 15 = 8 := hs
  refine w_130_0 (sm_node e4 e5 ?_)
  rw [e6]
  refine w_85_0 ?_
  rw [hs']
  exact ⟨fun _ => ⟨fun _ => w_90_0 (sm_in (fun _ _ => ⟨yB1, br_t2 ⟨vp_in_nI e2 (by decide), by rw [ec]; exact ⟨fun q => absurd hp q, fun _ => w_87_0 (sm_ask h)⟩⟩⟩) (fun q => absurd q (by decide))), fun q => absurd q (by decide)⟩, fun q => absurd q (by decide)⟩
theorem te_two1_8 {w : Int32} (ha : mAt τ mb i w) (h0 : τ 97 28 = 0) (h1 : τ 97 29 = 0) (hs : srt w = 8) (hp : ¬ τ 109 i = 2) (h : mLP d v K (mNone τ)) : mLP d v K τ := by
  refine lp_ended ha h0 h1 ?_
  obtain ⟨e1, e2, e3, e4, e5, e6⟩ := ha
  have ec : (nI i).toNatClampNeg = i := nI_clamp (by omega)
  have hs' : w &&& 15 = 8 := hs
  refine w_130_0 (sm_node e4 e5 ?_)
  rw [e6]
  refine w_85_0 ?_
  rw [hs']
  exact ⟨fun _ => ⟨fun _ => w_90_0 (sm_in (fun _ _ => ⟨yB1, br_t2 ⟨vp_in_nI e2 (by decide), by rw [ec]; exact ⟨fun _ => sm_none e1 e2 h, fun q => absurd q hp⟩⟩⟩) (fun q => absurd q (by decide))), fun q => absurd q (by decide)⟩, fun q => absurd q (by decide)⟩
theorem te_two2_9 {w : Int32} (ha : mAt τ mb i w) (h0 : τ 97 28 = 0) (h1 : τ 97 29 = 0) (hs : srt w = 9) (hp : τ 109 i = 2) (h : mLP d v K (mAsk (fst1 w) (sg τ 109 i 1))) : mLP d v K τ := by
  refine lp_ended ha h0 h1 ?_
  obtain ⟨e1, e2, e3, e4, e5, e6⟩ := ha
  have ec : (nI i).toNatClampNeg = i := nI_clamp (by omega)
  have hs' : w &&& 15 = 9 := hs
  refine w_130_0 (sm_node e4 e5 ?_)
  rw [e6]
  refine w_85_0 ?_
  rw [hs']
  exact ⟨fun _ => ⟨fun _ => w_90_0 (sm_in (fun _ _ => ⟨yB1, br_t2 ⟨vp_in_nI e2 (by decide), by rw [ec]; exact ⟨fun q => absurd hp q, fun _ => w_87_0 (sm_ask h)⟩⟩⟩) (fun q => absurd q (by decide))), fun q => absurd q (by decide)⟩, fun q => absurd q (by decide)⟩
theorem te_two1_9 {w : Int32} (ha : mAt τ mb i w) (h0 : τ 97 28 = 0) (h1 : τ 97 29 = 0) (hs : srt w = 9) (hp : ¬ τ 109 i = 2) (h : mLP d v K (mNone τ)) : mLP d v K τ := by
  refine lp_ended ha h0 h1 ?_
  obtain ⟨e1, e2, e3, e4, e5, e6⟩ := ha
  have ec : (nI i).toNatClampNeg = i := nI_clamp (by omega)
  have hs' : w &&& 15 = 9 := hs
  refine w_130_0 (sm_node e4 e5 ?_)
  rw [e6]
  refine w_85_0 ?_
  rw [hs']
  exact ⟨fun _ => ⟨fun _ => w_90_0 (sm_in (fun _ _ => ⟨yB1, br_t2 ⟨vp_in_nI e2 (by decide), by rw [ec]; exact ⟨fun _ => sm_none e1 e2 h, fun q => absurd q hp⟩⟩⟩) (fun q => absurd q (by decide))), fun q => absurd q (by decide)⟩, fun q => absurd q (by decide)⟩
theorem te_two2_10 {w : Int32} (ha : mAt τ mb i w) (h0 : τ 97 28 = 0) (h1 : τ 97 29 = 0) (hs : srt w = 10) (hp : τ 109 i = 2) (h : mLP d v K (mAsk (fst1 w) (sg τ 109 i 1))) : mLP d v K τ := by
  refine lp_ended ha h0 h1 ?_
  obtain ⟨e1, e2, e3, e4, e5, e6⟩ := ha
  have ec : (nI i).toNatClampNeg = i := nI_clamp (by omega)
  have hs' : w &&& 15 = 10 := hs
  refine w_130_0 (sm_node e4 e5 ?_)
  rw [e6]
  refine w_85_0 ?_
  rw [hs']
  exact ⟨fun _ => ⟨fun _ => w_90_0 (sm_in (fun _ _ => ⟨yB1, br_t2 ⟨vp_in_nI e2 (by decide), by rw [ec]; exact ⟨fun q => absurd hp q, fun _ => w_87_0 (sm_ask h)⟩⟩⟩) (fun q => absurd q (by decide))), fun q => absurd q (by decide)⟩, fun q => absurd q (by decide)⟩
theorem te_two1_10 {w : Int32} (ha : mAt τ mb i w) (h0 : τ 97 28 = 0) (h1 : τ 97 29 = 0) (hs : srt w = 10) (hp : ¬ τ 109 i = 2) (h : mLP d v K (mNone τ)) : mLP d v K τ := by
  refine lp_ended ha h0 h1 ?_
  obtain ⟨e1, e2, e3, e4, e5, e6⟩ := ha
  have ec : (nI i).toNatClampNeg = i := nI_clamp (by omega)
  have hs' : w &&& 15 = 10 := hs
  refine w_130_0 (sm_node e4 e5 ?_)
  rw [e6]
  refine w_85_0 ?_
  rw [hs']
  exact ⟨fun _ => ⟨fun _ => w_90_0 (sm_in (fun _ _ => ⟨yB1, br_t2 ⟨vp_in_nI e2 (by decide), by rw [ec]; exact ⟨fun _ => sm_none e1 e2 h, fun q => absurd q hp⟩⟩⟩) (fun q => absurd q (by decide))), fun q => absurd q (by decide)⟩, fun q => absurd q (by decide)⟩
theorem te_un_11 {w : Int32} (ha : mAt τ mb i w) (h0 : τ 97 28 = 0) (h1 : τ 97 29 = 0) (hs : srt w = 11)  (h : mLP d v K (mNone τ)) : mLP d v K τ := by
  refine lp_ended ha h0 h1 ?_
  obtain ⟨e1, e2, e3, e4, e5, e6⟩ := ha
  have ec : (nI i).toNatClampNeg = i := nI_clamp (by omega)
  have hs' : w &&& 15 = 11 := hs
  refine w_130_0 (sm_node e4 e5 ?_)
  rw [e6]
  refine w_85_0 ?_
  rw [hs']
  exact ⟨fun _ => ⟨fun _ => w_90_0 (sm_in (fun q1 q2 => absurd (And.intro q1 q2) (by decide)) (fun _ => ⟨yB0, br_f2 (sm_none e1 e2 h)⟩)), fun q => absurd q (by decide)⟩, fun q => absurd q (by decide)⟩
theorem te_un_13 {w : Int32} (ha : mAt τ mb i w) (h0 : τ 97 28 = 0) (h1 : τ 97 29 = 0) (hs : srt w = 13)  (h : mLP d v K (mNone τ)) : mLP d v K τ := by
  refine lp_ended ha h0 h1 ?_
  obtain ⟨e1, e2, e3, e4, e5, e6⟩ := ha
  have ec : (nI i).toNatClampNeg = i := nI_clamp (by omega)
  have hs' : w &&& 15 = 13 := hs
  refine w_130_0 (sm_node e4 e5 ?_)
  rw [e6]
  refine w_85_0 ?_
  rw [hs']
  exact ⟨fun _ => ⟨fun _ => w_90_0 (sm_in (fun q1 q2 => absurd (And.intro q1 q2) (by decide)) (fun _ => ⟨yB0, br_f2 (sm_none e1 e2 h)⟩)), fun q => absurd q (by decide)⟩, fun q => absurd q (by decide)⟩
theorem te_un_14 {w : Int32} (ha : mAt τ mb i w) (h0 : τ 97 28 = 0) (h1 : τ 97 29 = 0) (hs : srt w = 14)  (h : mLP d v K (mNone τ)) : mLP d v K τ := by
  refine lp_ended ha h0 h1 ?_
  obtain ⟨e1, e2, e3, e4, e5, e6⟩ := ha
  have ec : (nI i).toNatClampNeg = i := nI_clamp (by omega)
  have hs' : w &&& 15 = 14 := hs
  refine w_130_0 (sm_node e4 e5 ?_)
  rw [e6]
  refine w_85_0 ?_
  rw [hs']
  exact ⟨fun _ => ⟨fun _ => w_90_0 (sm_in (fun q1 q2 => absurd (And.intro q1 q2) (by decide)) (fun _ => ⟨yB0, br_f2 (sm_none e1 e2 h)⟩)), fun q => absurd q (by decide)⟩, fun q => absurd q (by decide)⟩
end MT
end
section
/-! THE TWO MACHINES: the relation between the class's machine (σ) and the reference's (τ), node by node of an interval tree -/
def Num (x : Int32) : Prop := -999999 ≤ x.toInt ∧ x.toInt ≤ 999999
/-- class kinds and reference sorts of the signs with two parts, but | and ~ -/
def twoN : List (Int32 × Int32) := [(38, 2), (60, 4), (62, 5), (61, 6), (43, 8), (45, 9), (42, 10)]
section TREE
variable (kd lf rt nb w : Nat → Int32) (AK : Nat → Nat → Prop) (cb : Nat)
/-- the part of node i that the class has in 'row' and the reference in 'wc' is c -/
def chl (row : Nat → Int32) (wc : Int32) (i c : Nat) : Prop := row (cb + i) = nI (cb + c) ∧ wc = nI c ∧ AK c i
def ndNum (i : Nat) : Prop := kd (cb + i) = 48 ∧ srt (w i) = 0 ∧ nb (cb + i) = nmb (w i) ∧ Num (nmb (w i))
def ndName (i : Nat) : Prop := kd (cb + i) = 97 ∧ srt (w i) = 1 ∧ nb (cb + i) = nmb (w i) ∧ vp_in (nmb (w i)) 4
def ndFst (i : Nat) : Prop := kd (cb + i) = 92 ∧ srt (w i) = 11 ∧ nb (cb + i) = nmb (w i) ∧ ∃ q : Nat, q ≤ 9 ∧ nmb (w i) = nI q
def ndNot (i : Nat) : Prop := kd (cb + i) = 33 ∧ srt (w i) = 12
def ndSet (i : Nat) : Prop := ((kd (cb + i) = 58 ∧ srt (w i) = 13) ∨ (kd (cb + i) = 94 ∧ srt (w i) = 14)) ∧ nb (cb + i) = nmb (w i) ∧ vp_in (nmb (w i)) 4
def ndAlt (i : Nat) : Prop := kd (cb + i) = 124 ∧ srt (w i) = 3
def ndRng (i : Nat) : Prop := kd (cb + i) = 126 ∧ srt (w i) = 7
def ndTwo (i : Nat) : Prop := (kd (cb + i), srt (w i)) ∈ twoN
/-- an expression's nodes: lo .. hi, its own at i -/
def Tr : Nat → Nat → Nat → Nat → Prop
  | 0, _, _, _ => False
  | f + 1, lo, hi, i =>
    (lo = i ∧ hi = i ∧ (ndNum kd nb w cb i ∨ ndName kd nb w cb i))
    ∨ (lo < i ∧ i < hi ∧ (ndAlt kd w cb i ∨ ndRng kd w cb i ∨ ndTwo kd w cb i) ∧ ∃ l r, chl AK cb lf (fst1 (w i)) i l ∧ chl AK cb rt (snd1 (w i)) i r ∧ Tr f lo (i - 1) l ∧ Tr f (i + 1) hi r)
    ∨ (lo < i ∧ i = hi ∧ ndFst kd nb w cb i ∧ ∃ c, chl AK cb rt (fst1 (w i)) i c ∧ Tr f lo (i - 1) c)
    ∨ (lo = i ∧ i < hi ∧ (ndNot kd w cb i ∨ ndSet kd nb w cb i) ∧ ∃ c, chl AK cb rt (fst1 (w i)) i c ∧ Tr f (i + 1) hi c)
variable (σ τ : yS)
/-- the same, with where each machine is to go on -/
def TS : Nat → Nat → Nat → Nat → Prop
  | 0, _, _, _ => False
  | f + 1, lo, hi, i =>
    (σ 86 (cb + i) = 0 ∧ τ 109 i = 0 ∧ Tr kd lf rt nb w AK cb (f + 1) lo hi i)
    ∨ (σ 86 (cb + i) = 4 ∧ τ 109 i = 1 ∧ lo = i ∧ hi = i ∧ (ndNum kd nb w cb i ∨ ndName kd nb w cb i))
    ∨ (σ 86 (cb + i) = 4 ∧ τ 109 i = 1 ∧ lo = i ∧ i < hi ∧ ndNot kd w cb i ∧ ∃ c, chl AK cb rt (fst1 (w i)) i c ∧ Tr kd lf rt nb w AK cb f (i + 1) hi c)
    ∨ (σ 86 (cb + i) = 1 ∧ τ 109 i = 1 ∧ lo < i ∧ i < hi ∧ ndAlt kd w cb i ∧ ∃ l r, chl AK cb lf (fst1 (w i)) i l ∧ chl AK cb rt (snd1 (w i)) i r ∧ TS f lo (i - 1) l ∧ Tr kd lf rt nb w AK cb f (i + 1) hi r)
    ∨ (σ 86 (cb + i) = 2 ∧ τ 109 i = 2 ∧ lo < i ∧ i < hi ∧ ndAlt kd w cb i ∧ ∃ l r, chl AK cb lf (fst1 (w i)) i l ∧ chl AK cb rt (snd1 (w i)) i r ∧ Tr kd lf rt nb w AK cb f lo (i - 1) l ∧ TS f (i + 1) hi r)
    ∨ (σ 86 (cb + i) = 2 ∧ τ 109 i = 2 ∧ σ 87 (cb + i) = τ 113 i ∧ lo < i ∧ i < hi ∧ ndTwo kd w cb i ∧ ∃ l r, chl AK cb lf (fst1 (w i)) i l ∧ chl AK cb rt (snd1 (w i)) i r ∧ TS f lo (i - 1) l ∧ TS f (i + 1) hi r)
    ∨ (σ 86 (cb + i) = 3 ∧ τ 109 i = 3 ∧ σ 87 (cb + i) = τ 113 i ∧ σ 89 (cb + i) = τ 110 i ∧ σ 88 (cb + i) = τ 111 i ∧ Num (σ 89 (cb + i)) ∧ Num (σ 88 (cb + i)) ∧ Num (σ 87 (cb + i)) ∧ lo < i ∧ i < hi ∧ ndRng kd w cb i ∧ ∃ l r, chl AK cb lf (fst1 (w i)) i l ∧ chl AK cb rt (snd1 (w i)) i r ∧ TS f lo (i - 1) l ∧ TS f (i + 1) hi r)
    ∨ (σ 86 (cb + i) = 2 ∧ τ 109 i = 1 ∧ σ 89 (cb + i) = τ 110 i ∧ lo < i ∧ i = hi ∧ ndFst kd nb w cb i ∧ (∃ q p : Nat, τ 110 i = nI q ∧ nmb (w i) = nI p ∧ q ≤ p ∧ p ≤ 9) ∧ ∃ c, chl AK cb rt (fst1 (w i)) i c ∧ TS f lo (i - 1) c)
    ∨ (σ 86 (cb + i) = 2 ∧ τ 109 i = 1 ∧ σ 89 (cb + i) = τ 110 i ∧ Num (σ 89 (cb + i)) ∧ lo = i ∧ i < hi ∧ ndSet kd nb w cb i ∧ ∃ c, chl AK cb rt (fst1 (w i)) i c ∧ TS f (i + 1) hi c)
end TREE
section TREE2
variable {kd lf rt nb w : Nat → Int32} {AK : Nat → Nat → Prop} {cb : Nat}
theorem Tr.bd : ∀ {f lo hi i : Nat}, Tr kd lf rt nb w AK cb f lo hi i → lo ≤ i ∧ i ≤ hi
  | 0, _, _, _, h => h.elim
  | f + 1, lo, hi, i, h => by
    rcases h with ⟨h1, h2, -⟩ | ⟨h1, h2, -⟩ | ⟨h1, h2, -⟩ | ⟨h1, h2, -⟩ <;> omega
theorem TS.bd {σ τ : yS} : ∀ {f lo hi i : Nat}, TS kd lf rt nb w AK cb σ τ f lo hi i → lo ≤ i ∧ i ≤ hi
  | 0, _, _, _, h => h.elim
  | f + 1, lo, hi, i, h => by
    rcases h with ⟨-, -, h⟩ | ⟨-, -, h1, h2, -⟩ | ⟨-, -, h1, h2, -⟩ | ⟨-, -, h1, h2, -⟩ | ⟨-, -, h1, h2, -⟩ | ⟨-, -, -, h1, h2, -⟩ | ⟨-, -, -, -, -, -, -, -, h1, h2, -⟩ | ⟨-, -, -, h1, h2, -⟩ | ⟨-, -, -, -, h1, h2, -⟩
    · exact h.bd
    all_goals omega
/-- a fresh expression -/
theorem Tr.ts {σ τ : yS} {f lo hi i : Nat} (h : Tr kd lf rt nb w AK cb f lo hi i) (h1 : σ 86 (cb + i) = 0) (h2 : τ 109 i = 0) : TS kd lf rt nb w AK cb σ τ f lo hi i := by
  cases f with
  | zero => exact h.elim
  | succ f => exact Or.inl ⟨h1, h2, h⟩
/-- an expression's tree stands under every state of its machine -/
theorem TS.tr {σ τ : yS} : ∀ {f lo hi i : Nat}, TS kd lf rt nb w AK cb σ τ f lo hi i → Tr kd lf rt nb w AK cb f lo hi i
  | 0, _, _, _, h => h.elim
  | f + 1, lo, hi, i, h => by
    rcases h with ⟨-, -, h⟩ | ⟨-, -, h1, h2, h3⟩ | ⟨-, -, h1, h2, h3, c, h4, h5⟩ | ⟨-, -, h1, h2, h3, l, r, h4, h5, h6, h7⟩ | ⟨-, -, h1, h2, h3, l, r, h4, h5, h6, h7⟩ | ⟨-, -, -, h1, h2, h3, l, r, h4, h5, h6, h7⟩ | ⟨-, -, -, -, -, -, -, -, h1, h2, h3, l, r, h4, h5, h6, h7⟩ | ⟨-, -, -, h1, h2, h3, -, c, h4, h5⟩ | ⟨-, -, -, -, h1, h2, h3, c, h4, h5⟩
    · exact h
    · exact Or.inl ⟨h1, h2, h3⟩
    · exact Or.inr (Or.inr (Or.inr ⟨h1, h2, Or.inl h3, c, h4, h5⟩))
    · exact Or.inr (Or.inl ⟨h1, h2, Or.inl h3, l, r, h4, h5, h6.tr, h7⟩)
    · exact Or.inr (Or.inl ⟨h1, h2, Or.inl h3, l, r, h4, h5, h6, h7.tr⟩)
    · exact Or.inr (Or.inl ⟨h1, h2, Or.inr (Or.inr h3), l, r, h4, h5, h6.tr, h7.tr⟩)
    · exact Or.inr (Or.inl ⟨h1, h2, Or.inr (Or.inl h3), l, r, h4, h5, h6.tr, h7.tr⟩)
    · exact Or.inr (Or.inr (Or.inl ⟨h1, h2, h3, c, h4, h5.tr⟩))
    · exact Or.inr (Or.inr (Or.inr ⟨h1, h2, Or.inr h3, c, h4, h5.tr⟩))
/-- what lies outside may change -/
theorem TS.fr {σ τ σ' τ' : yS} : ∀ {f lo hi i : Nat}, TS kd lf rt nb w AK cb σ τ f lo hi i → (∀ j, lo ≤ j → j ≤ hi → σ' 86 (cb + j) = σ 86 (cb + j) ∧ σ' 87 (cb + j) = σ 87 (cb + j) ∧ σ' 88 (cb + j) = σ 88 (cb + j) ∧ σ' 89 (cb + j) = σ 89 (cb + j)) →
    (∀ j, lo ≤ j → j ≤ hi → τ' 109 j = τ 109 j ∧ τ' 110 j = τ 110 j ∧ τ' 111 j = τ 111 j ∧ τ' 113 j = τ 113 j) → TS kd lf rt nb w AK cb σ' τ' f lo hi i
  | 0, _, _, _, h, _, _ => h.elim
  | f + 1, lo, hi, i, h, a, b => by
    have hb := h.bd
    obtain ⟨a1, a2, a3, a4⟩ := a i hb.1 hb.2
    obtain ⟨b1, b2, b3, b4⟩ := b i hb.1 hb.2
    unfold TS
    rw [a1, a2, a3, a4, b1, b2, b3, b4]
    rcases h with h | h | h | ⟨g1, g2, h1, h2, h3, l, r, h4, h5, h6, h7⟩ | ⟨g1, g2, h1, h2, h3, l, r, h4, h5, h6, h7⟩ | ⟨g1, g2, g3, h1, h2, h3, l, r, h4, h5, h6, h7⟩ | ⟨g1, g2, g3, g4, g5, g6, g7, g8, h1, h2, h3, l, r, h4, h5, h6, h7⟩ | ⟨g1, g2, g3, h1, h2, h3, h3', c, h4, h5⟩ | ⟨g1, g2, g3, g4, h1, h2, h3, c, h4, h5⟩
    · exact Or.inl h
    · exact Or.inr (Or.inl h)
    · exact Or.inr (Or.inr (Or.inl h))
    · exact Or.inr (Or.inr (Or.inr (Or.inl ⟨g1, g2, h1, h2, h3, l, r, h4, h5, h6.fr (fun j q1 q2 => a j q1 (by omega)) (fun j q1 q2 => b j q1 (by omega)), h7⟩)))
    · exact Or.inr (Or.inr (Or.inr (Or.inr (Or.inl ⟨g1, g2, h1, h2, h3, l, r, h4, h5, h6, h7.fr (fun j q1 q2 => a j (by omega) q2) (fun j q1 q2 => b j (by omega) q2)⟩))))
    · exact Or.inr (Or.inr (Or.inr (Or.inr (Or.inr (Or.inl ⟨g1, g2, g3, h1, h2, h3, l, r, h4, h5, h6.fr (fun j q1 q2 => a j q1 (by omega)) (fun j q1 q2 => b j q1 (by omega)), h7.fr (fun j q1 q2 => a j (by omega) q2) (fun j q1 q2 => b j (by omega) q2)⟩)))))
    · exact Or.inr (Or.inr (Or.inr (Or.inr (Or.inr (Or.inr (Or.inl ⟨g1, g2, g3, g4, g5, g6, g7, g8, h1, h2, h3, l, r, h4, h5, h6.fr (fun j q1 q2 => a j q1 (by omega)) (fun j q1 q2 => b j q1 (by omega)), h7.fr (fun j q1 q2 => a j (by omega) q2) (fun j q1 q2 => b j (by omega) q2)⟩))))))
    · exact Or.inr (Or.inr (Or.inr (Or.inr (Or.inr (Or.inr (Or.inr (Or.inl ⟨g1, g2, g3, h1, h2, h3, h3', c, h4, h5.fr (fun j q1 q2 => a j q1 (by omega)) (fun j q1 q2 => b j q1 (by omega))⟩)))))))
    · exact Or.inr (Or.inr (Or.inr (Or.inr (Or.inr (Or.inr (Or.inr (Or.inr ⟨g1, g2, g3, g4, h1, h2, h3, c, h4, h5.fr (fun j q1 q2 => a j (by omega) q2) (fun j q1 q2 => b j (by omega) q2)⟩)))))))
end TREE2
/-- frames: which places of the machines an asking of lo .. hi may change -/
def FC (lo hi : Nat) (σ σ' : yS) : Prop := (∀ c, c < 84 ∨ 89 < c → σ' c = σ c) ∧ ∀ c j, 86 ≤ c → (j < lo ∨ hi < j) → σ' c j = σ c j
def FM (lo hi : Nat) (τ τ' : yS) : Prop := (∀ c, c ≠ 97 → c ≠ 109 → c ≠ 110 → c ≠ 111 → c ≠ 112 → c ≠ 113 → τ' c = τ c) ∧ (∀ c j, 109 ≤ c → c ≠ 112 → (j < lo ∨ hi < j) → τ' c j = τ c j) ∧ ∀ k, k < 25 ∨ 30 < k → τ' 97 k = τ 97 k
theorem FC.rf {lo hi : Nat} {σ : yS} : FC lo hi σ σ := ⟨fun _ _ => rfl, fun _ _ _ _ => rfl⟩
theorem FM.rf {lo hi : Nat} {σ : yS} : FM lo hi σ σ := ⟨fun _ _ _ _ _ _ _ => rfl, fun _ _ _ _ _ => rfl, fun _ _ => rfl⟩
theorem FC.tr {lo hi lo' hi' : Nat} {a b c : yS} (h1 : FC lo hi a b) (h2 : FC lo' hi' b c) (hl : lo ≤ lo') (hh : hi' ≤ hi) : FC lo hi a c :=
  ⟨fun q h => (h2.1 q h).trans (h1.1 q h), fun q j h g => (h2.2 q j h (by omega)).trans (h1.2 q j h g)⟩
theorem FM.tr {lo hi lo' hi' : Nat} {a b c : yS} (h1 : FM lo hi a b) (h2 : FM lo' hi' b c) (hl : lo ≤ lo') (hh : hi' ≤ hi) : FM lo hi a c :=
  ⟨fun q g1 g2 g3 g4 g5 g6 => (h2.1 q g1 g2 g3 g4 g5 g6).trans (h1.1 q g1 g2 g3 g4 g5 g6), fun q j h g k => (h2.2.1 q j h g (by omega)).trans (h1.2.1 q j h g k), fun k g => (h2.2.2 k g).trans (h1.2.2 k g)⟩
theorem FC.st {lo hi c j : Nat} {a b : yS} {v : Int32} (h : FC lo hi a b) (h1 : 86 ≤ c) (h2 : c ≤ 89) (h3 : lo ≤ j) (h4 : j ≤ hi) : FC lo hi a (sg b c j v) := by
  refine ⟨fun q hq => ?_, fun q k hq hk => ?_⟩
  · rw [sg_cell _ _ _ (by omega)]; exact h.1 q hq
  · by_cases e : q = c
    · subst e; rw [sg_ne _ _ _ (by omega)]; exact h.2 q k hq hk
    · rw [sg_cell _ _ _ e]; exact h.2 q k hq hk
theorem FC.s4 {lo hi c j : Nat} {a b : yS} {v : Int32} (h : FC lo hi a b) (h1 : 84 ≤ c) (h2 : c ≤ 85) : FC lo hi a (sg b c j v) := by
  refine ⟨fun q hq => ?_, fun q k hq hk => ?_⟩
  · rw [sg_cell _ _ _ (by omega)]; exact h.1 q hq
  · rw [sg_cell _ _ _ (by omega)]; exact h.2 q k hq hk
theorem FM.st {lo hi c j : Nat} {a b : yS} {v : Int32} (h : FM lo hi a b) (h1 : c = 109 ∨ c = 110 ∨ c = 111 ∨ c = 113) (h3 : lo ≤ j) (h4 : j ≤ hi) : FM lo hi a (sg b c j v) := by
  refine ⟨fun q g1 g2 g3 g4 g5 g6 => ?_, fun q k hq hn hk => ?_, fun k hk => ?_⟩
  · rw [sg_cell _ _ _ (by omega)]; exact h.1 q g1 g2 g3 g4 g5 g6
  · by_cases e : q = c
    · subst e; rw [sg_ne _ _ _ (by omega)]; exact h.2.1 q k hq hn hk
    · rw [sg_cell _ _ _ e]; exact h.2.1 q k hq hn hk
  · rw [sg_cell _ _ _ (by omega)]; exact h.2.2 k hk
theorem FM.s7 {lo hi j : Nat} {a b : yS} {v : Int32} (h : FM lo hi a b) (h1 : 25 ≤ j) (h2 : j ≤ 30) : FM lo hi a (sg b 97 j v) := by
  refine ⟨fun q g1 g2 g3 g4 g5 g6 => ?_, fun q k hq hn hk => ?_, fun k hk => ?_⟩
  · rw [sg_cell _ _ _ g1]; exact h.1 q g1 g2 g3 g4 g5 g6
  · rw [sg_cell _ _ _ (by omega)]; exact h.2.1 q k hq hn hk
  · rw [sg_ne _ _ _ (by omega)]; exact h.2.2 k hk
theorem FM.s2 {lo hi j : Nat} {a b : yS} {v : Int32} (h : FM lo hi a b) : FM lo hi a (sg b 112 j v) := by
  refine ⟨fun q g1 g2 g3 g4 g5 g6 => ?_, fun q k hq hn hk => ?_, fun k hk => ?_⟩
  · rw [sg_cell _ _ _ g5]; exact h.1 q g1 g2 g3 g4 g5 g6
  · rw [sg_cell _ _ _ hn]; exact h.2.1 q k hq hn hk
  · rw [sg_cell _ _ _ (by omega)]; exact h.2.2 k hk
theorem FM.yield {lo hi : Nat} {a b : yS} {v : Int32} (h : FM lo hi a b) : FM lo hi a (mYield v b) := by
  unfold mYield
  exact ((((h.s7 (by omega) (by omega)).s7 (by omega) (by omega)).s7 (by omega) (by omega)).s7 (by omega) (by omega)).s7 (by omega) (by omega)
theorem FM.none {lo hi : Nat} {a b : yS} (h : FM lo hi a b) : FM lo hi a (mNone b) := by
  unfold mNone
  exact ((h.s7 (by omega) (by omega)).s7 (by omega) (by omega)).s7 (by omega) (by omega)
theorem FM.ask {lo hi : Nat} {a b : yS} {p : Int32} (h : FM lo hi a b) : FM lo hi a (mAsk p b) := by
  unfold mAsk
  exact (h.s7 (by omega) (by omega)).s7 (by omega) (by omega)
theorem FM.askN {lo hi : Nat} {a b : yS} {p : Nat} (h : FM lo hi a b) (h1 : lo ≤ p) (h2 : p ≤ hi) (h3 : p < 60) : FM lo hi a (mAskN (nI p) b) := by
  unfold mAskN
  rw [nI_clamp (by omega)]
  exact ((h.s7 (by omega) (by omega)).s7 (by omega) (by omega)).st (Or.inl rfl) h1 h2
end
section
/-! THE SIMULATION: asking a node of the class's machine, and the reference's walk from that node until it is back at its asker -/
def PC (kd lf rt nb : Nat → Int32) (σ : yS) : Prop := σ 3 = kd ∧ σ 4 = lf ∧ σ 5 = rt ∧ σ 6 = nb
def PM (mb : Nat) (w ak : Nat → Int32) (τ : yS) : Prop := τ 97 24 = nI mb ∧ (∀ j, τ 98 (mb + j) = w j) ∧ τ 108 = ak
def VR (σ τ : yS) : Prop := ∀ x, x < 4 → σ 85 x = τ 112 x ∧ Num (σ 85 x)
def WR (q : Nat) (σ τ : yS) : Prop := σ 84 7 = nI q ∧ τ 97 25 = nI q ∧ q ≤ 1000
def akp (ak : Nat → Int32) (c i : Nat) : Prop := ak c = nI i
/-- a result came; none came; the line was cut -/
def OT (q : Nat) (σ τ : yS) : Prop := VR σ τ ∧ σ 84 8 = 0 ∧ τ 97 26 = 0 ∧ (∃ q', q < q' ∧ WR q' σ τ) ∧ τ 97 28 = 0 ∧ τ 97 29 = 1 ∧ τ 97 30 = σ 84 6 ∧ Num (σ 84 6)
def ON (q : Nat) (σ τ : yS) : Prop := VR σ τ ∧ σ 84 8 = 0 ∧ τ 97 26 = 0 ∧ (∃ q', q ≤ q' ∧ WR q' σ τ) ∧ τ 97 28 = 0 ∧ τ 97 29 = 0
def OC (σ τ : yS) : Prop := VR σ τ ∧ σ 84 8 = 1 ∧ τ 97 26 = 1 ∧ WR 1000 σ τ
def IN (q i : Nat) (σ τ : yS) : Prop := VR σ τ ∧ σ 84 8 = 0 ∧ τ 97 26 = 0 ∧ WR q σ τ ∧ τ 97 27 = nI i ∧ τ 97 28 = 1
section SIMV
variable (kd lf rt nb w ak : Nat → Int32) (mb cb : Nat)
def oAll (f lo hi i q : Nat) (σ τ : yS) (r : Bool × yS) (τ' : yS) : Prop :=
  PM mb w ak τ' ∧ FC (cb + lo) (cb + hi) σ r.2 ∧ FM lo hi τ τ' ∧
  ((r.1 = true ∧ OT q r.2 τ' ∧ τ' 97 27 = ak i ∧ TS kd lf rt nb w (akp ak) cb r.2 τ' f lo hi i) ∨ (r.1 = false ∧ ON q r.2 τ' ∧ τ' 97 27 = ak i) ∨ (r.1 = false ∧ OC r.2 τ'))
def SIM (f F : Nat) : Prop := ∀ (lo hi i q : Nat) (σ τ : yS), hi < 60 → cb + hi < 60 → mb + hi < 89 → PC kd lf rt nb σ → PM mb w ak τ → TS kd lf rt nb w (akp ak) cb σ τ f lo hi i → IN q i σ τ →
  ∀ (d : Nat) (v : Int32) (K : Int32 → yS → Prop), (∀ τ', oAll kd lf rt nb w ak mb cb f lo hi i q σ τ (askC F (nI (cb + i)) σ) τ' → mLP d v K τ') → mLP d v K τ
end SIMV
section SIM1
variable {kd lf rt nb w ak : Nat → Int32} {mb cb d : Nat} {v : Int32} {K : Int32 → yS → Prop} {σ τ : yS}
theorem PC.fr {lo hi : Nat} {σ' : yS} (h : PC kd lf rt nb σ) (g : FC lo hi σ σ') : PC kd lf rt nb σ' :=
  ⟨(g.1 3 (by omega)).trans h.1, (g.1 4 (by omega)).trans h.2.1, (g.1 5 (by omega)).trans h.2.2.1, (g.1 6 (by omega)).trans h.2.2.2⟩
theorem PM.fr {lo hi : Nat} {τ' : yS} (h : PM mb w ak τ) (g : FM lo hi τ τ') : PM mb w ak τ' :=
  ⟨(g.2.2 24 (by omega)).trans h.1, fun j => by rw [g.1 98 (by decide) (by decide) (by decide) (by decide) (by decide) (by decide)]; exact h.2.1 j, (g.1 108 (by decide) (by decide) (by decide) (by decide) (by decide) (by decide)).trans h.2.2⟩
theorem PM.at {i : Nat} (h : PM mb w ak τ) (h1 : τ 97 27 = nI i) (hi : i < 60) (hc : τ 97 26 = 0) (hm : mb + i < 89) : mAt τ mb i (w i) := ⟨h1, hi, hc, h.1, hm, h.2.1 i⟩
theorem WR.lt {q : Nat} (h : WR q σ τ) : σ 84 7 < 1000 ↔ q < 1000 := by
  rw [h.1]
  have := h.2.2
  exact nI_ltI (a := q) (b := 1000) (by omega) (by decide)
theorem WR.eq {q : Nat} (h : WR q σ τ) : τ 97 25 = 1000 ↔ q = 1000 := by
  rw [h.2.1]
  have := h.2.2
  exact nI_eq (a := q) (b := 1000) (by omega) (by decide)
/-- the end of an asking by a result -/
theorem yl_end {q i : Nat} {x : Int32} (hV : VR σ τ) (hc : σ 84 8 = 0) (ht : τ 97 26 = 0) (hW : WR q σ τ) (hh : τ 97 27 = nI i) (ha : τ 108 = ak) (hi : i < 60) (hx : Num x)
    (hT : ∀ σ' τ', yieldsC x σ = (true, σ') → (∀ q0, q0 ≤ q → OT q0 σ' τ') → τ' 97 27 = ak i → (∀ c, c ≠ 84 → σ' c = σ c) → (∀ c, c ≠ 97 → τ' c = τ c) → (∀ k, k < 25 ∨ 30 < k → τ' 97 k = τ 97 k) → mLP d v K τ')
    (hC : ∀ σ' τ', yieldsC x σ = (false, σ') → OC σ' τ' → (∀ c, c ≠ 84 → σ' c = σ c) → (∀ c, c ≠ 97 → τ' c = τ c) → (∀ k, k < 25 ∨ 30 < k → τ' 97 k = τ 97 k) → mLP d v K τ') : mYl d v K x τ := by
  have hq := hW.2.2
  refine ⟨fun e => ?_, fun e => ?_⟩
  · have e1 := hW.eq.mp e
    refine hC (sg σ 84 8 1) _ ?_ ⟨fun y hy => hV y hy, rfl, rfl, hW.1.trans (by rw [e1]), hW.2.1.trans (by rw [e1]), Nat.le_refl _⟩ (fun c h => sg_cell _ _ _ h) (fun c h => sg_cell _ _ _ h) (fun k h => sg_ne _ _ _ (by omega))
    unfold yieldsC
    rw [if_neg (fun z => by have := hW.lt.mp z; omega)]
  · have e0 : ¬ q = 1000 := fun z => e (hW.eq.mpr z)
    have e1 : q < 1000 := by omega
    refine hT (sg (sg σ 84 7 (σ 84 7 + 1)) 84 6 x) _ ?_ (fun q0 h0 => ⟨fun y hy => hV y hy, hc, ht, ⟨q + 1, by omega, ?_, ?_, e1⟩, rfl, rfl, rfl, hx⟩) ?_ (fun c h => ?_) (fun c h => ?_) (fun k h => ?_)
    · unfold yieldsC
      rw [if_pos (hW.lt.mpr e1)]
    · show σ 84 7 + 1 = _
      rw [hW.1, nI_1]
    · show τ 97 25 + 1 = _
      rw [hW.2.1, nI_1]
    · show τ 108 (τ 97 27).toNatClampNeg = _
      rw [hh, nI_clamp (by omega), ha]
    · rw [sg_cell _ _ _ h, sg_cell _ _ _ h]
    · unfold mYield
      rw [sg_cell _ _ _ h, sg_cell _ _ _ h, sg_cell _ _ _ h, sg_cell _ _ _ h, sg_cell _ _ _ h]
    · unfold mYield
      rw [sg_ne _ _ _ (by omega), sg_ne _ _ _ (by omega), sg_ne _ _ _ (by omega), sg_ne _ _ _ (by omega), sg_ne _ _ _ (by omega)]
theorem FC.yd {lo hi : Nat} {a b c : yS} (h : FC lo hi a b) (g : ∀ q, q ≠ 84 → c q = b q) : FC lo hi a c :=
  ⟨fun q hq => (g q (by omega)).trans (h.1 q hq), fun q j hq hj => by rw [g q (by omega)]; exact h.2 q j hq hj⟩
theorem FM.yd {lo hi : Nat} {a b c : yS} (h : FM lo hi a b) (g : ∀ q, q ≠ 97 → c q = b q) (g2 : ∀ k, k < 25 ∨ 30 < k → c 97 k = b 97 k) : FM lo hi a c :=
  ⟨fun q h1 h2 h3 h4 h5 h6 => (g q h1).trans (h.1 q h1 h2 h3 h4 h5 h6), fun q j hq hn hj => by rw [g q (by omega)]; exact h.2.1 q j hq hn hj, fun k hk => (g2 k hk).trans (h.2.2 k hk)⟩
theorem TS.yd {f lo hi i : Nat} {σ' τ' : yS} {AK : Nat → Nat → Prop} (h : TS kd lf rt nb w AK cb σ τ f lo hi i) (g1 : ∀ c, c ≠ 84 → σ' c = σ c) (g2 : ∀ c, c ≠ 97 → τ' c = τ c) : TS kd lf rt nb w AK cb σ' τ' f lo hi i :=
  h.fr (fun j _ _ => by rw [g1 86 (by decide), g1 87 (by decide), g1 88 (by decide), g1 89 (by decide)]; exact ⟨rfl, rfl, rfl, rfl⟩) (fun j _ _ => by rw [g2 109 (by decide), g2 110 (by decide), g2 111 (by decide), g2 113 (by decide)]; exact ⟨rfl, rfl, rfl, rfl⟩)
/-- the whole end of an asking by a result, in the words of SIM -/
theorem yl_all {f lo hi i q q1 : Nat} {x : Int32} {σ1 τ1 : yS} {r : Bool × yS} (hr : r = yieldsC x σ1) (hV : VR σ1 τ1) (hc : σ1 84 8 = 0) (ht : τ1 97 26 = 0) (hW : WR q1 σ1 τ1) (hq : q ≤ q1) (hh : τ1 97 27 = nI i) (hi6 : i < 60) (hx : Num x)
    (hP : PM mb w ak τ1) (hF : FC (cb + lo) (cb + hi) σ σ1) (hG : FM lo hi τ τ1) (hTS : TS kd lf rt nb w (akp ak) cb σ1 τ1 f lo hi i)
    (hK : ∀ τ', oAll kd lf rt nb w ak mb cb f lo hi i q σ τ r τ' → mLP d v K τ') : mYl d v K x τ1 := by
  refine yl_end hV hc ht hW hh hP.2.2 hi6 hx (fun σ' τ' e1 e2 e3 g1 g2 g3 => hK τ' ?_) (fun σ' τ' e1 e2 g1 g2 g3 => hK τ' ?_)
  · rw [hr, e1]
    exact ⟨hP.fr ((FM.rf (lo := lo) (hi := hi)).yd g2 g3), hF.yd g1, hG.yd g2 g3, Or.inl ⟨rfl, e2 q hq, e3, hTS.yd g1 g2⟩⟩
  · rw [hr, e1]
    exact ⟨hP.fr ((FM.rf (lo := lo) (hi := hi)).yd g2 g3), hF.yd g1, hG.yd g2 g3, Or.inr (Or.inr ⟨rfl, e2⟩)⟩
/-- the whole end of an asking by none -/
theorem no_all {f lo hi i q q1 : Nat} {σ1 τ1 : yS} {r : Bool × yS} (hr : r = (false, σ1)) (hV : VR σ1 τ1) (hc : σ1 84 8 = 0) (ht : τ1 97 26 = 0) (hW : WR q1 σ1 τ1) (hq : q ≤ q1) (hh : τ1 97 27 = nI i) (hi6 : i < 60)
    (hP : PM mb w ak τ1) (hF : FC (cb + lo) (cb + hi) σ σ1) (hG : FM lo hi τ τ1)
    (hK : ∀ τ', oAll kd lf rt nb w ak mb cb f lo hi i q σ τ r τ' → mLP d v K τ') : mLP d v K (mNone τ1) := by
  refine hK _ ?_
  rw [hr]
  refine ⟨hP.fr ((FM.rf (lo := lo) (hi := hi)).none), hF, hG.none, Or.inr (Or.inl ⟨rfl, ⟨fun y hy => hV y hy, hc, ht, ⟨q1, hq, hW.1, hW.2.1, hW.2.2⟩, rfl, rfl⟩, ?_⟩)⟩
  show τ1 108 (τ1 97 27).toNatClampNeg = _
  rw [hh, nI_clamp (by omega), hP.2.2]
/-- unfolding ask at a node -/
theorem ask_at {F n : Nat} (hn : n < 60) (hc : σ 84 8 = 0) : askC (F + 1) (nI n) σ =
      (if σ 3 n = 33 then noneC (askC F) n σ else if σ 3 n = 48 then leafC n σ else if σ 3 n = 58 then targC (askC F) n σ else if σ 3 n = 92 then frstC (askC F) n σ else if σ 3 n = 94 then targC (askC F) n σ else if σ 3 n = 97 then leafC n σ else if σ 3 n = 124 then eithC (askC F) n σ else pairC (askC F) n σ) := by
  have e : inN (nI n) 60 = true := inN_t.mpr (vp_in_nI hn (by decide))
  have e2 : (nI n).toNatClampNeg = n := nI_clamp (by omega)
  rw [askC, if_pos hc, if_pos e, e2]
theorem ask_cut {F : Nat} {n : Int32} (hc : ¬ σ 84 8 = 0) : askC F n σ = (false, σ) := by
  cases F with
  | zero => rfl
  | succ F => rw [askC, if_neg hc]
theorem sim_leaf {F f lo hi i q : Nat} (h60 : hi < 60) (hcb : cb + hi < 60) (hmb : mb + hi < 89) (hPC : PC kd lf rt nb σ) (hPM : PM mb w ak τ) (hlo : lo = i) (hhi : hi = i) (hnd : ndNum kd nb w cb i ∨ ndName kd nb w cb i)
    (hst : (σ 86 (cb + i) = 0 ∧ τ 109 i = 0) ∨ (σ 86 (cb + i) = 4 ∧ τ 109 i = 1)) (hIN : IN q i σ τ)
    (hK : ∀ τ', oAll kd lf rt nb w ak mb cb (f + 1) lo hi i q σ τ (askC (F + 1) (nI (cb + i)) σ) τ' → mLP d v K τ') : mLP d v K τ := by
  obtain ⟨hV, hc, ht, hW, hh, has⟩ := hIN
  have hi60 : i < 60 := by omega
  have hat := hPM.at hh hi60 ht (by omega)
  have hk : σ 3 (cb + i) = kd (cb + i) := by rw [hPC.1]
  have hn : σ 6 (cb + i) = nb (cb + i) := by rw [hPC.2.2.2]
  have hask : askC (F + 1) (nI (cb + i)) σ = leafC (cb + i) σ := by
    rw [ask_at (by omega) hc, hk]
    rcases hnd with ⟨h1, -⟩ | ⟨h1, -⟩ <;> rw [h1] <;> rfl
  rw [hask] at hK
  rcases hst with ⟨s1, s2⟩ | ⟨s1, s2⟩
  · have hTS : TS kd lf rt nb w (akp ak) cb (sg σ 86 (cb + i) 4) (sg τ 109 i 1) (f + 1) lo hi i := Or.inr (Or.inl ⟨sg_same _ _ _ _, sg_same _ _ _ _, hlo, hhi, hnd⟩)
    have hF : FC (cb + lo) (cb + hi) σ (sg σ 86 (cb + i) 4) := FC.rf.st (by omega) (by omega) (by omega) (by omega)
    have hG : FM lo hi τ (sg τ 109 i 1) := FM.rf.st (Or.inl rfl) (by omega) (by omega)
    rcases hnd with ⟨h1, h2, h3, h4⟩ | ⟨h1, h2, h3, h4⟩
    · refine ta_num hat has h2 s2 (yl_all (σ1 := sg σ 86 (cb + i) 4) (r := leafC (cb + i) σ) ?_ hV hc ht hW (Nat.le_refl q) hh hi60 h4 (hPM.fr hG) hF hG hTS hK)
      unfold leafC
      rw [if_pos s1, if_pos (by rw [hk]; exact h1), hn, h3]
    · obtain ⟨x, hx, ex⟩ := vp_in_of h4 (by decide)
      have exc : (nmb (w i)).toNatClampNeg = x := by rw [ex]; exact nI_clamp (by omega)
      refine ta_name hat has h2 s2 h4 (yl_all (σ1 := sg σ 86 (cb + i) 4) (r := leafC (cb + i) σ) ?_ hV hc ht hW (Nat.le_refl q) hh hi60 ?_ (hPM.fr hG) hF hG hTS hK)
      · unfold leafC
        rw [if_pos s1, if_neg (by rw [hk, h1]; decide), hn, h3, if_pos (inN_t.mpr h4), exc, (hV x hx).1]
      · rw [exc, ← (hV x hx).1]; exact (hV x hx).2
  · have hr : leafC (cb + i) σ = (false, σ) := by
      unfold leafC
      rw [if_neg (by rw [s1]; decide)]
    have hp : ¬ τ 109 i = 0 := by rw [s2]; decide
    have e9 : sg τ 109 i 1 = τ := sg_fix s2
    have fin : mLP d v K (mNone (sg τ 109 i 1)) := by
      rw [e9]
      exact no_all hr hV hc ht hW (Nat.le_refl q) hh hi60 hPM FC.rf FM.rf hK
    rcases hnd with ⟨h1, h2, h3, h4⟩ | ⟨h1, h2, h3, h4⟩
    · exact ta_leaf1_0 hat has h2 hp fin
    · exact ta_leaf1_1 hat has h2 hp fin
end SIM1
end
section
section SIM2
variable {kd lf rt nb w ak : Nat → Int32} {mb cb d : Nat} {v : Int32} {K : Int32 → yS → Prop} {σ τ : yS}
theorem renew_nI {n : Nat} (h : n < 60) : renewC (nI n) σ = sg σ 86 n 0 := by
  unfold renewC
  rw [if_pos (inN_t.mpr (vp_in_nI h (by decide))), nI_clamp (by omega)]
theorem askN_109 {c : Nat} (h : c < 60) : mAskN (nI c) τ = sg (sg (sg τ 97 27 (nI c)) 97 28 1) 109 c 0 := by
  unfold mAskN
  rw [nI_clamp (by omega)]
theorem cut_all {f lo hi i q : Nat} {τ1 : yS} {r : Bool × yS} (h1 : r.1 = false) (h2 : OC r.2 τ1) (hP : PM mb w ak τ1) (hF : FC (cb + lo) (cb + hi) σ r.2) (hG : FM lo hi τ τ1)
    (hK : ∀ τ', oAll kd lf rt nb w ak mb cb f lo hi i q σ τ r τ' → mLP d v K τ') : mLP d v K τ1 := hK τ1 ⟨hP, hF, hG, Or.inr (Or.inr ⟨h1, h2⟩)⟩
theorem OC.st {σ1 : yS} {c j : Nat} {x : Int32} (h : OC σ1 τ) (hc : 86 ≤ c) : OC (sg σ1 c j x) τ := by
  refine ⟨fun y hy => ?_, ?_, h.2.2.1, ?_⟩
  · rw [sg_cell _ _ _ (by omega)]; exact h.1 y hy
  · rw [sg_cell _ _ _ (by omega)]; exact h.2.1
  · refine ⟨?_, h.2.2.2.2.1, h.2.2.2.2.2⟩
    rw [sg_cell _ _ _ (by omega)]; exact h.2.2.2.1
theorem OC.cut {σ1 : yS} (h : OC σ1 τ) : ¬ σ1 84 8 = 0 := by rw [h.2.1]; exact one_ne
/-- a part asked anew, behind the node's own marks -/
theorem new_in {q i c : Nat} {s p : Int32} (hIN : IN q i σ τ) (hc : cb + c < 60) (hc2 : c < 60) : IN q c (sg (sg σ 86 (cb + i) s) 86 (cb + c) 0) (mAskN (nI c) (sg τ 109 i p)) := by
  obtain ⟨hV, h1, h2, h3, h4, h5⟩ := hIN
  rw [askN_109 hc2]
  exact ⟨fun y hy => hV y hy, h1, h2, h3, rfl, rfl⟩
theorem sim_not {F f lo hi i q c : Nat} (ih : SIM kd lf rt nb w ak mb cb f F) (h60 : hi < 60) (hcb : cb + hi < 60) (hmb : mb + hi < 89) (hPC : PC kd lf rt nb σ) (hPM : PM mb w ak τ) (hlo : lo = i) (hhi : i < hi) (hnd : ndNot kd w cb i) (hch : chl (akp ak) cb rt (fst1 (w i)) i c) (hTr : Tr kd lf rt nb w (akp ak) cb f (i + 1) hi c)
    (hst : (σ 86 (cb + i) = 0 ∧ τ 109 i = 0) ∨ (σ 86 (cb + i) = 4 ∧ τ 109 i = 1)) (hIN : IN q i σ τ)
    (hK : ∀ τ', oAll kd lf rt nb w ak mb cb (f + 1) lo hi i q σ τ (askC (F + 1) (nI (cb + i)) σ) τ' → mLP d v K τ') : mLP d v K τ := by
  have hIN0 := hIN
  obtain ⟨hV, hc, ht, hW, hh, has⟩ := hIN
  have hb := hTr.bd
  have hi60 : i < 60 := by omega
  have hat := hPM.at hh hi60 ht (by omega)
  have hk : σ 3 (cb + i) = 33 := by rw [hPC.1]; exact hnd.1
  have hr5 : σ 5 (cb + i) = nI (cb + c) := by rw [hPC.2.2.1]; exact hch.1
  have hask : askC (F + 1) (nI (cb + i)) σ = noneC (askC F) (cb + i) σ := by
    rw [ask_at (by omega) hc, hk]; rfl
  rw [hask] at hK
  rcases hst with ⟨s1, s2⟩ | ⟨s1, s2⟩
  · refine ta_not0 hat has hnd.2 s2 (by rw [hch.2.1]; exact vp_in_nI (by omega) (by decide)) ?_
    rw [hch.2.1]
    have eσ : renewC (σ 5 (cb + i)) (sg σ 86 (cb + i) 4) = sg (sg σ 86 (cb + i) 4) 86 (cb + c) 0 := by rw [hr5]; exact renew_nI (by omega)
    have e5 : (sg (sg σ 86 (cb + i) 4) 86 (cb + c) 0) 5 (cb + i) = nI (cb + c) := hr5
    generalize hσ1 : sg (sg σ 86 (cb + i) 4) 86 (cb + c) 0 = σ1 at *
    generalize hτ1 : mAskN (nI c) (sg τ 109 i 1) = τ1 at *
    have hF1 : FC (cb + lo) (cb + hi) σ σ1 := by rw [← hσ1]; exact (FC.rf.st (by omega) (by omega) (by omega) (by omega)).st (by omega) (by omega) (by omega) (by omega)
    have hG1 : FM lo hi τ τ1 := by rw [← hτ1]; exact (FM.rf.st (Or.inl rfl) (by omega) (by omega)).askN (by omega) (by omega) (by omega)
    have hp1 : σ1 86 (cb + i) = 4 := by rw [← hσ1, sg_ne _ _ _ (by omega), sg_same]
    have hp2 : τ1 109 i = 1 := by rw [← hτ1, askN_109 (by omega), sg_ne _ _ _ (by omega)]; exact sg_same τ 109 i 1
    refine ih (i + 1) hi c q σ1 τ1 h60 hcb hmb (hPC.fr hF1) (hPM.fr hG1) (hTr.ts (by rw [← hσ1]; exact sg_same _ _ _ _) (by rw [← hτ1, askN_109 (by omega)]; exact sg_same _ _ _ _)) (by rw [← hσ1, ← hτ1]; exact new_in hIN0 (by omega) (by omega)) d v K (fun τ' ho => ?_)
    obtain ⟨o1, o2, o3, o4⟩ := ho
    have hr : noneC (askC F) (cb + i) σ = if (askC F (nI (cb + c)) σ1).1 = true then (false, (askC F (nI (cb + c)) σ1).2) else yieldsC 0 (askC F (nI (cb + c)) σ1).2 := by
      unfold noneC
      rw [if_pos s1, eσ, e5]
    generalize askC F (nI (cb + c)) σ1 = r1 at *
    have hF2 : FC (cb + lo) (cb + hi) σ r1.2 := hF1.tr o2 (by omega) (by omega)
    have hG2 : FM lo hi τ τ' := hG1.tr o3 (by omega) (by omega)
    rcases o4 with ⟨b1, b2, b3, b4⟩ | ⟨b1, b2, b3⟩ | ⟨b1, b2⟩
    · rw [b1, if_pos rfl] at hr
      obtain ⟨c1, c2, c3, ⟨q', c4, c5⟩, c6, c7, -⟩ := b2
      have hh' : τ' 97 27 = nI i := b3.trans hch.2.2
      exact tt_not (o1.at hh' hi60 c3 (by omega)) c6 c7 hnd.2 (no_all hr c1 c2 c3 c5 (by omega) hh' hi60 o1 hF2 hG2 hK)
    · rw [b1, if_neg (by decide)] at hr
      obtain ⟨c1, c2, c3, ⟨q', c4, c5⟩, c6, c7⟩ := b2
      have hh' : τ' 97 27 = nI i := b3.trans hch.2.2
      have hTS : TS kd lf rt nb w (akp ak) cb r1.2 τ' (f + 1) lo hi i := Or.inr (Or.inr (Or.inl ⟨by rw [o2.2 86 _ (by omega) (by omega)]; exact hp1, by rw [o3.2.1 109 _ (by omega) (by omega) (by omega)]; exact hp2, hlo, hhi, hnd, c, hch, hTr⟩))
      exact te_not (o1.at hh' hi60 c3 (by omega)) c6 c7 hnd.2 (yl_all hr c1 c2 c3 c5 (by omega) hh' hi60 (by unfold Num; decide) o1 hF2 hG2 hTS hK)
    · rw [b1, if_neg (by decide)] at hr
      have hy : yieldsC 0 r1.2 = (false, sg r1.2 84 8 1) := by
        unfold yieldsC
        rw [if_neg (fun z => by have := b2.2.2.2.lt.mp z; omega)]
      rw [hr, hy] at hK
      exact cut_all (r := (false, sg r1.2 84 8 1)) rfl ⟨fun y hy => b2.1 y hy, rfl, b2.2.2.1, b2.2.2.2⟩ o1 (hF2.s4 (by omega) (by omega)) hG2 hK
  · have hr : noneC (askC F) (cb + i) σ = (false, σ) := by
      unfold noneC
      rw [if_neg (by rw [s1]; decide)]
    have fin : mLP d v K (mNone (sg τ 109 i 1)) := by
      rw [sg_fix s2]
      exact no_all hr hV hc ht hW (Nat.le_refl q) hh hi60 hPM FC.rf FM.rf hK
    exact ta_not1 hat has hnd.2 (by rw [s2]; decide) fin
/-- \ : the part is asked, and what follows -/
theorem first_go {F f lo hi i q c k p0 : Nat} {σ1 τ1 : yS} {r : Bool × yS} (ih : SIM kd lf rt nb w ak mb cb f F) (h60 : hi < 60) (hcb : cb + hi < 60) (hmb : mb + hi < 89) (hPC : PC kd lf rt nb σ1) (hPM : PM mb w ak τ1) (hlo : lo < i) (hhi : i = hi) (hnd : ndFst kd nb w cb i) (hch : chl (akp ak) cb rt (fst1 (w i)) i c)
    (hp : nmb (w i) = nI p0) (hp9 : p0 ≤ 9) (hF1 : FC (cb + lo) (cb + hi) σ σ1) (hG1 : FM lo hi τ τ1) (hTS : TS kd lf rt nb w (akp ak) cb σ1 τ1 f lo (i - 1) c) (hIN : IN q c σ1 τ1) (g1 : σ1 86 (cb + i) = 2) (g2 : τ1 109 i = 1) (g3 : σ1 89 (cb + i) = τ1 110 i) (g4 : τ1 110 i = nI k) (hk : k < p0)
    (hr : r = frst2 (askC F) (cb + i) σ1) (hK : ∀ τ', oAll kd lf rt nb w ak mb cb (f + 1) lo hi i q σ τ r τ' → mLP d v K τ') : mLP d v K τ1 := by
  have hb := hTS.bd
  refine ih lo (i - 1) c q σ1 τ1 (by omega) (by omega) (by omega) hPC hPM hTS hIN d v K (fun τ' ho => ?_)
  obtain ⟨o1, o2, o3, o4⟩ := ho
  have e5 : σ1 5 (cb + i) = nI (cb + c) := by rw [hPC.2.2.1]; exact hch.1
  have e6 : ¬ σ1 6 (cb + i) ≤ σ1 89 (cb + i) := by
    rw [hPC.2.2.2, hnd.2.2.1, hp, g3, g4]
    exact nI_ge hk (by omega)
  unfold frst2 at hr
  rw [if_neg e6, e5] at hr
  generalize askC F (nI (cb + c)) σ1 = r1 at *
  have hF2 : FC (cb + lo) (cb + hi) σ r1.2 := hF1.tr o2 (by omega) (by omega)
  have hG2 : FM lo hi τ τ' := hG1.tr o3 (by omega) (by omega)
  have f1 : r1.2 86 (cb + i) = 2 := by rw [o2.2 86 _ (by omega) (by omega)]; exact g1
  have f2 : τ' 109 i = 1 := by rw [o3.2.1 109 _ (by omega) (by omega) (by omega)]; exact g2
  have f3 : r1.2 89 (cb + i) = nI k := by rw [o2.2 89 _ (by omega) (by omega), g3]; exact g4
  have f4 : τ' 110 i = nI k := by rw [o3.2.1 110 _ (by omega) (by omega) (by omega)]; exact g4
  have hi60 : i < 60 := by omega
  rcases o4 with ⟨b1, b2, b3, b4⟩ | ⟨b1, b2, b3⟩ | ⟨b1, b2⟩
  · rw [b1, if_pos rfl] at hr
    obtain ⟨c1, c2, c3, ⟨q', c4, c5⟩, c6, c7, c8, c9⟩ := b2
    have hh' : τ' 97 27 = nI i := b3.trans hch.2.2
    refine tt_fst (o1.at hh' hi60 c3 (by omega)) c6 c7 hnd.2.1 ?_
    rw [c8]
    refine yl_all (σ1 := sg r1.2 89 (cb + i) (r1.2 89 (cb + i) + 1)) hr c1 c2 c3 c5 (by omega) hh' hi60 c9 (o1.fr ((FM.rf (lo := lo) (hi := hi)).st (Or.inr (Or.inl rfl)) (by omega) (by omega))) (hF2.st (by omega) (by omega) (by omega) (by omega)) (hG2.st (Or.inr (Or.inl rfl)) (by omega) (by omega)) ?_ hK
    refine Or.inr (Or.inr (Or.inr (Or.inr (Or.inr (Or.inr (Or.inr (Or.inl ⟨f1, f2, ?_, hlo, hhi, hnd, ⟨k + 1, p0, ?_, hp, by omega, hp9⟩, c, hch, ?_⟩)))))))
    · rw [sg_same, sg_same, f3, f4]
    · rw [sg_same, f4, nI_1]
    · exact b4.fr (fun j h1 h2 => ⟨rfl, rfl, rfl, sg_ne _ _ _ (by omega)⟩) (fun j h1 h2 => ⟨rfl, sg_ne _ _ _ (by omega), rfl, rfl⟩)
  · rw [b1, if_neg (by decide)] at hr
    obtain ⟨c1, c2, c3, ⟨q', c4, c5⟩, c6, c7⟩ := b2
    have hh' : τ' 97 27 = nI i := b3.trans hch.2.2
    exact te_un_11 (o1.at hh' hi60 c3 (by omega)) c6 c7 hnd.2.1 (no_all hr c1 c2 c3 c5 (by omega) hh' hi60 o1 hF2 hG2 hK)
  · rw [b1, if_neg (by decide)] at hr
    exact cut_all (r := r) (by rw [hr]) (by rw [hr]; exact b2) o1 (by rw [hr]; exact hF2) hG2 hK
theorem nI_le0 {p : Nat} (hp : p ≤ 9) : nI p ≤ 0 ↔ p = 0 := by
  have := nI_leI (a := p) (b := 0) (by omega) (by decide)
  rw [show nI 0 = 0 from nI_0] at this
  rw [this]; omega
theorem sim_first {F f lo hi i q c : Nat} (ih : SIM kd lf rt nb w ak mb cb f F) (h60 : hi < 60) (hcb : cb + hi < 60) (hmb : mb + hi < 89) (hPC : PC kd lf rt nb σ) (hPM : PM mb w ak τ) (hlo : lo < i) (hhi : i = hi) (hnd : ndFst kd nb w cb i) (hch : chl (akp ak) cb rt (fst1 (w i)) i c) (hIN : IN q i σ τ)
    (hst : (σ 86 (cb + i) = 0 ∧ τ 109 i = 0 ∧ Tr kd lf rt nb w (akp ak) cb f lo (i - 1) c) ∨ (σ 86 (cb + i) = 2 ∧ τ 109 i = 1 ∧ σ 89 (cb + i) = τ 110 i ∧ (∃ q p : Nat, τ 110 i = nI q ∧ nmb (w i) = nI p ∧ q ≤ p ∧ p ≤ 9) ∧ TS kd lf rt nb w (akp ak) cb σ τ f lo (i - 1) c))
    (hK : ∀ τ', oAll kd lf rt nb w ak mb cb (f + 1) lo hi i q σ τ (askC (F + 1) (nI (cb + i)) σ) τ' → mLP d v K τ') : mLP d v K τ := by
  have hIN0 := hIN
  obtain ⟨hV, hc, ht, hW, hh, has⟩ := hIN
  have hi60 : i < 60 := by omega
  have hat := hPM.at hh hi60 ht (by omega)
  have hk : σ 3 (cb + i) = 92 := by rw [hPC.1]; exact hnd.1
  have hask : askC (F + 1) (nI (cb + i)) σ = frstC (askC F) (cb + i) σ := by
    rw [ask_at (by omega) hc, hk]; rfl
  rw [hask] at hK
  rcases hst with ⟨s1, s2, hTr⟩ | ⟨s1, s2, s3, ⟨k, p0, s4, s5, s6, s7⟩, hTS⟩
  · have hb := hTr.bd
    obtain ⟨p0, hp9, hp⟩ := hnd.2.2.2
    have hr5 : σ 5 (cb + i) = nI (cb + c) := by rw [hPC.2.2.1]; exact hch.1
    have eσ : renewC (σ 5 (cb + i)) (sg (sg σ 86 (cb + i) 2) 89 (cb + i) 0) = sg (sg (sg σ 86 (cb + i) 2) 89 (cb + i) 0) 86 (cb + c) 0 := by rw [hr5]; exact renew_nI (by omega)
    have hr : frstC (askC F) (cb + i) σ = frst2 (askC F) (cb + i) (sg (sg (sg σ 86 (cb + i) 2) 89 (cb + i) 0) 86 (cb + c) 0) := by
      unfold frstC
      rw [if_pos s1, eσ]
    have hF1 : FC (cb + lo) (cb + hi) σ (sg (sg (sg σ 86 (cb + i) 2) 89 (cb + i) 0) 86 (cb + c) 0) := ((FC.rf.st (by omega) (by omega) (by omega) (by omega)).st (by omega) (by omega) (by omega) (by omega)).st (by omega) (by omega) (by omega) (by omega)
    have hG0 : FM lo hi τ (sg (sg τ 110 i 0) 109 i 1) := (FM.rf.st (Or.inr (Or.inl rfl)) (by omega) (by omega)).st (Or.inl rfl) (by omega) (by omega)
    have k89 : (sg (sg (sg σ 86 (cb + i) 2) 89 (cb + i) 0) 86 (cb + c) 0) 89 (cb + i) = 0 := sg_same (sg σ 86 (cb + i) 2) 89 (cb + i) 0
    by_cases hz : p0 = 0
    · refine ta_fst0z hat has hnd.2.1 s2 (by rw [hp, hz]; exact nI_0.symm) ?_
      refine no_all (σ1 := sg (sg (sg σ 86 (cb + i) 2) 89 (cb + i) 0) 86 (cb + c) 0) ?_ hV hc ht hW (Nat.le_refl q) hh hi60 (hPM.fr hG0) hF1 hG0 hK
      rw [hr]
      unfold frst2
      rw [if_pos]
      rw [k89]
      show σ 6 (cb + i) ≤ 0
      rw [hPC.2.2.2, hnd.2.2.1, hp]
      exact (nI_le0 hp9).mpr hz
    · refine ta_fst0 hat has hnd.2.1 s2 (by rw [hch.2.1]; exact vp_in_nI (by omega) (by decide)) (fun z => hz ?_) ?_
      · exact (nI_le0 hp9).mp (by rw [← hp, ← z]; exact Int32.le_refl 0)
      · rw [hch.2.1]
        have hG1 : FM lo hi τ (mAskN (nI c) (sg (sg τ 110 i 0) 109 i 1)) := hG0.askN (by omega) (by omega) (by omega)
        refine first_go ih h60 hcb hmb (hPC.fr hF1) (hPM.fr hG1) hlo hhi hnd hch hp hp9 hF1 hG1 (hTr.ts (sg_same _ _ _ _) (by rw [askN_109 (by omega)]; exact sg_same _ _ _ _)) ?_ ?_ ?_ ?_ (k := 0) ?_ (by omega) hr hK
        · rw [askN_109 (by omega)]
          exact ⟨fun y hy => hV y hy, hc, ht, hW, rfl, rfl⟩
        · rw [sg_ne _ _ _ (by omega)]; exact sg_same σ 86 (cb + i) 2
        · rw [askN_109 (by omega), sg_ne _ _ _ (by omega)]; exact sg_same _ 109 i 1
        · rw [k89, askN_109 (by omega)]; exact (sg_same τ 110 i 0).symm
        · rw [askN_109 (by omega)]; exact (sg_same τ 110 i 0).trans nI_0.symm
  · have hb := hTS.bd
    have hr : frstC (askC F) (cb + i) σ = frst2 (askC F) (cb + i) σ := by
      unfold frstC
      rw [if_neg (by rw [s1]; decide)]
    by_cases hz : k = p0
    · refine ta_fst1z hat has hnd.2.1 s2 (by rw [s4, s5, hz]) ?_
      rw [sg_fix s2]
      refine no_all ?_ hV hc ht hW (Nat.le_refl q) hh hi60 hPM FC.rf FM.rf hK
      rw [hr]
      unfold frst2
      rw [if_pos]
      rw [hPC.2.2.2, hnd.2.2.1, s3, s4, s5, hz]
      exact Int32.le_refl _
    · refine ta_fst1 hat has hnd.2.1 s2 (by rw [s4, s5]; exact fun z => hz ((nI_eq (by omega) (by omega)).mp z)) ?_
      rw [hch.2.1]
      have hG1 : FM lo hi τ (mAsk (nI c) τ) := FM.rf.ask
      exact first_go ih h60 hcb hmb hPC (hPM.fr hG1) hlo hhi hnd hch s5 s7 FC.rf hG1 (hTS.fr (fun _ _ _ => ⟨rfl, rfl, rfl, rfl⟩) (fun _ _ _ => ⟨rfl, rfl, rfl, rfl⟩)) ⟨fun y hy => hV y hy, hc, ht, hW, rfl, rfl⟩ s1 s2 s3 s4 (by omega) hr hK
end SIM2
end
section
section SIM3
variable {kd lf rt nb w ak : Nat → Int32} {mb cb d : Nat} {v : Int32} {K : Int32 → yS → Prop} {σ τ : yS}
theorem set_go {F f lo hi i q c x : Nat} {σ0 σ1 τ1 : yS} {r : Bool × yS} (ih : SIM kd lf rt nb w ak mb cb f F) (h60 : hi < 60) (hcb : cb + hi < 60) (hmb : mb + hi < 89) (hPC : PC kd lf rt nb σ1) (hPM : PM mb w ak τ1) (hlo : lo = i) (hhi : i < hi) (hnd : ndSet kd nb w cb i) (hch : chl (akp ak) cb rt (fst1 (w i)) i c)
    (hx : x < 4) (hp : nmb (w i) = nI x) (hF1 : FC (cb + lo) (cb + hi) σ σ1) (hG1 : FM lo hi τ τ1) (hTS : TS kd lf rt nb w (akp ak) cb σ1 τ1 f (i + 1) hi c) (hIN : IN q c σ1 τ1) (g1 : σ1 86 (cb + i) = 2) (g2 : τ1 109 i = 1)
    (hs : sg σ0 86 (cb + i) 2 = σ1) (hr : r = targ2 (askC F) (cb + i) (nI x) σ0) (hK : ∀ τ', oAll kd lf rt nb w ak mb cb (f + 1) lo hi i q σ τ r τ' → mLP d v K τ') : mLP d v K τ1 := by
  have hb := hTS.bd
  refine ih (i + 1) hi c q σ1 τ1 (by omega) (by omega) (by omega) hPC hPM hTS hIN d v K (fun τ' ho => ?_)
  obtain ⟨o1, o2, o3, o4⟩ := ho
  have e5 : σ0 5 (cb + i) = nI (cb + c) := by
    have : σ1 5 (cb + i) = nI (cb + c) := by rw [hPC.2.2.1]; exact hch.1
    rw [← hs] at this
    exact this
  have ex : (nI x).toNatClampNeg = x := nI_clamp (by omega)
  unfold targ2 at hr
  rw [hs, e5, ex] at hr
  generalize askC F (nI (cb + c)) σ1 = r1 at *
  have hF2 : FC (cb + lo) (cb + hi) σ r1.2 := hF1.tr o2 (by omega) (by omega)
  have hG2 : FM lo hi τ τ' := hG1.tr o3 (by omega) (by omega)
  have f1 : r1.2 86 (cb + i) = 2 := by rw [o2.2 86 _ (by omega) (by omega)]; exact g1
  have f2 : τ' 109 i = 1 := by rw [o3.2.1 109 _ (by omega) (by omega) (by omega)]; exact g2
  have hi60 : i < 60 := by omega
  rcases o4 with ⟨b1, b2, b3, b4⟩ | ⟨b1, b2, b3⟩ | ⟨b1, b2⟩
  · rw [b1, if_pos rfl] at hr
    obtain ⟨c1, c2, c3, ⟨q', c4, c5⟩, c6, c7, c8, c9⟩ := b2
    have hh' : τ' 97 27 = nI i := b3.trans hch.2.2
    have fin : mYl d v K (τ' 97 30) (sg (sg τ' 110 i (τ' 112 (nmb (w i)).toNatClampNeg)) 112 (nmb (w i)).toNatClampNeg (τ' 97 30)) := by
      rw [hp, ex, c8]
      refine yl_all (σ1 := sg (sg r1.2 89 (cb + i) (r1.2 85 x)) 85 x (r1.2 84 6)) hr ?_ c2 c3 c5 (by omega) hh' hi60 c9 (o1.fr (((FM.rf (lo := lo) (hi := hi)).st (Or.inr (Or.inl rfl)) (by omega) (by omega)).s2)) ((hF2.st (by omega) (by omega) (by omega) (by omega)).s4 (by omega) (by omega)) ((hG2.st (Or.inr (Or.inl rfl)) (by omega) (by omega)).s2) ?_ hK
      · intro y hy
        by_cases e : y = x
        · subst e
          rw [sg_same, sg_same]
          exact ⟨rfl, c9⟩
        · rw [sg_ne _ _ _ e, sg_ne _ _ _ e]
          exact c1 y hy
      · refine Or.inr (Or.inr (Or.inr (Or.inr (Or.inr (Or.inr (Or.inr (Or.inr ⟨f1, f2, ?_, ?_, hlo, hhi, hnd, c, hch, ?_⟩)))))))
        · show sg r1.2 89 (cb + i) (r1.2 85 x) 89 (cb + i) = sg τ' 110 i (τ' 112 x) 110 i
          rw [sg_same, sg_same]; exact (c1 x hx).1
        · show Num (sg r1.2 89 (cb + i) (r1.2 85 x) 89 (cb + i))
          rw [sg_same]; exact (c1 x hx).2
        · exact b4.fr (fun j h1 h2 => ⟨rfl, rfl, rfl, sg_ne r1.2 89 _ (by omega)⟩) (fun j h1 h2 => ⟨rfl, sg_ne τ' 110 _ (by omega), rfl, rfl⟩)
    have hvp : vp_in (nmb (w i)) 4 := hnd.2.2
    rcases hnd.1 with h | h
    · exact tt_set_13 (o1.at hh' hi60 c3 (by omega)) c6 c7 h.2 hvp fin
    · exact tt_set_14 (o1.at hh' hi60 c3 (by omega)) c6 c7 h.2 hvp fin
  · rw [b1, if_neg (by decide)] at hr
    obtain ⟨c1, c2, c3, ⟨q', c4, c5⟩, c6, c7⟩ := b2
    have hh' : τ' 97 27 = nI i := b3.trans hch.2.2
    have fin := no_all hr c1 c2 c3 c5 (by omega) hh' hi60 o1 hF2 hG2 hK
    rcases hnd.1 with h | h
    · exact te_un_13 (o1.at hh' hi60 c3 (by omega)) c6 c7 h.2 fin
    · exact te_un_14 (o1.at hh' hi60 c3 (by omega)) c6 c7 h.2 fin
  · rw [b1, if_neg (by decide)] at hr
    exact cut_all (r := r) (by rw [hr]) (by rw [hr]; exact b2) o1 (by rw [hr]; exact hF2) hG2 hK
theorem sim_set {F f lo hi i q c : Nat} (ih : SIM kd lf rt nb w ak mb cb f F) (h60 : hi < 60) (hcb : cb + hi < 60) (hmb : mb + hi < 89) (hPC : PC kd lf rt nb σ) (hPM : PM mb w ak τ) (hlo : lo = i) (hhi : i < hi) (hnd : ndSet kd nb w cb i) (hch : chl (akp ak) cb rt (fst1 (w i)) i c) (hIN : IN q i σ τ)
    (hst : (σ 86 (cb + i) = 0 ∧ τ 109 i = 0 ∧ Tr kd lf rt nb w (akp ak) cb f (i + 1) hi c) ∨ (σ 86 (cb + i) = 2 ∧ τ 109 i = 1 ∧ σ 89 (cb + i) = τ 110 i ∧ Num (σ 89 (cb + i)) ∧ TS kd lf rt nb w (akp ak) cb σ τ f (i + 1) hi c))
    (hK : ∀ τ', oAll kd lf rt nb w ak mb cb (f + 1) lo hi i q σ τ (askC (F + 1) (nI (cb + i)) σ) τ' → mLP d v K τ') : mLP d v K τ := by
  obtain ⟨hV, hc, ht, hW, hh, has⟩ := hIN
  have hi60 : i < 60 := by omega
  have hat := hPM.at hh hi60 ht (by omega)
  have hask : askC (F + 1) (nI (cb + i)) σ = targC (askC F) (cb + i) σ := by
    rw [ask_at (by omega) hc, hPC.1]
    rcases hnd.1 with h | h <;> rw [h.1] <;> rfl
  rw [hask] at hK
  obtain ⟨x, hx, hp⟩ := vp_in_of hnd.2.2 (by decide)
  have ex : (nI x).toNatClampNeg = x := nI_clamp (by omega)
  have h6 : σ 6 (cb + i) = nI x := by rw [hPC.2.2.2, hnd.2.1]; exact hp
  have hin : inN (nI x) 4 = true := inN_t.mpr (vp_in_nI hx (by decide))
  rcases hst with ⟨s1, s2, hTr⟩ | ⟨s1, s2, s3, s4, hTS⟩
  · have hb := hTr.bd
    have hr5 : σ 5 (cb + i) = nI (cb + c) := by rw [hPC.2.2.1]; exact hch.1
    have hr : targC (askC F) (cb + i) σ = targ2 (askC F) (cb + i) (nI x) (sg σ 86 (cb + c) 0) := by
      unfold targC
      rw [h6, if_pos hin, if_pos s1, hr5, renew_nI (by omega)]
    have hF1 : FC (cb + lo) (cb + hi) σ (sg (sg σ 86 (cb + c) 0) 86 (cb + i) 2) := (FC.rf.st (by omega) (by omega) (by omega) (by omega)).st (by omega) (by omega) (by omega) (by omega)
    have hG1 : FM lo hi τ (mAskN (nI c) (sg τ 109 i 1)) := (FM.rf.st (Or.inl rfl) (by omega) (by omega)).askN (by omega) (by omega) (by omega)
    have fin : mLP d v K (mAskN (fst1 (w i)) (sg τ 109 i 1)) := by
      rw [hch.2.1]
      refine set_go ih h60 hcb hmb (hPC.fr hF1) (hPM.fr hG1) hlo hhi hnd hch hx hp hF1 hG1 (hTr.ts ?_ (by rw [askN_109 (by omega)]; exact sg_same _ _ _ _)) ?_ (sg_same _ _ _ _) ?_ rfl hr hK
      · rw [sg_ne _ _ _ (by omega)]; exact sg_same _ _ _ _
      · rw [askN_109 (by omega)]
        exact ⟨fun y hy => hV y hy, hc, ht, hW, rfl, rfl⟩
      · rw [askN_109 (by omega), sg_ne _ _ _ (by omega)]; exact sg_same _ 109 i 1
    have hvp : vp_in (fst1 (w i)) 60 := by rw [hch.2.1]; exact vp_in_nI (by omega) (by decide)
    rcases hnd.1 with h | h
    · exact ta_set0 hat has h.2 s2 hvp fin
    · exact ta_lend0 hat has h.2 s2 hvp fin
  · have hb := hTS.bd
    have s1' : ¬ σ 86 (cb + i) = 0 := by rw [s1]; decide
    have s2' : ¬ τ 109 i = 0 := by rw [s2]; decide
    rcases hnd.1 with h | h
    · have hr : targC (askC F) (cb + i) σ = targ2 (askC F) (cb + i) (nI x) σ := by
        unfold targC
        rw [h6, if_pos hin, if_neg s1', if_neg (by rw [hPC.1, h.1]; decide)]
      refine ta_set1 hat has h.2 s2' ?_
      rw [hch.2.1, sg_fix s2]
      have hG1 : FM lo hi τ (mAsk (nI c) τ) := FM.rf.ask
      exact set_go ih h60 hcb hmb hPC (hPM.fr hG1) hlo hhi hnd hch hx hp FC.rf hG1 (hTS.fr (fun _ _ _ => ⟨rfl, rfl, rfl, rfl⟩) (fun _ _ _ => ⟨rfl, rfl, rfl, rfl⟩)) ⟨fun y hy => hV y hy, hc, ht, hW, rfl, rfl⟩ s1 s2 (sg_fix s1) hr hK
    · have hr : targC (askC F) (cb + i) σ = targ2 (askC F) (cb + i) (nI x) (sg σ 85 x (σ 89 (cb + i))) := by
        unfold targC
        rw [h6, if_pos hin, if_neg s1', if_pos (by rw [hPC.1, h.1]), ex]
      refine ta_lend1 hat has h.2 s2 hnd.2.2 ?_
      rw [hch.2.1, hp, ex]
      have e1 : sg (sg τ 112 x (τ 110 i)) 109 i 1 = sg τ 112 x (τ 110 i) := sg_fix s2
      rw [e1]
      have hF1 : FC (cb + lo) (cb + hi) σ (sg σ 85 x (σ 89 (cb + i))) := FC.rf.s4 (by omega) (by omega)
      have hG1 : FM lo hi τ (mAsk (nI c) (sg τ 112 x (τ 110 i))) := FM.rf.s2.ask
      refine set_go ih h60 hcb hmb (hPC.fr hF1) (hPM.fr hG1) hlo hhi hnd hch hx hp hF1 hG1 (hTS.fr (fun _ _ _ => ⟨rfl, rfl, rfl, rfl⟩) (fun _ _ _ => ⟨rfl, rfl, rfl, rfl⟩)) ⟨fun y hy => ?_, hc, ht, hW, rfl, rfl⟩ s1 s2 (sg_fix s1) hr hK
      by_cases e : y = x
      · subst e
        show sg σ 85 y (σ 89 (cb + i)) 85 y = sg τ 112 y (τ 110 i) 112 y ∧ Num (sg σ 85 y (σ 89 (cb + i)) 85 y)
        rw [sg_same, sg_same]
        exact ⟨s3, s4⟩
      · show sg σ 85 x (σ 89 (cb + i)) 85 y = sg τ 112 x (τ 110 i) 112 y ∧ Num (sg σ 85 x (σ 89 (cb + i)) 85 y)
        rw [sg_ne _ _ _ e, sg_ne _ _ _ e]
        exact hV y hy
/-- | : the second part -/
theorem altR_go {F f lo hi i q0 q l c : Nat} {σ1 τ1 : yS} {r : Bool × yS} (ih : SIM kd lf rt nb w ak mb cb f F) (h60 : hi < 60) (hcb : cb + hi < 60) (hmb : mb + hi < 89) (hPC : PC kd lf rt nb σ1) (hPM : PM mb w ak τ1) (hlo : lo < i) (hhi : i < hi) (hnd : ndAlt kd w cb i) (hcl : chl (akp ak) cb lf (fst1 (w i)) i l) (hch : chl (akp ak) cb rt (snd1 (w i)) i c)
    (hq : q0 ≤ q) (hF1 : FC (cb + lo) (cb + hi) σ σ1) (hG1 : FM lo hi τ τ1) (hTl : Tr kd lf rt nb w (akp ak) cb f lo (i - 1) l) (hTS : TS kd lf rt nb w (akp ak) cb σ1 τ1 f (i + 1) hi c) (hIN : IN q c σ1 τ1) (g1 : σ1 86 (cb + i) = 2) (g2 : τ1 109 i = 2)
    (hr : r = eithR (askC F) (cb + i) σ1) (hK : ∀ τ', oAll kd lf rt nb w ak mb cb (f + 1) lo hi i q0 σ τ r τ' → mLP d v K τ') : mLP d v K τ1 := by
  have hb := hTS.bd
  refine ih (i + 1) hi c q σ1 τ1 (by omega) (by omega) (by omega) hPC hPM hTS hIN d v K (fun τ' ho => ?_)
  obtain ⟨o1, o2, o3, o4⟩ := ho
  have e5 : σ1 5 (cb + i) = nI (cb + c) := by rw [hPC.2.2.1]; exact hch.1
  unfold eithR at hr
  rw [e5] at hr
  generalize askC F (nI (cb + c)) σ1 = r1 at *
  have hF2 : FC (cb + lo) (cb + hi) σ r1.2 := hF1.tr o2 (by omega) (by omega)
  have hG2 : FM lo hi τ τ' := hG1.tr o3 (by omega) (by omega)
  have f1 : r1.2 86 (cb + i) = 2 := by rw [o2.2 86 _ (by omega) (by omega)]; exact g1
  have f2 : τ' 109 i = 2 := by rw [o3.2.1 109 _ (by omega) (by omega) (by omega)]; exact g2
  have hi60 : i < 60 := by omega
  rcases o4 with ⟨b1, b2, b3, b4⟩ | ⟨b1, b2, b3⟩ | ⟨b1, b2⟩
  · rw [b1, if_pos rfl] at hr
    obtain ⟨c1, c2, c3, ⟨q', c4, c5⟩, c6, c7, c8, c9⟩ := b2
    have hh' : τ' 97 27 = nI i := b3.trans hch.2.2
    refine tt_alt (o1.at hh' hi60 c3 (by omega)) c6 c7 hnd.2 ?_
    rw [c8]
    have hT9 : TS kd lf rt nb w (akp ak) cb r1.2 τ' (f + 1) lo hi i := Or.inr (Or.inr (Or.inr (Or.inr (Or.inl ⟨f1, f2, hlo, hhi, hnd, l, c, hcl, hch, hTl, b4⟩))))
    exact yl_all hr c1 c2 c3 c5 (by omega) hh' hi60 c9 o1 hF2 hG2 hT9 hK
  · rw [b1, if_neg (by decide)] at hr
    obtain ⟨c1, c2, c3, ⟨q', c4, c5⟩, c6, c7⟩ := b2
    have hh' : τ' 97 27 = nI i := b3.trans hch.2.2
    exact te_alt2 (o1.at hh' hi60 c3 (by omega)) c6 c7 hnd.2 (by rw [f2]; decide) (no_all hr c1 c2 c3 c5 (by omega) hh' hi60 o1 hF2 hG2 hK)
  · rw [b1, if_neg (by decide)] at hr
    exact cut_all (r := r) (by rw [hr]) (by rw [hr]; exact b2) o1 (by rw [hr]; exact hF2) hG2 hK
/-- | : the first part -/
theorem altL_go {F f lo hi i q l c : Nat} {σ1 τ1 : yS} {r : Bool × yS} (ih : SIM kd lf rt nb w ak mb cb f F) (h60 : hi < 60) (hcb : cb + hi < 60) (hmb : mb + hi < 89) (hPC : PC kd lf rt nb σ1) (hPM : PM mb w ak τ1) (hlo : lo < i) (hhi : i < hi) (hnd : ndAlt kd w cb i) (hcl : chl (akp ak) cb lf (fst1 (w i)) i l) (hch : chl (akp ak) cb rt (snd1 (w i)) i c)
    (hF1 : FC (cb + lo) (cb + hi) σ σ1) (hG1 : FM lo hi τ τ1) (hTS : TS kd lf rt nb w (akp ak) cb σ1 τ1 f lo (i - 1) l) (hTr : Tr kd lf rt nb w (akp ak) cb f (i + 1) hi c) (hIN : IN q l σ1 τ1) (g1 : σ1 86 (cb + i) = 1) (g2 : τ1 109 i = 1)
    (hr : r = eithL (askC F) (cb + i) σ1) (hK : ∀ τ', oAll kd lf rt nb w ak mb cb (f + 1) lo hi i q σ τ r τ' → mLP d v K τ') : mLP d v K τ1 := by
  have hb := hTS.bd
  have hb2 := hTr.bd
  refine ih lo (i - 1) l q σ1 τ1 (by omega) (by omega) (by omega) hPC hPM hTS hIN d v K (fun τ' ho => ?_)
  obtain ⟨o1, o2, o3, o4⟩ := ho
  have e4 : σ1 4 (cb + i) = nI (cb + l) := by rw [hPC.2.1]; exact hcl.1
  unfold eithL at hr
  rw [e4] at hr
  generalize askC F (nI (cb + l)) σ1 = r1 at *
  have hF2 : FC (cb + lo) (cb + hi) σ r1.2 := hF1.tr o2 (by omega) (by omega)
  have hG2 : FM lo hi τ τ' := hG1.tr o3 (by omega) (by omega)
  have f1 : r1.2 86 (cb + i) = 1 := by rw [o2.2 86 _ (by omega) (by omega)]; exact g1
  have f2 : τ' 109 i = 1 := by rw [o3.2.1 109 _ (by omega) (by omega) (by omega)]; exact g2
  have hi60 : i < 60 := by omega
  have e5 : r1.2 5 (cb + i) = nI (cb + c) := by rw [o2.1 5 (by omega), hPC.2.2.1]; exact hch.1
  rw [e5, renew_nI (by omega)] at hr
  have hF3 : FC (cb + lo) (cb + hi) σ (sg (sg r1.2 86 (cb + i) 2) 86 (cb + c) 0) := (hF2.st (by omega) (by omega) (by omega) (by omega)).st (by omega) (by omega) (by omega) (by omega)
  rcases o4 with ⟨b1, b2, b3, b4⟩ | ⟨b1, b2, b3⟩ | ⟨b1, b2⟩
  · rw [b1, if_pos rfl] at hr
    obtain ⟨c1, c2, c3, ⟨q', c4, c5⟩, c6, c7, c8, c9⟩ := b2
    have hh' : τ' 97 27 = nI i := b3.trans hcl.2.2
    refine tt_alt (o1.at hh' hi60 c3 (by omega)) c6 c7 hnd.2 ?_
    rw [c8]
    have hT9 : TS kd lf rt nb w (akp ak) cb r1.2 τ' (f + 1) lo hi i := Or.inr (Or.inr (Or.inr (Or.inl ⟨f1, f2, hlo, hhi, hnd, l, c, hcl, hch, b4, hTr⟩)))
    exact yl_all hr c1 c2 c3 c5 (by omega) hh' hi60 c9 o1 hF2 hG2 hT9 hK
  · rw [b1, if_neg (by decide)] at hr
    obtain ⟨c1, c2, c3, ⟨q', c4, c5⟩, c6, c7⟩ := b2
    have hh' : τ' 97 27 = nI i := b3.trans hcl.2.2
    refine te_alt1 (o1.at hh' hi60 c3 (by omega)) c6 c7 hnd.2 f2 (by rw [hch.2.1]; exact vp_in_nI (by omega) (by decide)) ?_
    rw [hch.2.1]
    have hG3 : FM lo hi τ (mAskN (nI c) (sg τ' 109 i 2)) := (hG2.st (Or.inl rfl) (by omega) (by omega)).askN (by omega) (by omega) (by omega)
    have hPM3 : PM mb w ak (mAskN (nI c) (sg τ' 109 i 2)) := o1.fr (((FM.rf (lo := lo) (hi := hi)).st (Or.inl rfl) (by omega) (by omega)).askN (by omega) (by omega) (by omega))
    refine altR_go (σ1 := sg (sg r1.2 86 (cb + i) 2) 86 (cb + c) 0) ih h60 hcb hmb ?_ hPM3 hlo hhi hnd hcl hch c4 hF3 hG3 hTS.tr (hTr.ts (sg_same _ _ _ _) (by rw [askN_109 (by omega)]; exact sg_same _ _ _ _)) ?_ ?_ ?_ hr hK
    · exact hPC.fr (((FC.rf (lo := cb + lo) (hi := cb + hi)).tr o2 (by omega) (by omega)).st (by omega) (by omega) (by omega) (by omega) |>.st (by omega) (by omega) (by omega) (by omega))
    · rw [askN_109 (by omega)]
      exact ⟨fun y hy => c1 y hy, c2, c3, c5, rfl, rfl⟩
    · rw [sg_ne _ _ _ (by omega)]; exact sg_same _ _ _ _
    · rw [askN_109 (by omega), sg_ne _ _ _ (by omega)]; exact sg_same τ' 109 i 2
  · rw [b1, if_neg (by decide)] at hr
    have hcut := b2.cut
    have hr2 : r = (false, sg (sg r1.2 86 (cb + i) 2) 86 (cb + c) 0) := by
      rw [hr]
      unfold eithR
      rw [ask_cut (F := F) (σ := sg (sg r1.2 86 (cb + i) 2) 86 (cb + c) 0) hcut, if_neg Bool.false_ne_true]
    exact cut_all (r := r) (by rw [hr2]) (by rw [hr2]; exact (b2.st (by omega)).st (by omega)) o1 (by rw [hr2]; exact hF3) hG2 hK
theorem sim_alt {F f lo hi i q l c : Nat} (ih : SIM kd lf rt nb w ak mb cb f F) (h60 : hi < 60) (hcb : cb + hi < 60) (hmb : mb + hi < 89) (hPC : PC kd lf rt nb σ) (hPM : PM mb w ak τ) (hlo : lo < i) (hhi : i < hi) (hnd : ndAlt kd w cb i) (hcl : chl (akp ak) cb lf (fst1 (w i)) i l) (hch : chl (akp ak) cb rt (snd1 (w i)) i c) (hIN : IN q i σ τ)
    (hst : (σ 86 (cb + i) = 0 ∧ τ 109 i = 0 ∧ Tr kd lf rt nb w (akp ak) cb f lo (i - 1) l ∧ Tr kd lf rt nb w (akp ak) cb f (i + 1) hi c) ∨ (σ 86 (cb + i) = 1 ∧ τ 109 i = 1 ∧ TS kd lf rt nb w (akp ak) cb σ τ f lo (i - 1) l ∧ Tr kd lf rt nb w (akp ak) cb f (i + 1) hi c) ∨ (σ 86 (cb + i) = 2 ∧ τ 109 i = 2 ∧ Tr kd lf rt nb w (akp ak) cb f lo (i - 1) l ∧ TS kd lf rt nb w (akp ak) cb σ τ f (i + 1) hi c))
    (hK : ∀ τ', oAll kd lf rt nb w ak mb cb (f + 1) lo hi i q σ τ (askC (F + 1) (nI (cb + i)) σ) τ' → mLP d v K τ') : mLP d v K τ := by
  obtain ⟨hV, hc, ht, hW, hh, has⟩ := hIN
  have hi60 : i < 60 := by omega
  have hat := hPM.at hh hi60 ht (by omega)
  have hask : askC (F + 1) (nI (cb + i)) σ = eithC (askC F) (cb + i) σ := by
    rw [ask_at (by omega) hc, hPC.1, hnd.1]; rfl
  rw [hask] at hK
  rcases hst with ⟨s1, s2, hTl, hTr⟩ | ⟨s1, s2, hTl, hTr⟩ | ⟨s1, s2, hTl, hTr⟩
  · have hb := hTl.bd
    have hr4 : σ 4 (cb + i) = nI (cb + l) := by rw [hPC.2.1]; exact hcl.1
    have g1 : (sg (sg σ 86 (cb + i) 1) 86 (cb + l) 0) 86 (cb + i) = 1 := by rw [sg_ne _ _ _ (by omega)]; exact sg_same _ _ _ _
    have hr : eithC (askC F) (cb + i) σ = eithL (askC F) (cb + i) (sg (sg σ 86 (cb + i) 1) 86 (cb + l) 0) := by
      unfold eithC
      rw [if_pos s1, hr4, renew_nI (by omega)]
      unfold eith2
      rw [if_pos g1]
    have hF1 : FC (cb + lo) (cb + hi) σ (sg (sg σ 86 (cb + i) 1) 86 (cb + l) 0) := (FC.rf.st (by omega) (by omega) (by omega) (by omega)).st (by omega) (by omega) (by omega) (by omega)
    have hG1 : FM lo hi τ (mAskN (nI l) (sg τ 109 i 1)) := (FM.rf.st (Or.inl rfl) (by omega) (by omega)).askN (by omega) (by omega) (by omega)
    refine ta_two0_3 hat has hnd.2 s2 (by rw [hcl.2.1]; exact vp_in_nI (by omega) (by decide)) ?_
    rw [hcl.2.1]
    refine altL_go ih h60 hcb hmb (hPC.fr hF1) (hPM.fr hG1) hlo hhi hnd hcl hch hF1 hG1 (hTl.ts (sg_same _ _ _ _) (by rw [askN_109 (by omega)]; exact sg_same _ _ _ _)) hTr ?_ g1 ?_ hr hK
    · rw [askN_109 (by omega)]
      exact ⟨fun y hy => hV y hy, hc, ht, hW, rfl, rfl⟩
    · rw [askN_109 (by omega), sg_ne _ _ _ (by omega)]; exact sg_same _ 109 i 1
  · have hr : eithC (askC F) (cb + i) σ = eithL (askC F) (cb + i) σ := by
      unfold eithC
      rw [if_neg (by rw [s1]; decide)]
      unfold eith2
      rw [if_pos s1]
    refine ta_two1_3 hat has hnd.2 s2 ?_
    rw [hcl.2.1]
    have hG1 : FM lo hi τ (mAsk (nI l) τ) := FM.rf.ask
    exact altL_go ih h60 hcb hmb hPC (hPM.fr hG1) hlo hhi hnd hcl hch FC.rf hG1 (hTl.fr (fun _ _ _ => ⟨rfl, rfl, rfl, rfl⟩) (fun _ _ _ => ⟨rfl, rfl, rfl, rfl⟩)) hTr ⟨fun y hy => hV y hy, hc, ht, hW, rfl, rfl⟩ s1 s2 hr hK
  · have hr : eithC (askC F) (cb + i) σ = eithR (askC F) (cb + i) σ := by
      unfold eithC
      rw [if_neg (by rw [s1]; decide)]
      unfold eith2
      rw [if_neg (by rw [s1]; decide)]
    refine ta_two2_3 hat has hnd.2 s2 ?_
    rw [hch.2.1]
    have hG1 : FM lo hi τ (mAsk (nI c) τ) := FM.rf.ask
    exact altR_go ih h60 hcb hmb hPC (hPM.fr hG1) hlo hhi hnd hcl hch (Nat.le_refl q) FC.rf hG1 hTl (hTr.fr (fun _ _ _ => ⟨rfl, rfl, rfl, rfl⟩) (fun _ _ _ => ⟨rfl, rfl, rfl, rfl⟩)) ⟨fun y hy => hV y hy, hc, ht, hW, rfl, rfl⟩ s1 s2 hr hK
end SIM3
end
section
/-! numbers of pairs: what the class reckons in longs is what the reference reckons -/
theorem num_iff {x : Int64} : numC x = true ↔ (-999999 ≤ x.toInt ∧ x.toInt ≤ 999999) := by
  unfold numC
  rw [decide_eq_true_eq, lg_cmp_lt, lg_cmp_gt, Int64.lt_iff_toInt_lt, Int64.lt_iff_toInt_lt]
  have e1 : (-999999 : Int64).toInt = -999999 := by decide
  have e2 : (999999 : Int64).toInt = 999999 := by decide
  rw [e1, e2]
  omega
theorem l2i_num {x : Int64} (h : numC x = true) : Num x.toInt32 := by
  have := num_iff.mp h
  unfold Num
  rw [Int64.toInt_toInt32, Int.bmod_eq_of_le (by omega) (by omega)]
  exact this
theorem has60 (x y : Int32) : hasC 60 x y = mDone 4 x y := by
  unfold hasC mDone
  rw [if_neg (by decide), if_pos rfl, if_pos rfl]
theorem has62 (x y : Int32) : hasC 62 x y = mDone 5 x y := by
  unfold hasC mDone
  rw [if_neg (by decide), if_neg (by decide), if_pos rfl, if_neg (by decide), if_pos rfl]
theorem has61 (x y : Int32) : hasC 61 x y = mDone 6 x y := by
  unfold hasC mDone
  rw [if_neg (by decide), if_neg (by decide), if_neg (by decide), if_pos rfl, if_neg (by decide), if_neg (by decide), if_pos rfl]
theorem hasO {k : Int32} (x y : Int32) (h1 : ¬ k = 126) (h2 : ¬ k = 60) (h3 : ¬ k = 62) (h4 : ¬ k = 61) : hasC k x y = numC (reckC k x.toInt64 y.toInt64) := by
  unfold hasC
  rw [if_neg h1, if_neg h2, if_neg h3, if_neg h4]
theorem dnO {s : Int32} (x y : Int32) (h1 : ¬ s = 4) (h2 : ¬ s = 5) (h3 : ¬ s = 6) : mDone s x y = numC (if s = 8 then x.toInt64 + y.toInt64 else if s = 9 then x.toInt64 - y.toInt64 else x.toInt64 * y.toInt64) := by
  unfold mDone
  rw [if_neg h1, if_neg h2, if_neg h3]
theorem rk43 (x y : Int64) : reckC 43 x y = x + y := by unfold reckC; rw [if_neg (by decide), if_pos rfl]
theorem rk45 (x y : Int64) : reckC 45 x y = x - y := by unfold reckC; rw [if_neg (by decide), if_neg (by decide), if_pos rfl]
theorem rk42 (x y : Int64) : reckC 42 x y = x * y := by unfold reckC; rw [if_pos rfl]
theorem rkY {k : Int32} (x y : Int64) (h1 : ¬ k = 42) (h2 : ¬ k = 43) (h3 : ¬ k = 45) : reckC k x y = y := by unfold reckC; rw [if_neg h1, if_neg h2, if_neg h3]
theorem has43 (x y : Int32) : hasC 43 x y = mDone 8 x y := by
  rw [hasO x y (by decide) (by decide) (by decide) (by decide), dnO x y (by decide) (by decide) (by decide), rk43, if_pos rfl]
theorem has45 (x y : Int32) : hasC 45 x y = mDone 9 x y := by
  rw [hasO x y (by decide) (by decide) (by decide) (by decide), dnO x y (by decide) (by decide) (by decide), rk45, if_neg (by decide), if_pos rfl]
theorem has42 (x y : Int32) : hasC 42 x y = mDone 10 x y := by
  rw [hasO x y (by decide) (by decide) (by decide) (by decide), dnO x y (by decide) (by decide) (by decide), rk42, if_neg (by decide), if_neg (by decide)]
theorem byY {s : Int32} (x y : Int32) (h1 : ¬ s = 8) (h2 : ¬ s = 9) (h3 : ¬ s = 10) : mBy s x y = y := by unfold mBy; rw [if_neg h1, if_neg h2, if_neg h3]
theorem by8 (x y : Int32) : mBy 8 x y = x + y := by unfold mBy; rw [if_pos rfl]
theorem by9 (x y : Int32) : mBy 9 x y = x - y := by unfold mBy; rw [if_neg (by decide), if_pos rfl]
theorem by10 (x y : Int32) : mBy 10 x y = x * y := by unfold mBy; rw [if_neg (by decide), if_neg (by decide), if_pos rfl]
theorem num_and {x y : Int32} (h : Num y) : hasC 38 x y = true ∧ (reckC 38 x.toInt64 y.toInt64).toInt32 = y := by
  rw [hasO x y (by decide) (by decide) (by decide) (by decide), rkY _ _ (by decide) (by decide) (by decide), num_iff, Int32.toInt_toInt64, Int32.toInt32_toInt64]
  exact ⟨h, rfl⟩
theorem cmp_val {k x y : Int32} (h : k = 60 ∨ k = 61 ∨ k = 62) : (reckC k x.toInt64 y.toInt64).toInt32 = y := by
  rcases h with rfl | rfl | rfl
  all_goals rw [rkY _ _ (by decide) (by decide) (by decide)]; exact Int32.toInt32_toInt64 y
/-- what the reference does at a second part's result, in the class's words -/
theorem two_val {k s x y : Int32} (hm : (k, s) ∈ twoN) (hy : Num y) (hh : hasC k x y = true) : Num (reckC k x.toInt64 y.toInt64).toInt32 := by
  simp only [twoN, List.mem_cons, Prod.mk.injEq, List.not_mem_nil, or_false] at hm
  rcases hm with ⟨rfl, rfl⟩ | ⟨rfl, rfl⟩ | ⟨rfl, rfl⟩ | ⟨rfl, rfl⟩ | ⟨rfl, rfl⟩ | ⟨rfl, rfl⟩ | ⟨rfl, rfl⟩
  · rw [(num_and hy).2]; exact hy
  · rw [cmp_val (Or.inl rfl)]; exact hy
  · rw [cmp_val (Or.inr (Or.inr rfl))]; exact hy
  · rw [cmp_val (Or.inr (Or.inl rfl))]; exact hy
  · rw [hasO x y (by decide) (by decide) (by decide) (by decide)] at hh; exact l2i_num hh
  · rw [hasO x y (by decide) (by decide) (by decide) (by decide)] at hh; exact l2i_num hh
  · rw [hasO x y (by decide) (by decide) (by decide) (by decide)] at hh; exact l2i_num hh
section TT
variable {d : Nat} {τ : yS} {K : Int32 → yS → Prop} {v : Int32} {i mb : Nat}
theorem tt_two {w k : Int32} (ha : mAt τ mb i w) (h0 : τ 97 28 = 0) (h1 : τ 97 29 = 1) (hm : (k, srt w) ∈ twoN) (hy : Num (τ 97 30)) (hp : τ 109 i = 2)
    (hT : hasC k (τ 113 i) (τ 97 30) = true → mYl d v K (reckC k (τ 113 i).toInt64 (τ 97 30).toInt64).toInt32 τ) (hF : hasC k (τ 113 i) (τ 97 30) = false → mLP d v K (mAsk (snd1 w) τ)) : mLP d v K τ := by
  simp only [twoN, List.mem_cons, Prod.mk.injEq, List.not_mem_nil, or_false] at hm
  generalize hx : τ 113 i = x at hT hF
  generalize hy2 : τ 97 30 = y at hT hF hy
  rcases hm with ⟨rfl, hs⟩ | ⟨rfl, hs⟩ | ⟨rfl, hs⟩ | ⟨rfl, hs⟩ | ⟨rfl, hs⟩ | ⟨rfl, hs⟩ | ⟨rfl, hs⟩
  · have := num_and (x := x) hy
    refine tt_and ha h0 h1 hs hp ?_
    rw [hy2]
    have h9 := hT this.1
    rw [this.2] at h9
    exact h9
  · have e : hasC 60 x y = mDone 4 x y := has60 x y
    have ev : (reckC 60 x.toInt64 y.toInt64).toInt32 = mBy 4 x y := by rw [byY x y (by decide) (by decide) (by decide)]; exact cmp_val (Or.inl rfl)
    rw [e] at hT hF; rw [ev] at hT
    cases hb : mDone 4 x y with
    | true => exact tt_opY_4 ha h0 h1 hs hp (by rw [hx, hy2]; exact hb) (by rw [hx, hy2]; exact hT hb)
    | false => exact tt_opN_4 ha h0 h1 hs hp (by rw [hx, hy2]; exact hb) (hF hb)
  · have e : hasC 62 x y = mDone 5 x y := has62 x y
    have ev : (reckC 62 x.toInt64 y.toInt64).toInt32 = mBy 5 x y := by rw [byY x y (by decide) (by decide) (by decide)]; exact cmp_val (Or.inr (Or.inr rfl))
    rw [e] at hT hF; rw [ev] at hT
    cases hb : mDone 5 x y with
    | true => exact tt_opY_5 ha h0 h1 hs hp (by rw [hx, hy2]; exact hb) (by rw [hx, hy2]; exact hT hb)
    | false => exact tt_opN_5 ha h0 h1 hs hp (by rw [hx, hy2]; exact hb) (hF hb)
  · have e : hasC 61 x y = mDone 6 x y := has61 x y
    have ev : (reckC 61 x.toInt64 y.toInt64).toInt32 = mBy 6 x y := by rw [byY x y (by decide) (by decide) (by decide)]; exact cmp_val (Or.inr (Or.inl rfl))
    rw [e] at hT hF; rw [ev] at hT
    cases hb : mDone 6 x y with
    | true => exact tt_opY_6 ha h0 h1 hs hp (by rw [hx, hy2]; exact hb) (by rw [hx, hy2]; exact hT hb)
    | false => exact tt_opN_6 ha h0 h1 hs hp (by rw [hx, hy2]; exact hb) (hF hb)
  · have e : hasC 43 x y = mDone 8 x y := has43 x y
    have ev : (reckC 43 x.toInt64 y.toInt64).toInt32 = mBy 8 x y := by
      rw [rk43, by8]
      rw [Int64.toInt32_add, Int32.toInt32_toInt64, Int32.toInt32_toInt64]
    rw [e] at hT hF; rw [ev] at hT
    cases hb : mDone 8 x y with
    | true => exact tt_opY_8 ha h0 h1 hs hp (by rw [hx, hy2]; exact hb) (by rw [hx, hy2]; exact hT hb)
    | false => exact tt_opN_8 ha h0 h1 hs hp (by rw [hx, hy2]; exact hb) (hF hb)
  · have e : hasC 45 x y = mDone 9 x y := has45 x y
    have ev : (reckC 45 x.toInt64 y.toInt64).toInt32 = mBy 9 x y := by
      rw [rk45, by9]
      rw [Int64.toInt32_sub, Int32.toInt32_toInt64, Int32.toInt32_toInt64]
    rw [e] at hT hF; rw [ev] at hT
    cases hb : mDone 9 x y with
    | true => exact tt_opY_9 ha h0 h1 hs hp (by rw [hx, hy2]; exact hb) (by rw [hx, hy2]; exact hT hb)
    | false => exact tt_opN_9 ha h0 h1 hs hp (by rw [hx, hy2]; exact hb) (hF hb)
  · have e : hasC 42 x y = mDone 10 x y := has42 x y
    have ev : (reckC 42 x.toInt64 y.toInt64).toInt32 = mBy 10 x y := by
      rw [rk42, by10]
      rw [Int64.toInt32_mul, Int32.toInt32_toInt64, Int32.toInt32_toInt64]
    rw [e] at hT hF; rw [ev] at hT
    cases hb : mDone 10 x y with
    | true => exact tt_opY_10 ha h0 h1 hs hp (by rw [hx, hy2]; exact hb) (by rw [hx, hy2]; exact hT hb)
    | false => exact tt_opN_10 ha h0 h1 hs hp (by rw [hx, hy2]; exact hb) (hF hb)
/-- the other turns of a pair (~ too) -/
def twoR : List Int32 := [2, 4, 5, 6, 7, 8, 9, 10]
theorem twoN_R {k s : Int32} (h : (k, s) ∈ twoN) : s ∈ twoR := by
  simp only [twoN, List.mem_cons, Prod.mk.injEq, List.not_mem_nil, or_false] at h
  rcases h with ⟨-, rfl⟩ | ⟨-, rfl⟩ | ⟨-, rfl⟩ | ⟨-, rfl⟩ | ⟨-, rfl⟩ | ⟨-, rfl⟩ | ⟨-, rfl⟩ <;> decide
theorem tt_one {w : Int32} (ha : mAt τ mb i w) (h0 : τ 97 28 = 0) (h1 : τ 97 29 = 1) (hm : srt w ∈ twoR) (hp : τ 109 i = 1) (hf : vp_in (snd1 w) 60) (h : mLP d v K (mAskN (snd1 w) (sg (sg τ 113 i (τ 97 30)) 109 i 2))) : mLP d v K τ := by
  simp only [twoR, List.mem_cons, List.not_mem_nil, or_false] at hm
  rcases hm with hs | hs | hs | hs | hs | hs | hs | hs
  · exact tt_one_2 ha h0 h1 hs hp hf h
  · exact tt_one_4 ha h0 h1 hs hp hf h
  · exact tt_one_5 ha h0 h1 hs hp hf h
  · exact tt_one_6 ha h0 h1 hs hp hf h
  · exact tt_one_7 ha h0 h1 hs hp hf h
  · exact tt_one_8 ha h0 h1 hs hp hf h
  · exact tt_one_9 ha h0 h1 hs hp hf h
  · exact tt_one_10 ha h0 h1 hs hp hf h
theorem te_two1 {w : Int32} (ha : mAt τ mb i w) (h0 : τ 97 28 = 0) (h1 : τ 97 29 = 0) (hm : srt w ∈ twoR) (hp : ¬ τ 109 i = 2) (h : mLP d v K (mNone τ)) : mLP d v K τ := by
  simp only [twoR, List.mem_cons, List.not_mem_nil, or_false] at hm
  rcases hm with hs | hs | hs | hs | hs | hs | hs | hs
  · exact te_two1_2 ha h0 h1 hs hp h
  · exact te_two1_4 ha h0 h1 hs hp h
  · exact te_two1_5 ha h0 h1 hs hp h
  · exact te_two1_6 ha h0 h1 hs hp h
  · exact te_two1_7 ha h0 h1 hs hp h
  · exact te_two1_8 ha h0 h1 hs hp h
  · exact te_two1_9 ha h0 h1 hs hp h
  · exact te_two1_10 ha h0 h1 hs hp h
theorem te_two2 {w : Int32} (ha : mAt τ mb i w) (h0 : τ 97 28 = 0) (h1 : τ 97 29 = 0) (hm : srt w ∈ twoR) (hp : τ 109 i = 2) (h : mLP d v K (mAsk (fst1 w) (sg τ 109 i 1))) : mLP d v K τ := by
  simp only [twoR, List.mem_cons, List.not_mem_nil, or_false] at hm
  rcases hm with hs | hs | hs | hs | hs | hs | hs | hs
  · exact te_two2_2 ha h0 h1 hs hp h
  · exact te_two2_4 ha h0 h1 hs hp h
  · exact te_two2_5 ha h0 h1 hs hp h
  · exact te_two2_6 ha h0 h1 hs hp h
  · exact te_two2_7 ha h0 h1 hs hp h
  · exact te_two2_8 ha h0 h1 hs hp h
  · exact te_two2_9 ha h0 h1 hs hp h
  · exact te_two2_10 ha h0 h1 hs hp h
theorem ta_two0 {w : Int32} (ha : mAt τ mb i w) (h1 : τ 97 28 = 1) (hm : srt w ∈ twoR) (hp : τ 109 i = 0) (hf : vp_in (fst1 w) 60) (h : mLP d v K (mAskN (fst1 w) (sg τ 109 i 1))) : mLP d v K τ := by
  simp only [twoR, List.mem_cons, List.not_mem_nil, or_false] at hm
  rcases hm with hs | hs | hs | hs | hs | hs | hs | hs
  · exact ta_two0_2 ha h1 hs hp hf h
  · exact ta_two0_4 ha h1 hs hp hf h
  · exact ta_two0_5 ha h1 hs hp hf h
  · exact ta_two0_6 ha h1 hs hp hf h
  · exact ta_rng0 ha h1 hs hp hf h
  · exact ta_two0_8 ha h1 hs hp hf h
  · exact ta_two0_9 ha h1 hs hp hf h
  · exact ta_two0_10 ha h1 hs hp hf h
theorem ta_two2 {w k : Int32} (ha : mAt τ mb i w) (h1 : τ 97 28 = 1) (hm : (k, srt w) ∈ twoN) (hp : τ 109 i = 2) (h : mLP d v K (mAsk (snd1 w) τ)) : mLP d v K τ := by
  simp only [twoN, List.mem_cons, Prod.mk.injEq, List.not_mem_nil, or_false] at hm
  rcases hm with ⟨-, hs⟩ | ⟨-, hs⟩ | ⟨-, hs⟩ | ⟨-, hs⟩ | ⟨-, hs⟩ | ⟨-, hs⟩ | ⟨-, hs⟩
  · exact ta_two2_2 ha h1 hs hp h
  · exact ta_two2_4 ha h1 hs hp h
  · exact ta_two2_5 ha h1 hs hp h
  · exact ta_two2_6 ha h1 hs hp h
  · exact ta_two2_8 ha h1 hs hp h
  · exact ta_two2_9 ha h1 hs hp h
  · exact ta_two2_10 ha h1 hs hp h
end TT
end
