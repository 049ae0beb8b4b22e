section
-- ===== PART A: goes FIRST, ahead of the names: the tables' words, and 'selects' of the private methods out of them =====
/-- a private method of a class that the tables say can be made, by its rows of tables_1 -/
def lw_okq (q : MethodName × Nat) : Prop := (q.1.cls ≠ "java/lang/invoke/MethodHandle" ∧ q.1.cls ≠ "java/lang/invoke/VarHandle") ∧ Cond.instantiable q.1.cls q.2 ∈ tables_1 ∧ Cond.privateMethod q.1 ∈ tables_1 ∧ Cond.instanceMethod q.1 ∈ tables_1
theorem lw_p0 : lw_okq (⟨"FunDesk$Machine", "enter", "()V"⟩, 12) := ⟨⟨by decide +kernel, by decide +kernel⟩, List.mem_of_getElem? (i := 185) (by decide +kernel), List.mem_of_getElem? (i := 304) (by decide +kernel), List.mem_of_getElem? (i := 305) (by decide +kernel)⟩
theorem lw_p1 : lw_okq (⟨"FunDesk$Machine", "settle", "(LFunDesk$Value;)V"⟩, 12) := ⟨⟨by decide +kernel, by decide +kernel⟩, List.mem_of_getElem? (i := 185) (by decide +kernel), List.mem_of_getElem? (i := 349) (by decide +kernel), List.mem_of_getElem? (i := 350) (by decide +kernel)⟩
theorem lw_p2 : lw_okq (⟨"FunDesk$Machine", "fail", "(I)V"⟩, 12) := ⟨⟨by decide +kernel, by decide +kernel⟩, List.mem_of_getElem? (i := 185) (by decide +kernel), List.mem_of_getElem? (i := 353) (by decide +kernel), List.mem_of_getElem? (i := 354) (by decide +kernel)⟩
theorem lw_p3 : lw_okq (⟨"FunDesk$Machine", "find", "(I)LFunDesk$Value;"⟩, 12) := ⟨⟨by decide +kernel, by decide +kernel⟩, List.mem_of_getElem? (i := 185) (by decide +kernel), List.mem_of_getElem? (i := 363) (by decide +kernel), List.mem_of_getElem? (i := 364) (by decide +kernel)⟩
theorem lw_p4 : lw_okq (⟨"FunDesk$Machine", "goInto", "(I)V"⟩, 12) := ⟨⟨by decide +kernel, by decide +kernel⟩, List.mem_of_getElem? (i := 185) (by decide +kernel), List.mem_of_getElem? (i := 374) (by decide +kernel), List.mem_of_getElem? (i := 375) (by decide +kernel)⟩
theorem lw_p5 : lw_okq (⟨"FunDesk$Machine", "leave", "()V"⟩, 12) := ⟨⟨by decide +kernel, by decide +kernel⟩, List.mem_of_getElem? (i := 185) (by decide +kernel), List.mem_of_getElem? (i := 378) (by decide +kernel), List.mem_of_getElem? (i := 379) (by decide +kernel)⟩
theorem lw_p6 : lw_okq (⟨"FunDesk$Machine", "unbind", "(I)V"⟩, 12) := ⟨⟨by decide +kernel, by decide +kernel⟩, List.mem_of_getElem? (i := 185) (by decide +kernel), List.mem_of_getElem? (i := 390) (by decide +kernel), List.mem_of_getElem? (i := 391) (by decide +kernel)⟩
theorem lw_p7 : lw_okq (⟨"FunDesk$Machine", "giveBack", "()V"⟩, 12) := ⟨⟨by decide +kernel, by decide +kernel⟩, List.mem_of_getElem? (i := 185) (by decide +kernel), List.mem_of_getElem? (i := 394) (by decide +kernel), List.mem_of_getElem? (i := 395) (by decide +kernel)⟩
theorem lw_p8 : lw_okq (⟨"FunDesk$Machine", "finish", "()V"⟩, 12) := ⟨⟨by decide +kernel, by decide +kernel⟩, List.mem_of_getElem? (i := 185) (by decide +kernel), List.mem_of_getElem? (i := 398) (by decide +kernel), List.mem_of_getElem? (i := 399) (by decide +kernel)⟩
theorem lw_p9 : lw_okq (⟨"FunDesk$Machine", "take", "()LFunDesk$Value;"⟩, 12) := ⟨⟨by decide +kernel, by decide +kernel⟩, List.mem_of_getElem? (i := 185) (by decide +kernel), List.mem_of_getElem? (i := 402) (by decide +kernel), List.mem_of_getElem? (i := 403) (by decide +kernel)⟩
theorem lw_p10 : lw_okq (⟨"FunDesk$Machine", "step", "()V"⟩, 12) := ⟨⟨by decide +kernel, by decide +kernel⟩, List.mem_of_getElem? (i := 185) (by decide +kernel), List.mem_of_getElem? (i := 406) (by decide +kernel), List.mem_of_getElem? (i := 407) (by decide +kernel)⟩
theorem lw_p11 : lw_okq (⟨"FunDesk$Machine", "operate", "()V"⟩, 12) := ⟨⟨by decide +kernel, by decide +kernel⟩, List.mem_of_getElem? (i := 185) (by decide +kernel), List.mem_of_getElem? (i := 410) (by decide +kernel), List.mem_of_getElem? (i := 411) (by decide +kernel)⟩
theorem lw_p12 : lw_okq (⟨"FunDesk$Machine", "operateOnReals", "(IDD)V"⟩, 12) := ⟨⟨by decide +kernel, by decide +kernel⟩, List.mem_of_getElem? (i := 185) (by decide +kernel), List.mem_of_getElem? (i := 414) (by decide +kernel), List.mem_of_getElem? (i := 415) (by decide +kernel)⟩
theorem lw_p13 : lw_okq (⟨"FunDesk$Machine", "operateOnNumbers", "(III)V"⟩, 12) := ⟨⟨by decide +kernel, by decide +kernel⟩, List.mem_of_getElem? (i := 185) (by decide +kernel), List.mem_of_getElem? (i := 420) (by decide +kernel), List.mem_of_getElem? (i := 421) (by decide +kernel)⟩
theorem lw_p14 : lw_okq (⟨"FunDesk$Machine", "apply", "()V"⟩, 12) := ⟨⟨by decide +kernel, by decide +kernel⟩, List.mem_of_getElem? (i := 185) (by decide +kernel), List.mem_of_getElem? (i := 427) (by decide +kernel), List.mem_of_getElem? (i := 428) (by decide +kernel)⟩
theorem lw_p15 : lw_okq (⟨"FunDesk$Machine", "bindOwn", "()V"⟩, 12) := ⟨⟨by decide +kernel, by decide +kernel⟩, List.mem_of_getElem? (i := 185) (by decide +kernel), List.mem_of_getElem? (i := 469) (by decide +kernel), List.mem_of_getElem? (i := 470) (by decide +kernel)⟩
def lw_privs_1 : List (MethodName × Nat) := [(⟨"FunDesk$Machine", "enter", "()V"⟩, 12), (⟨"FunDesk$Machine", "settle", "(LFunDesk$Value;)V"⟩, 12), (⟨"FunDesk$Machine", "fail", "(I)V"⟩, 12), (⟨"FunDesk$Machine", "find", "(I)LFunDesk$Value;"⟩, 12), (⟨"FunDesk$Machine", "goInto", "(I)V"⟩, 12), (⟨"FunDesk$Machine", "leave", "()V"⟩, 12), (⟨"FunDesk$Machine", "unbind", "(I)V"⟩, 12), (⟨"FunDesk$Machine", "giveBack", "()V"⟩, 12), (⟨"FunDesk$Machine", "finish", "()V"⟩, 12), (⟨"FunDesk$Machine", "take", "()LFunDesk$Value;"⟩, 12), (⟨"FunDesk$Machine", "step", "()V"⟩, 12), (⟨"FunDesk$Machine", "operate", "()V"⟩, 12), (⟨"FunDesk$Machine", "operateOnReals", "(IDD)V"⟩, 12), (⟨"FunDesk$Machine", "operateOnNumbers", "(III)V"⟩, 12), (⟨"FunDesk$Machine", "apply", "()V"⟩, 12), (⟨"FunDesk$Machine", "bindOwn", "()V"⟩, 12)]
theorem lw_r1 : ∀ q ∈ lw_privs_1, lw_okq q := List.forall_mem_cons.mpr ⟨lw_p0, List.forall_mem_cons.mpr ⟨lw_p1, List.forall_mem_cons.mpr ⟨lw_p2, List.forall_mem_cons.mpr ⟨lw_p3, List.forall_mem_cons.mpr ⟨lw_p4, List.forall_mem_cons.mpr ⟨lw_p5, List.forall_mem_cons.mpr ⟨lw_p6, List.forall_mem_cons.mpr ⟨lw_p7, List.forall_mem_cons.mpr ⟨lw_p8, List.forall_mem_cons.mpr ⟨lw_p9, List.forall_mem_cons.mpr ⟨lw_p10, List.forall_mem_cons.mpr ⟨lw_p11, List.forall_mem_cons.mpr ⟨lw_p12, List.forall_mem_cons.mpr ⟨lw_p13, List.forall_mem_cons.mpr ⟨lw_p14, List.forall_mem_cons.mpr ⟨lw_p15, fun _ h => absurd h List.not_mem_nil⟩⟩⟩⟩⟩⟩⟩⟩⟩⟩⟩⟩⟩⟩⟩⟩
theorem lw_p16 : lw_okq (⟨"FunDesk$Machine", "choose", "()V"⟩, 12) := ⟨⟨by decide +kernel, by decide +kernel⟩, List.mem_of_getElem? (i := 185) (by decide +kernel), List.mem_of_getElem? (i := 477) (by decide +kernel), List.mem_of_getElem? (i := 478) (by decide +kernel)⟩
theorem lw_p17 : lw_okq (⟨"FunDesk$Machine", "fits", "(ILFunDesk$Value;I)Z"⟩, 12) := ⟨⟨by decide +kernel, by decide +kernel⟩, List.mem_of_getElem? (i := 185) (by decide +kernel), List.mem_of_getElem? (i := 481) (by decide +kernel), List.mem_of_getElem? (i := 482) (by decide +kernel)⟩
theorem lw_p18 : lw_okq (⟨"FunDesk$Machine", "bind", "(ILFunDesk$Value;LFunDesk$Scope;I)LFunDesk$Scope;"⟩, 12) := ⟨⟨by decide +kernel, by decide +kernel⟩, List.mem_of_getElem? (i := 185) (by decide +kernel), List.mem_of_getElem? (i := 485) (by decide +kernel), List.mem_of_getElem? (i := 486) (by decide +kernel)⟩
theorem lw_p19 : lw_okq (⟨"FunDesk$Reader", "expression", "(I)I"⟩, 7) := ⟨⟨by decide +kernel, by decide +kernel⟩, List.mem_of_getElem? (i := 92) (by decide +kernel), List.mem_of_getElem? (i := 531) (by decide +kernel), List.mem_of_getElem? (i := 532) (by decide +kernel)⟩
theorem lw_p20 : lw_okq (⟨"FunDesk$Reader", "breakOff", "()I"⟩, 7) := ⟨⟨by decide +kernel, by decide +kernel⟩, List.mem_of_getElem? (i := 92) (by decide +kernel), List.mem_of_getElem? (i := 535) (by decide +kernel), List.mem_of_getElem? (i := 536) (by decide +kernel)⟩
theorem lw_p21 : lw_okq (⟨"FunDesk$Reader", "next", "()I"⟩, 7) := ⟨⟨by decide +kernel, by decide +kernel⟩, List.mem_of_getElem? (i := 92) (by decide +kernel), List.mem_of_getElem? (i := 539) (by decide +kernel), List.mem_of_getElem? (i := 540) (by decide +kernel)⟩
theorem lw_p22 : lw_okq (⟨"FunDesk$Reader", "function", "(I)I"⟩, 7) := ⟨⟨by decide +kernel, by decide +kernel⟩, List.mem_of_getElem? (i := 92) (by decide +kernel), List.mem_of_getElem? (i := 548) (by decide +kernel), List.mem_of_getElem? (i := 549) (by decide +kernel)⟩
theorem lw_p23 : lw_okq (⟨"FunDesk$Reader", "expect", "(I)V"⟩, 7) := ⟨⟨by decide +kernel, by decide +kernel⟩, List.mem_of_getElem? (i := 92) (by decide +kernel), List.mem_of_getElem? (i := 552) (by decide +kernel), List.mem_of_getElem? (i := 553) (by decide +kernel)⟩
theorem lw_p24 : lw_okq (⟨"FunDesk$Reader", "takes", "(I)Z"⟩, 7) := ⟨⟨by decide +kernel, by decide +kernel⟩, List.mem_of_getElem? (i := 92) (by decide +kernel), List.mem_of_getElem? (i := 556) (by decide +kernel), List.mem_of_getElem? (i := 557) (by decide +kernel)⟩
theorem lw_p25 : lw_okq (⟨"FunDesk$Reader", "name", "()I"⟩, 7) := ⟨⟨by decide +kernel, by decide +kernel⟩, List.mem_of_getElem? (i := 92) (by decide +kernel), List.mem_of_getElem? (i := 560) (by decide +kernel), List.mem_of_getElem? (i := 561) (by decide +kernel)⟩
theorem lw_p26 : lw_okq (⟨"FunDesk$Reader", "bind", "(II)V"⟩, 7) := ⟨⟨by decide +kernel, by decide +kernel⟩, List.mem_of_getElem? (i := 92) (by decide +kernel), List.mem_of_getElem? (i := 564) (by decide +kernel), List.mem_of_getElem? (i := 565) (by decide +kernel)⟩
theorem lw_p27 : lw_okq (⟨"FunDesk$Reader", "let", "(I)I"⟩, 7) := ⟨⟨by decide +kernel, by decide +kernel⟩, List.mem_of_getElem? (i := 92) (by decide +kernel), List.mem_of_getElem? (i := 575) (by decide +kernel), List.mem_of_getElem? (i := 576) (by decide +kernel)⟩
theorem lw_p28 : lw_okq (⟨"FunDesk$Reader", "recursion", "(I)I"⟩, 7) := ⟨⟨by decide +kernel, by decide +kernel⟩, List.mem_of_getElem? (i := 92) (by decide +kernel), List.mem_of_getElem? (i := 579) (by decide +kernel), List.mem_of_getElem? (i := 580) (by decide +kernel)⟩
theorem lw_p29 : lw_okq (⟨"FunDesk$Reader", "condition", "(I)I"⟩, 7) := ⟨⟨by decide +kernel, by decide +kernel⟩, List.mem_of_getElem? (i := 92) (by decide +kernel), List.mem_of_getElem? (i := 583) (by decide +kernel), List.mem_of_getElem? (i := 584) (by decide +kernel)⟩
theorem lw_p30 : lw_okq (⟨"FunDesk$Reader", "choice", "(I)I"⟩, 7) := ⟨⟨by decide +kernel, by decide +kernel⟩, List.mem_of_getElem? (i := 92) (by decide +kernel), List.mem_of_getElem? (i := 587) (by decide +kernel), List.mem_of_getElem? (i := 588) (by decide +kernel)⟩
theorem lw_p31 : lw_okq (⟨"FunDesk$Reader", "branch", "(I)I"⟩, 7) := ⟨⟨by decide +kernel, by decide +kernel⟩, List.mem_of_getElem? (i := 92) (by decide +kernel), List.mem_of_getElem? (i := 591) (by decide +kernel), List.mem_of_getElem? (i := 592) (by decide +kernel)⟩
def lw_privs_2 : List (MethodName × Nat) := [(⟨"FunDesk$Machine", "choose", "()V"⟩, 12), (⟨"FunDesk$Machine", "fits", "(ILFunDesk$Value;I)Z"⟩, 12), (⟨"FunDesk$Machine", "bind", "(ILFunDesk$Value;LFunDesk$Scope;I)LFunDesk$Scope;"⟩, 12), (⟨"FunDesk$Reader", "expression", "(I)I"⟩, 7), (⟨"FunDesk$Reader", "breakOff", "()I"⟩, 7), (⟨"FunDesk$Reader", "next", "()I"⟩, 7), (⟨"FunDesk$Reader", "function", "(I)I"⟩, 7), (⟨"FunDesk$Reader", "expect", "(I)V"⟩, 7), (⟨"FunDesk$Reader", "takes", "(I)Z"⟩, 7), (⟨"FunDesk$Reader", "name", "()I"⟩, 7), (⟨"FunDesk$Reader", "bind", "(II)V"⟩, 7), (⟨"FunDesk$Reader", "let", "(I)I"⟩, 7), (⟨"FunDesk$Reader", "recursion", "(I)I"⟩, 7), (⟨"FunDesk$Reader", "condition", "(I)I"⟩, 7), (⟨"FunDesk$Reader", "choice", "(I)I"⟩, 7), (⟨"FunDesk$Reader", "branch", "(I)I"⟩, 7)]
theorem lw_r2 : ∀ q ∈ lw_privs_2, lw_okq q := List.forall_mem_cons.mpr ⟨lw_p16, List.forall_mem_cons.mpr ⟨lw_p17, List.forall_mem_cons.mpr ⟨lw_p18, List.forall_mem_cons.mpr ⟨lw_p19, List.forall_mem_cons.mpr ⟨lw_p20, List.forall_mem_cons.mpr ⟨lw_p21, List.forall_mem_cons.mpr ⟨lw_p22, List.forall_mem_cons.mpr ⟨lw_p23, List.forall_mem_cons.mpr ⟨lw_p24, List.forall_mem_cons.mpr ⟨lw_p25, List.forall_mem_cons.mpr ⟨lw_p26, List.forall_mem_cons.mpr ⟨lw_p27, List.forall_mem_cons.mpr ⟨lw_p28, List.forall_mem_cons.mpr ⟨lw_p29, List.forall_mem_cons.mpr ⟨lw_p30, List.forall_mem_cons.mpr ⟨lw_p31, fun _ h => absurd h List.not_mem_nil⟩⟩⟩⟩⟩⟩⟩⟩⟩⟩⟩⟩⟩⟩⟩⟩
theorem lw_p32 : lw_okq (⟨"FunDesk$Reader", "pattern", "(I)I"⟩, 7) := ⟨⟨by decide +kernel, by decide +kernel⟩, List.mem_of_getElem? (i := 92) (by decide +kernel), List.mem_of_getElem? (i := 595) (by decide +kernel), List.mem_of_getElem? (i := 596) (by decide +kernel)⟩
theorem lw_p33 : lw_okq (⟨"FunDesk$Reader", "part", "(I)I"⟩, 7) := ⟨⟨by decide +kernel, by decide +kernel⟩, List.mem_of_getElem? (i := 92) (by decide +kernel), List.mem_of_getElem? (i := 599) (by decide +kernel), List.mem_of_getElem? (i := 600) (by decide +kernel)⟩
theorem lw_p34 : lw_okq (⟨"FunDesk$Reader", "binder", "()I"⟩, 7) := ⟨⟨by decide +kernel, by decide +kernel⟩, List.mem_of_getElem? (i := 92) (by decide +kernel), List.mem_of_getElem? (i := 603) (by decide +kernel), List.mem_of_getElem? (i := 604) (by decide +kernel)⟩
theorem lw_p35 : lw_okq (⟨"FunDesk$Reader", "digits", "(I)I"⟩, 7) := ⟨⟨by decide +kernel, by decide +kernel⟩, List.mem_of_getElem? (i := 92) (by decide +kernel), List.mem_of_getElem? (i := 615) (by decide +kernel), List.mem_of_getElem? (i := 616) (by decide +kernel)⟩
theorem lw_p36 : lw_okq (⟨"FunDesk$Reader", "constant", "()I"⟩, 7) := ⟨⟨by decide +kernel, by decide +kernel⟩, List.mem_of_getElem? (i := 92) (by decide +kernel), List.mem_of_getElem? (i := 619) (by decide +kernel), List.mem_of_getElem? (i := 620) (by decide +kernel)⟩
theorem lw_p37 : lw_okq (⟨"FunDesk$Reader", "bindAll", "(II)V"⟩, 7) := ⟨⟨by decide +kernel, by decide +kernel⟩, List.mem_of_getElem? (i := 92) (by decide +kernel), List.mem_of_getElem? (i := 623) (by decide +kernel), List.mem_of_getElem? (i := 624) (by decide +kernel)⟩
theorem lw_p38 : lw_okq (⟨"FunDesk$Reader", "list", "(I)I"⟩, 7) := ⟨⟨by decide +kernel, by decide +kernel⟩, List.mem_of_getElem? (i := 92) (by decide +kernel), List.mem_of_getElem? (i := 637) (by decide +kernel), List.mem_of_getElem? (i := 638) (by decide +kernel)⟩
theorem lw_p39 : lw_okq (⟨"FunDesk$Reader", "comparison", "(I)I"⟩, 7) := ⟨⟨by decide +kernel, by decide +kernel⟩, List.mem_of_getElem? (i := 92) (by decide +kernel), List.mem_of_getElem? (i := 641) (by decide +kernel), List.mem_of_getElem? (i := 642) (by decide +kernel)⟩
theorem lw_p40 : lw_okq (⟨"FunDesk$Reader", "sum", "(I)I"⟩, 7) := ⟨⟨by decide +kernel, by decide +kernel⟩, List.mem_of_getElem? (i := 92) (by decide +kernel), List.mem_of_getElem? (i := 645) (by decide +kernel), List.mem_of_getElem? (i := 646) (by decide +kernel)⟩
theorem lw_p41 : lw_okq (⟨"FunDesk$Reader", "product", "(I)I"⟩, 7) := ⟨⟨by decide +kernel, by decide +kernel⟩, List.mem_of_getElem? (i := 92) (by decide +kernel), List.mem_of_getElem? (i := 649) (by decide +kernel), List.mem_of_getElem? (i := 650) (by decide +kernel)⟩
theorem lw_p42 : lw_okq (⟨"FunDesk$Reader", "application", "(I)I"⟩, 7) := ⟨⟨by decide +kernel, by decide +kernel⟩, List.mem_of_getElem? (i := 92) (by decide +kernel), List.mem_of_getElem? (i := 653) (by decide +kernel), List.mem_of_getElem? (i := 654) (by decide +kernel)⟩
theorem lw_p43 : lw_okq (⟨"FunDesk$Reader", "atom", "(I)I"⟩, 7) := ⟨⟨by decide +kernel, by decide +kernel⟩, List.mem_of_getElem? (i := 92) (by decide +kernel), List.mem_of_getElem? (i := 657) (by decide +kernel), List.mem_of_getElem? (i := 658) (by decide +kernel)⟩
theorem lw_p44 : lw_okq (⟨"FunDesk$Reader", "plainAtom", "(I)I"⟩, 7) := ⟨⟨by decide +kernel, by decide +kernel⟩, List.mem_of_getElem? (i := 92) (by decide +kernel), List.mem_of_getElem? (i := 661) (by decide +kernel), List.mem_of_getElem? (i := 662) (by decide +kernel)⟩
theorem lw_p45 : lw_okq (⟨"FunDesk$Reader", "usedName", "()I"⟩, 7) := ⟨⟨by decide +kernel, by decide +kernel⟩, List.mem_of_getElem? (i := 92) (by decide +kernel), List.mem_of_getElem? (i := 665) (by decide +kernel), List.mem_of_getElem? (i := 666) (by decide +kernel)⟩
theorem lw_p46 : lw_okq (⟨"FunDesk$Reader", "numeral", "()I"⟩, 7) := ⟨⟨by decide +kernel, by decide +kernel⟩, List.mem_of_getElem? (i := 92) (by decide +kernel), List.mem_of_getElem? (i := 669) (by decide +kernel), List.mem_of_getElem? (i := 670) (by decide +kernel)⟩
theorem lw_p47 : lw_okq (⟨"FunDesk$Reader", "operator", "(II)I"⟩, 7) := ⟨⟨by decide +kernel, by decide +kernel⟩, List.mem_of_getElem? (i := 92) (by decide +kernel), List.mem_of_getElem? (i := 676) (by decide +kernel), List.mem_of_getElem? (i := 677) (by decide +kernel)⟩
def lw_privs_3 : List (MethodName × Nat) := [(⟨"FunDesk$Reader", "pattern", "(I)I"⟩, 7), (⟨"FunDesk$Reader", "part", "(I)I"⟩, 7), (⟨"FunDesk$Reader", "binder", "()I"⟩, 7), (⟨"FunDesk$Reader", "digits", "(I)I"⟩, 7), (⟨"FunDesk$Reader", "constant", "()I"⟩, 7), (⟨"FunDesk$Reader", "bindAll", "(II)V"⟩, 7), (⟨"FunDesk$Reader", "list", "(I)I"⟩, 7), (⟨"FunDesk$Reader", "comparison", "(I)I"⟩, 7), (⟨"FunDesk$Reader", "sum", "(I)I"⟩, 7), (⟨"FunDesk$Reader", "product", "(I)I"⟩, 7), (⟨"FunDesk$Reader", "application", "(I)I"⟩, 7), (⟨"FunDesk$Reader", "atom", "(I)I"⟩, 7), (⟨"FunDesk$Reader", "plainAtom", "(I)I"⟩, 7), (⟨"FunDesk$Reader", "usedName", "()I"⟩, 7), (⟨"FunDesk$Reader", "numeral", "()I"⟩, 7), (⟨"FunDesk$Reader", "operator", "(II)I"⟩, 7)]
theorem lw_r3 : ∀ q ∈ lw_privs_3, lw_okq q := List.forall_mem_cons.mpr ⟨lw_p32, List.forall_mem_cons.mpr ⟨lw_p33, List.forall_mem_cons.mpr ⟨lw_p34, List.forall_mem_cons.mpr ⟨lw_p35, List.forall_mem_cons.mpr ⟨lw_p36, List.forall_mem_cons.mpr ⟨lw_p37, List.forall_mem_cons.mpr ⟨lw_p38, List.forall_mem_cons.mpr ⟨lw_p39, List.forall_mem_cons.mpr ⟨lw_p40, List.forall_mem_cons.mpr ⟨lw_p41, List.forall_mem_cons.mpr ⟨lw_p42, List.forall_mem_cons.mpr ⟨lw_p43, List.forall_mem_cons.mpr ⟨lw_p44, List.forall_mem_cons.mpr ⟨lw_p45, List.forall_mem_cons.mpr ⟨lw_p46, List.forall_mem_cons.mpr ⟨lw_p47, fun _ h => absurd h List.not_mem_nil⟩⟩⟩⟩⟩⟩⟩⟩⟩⟩⟩⟩⟩⟩⟩⟩
theorem lw_p48 : lw_okq (⟨"java/lang/Throwable", "fillInStackTrace", "(I)Ljava/lang/Throwable;"⟩, 6) := ⟨⟨by decide +kernel, by decide +kernel⟩, List.mem_of_getElem? (i := 728) (by decide +kernel), List.mem_of_getElem? (i := 726) (by decide +kernel), List.mem_of_getElem? (i := 727) (by decide +kernel)⟩
theorem lw_p49 : lw_okq (⟨"FunDesk$Types", "make", "(III)I"⟩, 8) := ⟨⟨by decide +kernel, by decide +kernel⟩, List.mem_of_getElem? (i := 122) (by decide +kernel), List.mem_of_getElem? (i := 786) (by decide +kernel), List.mem_of_getElem? (i := 787) (by decide +kernel)⟩
theorem lw_p50 : lw_okq (⟨"FunDesk$Checker", "infer", "(II)I"⟩, 7) := ⟨⟨by decide +kernel, by decide +kernel⟩, List.mem_of_getElem? (i := 155) (by decide +kernel), List.mem_of_getElem? (i := 795) (by decide +kernel), List.mem_of_getElem? (i := 796) (by decide +kernel)⟩
theorem lw_p51 : lw_okq (⟨"FunDesk$Checker", "leaf", "(I)I"⟩, 7) := ⟨⟨by decide +kernel, by decide +kernel⟩, List.mem_of_getElem? (i := 155) (by decide +kernel), List.mem_of_getElem? (i := 800) (by decide +kernel), List.mem_of_getElem? (i := 801) (by decide +kernel)⟩
theorem lw_p52 : lw_okq (⟨"FunDesk$Checker", "typeOfName", "(I)I"⟩, 7) := ⟨⟨by decide +kernel, by decide +kernel⟩, List.mem_of_getElem? (i := 155) (by decide +kernel), List.mem_of_getElem? (i := 818) (by decide +kernel), List.mem_of_getElem? (i := 819) (by decide +kernel)⟩
theorem lw_p53 : lw_okq (⟨"FunDesk$Types", "length", "(II)I"⟩, 8) := ⟨⟨by decide +kernel, by decide +kernel⟩, List.mem_of_getElem? (i := 122) (by decide +kernel), List.mem_of_getElem? (i := 831) (by decide +kernel), List.mem_of_getElem? (i := 832) (by decide +kernel)⟩
theorem lw_p54 : lw_okq (⟨"FunDesk$Types", "resolve", "(I)I"⟩, 8) := ⟨⟨by decide +kernel, by decide +kernel⟩, List.mem_of_getElem? (i := 122) (by decide +kernel), List.mem_of_getElem? (i := 835) (by decide +kernel), List.mem_of_getElem? (i := 836) (by decide +kernel)⟩
theorem lw_p55 : lw_okq (⟨"FunDesk$Types", "copy", "(III)I"⟩, 8) := ⟨⟨by decide +kernel, by decide +kernel⟩, List.mem_of_getElem? (i := 122) (by decide +kernel), List.mem_of_getElem? (i := 840) (by decide +kernel), List.mem_of_getElem? (i := 841) (by decide +kernel)⟩
theorem lw_p56 : lw_okq (⟨"FunDesk$Types", "copyOf", "(II)I"⟩, 8) := ⟨⟨by decide +kernel, by decide +kernel⟩, List.mem_of_getElem? (i := 122) (by decide +kernel), List.mem_of_getElem? (i := 846) (by decide +kernel), List.mem_of_getElem? (i := 847) (by decide +kernel)⟩
theorem lw_p57 : lw_okq (⟨"FunDesk$Types", "placeOf", "(I)I"⟩, 8) := ⟨⟨by decide +kernel, by decide +kernel⟩, List.mem_of_getElem? (i := 122) (by decide +kernel), List.mem_of_getElem? (i := 850) (by decide +kernel), List.mem_of_getElem? (i := 851) (by decide +kernel)⟩
theorem lw_p58 : lw_okq (⟨"FunDesk$Checker", "enter", "(II)V"⟩, 7) := ⟨⟨by decide +kernel, by decide +kernel⟩, List.mem_of_getElem? (i := 155) (by decide +kernel), List.mem_of_getElem? (i := 854) (by decide +kernel), List.mem_of_getElem? (i := 855) (by decide +kernel)⟩
theorem lw_p59 : lw_okq (⟨"FunDesk$Checker", "inferWhole", "(II)I"⟩, 7) := ⟨⟨by decide +kernel, by decide +kernel⟩, List.mem_of_getElem? (i := 155) (by decide +kernel), List.mem_of_getElem? (i := 859) (by decide +kernel), List.mem_of_getElem? (i := 860) (by decide +kernel)⟩
theorem lw_p60 : lw_okq (⟨"FunDesk$Checker", "demand", "(II)V"⟩, 7) := ⟨⟨by decide +kernel, by decide +kernel⟩, List.mem_of_getElem? (i := 155) (by decide +kernel), List.mem_of_getElem? (i := 863) (by decide +kernel), List.mem_of_getElem? (i := 864) (by decide +kernel)⟩
theorem lw_p61 : lw_okq (⟨"FunDesk$Types", "link", "(II)Z"⟩, 8) := ⟨⟨by decide +kernel, by decide +kernel⟩, List.mem_of_getElem? (i := 122) (by decide +kernel), List.mem_of_getElem? (i := 871) (by decide +kernel), List.mem_of_getElem? (i := 872) (by decide +kernel)⟩
theorem lw_p62 : lw_okq (⟨"FunDesk$Types", "takesIn", "(III)Z"⟩, 8) := ⟨⟨by decide +kernel, by decide +kernel⟩, List.mem_of_getElem? (i := 122) (by decide +kernel), List.mem_of_getElem? (i := 875) (by decide +kernel), List.mem_of_getElem? (i := 876) (by decide +kernel)⟩
theorem lw_p63 : lw_okq (⟨"FunDesk$Checker", "inferLet", "(II)I"⟩, 7) := ⟨⟨by decide +kernel, by decide +kernel⟩, List.mem_of_getElem? (i := 155) (by decide +kernel), List.mem_of_getElem? (i := 890) (by decide +kernel), List.mem_of_getElem? (i := 891) (by decide +kernel)⟩
def lw_privs_4 : List (MethodName × Nat) := [(⟨"java/lang/Throwable", "fillInStackTrace", "(I)Ljava/lang/Throwable;"⟩, 6), (⟨"FunDesk$Types", "make", "(III)I"⟩, 8), (⟨"FunDesk$Checker", "infer", "(II)I"⟩, 7), (⟨"FunDesk$Checker", "leaf", "(I)I"⟩, 7), (⟨"FunDesk$Checker", "typeOfName", "(I)I"⟩, 7), (⟨"FunDesk$Types", "length", "(II)I"⟩, 8), (⟨"FunDesk$Types", "resolve", "(I)I"⟩, 8), (⟨"FunDesk$Types", "copy", "(III)I"⟩, 8), (⟨"FunDesk$Types", "copyOf", "(II)I"⟩, 8), (⟨"FunDesk$Types", "placeOf", "(I)I"⟩, 8), (⟨"FunDesk$Checker", "enter", "(II)V"⟩, 7), (⟨"FunDesk$Checker", "inferWhole", "(II)I"⟩, 7), (⟨"FunDesk$Checker", "demand", "(II)V"⟩, 7), (⟨"FunDesk$Types", "link", "(II)Z"⟩, 8), (⟨"FunDesk$Types", "takesIn", "(III)Z"⟩, 8), (⟨"FunDesk$Checker", "inferLet", "(II)I"⟩, 7)]
theorem lw_r4 : ∀ q ∈ lw_privs_4, lw_okq q := List.forall_mem_cons.mpr ⟨lw_p48, List.forall_mem_cons.mpr ⟨lw_p49, List.forall_mem_cons.mpr ⟨lw_p50, List.forall_mem_cons.mpr ⟨lw_p51, List.forall_mem_cons.mpr ⟨lw_p52, List.forall_mem_cons.mpr ⟨lw_p53, List.forall_mem_cons.mpr ⟨lw_p54, List.forall_mem_cons.mpr ⟨lw_p55, List.forall_mem_cons.mpr ⟨lw_p56, List.forall_mem_cons.mpr ⟨lw_p57, List.forall_mem_cons.mpr ⟨lw_p58, List.forall_mem_cons.mpr ⟨lw_p59, List.forall_mem_cons.mpr ⟨lw_p60, List.forall_mem_cons.mpr ⟨lw_p61, List.forall_mem_cons.mpr ⟨lw_p62, List.forall_mem_cons.mpr ⟨lw_p63, fun _ h => absurd h List.not_mem_nil⟩⟩⟩⟩⟩⟩⟩⟩⟩⟩⟩⟩⟩⟩⟩⟩
theorem lw_p64 : lw_okq (⟨"FunDesk$Checker", "inferBound", "(III)I"⟩, 7) := ⟨⟨by decide +kernel, by decide +kernel⟩, List.mem_of_getElem? (i := 155) (by decide +kernel), List.mem_of_getElem? (i := 894) (by decide +kernel), List.mem_of_getElem? (i := 895) (by decide +kernel)⟩
theorem lw_p65 : lw_okq (⟨"FunDesk$Checker", "inferRecursion", "(II)I"⟩, 7) := ⟨⟨by decide +kernel, by decide +kernel⟩, List.mem_of_getElem? (i := 155) (by decide +kernel), List.mem_of_getElem? (i := 904) (by decide +kernel), List.mem_of_getElem? (i := 905) (by decide +kernel)⟩
theorem lw_p66 : lw_okq (⟨"FunDesk$Checker", "inferCondition", "(II)I"⟩, 7) := ⟨⟨by decide +kernel, by decide +kernel⟩, List.mem_of_getElem? (i := 155) (by decide +kernel), List.mem_of_getElem? (i := 908) (by decide +kernel), List.mem_of_getElem? (i := 909) (by decide +kernel)⟩
theorem lw_p67 : lw_okq (⟨"FunDesk$Checker", "inferChoice", "(II)I"⟩, 7) := ⟨⟨by decide +kernel, by decide +kernel⟩, List.mem_of_getElem? (i := 155) (by decide +kernel), List.mem_of_getElem? (i := 913) (by decide +kernel), List.mem_of_getElem? (i := 914) (by decide +kernel)⟩
theorem lw_p68 : lw_okq (⟨"FunDesk$Types", "writePart", "(ILFunDesk$Row;I)V"⟩, 8) := ⟨⟨by decide +kernel, by decide +kernel⟩, List.mem_of_getElem? (i := 122) (by decide +kernel), List.mem_of_getElem? (i := 951) (by decide +kernel), List.mem_of_getElem? (i := 952) (by decide +kernel)⟩
theorem lw_p69 : lw_okq (⟨"FunDesk$Types", "put", "(ILFunDesk$Row;)V"⟩, 8) := ⟨⟨by decide +kernel, by decide +kernel⟩, List.mem_of_getElem? (i := 122) (by decide +kernel), List.mem_of_getElem? (i := 955) (by decide +kernel), List.mem_of_getElem? (i := 956) (by decide +kernel)⟩
theorem lw_p70 : lw_okq (⟨"FunDeskModel", "reads", "()Z"⟩, 72) := ⟨⟨by decide +kernel, by decide +kernel⟩, List.mem_of_getElem? (i := 1040) (by decide +kernel), List.mem_of_getElem? (i := 1283) (by decide +kernel), List.mem_of_getElem? (i := 1284) (by decide +kernel)⟩
theorem lw_p71 : lw_okq (⟨"FunDeskModel", "begin", "(I)V"⟩, 72) := ⟨⟨by decide +kernel, by decide +kernel⟩, List.mem_of_getElem? (i := 1040) (by decide +kernel), List.mem_of_getElem? (i := 1287) (by decide +kernel), List.mem_of_getElem? (i := 1288) (by decide +kernel)⟩
theorem lw_p72 : lw_okq (⟨"FunDeskModel", "exprBegins", "(I)V"⟩, 72) := ⟨⟨by decide +kernel, by decide +kernel⟩, List.mem_of_getElem? (i := 1040) (by decide +kernel), List.mem_of_getElem? (i := 1291) (by decide +kernel), List.mem_of_getElem? (i := 1292) (by decide +kernel)⟩
theorem lw_p73 : lw_okq (⟨"FunDeskModel", "deeper", "()V"⟩, 72) := ⟨⟨by decide +kernel, by decide +kernel⟩, List.mem_of_getElem? (i := 1040) (by decide +kernel), List.mem_of_getElem? (i := 1295) (by decide +kernel), List.mem_of_getElem? (i := 1296) (by decide +kernel)⟩
theorem lw_p74 : lw_okq (⟨"FunDeskModel", "peek", "()C"⟩, 72) := ⟨⟨by decide +kernel, by decide +kernel⟩, List.mem_of_getElem? (i := 1040) (by decide +kernel), List.mem_of_getElem? (i := 1299) (by decide +kernel), List.mem_of_getElem? (i := 1300) (by decide +kernel)⟩
theorem lw_p75 : lw_okq (⟨"FunDeskModel", "here", "()C"⟩, 72) := ⟨⟨by decide +kernel, by decide +kernel⟩, List.mem_of_getElem? (i := 1040) (by decide +kernel), List.mem_of_getElem? (i := 1303) (by decide +kernel), List.mem_of_getElem? (i := 1304) (by decide +kernel)⟩
theorem lw_p76 : lw_okq (⟨"FunDeskModel", "after", "(II)V"⟩, 72) := ⟨⟨by decide +kernel, by decide +kernel⟩, List.mem_of_getElem? (i := 1040) (by decide +kernel), List.mem_of_getElem? (i := 1307) (by decide +kernel), List.mem_of_getElem? (i := 1308) (by decide +kernel)⟩
theorem lw_p77 : lw_okq (⟨"FunDeskModel", "name", "()I"⟩, 72) := ⟨⟨by decide +kernel, by decide +kernel⟩, List.mem_of_getElem? (i := 1040) (by decide +kernel), List.mem_of_getElem? (i := 1311) (by decide +kernel), List.mem_of_getElem? (i := 1312) (by decide +kernel)⟩
theorem lw_p78 : lw_okq (⟨"FunDeskModel", "want", "(C)V"⟩, 72) := ⟨⟨by decide +kernel, by decide +kernel⟩, List.mem_of_getElem? (i := 1040) (by decide +kernel), List.mem_of_getElem? (i := 1318) (by decide +kernel), List.mem_of_getElem? (i := 1319) (by decide +kernel)⟩
theorem lw_p79 : lw_okq (⟨"FunDeskModel", "eat", "(C)Z"⟩, 72) := ⟨⟨by decide +kernel, by decide +kernel⟩, List.mem_of_getElem? (i := 1040) (by decide +kernel), List.mem_of_getElem? (i := 1322) (by decide +kernel), List.mem_of_getElem? (i := 1323) (by decide +kernel)⟩
def lw_privs_5 : List (MethodName × Nat) := [(⟨"FunDesk$Checker", "inferBound", "(III)I"⟩, 7), (⟨"FunDesk$Checker", "inferRecursion", "(II)I"⟩, 7), (⟨"FunDesk$Checker", "inferCondition", "(II)I"⟩, 7), (⟨"FunDesk$Checker", "inferChoice", "(II)I"⟩, 7), (⟨"FunDesk$Types", "writePart", "(ILFunDesk$Row;I)V"⟩, 8), (⟨"FunDesk$Types", "put", "(ILFunDesk$Row;)V"⟩, 8), (⟨"FunDeskModel", "reads", "()Z"⟩, 72), (⟨"FunDeskModel", "begin", "(I)V"⟩, 72), (⟨"FunDeskModel", "exprBegins", "(I)V"⟩, 72), (⟨"FunDeskModel", "deeper", "()V"⟩, 72), (⟨"FunDeskModel", "peek", "()C"⟩, 72), (⟨"FunDeskModel", "here", "()C"⟩, 72), (⟨"FunDeskModel", "after", "(II)V"⟩, 72), (⟨"FunDeskModel", "name", "()I"⟩, 72), (⟨"FunDeskModel", "want", "(C)V"⟩, 72), (⟨"FunDeskModel", "eat", "(C)Z"⟩, 72)]
theorem lw_r5 : ∀ q ∈ lw_privs_5, lw_okq q := List.forall_mem_cons.mpr ⟨lw_p64, List.forall_mem_cons.mpr ⟨lw_p65, List.forall_mem_cons.mpr ⟨lw_p66, List.forall_mem_cons.mpr ⟨lw_p67, List.forall_mem_cons.mpr ⟨lw_p68, List.forall_mem_cons.mpr ⟨lw_p69, List.forall_mem_cons.mpr ⟨lw_p70, List.forall_mem_cons.mpr ⟨lw_p71, List.forall_mem_cons.mpr ⟨lw_p72, List.forall_mem_cons.mpr ⟨lw_p73, List.forall_mem_cons.mpr ⟨lw_p74, List.forall_mem_cons.mpr ⟨lw_p75, List.forall_mem_cons.mpr ⟨lw_p76, List.forall_mem_cons.mpr ⟨lw_p77, List.forall_mem_cons.mpr ⟨lw_p78, List.forall_mem_cons.mpr ⟨lw_p79, fun _ h => absurd h List.not_mem_nil⟩⟩⟩⟩⟩⟩⟩⟩⟩⟩⟩⟩⟩⟩⟩⟩
theorem lw_p80 : lw_okq (⟨"FunDeskModel", "put", "(III)V"⟩, 72) := ⟨⟨by decide +kernel, by decide +kernel⟩, List.mem_of_getElem? (i := 1040) (by decide +kernel), List.mem_of_getElem? (i := 1326) (by decide +kernel), List.mem_of_getElem? (i := 1327) (by decide +kernel)⟩
theorem lw_p81 : lw_okq (⟨"FunDeskModel", "exprGoesOn", "(I)V"⟩, 72) := ⟨⟨by decide +kernel, by decide +kernel⟩, List.mem_of_getElem? (i := 1040) (by decide +kernel), List.mem_of_getElem? (i := 1330) (by decide +kernel), List.mem_of_getElem? (i := 1331) (by decide +kernel)⟩
theorem lw_p82 : lw_okq (⟨"FunDeskModel", "clauseEnds", "(I)V"⟩, 72) := ⟨⟨by decide +kernel, by decide +kernel⟩, List.mem_of_getElem? (i := 1040) (by decide +kernel), List.mem_of_getElem? (i := 1334) (by decide +kernel), List.mem_of_getElem? (i := 1335) (by decide +kernel)⟩
theorem lw_p83 : lw_okq (⟨"FunDeskModel", "clauseBegins", "(I)V"⟩, 72) := ⟨⟨by decide +kernel, by decide +kernel⟩, List.mem_of_getElem? (i := 1040) (by decide +kernel), List.mem_of_getElem? (i := 1339) (by decide +kernel), List.mem_of_getElem? (i := 1340) (by decide +kernel)⟩
theorem lw_p84 : lw_okq (⟨"FunDeskModel", "endsDeep", "()V"⟩, 72) := ⟨⟨by decide +kernel, by decide +kernel⟩, List.mem_of_getElem? (i := 1040) (by decide +kernel), List.mem_of_getElem? (i := 1343) (by decide +kernel), List.mem_of_getElem? (i := 1344) (by decide +kernel)⟩
theorem lw_p85 : lw_okq (⟨"FunDeskModel", "operands", "(I)V"⟩, 72) := ⟨⟨by decide +kernel, by decide +kernel⟩, List.mem_of_getElem? (i := 1040) (by decide +kernel), List.mem_of_getElem? (i := 1347) (by decide +kernel), List.mem_of_getElem? (i := 1348) (by decide +kernel)⟩
theorem lw_p86 : lw_okq (⟨"FunDeskModel", "operator", "(I)I"⟩, 72) := ⟨⟨by decide +kernel, by decide +kernel⟩, List.mem_of_getElem? (i := 1040) (by decide +kernel), List.mem_of_getElem? (i := 1357) (by decide +kernel), List.mem_of_getElem? (i := 1358) (by decide +kernel)⟩
theorem lw_p87 : lw_okq (⟨"FunDeskModel", "atom", "(I)V"⟩, 72) := ⟨⟨by decide +kernel, by decide +kernel⟩, List.mem_of_getElem? (i := 1040) (by decide +kernel), List.mem_of_getElem? (i := 1361) (by decide +kernel), List.mem_of_getElem? (i := 1362) (by decide +kernel)⟩
theorem lw_p88 : lw_okq (⟨"FunDeskModel", "digits", "(I)I"⟩, 72) := ⟨⟨by decide +kernel, by decide +kernel⟩, List.mem_of_getElem? (i := 1040) (by decide +kernel), List.mem_of_getElem? (i := 1365) (by decide +kernel), List.mem_of_getElem? (i := 1366) (by decide +kernel)⟩
theorem lw_p89 : lw_okq (⟨"FunDeskModel", "pattern", "(I)V"⟩, 72) := ⟨⟨by decide +kernel, by decide +kernel⟩, List.mem_of_getElem? (i := 1040) (by decide +kernel), List.mem_of_getElem? (i := 1369) (by decide +kernel), List.mem_of_getElem? (i := 1370) (by decide +kernel)⟩
theorem lw_p90 : lw_okq (⟨"FunDeskModel", "insertSign", "(I)V"⟩, 72) := ⟨⟨by decide +kernel, by decide +kernel⟩, List.mem_of_getElem? (i := 1040) (by decide +kernel), List.mem_of_getElem? (i := 1373) (by decide +kernel), List.mem_of_getElem? (i := 1374) (by decide +kernel)⟩
theorem lw_p91 : lw_okq (⟨"FunDeskModel", "part", "(I)V"⟩, 72) := ⟨⟨by decide +kernel, by decide +kernel⟩, List.mem_of_getElem? (i := 1040) (by decide +kernel), List.mem_of_getElem? (i := 1377) (by decide +kernel), List.mem_of_getElem? (i := 1378) (by decide +kernel)⟩
theorem lw_p92 : lw_okq (⟨"FunDeskModel", "putSign", "(II)V"⟩, 72) := ⟨⟨by decide +kernel, by decide +kernel⟩, List.mem_of_getElem? (i := 1040) (by decide +kernel), List.mem_of_getElem? (i := 1381) (by decide +kernel), List.mem_of_getElem? (i := 1382) (by decide +kernel)⟩
theorem lw_p93 : lw_okq (⟨"FunDeskModel", "namesFound", "()Z"⟩, 72) := ⟨⟨by decide +kernel, by decide +kernel⟩, List.mem_of_getElem? (i := 1040) (by decide +kernel), List.mem_of_getElem? (i := 1385) (by decide +kernel), List.mem_of_getElem? (i := 1386) (by decide +kernel)⟩
theorem lw_p94 : lw_okq (⟨"FunDeskModel", "scope", "(I)V"⟩, 72) := ⟨⟨by decide +kernel, by decide +kernel⟩, List.mem_of_getElem? (i := 1040) (by decide +kernel), List.mem_of_getElem? (i := 1389) (by decide +kernel), List.mem_of_getElem? (i := 1390) (by decide +kernel)⟩
theorem lw_p95 : lw_okq (⟨"FunDeskModel", "bind", "(II)V"⟩, 72) := ⟨⟨by decide +kernel, by decide +kernel⟩, List.mem_of_getElem? (i := 1040) (by decide +kernel), List.mem_of_getElem? (i := 1393) (by decide +kernel), List.mem_of_getElem? (i := 1394) (by decide +kernel)⟩
def lw_privs_6 : List (MethodName × Nat) := [(⟨"FunDeskModel", "put", "(III)V"⟩, 72), (⟨"FunDeskModel", "exprGoesOn", "(I)V"⟩, 72), (⟨"FunDeskModel", "clauseEnds", "(I)V"⟩, 72), (⟨"FunDeskModel", "clauseBegins", "(I)V"⟩, 72), (⟨"FunDeskModel", "endsDeep", "()V"⟩, 72), (⟨"FunDeskModel", "operands", "(I)V"⟩, 72), (⟨"FunDeskModel", "operator", "(I)I"⟩, 72), (⟨"FunDeskModel", "atom", "(I)V"⟩, 72), (⟨"FunDeskModel", "digits", "(I)I"⟩, 72), (⟨"FunDeskModel", "pattern", "(I)V"⟩, 72), (⟨"FunDeskModel", "insertSign", "(I)V"⟩, 72), (⟨"FunDeskModel", "part", "(I)V"⟩, 72), (⟨"FunDeskModel", "putSign", "(II)V"⟩, 72), (⟨"FunDeskModel", "namesFound", "()Z"⟩, 72), (⟨"FunDeskModel", "scope", "(I)V"⟩, 72), (⟨"FunDeskModel", "bind", "(II)V"⟩, 72)]
theorem lw_r6 : ∀ q ∈ lw_privs_6, lw_okq q := List.forall_mem_cons.mpr ⟨lw_p80, List.forall_mem_cons.mpr ⟨lw_p81, List.forall_mem_cons.mpr ⟨lw_p82, List.forall_mem_cons.mpr ⟨lw_p83, List.forall_mem_cons.mpr ⟨lw_p84, List.forall_mem_cons.mpr ⟨lw_p85, List.forall_mem_cons.mpr ⟨lw_p86, List.forall_mem_cons.mpr ⟨lw_p87, List.forall_mem_cons.mpr ⟨lw_p88, List.forall_mem_cons.mpr ⟨lw_p89, List.forall_mem_cons.mpr ⟨lw_p90, List.forall_mem_cons.mpr ⟨lw_p91, List.forall_mem_cons.mpr ⟨lw_p92, List.forall_mem_cons.mpr ⟨lw_p93, List.forall_mem_cons.mpr ⟨lw_p94, List.forall_mem_cons.mpr ⟨lw_p95, fun _ h => absurd h List.not_mem_nil⟩⟩⟩⟩⟩⟩⟩⟩⟩⟩⟩⟩⟩⟩⟩⟩
theorem lw_p96 : lw_okq (⟨"FunDeskModel", "bindPattern", "(I)V"⟩, 72) := ⟨⟨by decide +kernel, by decide +kernel⟩, List.mem_of_getElem? (i := 1040) (by decide +kernel), List.mem_of_getElem? (i := 1397) (by decide +kernel), List.mem_of_getElem? (i := 1398) (by decide +kernel)⟩
theorem lw_p97 : lw_okq (⟨"FunDeskModel", "typesFound", "()Z"⟩, 72) := ⟨⟨by decide +kernel, by decide +kernel⟩, List.mem_of_getElem? (i := 1040) (by decide +kernel), List.mem_of_getElem? (i := 1401) (by decide +kernel), List.mem_of_getElem? (i := 1402) (by decide +kernel)⟩
theorem lw_p98 : lw_okq (⟨"FunDeskModel", "make", "(III)I"⟩, 72) := ⟨⟨by decide +kernel, by decide +kernel⟩, List.mem_of_getElem? (i := 1040) (by decide +kernel), List.mem_of_getElem? (i := 1405) (by decide +kernel), List.mem_of_getElem? (i := 1406) (by decide +kernel)⟩
theorem lw_p99 : lw_okq (⟨"FunDeskModel", "typeOf", "(I)V"⟩, 72) := ⟨⟨by decide +kernel, by decide +kernel⟩, List.mem_of_getElem? (i := 1040) (by decide +kernel), List.mem_of_getElem? (i := 1409) (by decide +kernel), List.mem_of_getElem? (i := 1410) (by decide +kernel)⟩
theorem lw_p100 : lw_okq (⟨"FunDeskModel", "push", "(I)V"⟩, 72) := ⟨⟨by decide +kernel, by decide +kernel⟩, List.mem_of_getElem? (i := 1040) (by decide +kernel), List.mem_of_getElem? (i := 1413) (by decide +kernel), List.mem_of_getElem? (i := 1414) (by decide +kernel)⟩
theorem lw_p101 : lw_okq (⟨"FunDeskModel", "fresh", "()I"⟩, 72) := ⟨⟨by decide +kernel, by decide +kernel⟩, List.mem_of_getElem? (i := 1040) (by decide +kernel), List.mem_of_getElem? (i := 1417) (by decide +kernel), List.mem_of_getElem? (i := 1418) (by decide +kernel)⟩
theorem lw_p102 : lw_okq (⟨"FunDeskModel", "instance", "(I)I"⟩, 72) := ⟨⟨by decide +kernel, by decide +kernel⟩, List.mem_of_getElem? (i := 1040) (by decide +kernel), List.mem_of_getElem? (i := 1421) (by decide +kernel), List.mem_of_getElem? (i := 1422) (by decide +kernel)⟩
theorem lw_p103 : lw_okq (⟨"FunDeskModel", "width", "(I)I"⟩, 72) := ⟨⟨by decide +kernel, by decide +kernel⟩, List.mem_of_getElem? (i := 1040) (by decide +kernel), List.mem_of_getElem? (i := 1425) (by decide +kernel), List.mem_of_getElem? (i := 1426) (by decide +kernel)⟩
theorem lw_p104 : lw_okq (⟨"FunDeskModel", "realType", "(I)I"⟩, 72) := ⟨⟨by decide +kernel, by decide +kernel⟩, List.mem_of_getElem? (i := 1040) (by decide +kernel), List.mem_of_getElem? (i := 1429) (by decide +kernel), List.mem_of_getElem? (i := 1430) (by decide +kernel)⟩
theorem lw_p105 : lw_okq (⟨"FunDeskModel", "copyOf", "(I)I"⟩, 72) := ⟨⟨by decide +kernel, by decide +kernel⟩, List.mem_of_getElem? (i := 1040) (by decide +kernel), List.mem_of_getElem? (i := 1433) (by decide +kernel), List.mem_of_getElem? (i := 1434) (by decide +kernel)⟩
theorem lw_p106 : lw_okq (⟨"FunDeskModel", "pop", "()I"⟩, 72) := ⟨⟨by decide +kernel, by decide +kernel⟩, List.mem_of_getElem? (i := 1040) (by decide +kernel), List.mem_of_getElem? (i := 1437) (by decide +kernel), List.mem_of_getElem? (i := 1438) (by decide +kernel)⟩
theorem lw_p107 : lw_okq (⟨"FunDeskModel", "applied", "()V"⟩, 72) := ⟨⟨by decide +kernel, by decide +kernel⟩, List.mem_of_getElem? (i := 1040) (by decide +kernel), List.mem_of_getElem? (i := 1441) (by decide +kernel), List.mem_of_getElem? (i := 1442) (by decide +kernel)⟩
theorem lw_p108 : lw_okq (⟨"FunDeskModel", "unify", "(II)V"⟩, 72) := ⟨⟨by decide +kernel, by decide +kernel⟩, List.mem_of_getElem? (i := 1040) (by decide +kernel), List.mem_of_getElem? (i := 1445) (by decide +kernel), List.mem_of_getElem? (i := 1446) (by decide +kernel)⟩
theorem lw_p109 : lw_okq (⟨"FunDeskModel", "standsIn", "(II)Z"⟩, 72) := ⟨⟨by decide +kernel, by decide +kernel⟩, List.mem_of_getElem? (i := 1040) (by decide +kernel), List.mem_of_getElem? (i := 1449) (by decide +kernel), List.mem_of_getElem? (i := 1450) (by decide +kernel)⟩
theorem lw_p110 : lw_okq (⟨"FunDeskModel", "operation", "(I)V"⟩, 72) := ⟨⟨by decide +kernel, by decide +kernel⟩, List.mem_of_getElem? (i := 1040) (by decide +kernel), List.mem_of_getElem? (i := 1453) (by decide +kernel), List.mem_of_getElem? (i := 1454) (by decide +kernel)⟩
theorem lw_p111 : lw_okq (⟨"FunDeskModel", "operand", "(I)I"⟩, 72) := ⟨⟨by decide +kernel, by decide +kernel⟩, List.mem_of_getElem? (i := 1040) (by decide +kernel), List.mem_of_getElem? (i := 1457) (by decide +kernel), List.mem_of_getElem? (i := 1458) (by decide +kernel)⟩
def lw_privs_7 : List (MethodName × Nat) := [(⟨"FunDeskModel", "bindPattern", "(I)V"⟩, 72), (⟨"FunDeskModel", "typesFound", "()Z"⟩, 72), (⟨"FunDeskModel", "make", "(III)I"⟩, 72), (⟨"FunDeskModel", "typeOf", "(I)V"⟩, 72), (⟨"FunDeskModel", "push", "(I)V"⟩, 72), (⟨"FunDeskModel", "fresh", "()I"⟩, 72), (⟨"FunDeskModel", "instance", "(I)I"⟩, 72), (⟨"FunDeskModel", "width", "(I)I"⟩, 72), (⟨"FunDeskModel", "realType", "(I)I"⟩, 72), (⟨"FunDeskModel", "copyOf", "(I)I"⟩, 72), (⟨"FunDeskModel", "pop", "()I"⟩, 72), (⟨"FunDeskModel", "applied", "()V"⟩, 72), (⟨"FunDeskModel", "unify", "(II)V"⟩, 72), (⟨"FunDeskModel", "standsIn", "(II)Z"⟩, 72), (⟨"FunDeskModel", "operation", "(I)V"⟩, 72), (⟨"FunDeskModel", "operand", "(I)I"⟩, 72)]
theorem lw_r7 : ∀ q ∈ lw_privs_7, lw_okq q := List.forall_mem_cons.mpr ⟨lw_p96, List.forall_mem_cons.mpr ⟨lw_p97, List.forall_mem_cons.mpr ⟨lw_p98, List.forall_mem_cons.mpr ⟨lw_p99, List.forall_mem_cons.mpr ⟨lw_p100, List.forall_mem_cons.mpr ⟨lw_p101, List.forall_mem_cons.mpr ⟨lw_p102, List.forall_mem_cons.mpr ⟨lw_p103, List.forall_mem_cons.mpr ⟨lw_p104, List.forall_mem_cons.mpr ⟨lw_p105, List.forall_mem_cons.mpr ⟨lw_p106, List.forall_mem_cons.mpr ⟨lw_p107, List.forall_mem_cons.mpr ⟨lw_p108, List.forall_mem_cons.mpr ⟨lw_p109, List.forall_mem_cons.mpr ⟨lw_p110, List.forall_mem_cons.mpr ⟨lw_p111, fun _ h => absurd h List.not_mem_nil⟩⟩⟩⟩⟩⟩⟩⟩⟩⟩⟩⟩⟩⟩⟩⟩
theorem lw_p112 : lw_okq (⟨"FunDeskModel", "bindingType", "(II)V"⟩, 72) := ⟨⟨by decide +kernel, by decide +kernel⟩, List.mem_of_getElem? (i := 1040) (by decide +kernel), List.mem_of_getElem? (i := 1461) (by decide +kernel), List.mem_of_getElem? (i := 1462) (by decide +kernel)⟩
theorem lw_p113 : lw_okq (⟨"FunDeskModel", "generalize", "(I)V"⟩, 72) := ⟨⟨by decide +kernel, by decide +kernel⟩, List.mem_of_getElem? (i := 1040) (by decide +kernel), List.mem_of_getElem? (i := 1465) (by decide +kernel), List.mem_of_getElem? (i := 1466) (by decide +kernel)⟩
theorem lw_p114 : lw_okq (⟨"FunDeskModel", "patternTypes", "(II)V"⟩, 72) := ⟨⟨by decide +kernel, by decide +kernel⟩, List.mem_of_getElem? (i := 1040) (by decide +kernel), List.mem_of_getElem? (i := 1469) (by decide +kernel), List.mem_of_getElem? (i := 1470) (by decide +kernel)⟩
theorem lw_p115 : lw_okq (⟨"FunDeskModel", "startProgram", "()V"⟩, 72) := ⟨⟨by decide +kernel, by decide +kernel⟩, List.mem_of_getElem? (i := 1040) (by decide +kernel), List.mem_of_getElem? (i := 1473) (by decide +kernel), List.mem_of_getElem? (i := 1474) (by decide +kernel)⟩
theorem lw_p116 : lw_okq (⟨"FunDeskModel", "show", "(I)V"⟩, 72) := ⟨⟨by decide +kernel, by decide +kernel⟩, List.mem_of_getElem? (i := 1040) (by decide +kernel), List.mem_of_getElem? (i := 1477) (by decide +kernel), List.mem_of_getElem? (i := 1478) (by decide +kernel)⟩
theorem lw_p117 : lw_okq (⟨"FunDeskModel", "stepIsDue", "()Z"⟩, 72) := ⟨⟨by decide +kernel, by decide +kernel⟩, List.mem_of_getElem? (i := 1040) (by decide +kernel), List.mem_of_getElem? (i := 1489) (by decide +kernel), List.mem_of_getElem? (i := 1490) (by decide +kernel)⟩
theorem lw_p118 : lw_okq (⟨"FunDeskModel", "execute", "()V"⟩, 72) := ⟨⟨by decide +kernel, by decide +kernel⟩, List.mem_of_getElem? (i := 1040) (by decide +kernel), List.mem_of_getElem? (i := 1496) (by decide +kernel), List.mem_of_getElem? (i := 1497) (by decide +kernel)⟩
theorem lw_p119 : lw_okq (⟨"FunDeskModel", "known", "(II)V"⟩, 72) := ⟨⟨by decide +kernel, by decide +kernel⟩, List.mem_of_getElem? (i := 1040) (by decide +kernel), List.mem_of_getElem? (i := 1500) (by decide +kernel), List.mem_of_getElem? (i := 1501) (by decide +kernel)⟩
theorem lw_p120 : lw_okq (⟨"FunDeskModel", "fail", "(I)V"⟩, 72) := ⟨⟨by decide +kernel, by decide +kernel⟩, List.mem_of_getElem? (i := 1040) (by decide +kernel), List.mem_of_getElem? (i := 1504) (by decide +kernel), List.mem_of_getElem? (i := 1505) (by decide +kernel)⟩
theorem lw_p121 : lw_okq (⟨"FunDeskModel", "further", "(I)I"⟩, 72) := ⟨⟨by decide +kernel, by decide +kernel⟩, List.mem_of_getElem? (i := 1040) (by decide +kernel), List.mem_of_getElem? (i := 1509) (by decide +kernel), List.mem_of_getElem? (i := 1510) (by decide +kernel)⟩
theorem lw_p122 : lw_okq (⟨"FunDeskModel", "knownValue", "(J)V"⟩, 72) := ⟨⟨by decide +kernel, by decide +kernel⟩, List.mem_of_getElem? (i := 1040) (by decide +kernel), List.mem_of_getElem? (i := 1513) (by decide +kernel), List.mem_of_getElem? (i := 1514) (by decide +kernel)⟩
theorem lw_p123 : lw_okq (⟨"FunDeskModel", "apply", "()V"⟩, 72) := ⟨⟨by decide +kernel, by decide +kernel⟩, List.mem_of_getElem? (i := 1040) (by decide +kernel), List.mem_of_getElem? (i := 1518) (by decide +kernel), List.mem_of_getElem? (i := 1519) (by decide +kernel)⟩
theorem lw_p124 : lw_okq (⟨"FunDeskModel", "knownReal", "(D)V"⟩, 72) := ⟨⟨by decide +kernel, by decide +kernel⟩, List.mem_of_getElem? (i := 1040) (by decide +kernel), List.mem_of_getElem? (i := 1528) (by decide +kernel), List.mem_of_getElem? (i := 1529) (by decide +kernel)⟩
theorem lw_p125 : lw_okq (⟨"FunDeskModel", "realOf", "(J)D"⟩, 72) := ⟨⟨by decide +kernel, by decide +kernel⟩, List.mem_of_getElem? (i := 1040) (by decide +kernel), List.mem_of_getElem? (i := 1532) (by decide +kernel), List.mem_of_getElem? (i := 1533) (by decide +kernel)⟩
theorem lw_p126 : lw_okq (⟨"FunDeskModel", "worthIs", "(JI)V"⟩, 72) := ⟨⟨by decide +kernel, by decide +kernel⟩, List.mem_of_getElem? (i := 1040) (by decide +kernel), List.mem_of_getElem? (i := 1537) (by decide +kernel), List.mem_of_getElem? (i := 1538) (by decide +kernel)⟩
theorem lw_p127 : lw_okq (⟨"FunDeskModel", "work", "(I)V"⟩, 72) := ⟨⟨by decide +kernel, by decide +kernel⟩, List.mem_of_getElem? (i := 1040) (by decide +kernel), List.mem_of_getElem? (i := 1541) (by decide +kernel), List.mem_of_getElem? (i := 1542) (by decide +kernel)⟩
def lw_privs_8 : List (MethodName × Nat) := [(⟨"FunDeskModel", "bindingType", "(II)V"⟩, 72), (⟨"FunDeskModel", "generalize", "(I)V"⟩, 72), (⟨"FunDeskModel", "patternTypes", "(II)V"⟩, 72), (⟨"FunDeskModel", "startProgram", "()V"⟩, 72), (⟨"FunDeskModel", "show", "(I)V"⟩, 72), (⟨"FunDeskModel", "stepIsDue", "()Z"⟩, 72), (⟨"FunDeskModel", "execute", "()V"⟩, 72), (⟨"FunDeskModel", "known", "(II)V"⟩, 72), (⟨"FunDeskModel", "fail", "(I)V"⟩, 72), (⟨"FunDeskModel", "further", "(I)I"⟩, 72), (⟨"FunDeskModel", "knownValue", "(J)V"⟩, 72), (⟨"FunDeskModel", "apply", "()V"⟩, 72), (⟨"FunDeskModel", "knownReal", "(D)V"⟩, 72), (⟨"FunDeskModel", "realOf", "(J)D"⟩, 72), (⟨"FunDeskModel", "worthIs", "(JI)V"⟩, 72), (⟨"FunDeskModel", "work", "(I)V"⟩, 72)]
theorem lw_r8 : ∀ q ∈ lw_privs_8, lw_okq q := List.forall_mem_cons.mpr ⟨lw_p112, List.forall_mem_cons.mpr ⟨lw_p113, List.forall_mem_cons.mpr ⟨lw_p114, List.forall_mem_cons.mpr ⟨lw_p115, List.forall_mem_cons.mpr ⟨lw_p116, List.forall_mem_cons.mpr ⟨lw_p117, List.forall_mem_cons.mpr ⟨lw_p118, List.forall_mem_cons.mpr ⟨lw_p119, List.forall_mem_cons.mpr ⟨lw_p120, List.forall_mem_cons.mpr ⟨lw_p121, List.forall_mem_cons.mpr ⟨lw_p122, List.forall_mem_cons.mpr ⟨lw_p123, List.forall_mem_cons.mpr ⟨lw_p124, List.forall_mem_cons.mpr ⟨lw_p125, List.forall_mem_cons.mpr ⟨lw_p126, List.forall_mem_cons.mpr ⟨lw_p127, fun _ h => absurd h List.not_mem_nil⟩⟩⟩⟩⟩⟩⟩⟩⟩⟩⟩⟩⟩⟩⟩⟩
theorem lw_p128 : lw_okq (⟨"FunDeskModel", "workReals", "(IDD)V"⟩, 72) := ⟨⟨by decide +kernel, by decide +kernel⟩, List.mem_of_getElem? (i := 1040) (by decide +kernel), List.mem_of_getElem? (i := 1545) (by decide +kernel), List.mem_of_getElem? (i := 1546) (by decide +kernel)⟩
theorem lw_p129 : lw_okq (⟨"FunDeskModel", "workNumbers", "(III)V"⟩, 72) := ⟨⟨by decide +kernel, by decide +kernel⟩, List.mem_of_getElem? (i := 1040) (by decide +kernel), List.mem_of_getElem? (i := 1551) (by decide +kernel), List.mem_of_getElem? (i := 1552) (by decide +kernel)⟩
theorem lw_p130 : lw_okq (⟨"FunDeskModel", "bindTop", "(Z)V"⟩, 72) := ⟨⟨by decide +kernel, by decide +kernel⟩, List.mem_of_getElem? (i := 1040) (by decide +kernel), List.mem_of_getElem? (i := 1555) (by decide +kernel), List.mem_of_getElem? (i := 1556) (by decide +kernel)⟩
theorem lw_p131 : lw_okq (⟨"FunDeskModel", "flow", "(III)V"⟩, 72) := ⟨⟨by decide +kernel, by decide +kernel⟩, List.mem_of_getElem? (i := 1040) (by decide +kernel), List.mem_of_getElem? (i := 1560) (by decide +kernel), List.mem_of_getElem? (i := 1561) (by decide +kernel)⟩
theorem lw_p132 : lw_okq (⟨"FunDeskModel", "fits", "(II)Z"⟩, 72) := ⟨⟨by decide +kernel, by decide +kernel⟩, List.mem_of_getElem? (i := 1040) (by decide +kernel), List.mem_of_getElem? (i := 1564) (by decide +kernel), List.mem_of_getElem? (i := 1565) (by decide +kernel)⟩
theorem lw_p133 : lw_okq (⟨"FunDeskModel", "items", "(J)I"⟩, 72) := ⟨⟨by decide +kernel, by decide +kernel⟩, List.mem_of_getElem? (i := 1040) (by decide +kernel), List.mem_of_getElem? (i := 1576) (by decide +kernel), List.mem_of_getElem? (i := 1577) (by decide +kernel)⟩
def lw_privs_9 : List (MethodName × Nat) := [(⟨"FunDeskModel", "workReals", "(IDD)V"⟩, 72), (⟨"FunDeskModel", "workNumbers", "(III)V"⟩, 72), (⟨"FunDeskModel", "bindTop", "(Z)V"⟩, 72), (⟨"FunDeskModel", "flow", "(III)V"⟩, 72), (⟨"FunDeskModel", "fits", "(II)Z"⟩, 72), (⟨"FunDeskModel", "items", "(J)I"⟩, 72)]
theorem lw_r9 : ∀ q ∈ lw_privs_9, lw_okq q := List.forall_mem_cons.mpr ⟨lw_p128, List.forall_mem_cons.mpr ⟨lw_p129, List.forall_mem_cons.mpr ⟨lw_p130, List.forall_mem_cons.mpr ⟨lw_p131, List.forall_mem_cons.mpr ⟨lw_p132, List.forall_mem_cons.mpr ⟨lw_p133, fun _ h => absurd h List.not_mem_nil⟩⟩⟩⟩⟩⟩
def lw_privs : List (MethodName × Nat) := lw_privs_1 ++ (lw_privs_2 ++ (lw_privs_3 ++ (lw_privs_4 ++ (lw_privs_5 ++ (lw_privs_6 ++ (lw_privs_7 ++ (lw_privs_8 ++ (lw_privs_9))))))))
def lw_tbl : List Cond := k2_sels lw_privs ++ tables_1
theorem lw_privs_ok : ∀ q ∈ lw_privs, lw_okq q := by
  show ∀ q ∈ lw_privs_1 ++ (lw_privs_2 ++ (lw_privs_3 ++ (lw_privs_4 ++ (lw_privs_5 ++ (lw_privs_6 ++ (lw_privs_7 ++ (lw_privs_8 ++ (lw_privs_9)))))))), lw_okq q
  exact List.forall_mem_append.mpr ⟨lw_r1, List.forall_mem_append.mpr ⟨lw_r2, List.forall_mem_append.mpr ⟨lw_r3, List.forall_mem_append.mpr ⟨lw_r4, List.forall_mem_append.mpr ⟨lw_r5, List.forall_mem_append.mpr ⟨lw_r6, List.forall_mem_append.mpr ⟨lw_r7, List.forall_mem_append.mpr ⟨lw_r8, lw_r9⟩⟩⟩⟩⟩⟩⟩⟩
end
section
-- the tables of the abstract machine, written by wip/gen/write_tab.py out of the Statement
theorem mem_of_places {α : Type} {l L : List α} {is : List Nat} (h : l.map some = is.map (fun i => L[i]?)) : ∀ w ∈ l, w ∈ L := by
  intro w hw
  have h1 : some w ∈ is.map (fun i => L[i]?) := h ▸ List.mem_map.mpr ⟨w, hw, rfl⟩
  obtain ⟨i, -, hi⟩ := List.mem_map.mp h1
  exact List.mem_of_getElem? hi
def mR0 : String := "FunDesk"
def mT0 : u_T := fun k => match k with
  | 0 => ("FunDesk", "line", "LFunDesk$Line;", true)
  | 1 => ("FunDesk", "draft", "LFunDesk$Tree;", true)
  | 2 => ("FunDesk", "program", "LFunDesk$Tree;", true)
  | 3 => ("FunDesk", "reader", "LFunDesk$Reader;", true)
  | 4 => ("FunDesk", "types", "LFunDesk$Types;", true)
  | 5 => ("FunDesk", "checker", "LFunDesk$Checker;", true)
  | 6 => ("FunDesk", "machine", "LFunDesk$Machine;", true)
  | 7 => ("FunDesk", "typeText", "LFunDesk$Row;", true)
  | 8 => ("FunDesk", "typeLength", "I", false)
  | _ => ("FunDesk", "looked", "LFunDesk$Value;", false)
def mTy0 : Nat → FieldType := fun k => match k with
  | 0 => (.object "FunDesk$Line")
  | 1 => (.object "FunDesk$Tree")
  | 2 => (.object "FunDesk$Tree")
  | 3 => (.object "FunDesk$Reader")
  | 4 => (.object "FunDesk$Types")
  | 5 => (.object "FunDesk$Checker")
  | 6 => (.object "FunDesk$Machine")
  | 7 => (.object "FunDesk$Row")
  | 8 => .int
  | _ => (.object "FunDesk$Value")
def mR1 : String := "FunDesk$Line"
def mT1 : u_T := fun k => match k with
  | 0 => ("FunDesk$Line", "characters", "LFunDesk$Row;", true)
  | _ => ("FunDesk$Line", "length", "I", false)
def mTy1 : Nat → FieldType := fun k => match k with
  | 0 => (.object "FunDesk$Row")
  | _ => .int
def mR2 : String := "FunDesk$Row"
def mT2 : u_T := fun k => match k with
  | _ => ("FunDesk$Row", "cells", "[I", true)
def mTy2 : Nat → FieldType := fun k => match k with
  | _ => (.array .int)
def mR3 : String := "FunDesk$Tree"
def mT3 : u_T := fun k => match k with
  | 0 => ("FunDesk$Tree", "kinds", "LFunDesk$Row;", true)
  | 1 => ("FunDesk$Tree", "numbers", "LFunDesk$Row;", true)
  | 2 => ("FunDesk$Tree", "firsts", "LFunDesk$Row;", true)
  | 3 => ("FunDesk$Tree", "seconds", "LFunDesk$Row;", true)
  | 4 => ("FunDesk$Tree", "thirds", "LFunDesk$Row;", true)
  | 5 => ("FunDesk$Tree", "parents", "LFunDesk$Row;", true)
  | 6 => ("FunDesk$Tree", "typesOf", "LFunDesk$Row;", true)
  | 7 => ("FunDesk$Tree", "count", "I", false)
  | _ => ("FunDesk$Tree", "root", "I", false)
def mTy3 : Nat → FieldType := fun k => match k with
  | 0 => (.object "FunDesk$Row")
  | 1 => (.object "FunDesk$Row")
  | 2 => (.object "FunDesk$Row")
  | 3 => (.object "FunDesk$Row")
  | 4 => (.object "FunDesk$Row")
  | 5 => (.object "FunDesk$Row")
  | 6 => (.object "FunDesk$Row")
  | 7 => .int
  | _ => .int
def mR4 : String := "FunDesk$Reader"
def mT4 : u_T := fun k => match k with
  | 0 => ("FunDesk$Reader", "text", "LFunDesk$Line;", true)
  | 1 => ("FunDesk$Reader", "tree", "LFunDesk$Tree;", true)
  | 2 => ("FunDesk$Reader", "bound", "LFunDesk$Row;", true)
  | 3 => ("FunDesk$Reader", "at", "I", false)
  | 4 => ("FunDesk$Reader", "broken", "Z", false)
  | 5 => ("FunDesk$Reader", "unbound", "Z", false)
  | _ => ("FunDesk$Reader", "patternNames", "I", false)
def mTy4 : Nat → FieldType := fun k => match k with
  | 0 => (.object "FunDesk$Line")
  | 1 => (.object "FunDesk$Tree")
  | 2 => (.object "FunDesk$Row")
  | 3 => .int
  | 4 => .boolean
  | 5 => .boolean
  | _ => .int
def mR5 : String := "FunDesk$Types"
def mT5 : u_T := fun k => match k with
  | 0 => ("FunDesk$Types", "kinds", "LFunDesk$Row;", true)
  | 1 => ("FunDesk$Types", "firsts", "LFunDesk$Row;", true)
  | 2 => ("FunDesk$Types", "seconds", "LFunDesk$Row;", true)
  | 3 => ("FunDesk$Types", "listed", "LFunDesk$Row;", true)
  | 4 => ("FunDesk$Types", "copies", "LFunDesk$Row;", true)
  | 5 => ("FunDesk$Types", "count", "I", false)
  | 6 => ("FunDesk$Types", "listedCount", "I", false)
  | _ => ("FunDesk$Types", "written", "I", false)
def mTy5 : Nat → FieldType := fun k => match k with
  | 0 => (.object "FunDesk$Row")
  | 1 => (.object "FunDesk$Row")
  | 2 => (.object "FunDesk$Row")
  | 3 => (.object "FunDesk$Row")
  | 4 => (.object "FunDesk$Row")
  | 5 => .int
  | 6 => .int
  | _ => .int
def mR6 : String := "FunDesk$Checker"
def mT6 : u_T := fun k => match k with
  | 0 => ("FunDesk$Checker", "tree", "LFunDesk$Tree;", true)
  | 1 => ("FunDesk$Checker", "types", "LFunDesk$Types;", true)
  | 2 => ("FunDesk$Checker", "names", "LFunDesk$Row;", true)
  | 3 => ("FunDesk$Checker", "nameTypes", "LFunDesk$Row;", true)
  | 4 => ("FunDesk$Checker", "open", "I", false)
  | 5 => ("FunDesk$Checker", "level", "I", false)
  | _ => ("FunDesk$Checker", "ill", "Z", false)
def mTy6 : Nat → FieldType := fun k => match k with
  | 0 => (.object "FunDesk$Tree")
  | 1 => (.object "FunDesk$Types")
  | 2 => (.object "FunDesk$Row")
  | 3 => (.object "FunDesk$Row")
  | 4 => .int
  | 5 => .int
  | _ => .boolean
def mR7 : String := "FunDesk$Machine"
def mT7 : u_T := fun k => match k with
  | 0 => ("FunDesk$Machine", "tree", "LFunDesk$Tree;", true)
  | 1 => ("FunDesk$Machine", "waiting", "[LFunDesk$Value;", true)
  | 2 => ("FunDesk$Machine", "waits", "I", false)
  | 3 => ("FunDesk$Machine", "at", "I", false)
  | 4 => ("FunDesk$Machine", "move", "I", false)
  | 5 => ("FunDesk$Machine", "scope", "LFunDesk$Scope;", false)
  | 6 => ("FunDesk$Machine", "frame", "LFunDesk$Frame;", false)
  | 7 => ("FunDesk$Machine", "phase", "I", false)
  | 8 => ("FunDesk$Machine", "failure", "I", false)
  | 9 => ("FunDesk$Machine", "steps", "I", false)
  | 10 => ("FunDesk$Machine", "allSteps", "I", false)
  | _ => ("FunDesk$Machine", "result", "LFunDesk$Value;", false)
def mTy7 : Nat → FieldType := fun k => match k with
  | 0 => (.object "FunDesk$Tree")
  | 1 => (.array (.object "FunDesk$Value"))
  | 2 => .int
  | 3 => .int
  | 4 => .int
  | 5 => (.object "FunDesk$Scope")
  | 6 => (.object "FunDesk$Frame")
  | 7 => .int
  | 8 => .int
  | 9 => .int
  | 10 => .int
  | _ => (.object "FunDesk$Value")
def mR8 : String := "FunDesk$Value"
def mT8 : u_T := fun k => match k with
  | 0 => ("FunDesk$Value", "kind", "I", true)
  | 1 => ("FunDesk$Value", "number", "I", true)
  | 2 => ("FunDesk$Value", "real", "D", false)
  | 3 => ("FunDesk$Value", "first", "LFunDesk$Value;", false)
  | 4 => ("FunDesk$Value", "rest", "LFunDesk$Value;", false)
  | _ => ("FunDesk$Value", "scope", "LFunDesk$Scope;", false)
def mTy8 : Nat → FieldType := fun k => match k with
  | 0 => .int
  | 1 => .int
  | 2 => .double
  | 3 => (.object "FunDesk$Value")
  | 4 => (.object "FunDesk$Value")
  | _ => (.object "FunDesk$Scope")
def mR9 : String := "FunDesk$Frame"
def mT9 : u_T := fun k => match k with
  | 0 => ("FunDesk$Frame", "node", "I", true)
  | 1 => ("FunDesk$Frame", "scope", "LFunDesk$Scope;", true)
  | _ => ("FunDesk$Frame", "caller", "LFunDesk$Frame;", true)
def mTy9 : Nat → FieldType := fun k => match k with
  | 0 => .int
  | 1 => (.object "FunDesk$Scope")
  | _ => (.object "FunDesk$Frame")
def mR10 : String := "FunDesk$Scope"
def mT10 : u_T := fun k => match k with
  | 0 => ("FunDesk$Scope", "name", "I", true)
  | 1 => ("FunDesk$Scope", "outer", "LFunDesk$Scope;", true)
  | _ => ("FunDesk$Scope", "bound", "LFunDesk$Value;", false)
def mTy10 : Nat → FieldType := fun k => match k with
  | 0 => .int
  | 1 => (.object "FunDesk$Scope")
  | _ => (.object "FunDesk$Value")
def mR11 : String := "FunDeskModel"
def mT11 : u_T := fun k => match k with
  | 0 => ("FunDeskModel", "thrown", "I", false)
  | 1 => ("FunDeskModel", "text", "[C", true)
  | 2 => ("FunDeskModel", "length", "I", false)
  | 3 => ("FunDeskModel", "at", "I", false)
  | 4 => ("FunDeskModel", "draft", "[I", true)
  | 5 => ("FunDeskModel", "draftArg", "[I", true)
  | 6 => ("FunDeskModel", "draftName", "[I", true)
  | 7 => ("FunDeskModel", "drafts", "I", false)
  | 8 => ("FunDeskModel", "code", "[I", true)
  | 9 => ("FunDeskModel", "arg", "[I", true)
  | 10 => ("FunDeskModel", "codeEnd", "[I", true)
  | 11 => ("FunDeskModel", "size", "I", false)
  | 12 => ("FunDeskModel", "sign", "[I", true)
  | 13 => ("FunDeskModel", "signArg", "[I", true)
  | 14 => ("FunDeskModel", "signs", "I", false)
  | 15 => ("FunDeskModel", "keptSign", "[I", true)
  | 16 => ("FunDeskModel", "keptArg", "[I", true)
  | 17 => ("FunDeskModel", "goal", "[I", true)
  | 18 => ("FunDeskModel", "stage", "[I", true)
  | 19 => ("FunDeskModel", "x", "[I", true)
  | 20 => ("FunDeskModel", "y", "[I", true)
  | 21 => ("FunDeskModel", "open", "I", false)
  | 22 => ("FunDeskModel", "depth", "I", false)
  | 23 => ("FunDeskModel", "bound", "I", false)
  | 24 => ("FunDeskModel", "bad", "Z", false)
  | 25 => ("FunDeskModel", "otherwise", "[I", true)
  | 26 => ("FunDeskModel", "keptOtherwise", "[I", true)
  | 27 => ("FunDeskModel", "names", "[I", true)
  | 28 => ("FunDeskModel", "nameType", "[I", true)
  | 29 => ("FunDeskModel", "many", "[Z", true)
  | 30 => ("FunDeskModel", "around", "I", false)
  | 31 => ("FunDeskModel", "sort", "[I", true)
  | 32 => ("FunDeskModel", "first", "[I", true)
  | 33 => ("FunDeskModel", "second", "[I", true)
  | 34 => ("FunDeskModel", "copied", "[I", true)
  | 35 => ("FunDeskModel", "types", "I", false)
  | 36 => ("FunDeskModel", "row", "[I", true)
  | 37 => ("FunDeskModel", "typed", "I", false)
  | 38 => ("FunDeskModel", "wanted", "I", false)
  | 39 => ("FunDeskModel", "touched", "I", false)
  | 40 => ("FunDeskModel", "looked", "[I", true)
  | 41 => ("FunDeskModel", "looks", "I", false)
  | 42 => ("FunDeskModel", "parts", "[I", true)
  | 43 => ("FunDeskModel", "kept", "I", false)
  | 44 => ("FunDeskModel", "ill", "Z", false)
  | 45 => ("FunDeskModel", "met", "Z", false)
  | 46 => ("FunDeskModel", "pairs", "[I", true)
  | 47 => ("FunDeskModel", "same", "[I", true)
  | 48 => ("FunDeskModel", "shownText", "[C", true)
  | 49 => ("FunDeskModel", "showing", "I", false)
  | 50 => ("FunDeskModel", "value", "[J", true)
  | 51 => ("FunDeskModel", "top", "I", false)
  | 52 => ("FunDeskModel", "back", "[I", true)
  | 53 => ("FunDeskModel", "backNames", "[I", true)
  | 54 => ("FunDeskModel", "backs", "I", false)
  | 55 => ("FunDeskModel", "worth", "[J", true)
  | 56 => ("FunDeskModel", "outer", "[I", true)
  | 57 => ("FunDeskModel", "bindings", "I", false)
  | 58 => ("FunDeskModel", "inner", "I", false)
  | 59 => ("FunDeskModel", "item", "[J", true)
  | 60 => ("FunDeskModel", "others", "[J", true)
  | 61 => ("FunDeskModel", "lists", "I", false)
  | 62 => ("FunDeskModel", "reals", "[D", true)
  | 63 => ("FunDeskModel", "realsMade", "I", false)
  | 64 => ("FunDeskModel", "pc", "I", false)
  | 65 => ("FunDeskModel", "state", "I", false)
  | 66 => ("FunDeskModel", "failure", "I", false)
  | 67 => ("FunDeskModel", "steps", "I", false)
  | 68 => ("FunDeskModel", "all", "I", false)
  | 69 => ("FunDeskModel", "seen", "J", false)
  | 70 => ("FunDeskModel", "seenType", "I", false)
  | _ => ("FunDeskModel", "fitted", "[J", true)
def mTy11 : Nat → FieldType := fun k => match k with
  | 0 => .int
  | 1 => (.array .char)
  | 2 => .int
  | 3 => .int
  | 4 => (.array .int)
  | 5 => (.array .int)
  | 6 => (.array .int)
  | 7 => .int
  | 8 => (.array .int)
  | 9 => (.array .int)
  | 10 => (.array .int)
  | 11 => .int
  | 12 => (.array .int)
  | 13 => (.array .int)
  | 14 => .int
  | 15 => (.array .int)
  | 16 => (.array .int)
  | 17 => (.array .int)
  | 18 => (.array .int)
  | 19 => (.array .int)
  | 20 => (.array .int)
  | 21 => .int
  | 22 => .int
  | 23 => .int
  | 24 => .boolean
  | 25 => (.array .int)
  | 26 => (.array .int)
  | 27 => (.array .int)
  | 28 => (.array .int)
  | 29 => (.array .boolean)
  | 30 => .int
  | 31 => (.array .int)
  | 32 => (.array .int)
  | 33 => (.array .int)
  | 34 => (.array .int)
  | 35 => .int
  | 36 => (.array .int)
  | 37 => .int
  | 38 => .int
  | 39 => .int
  | 40 => (.array .int)
  | 41 => .int
  | 42 => (.array .int)
  | 43 => .int
  | 44 => .boolean
  | 45 => .boolean
  | 46 => (.array .int)
  | 47 => (.array .int)
  | 48 => (.array .char)
  | 49 => .int
  | 50 => (.array .long)
  | 51 => .int
  | 52 => (.array .int)
  | 53 => (.array .int)
  | 54 => .int
  | 55 => (.array .long)
  | 56 => (.array .int)
  | 57 => .int
  | 58 => .int
  | 59 => (.array .long)
  | 60 => (.array .long)
  | 61 => .int
  | 62 => (.array .double)
  | 63 => .int
  | 64 => .int
  | 65 => .int
  | 66 => .int
  | 67 => .int
  | 68 => .int
  | 69 => .long
  | 70 => .int
  | _ => (.array .long)
def cls : List vw_C := [(mR0, mT0, 10), (mR1, mT1, 2), (mR2, mT2, 1), (mR3, mT3, 9), (mR4, mT4, 7), (mR5, mT5, 8), (mR6, mT6, 7), (mR7, mT7, 12), (mR8, mT8, 6), (mR9, mT9, 3), (mR10, mT10, 3), (mR11, mT11, 72)]
def clsTy (ci : Nat) : Nat → FieldType := match ci with
  | 0 => mTy0
  | 1 => mTy1
  | 2 => mTy2
  | 3 => mTy3
  | 4 => mTy4
  | 5 => mTy5
  | 6 => mTy6
  | 7 => mTy7
  | 8 => mTy8
  | 9 => mTy9
  | 10 => mTy10
  | _ => mTy11
def clsOk (q : vw_C) (ty : Nat → FieldType) : Prop := (∀ a, a < q.2.2 → ∀ b, b < q.2.2 → a ≠ b → (q.2.1 a).2.1 ≠ (q.2.1 b).2.1) ∧ (∀ k, k < q.2.2 → parseFieldDescriptor (q.2.1 k).2.2.1 = some (ty k)) ∧ (∀ w ∈ u_ws q.1 q.2.1 q.2.2, w ∈ lw_tbl) ∧ Cond.instantiable q.1 q.2.2 ∈ lw_tbl ∧ Cond.initialized q.1 ∈ lw_tbl ∧ (∀ k, k < q.2.2 → (q.2.1 k).1 = q.1)
set_option maxRecDepth 100000 in
theorem cls0_ok : clsOk (mR0, mT0, 10) mTy0 := ⟨by decide +kernel, by decide +kernel, mem_of_places (is := [375, 377, 379, 381, 383, 385, 387, 389, 391, 393]) (by decide +kernel), List.mem_of_getElem? (i := 158) (by decide +kernel), List.mem_of_getElem? (i := 135) (by decide +kernel), by decide +kernel⟩
set_option maxRecDepth 100000 in
theorem cls1_ok : clsOk (mR1, mT1, 2) mTy1 := ⟨by decide +kernel, by decide +kernel, mem_of_places (is := [184, 186]) (by decide +kernel), List.mem_of_getElem? (i := 166) (by decide +kernel), List.mem_of_getElem? (i := 136) (by decide +kernel), by decide +kernel⟩
set_option maxRecDepth 100000 in
theorem cls2_ok : clsOk (mR2, mT2, 1) mTy2 := ⟨by decide +kernel, by decide +kernel, mem_of_places (is := [178]) (by decide +kernel), List.mem_of_getElem? (i := 172) (by decide +kernel), List.mem_of_getElem? (i := 137) (by decide +kernel), by decide +kernel⟩
set_option maxRecDepth 100000 in
theorem cls3_ok : clsOk (mR3, mT3, 9) mTy3 := ⟨by decide +kernel, by decide +kernel, mem_of_places (is := [206, 208, 210, 212, 214, 216, 218, 220, 222]) (by decide +kernel), List.mem_of_getElem? (i := 190) (by decide +kernel), List.mem_of_getElem? (i := 138) (by decide +kernel), by decide +kernel⟩
set_option maxRecDepth 100000 in
theorem cls4_ok : clsOk (mR4, mT4, 7) mTy4 := ⟨by decide +kernel, by decide +kernel, mem_of_places (is := [240, 242, 244, 246, 248, 250, 252]) (by decide +kernel), List.mem_of_getElem? (i := 226) (by decide +kernel), List.mem_of_getElem? (i := 139) (by decide +kernel), by decide +kernel⟩
set_option maxRecDepth 100000 in
theorem cls5_ok : clsOk (mR5, mT5, 8) mTy5 := ⟨by decide +kernel, by decide +kernel, mem_of_places (is := [271, 273, 275, 277, 279, 281, 283, 285]) (by decide +kernel), List.mem_of_getElem? (i := 256) (by decide +kernel), List.mem_of_getElem? (i := 140) (by decide +kernel), by decide +kernel⟩
set_option maxRecDepth 100000 in
theorem cls6_ok : clsOk (mR6, mT6, 7) mTy6 := ⟨by decide +kernel, by decide +kernel, mem_of_places (is := [303, 305, 307, 309, 311, 313, 315]) (by decide +kernel), List.mem_of_getElem? (i := 289) (by decide +kernel), List.mem_of_getElem? (i := 141) (by decide +kernel), by decide +kernel⟩
set_option maxRecDepth 100000 in
theorem cls7_ok : clsOk (mR7, mT7, 12) mTy7 := ⟨by decide +kernel, by decide +kernel, mem_of_places (is := [338, 340, 342, 344, 346, 348, 350, 352, 354, 356, 358, 360]) (by decide +kernel), List.mem_of_getElem? (i := 319) (by decide +kernel), List.mem_of_getElem? (i := 142) (by decide +kernel), by decide +kernel⟩
set_option maxRecDepth 100000 in
theorem cls8_ok : clsOk (mR8, mT8, 6) mTy8 := ⟨by decide +kernel, by decide +kernel, mem_of_places (is := [469, 471, 473, 475, 477, 479]) (by decide +kernel), List.mem_of_getElem? (i := 446) (by decide +kernel), List.mem_of_getElem? (i := 152) (by decide +kernel), by decide +kernel⟩
set_option maxRecDepth 100000 in
theorem cls9_ok : clsOk (mR9, mT9, 3) mTy9 := ⟨by decide +kernel, by decide +kernel, mem_of_places (is := [576, 578, 580]) (by decide +kernel), List.mem_of_getElem? (i := 565) (by decide +kernel), List.mem_of_getElem? (i := 153) (by decide +kernel), by decide +kernel⟩
set_option maxRecDepth 100000 in
theorem cls10_ok : clsOk (mR10, mT10, 3) mTy10 := ⟨by decide +kernel, by decide +kernel, mem_of_places (is := [595, 597, 599]) (by decide +kernel), List.mem_of_getElem? (i := 584) (by decide +kernel), List.mem_of_getElem? (i := 154) (by decide +kernel), by decide +kernel⟩
set_option maxRecDepth 100000 in
theorem cls11_ok : clsOk (mR11, mT11, 72) mTy11 := ⟨by decide +kernel, by decide +kernel, mem_of_places (is := [1251, 1253, 1255, 1257, 1259, 1261, 1263, 1265, 1267, 1269, 1271, 1273, 1275, 1277, 1279, 1281, 1283, 1285, 1287, 1289, 1291, 1293, 1295, 1297, 1299, 1301, 1303, 1305, 1307, 1309, 1311, 1313, 1315, 1317, 1319, 1321, 1323, 1325, 1327, 1329, 1331, 1333, 1335, 1337, 1339, 1341, 1343, 1345, 1347, 1349, 1351, 1353, 1355, 1357, 1359, 1361, 1363, 1365, 1367, 1369, 1371, 1373, 1375, 1377, 1379, 1381, 1383, 1385, 1387, 1389, 1391, 1393]) (by decide +kernel), List.mem_of_getElem? (i := 1174) (by decide +kernel), List.mem_of_getElem? (i := 143) (by decide +kernel), by decide +kernel⟩
theorem cls_ok : ∀ (ci : Nat) (q : vw_C), cls[ci]? = some q → clsOk q (clsTy ci) := by
  intro ci q h
  match ci, h with
  | 0, h => cases h; exact cls0_ok
  | 1, h => cases h; exact cls1_ok
  | 2, h => cases h; exact cls2_ok
  | 3, h => cases h; exact cls3_ok
  | 4, h => cases h; exact cls4_ok
  | 5, h => cases h; exact cls5_ok
  | 6, h => cases h; exact cls6_ok
  | 7, h => cases h; exact cls7_ok
  | 8, h => cases h; exact cls8_ok
  | 9, h => cases h; exact cls9_ok
  | 10, h => cases h; exact cls10_ok
  | 11, h => cases h; exact cls11_ok
  | n + 12, h => simp [cls] at h
-- a method: name, bytes, maxLocals, answer, its class (0 .. 11: cls; 12 the law, 13 Integer, 14 Math), parameters, 1 if static
abbrev mMI : Type := MethodName × ByteArray × Nat × Option FieldType × Nat × Nat × Nat
def ownN : List String := ["FunDesk", "FunDesk$Line", "FunDesk$Row", "FunDesk$Tree", "FunDesk$Reader", "FunDesk$Types", "FunDesk$Checker", "FunDesk$Machine", "FunDesk$Value", "FunDesk$Frame", "FunDesk$Scope", "FunDeskModel", "FunDeskLaw", "java/lang/Integer", "java/lang/Math"]
def mI0 : mMI := (⟨"FunDesk", "<init>", "()V"⟩, prog_1_method_1_code, 1, (Option.none : Option Jvm.ClassFile.FieldType), 0, 0, 0)
def mI1 : mMI := (⟨"FunDesk$Line", "<init>", "()V"⟩, prog_4_method_1_code, 1, (Option.none : Option Jvm.ClassFile.FieldType), 1, 0, 0)
def mI2 : mMI := (⟨"FunDesk$Row", "<init>", "(I)V"⟩, prog_7_method_1_code, 2, (Option.none : Option Jvm.ClassFile.FieldType), 2, 1, 0)
def mI3 : mMI := (⟨"FunDesk$Tree", "<init>", "()V"⟩, prog_9_method_1_code, 1, (Option.none : Option Jvm.ClassFile.FieldType), 3, 0, 0)
def mI4 : mMI := (⟨"FunDesk$Reader", "<init>", "(LFunDesk$Line;LFunDesk$Tree;)V"⟩, prog_6_method_1_code, 3, (Option.none : Option Jvm.ClassFile.FieldType), 4, 2, 0)
def mI5 : mMI := (⟨"FunDesk$Types", "<init>", "()V"⟩, prog_10_method_1_code, 1, (Option.none : Option Jvm.ClassFile.FieldType), 5, 0, 0)
def mI6 : mMI := (⟨"FunDesk$Checker", "<init>", "(LFunDesk$Tree;LFunDesk$Types;)V"⟩, prog_2_method_1_code, 3, (Option.none : Option Jvm.ClassFile.FieldType), 6, 2, 0)
def mI7 : mMI := (⟨"FunDesk$Machine", "<init>", "(LFunDesk$Tree;)V"⟩, prog_5_method_1_code, 2, (Option.none : Option Jvm.ClassFile.FieldType), 7, 1, 0)
def mI8 : mMI := (⟨"FunDesk", "type", "(C)Z"⟩, prog_1_method_2_code, 2, (Option.some Jvm.ClassFile.FieldType.boolean), 0, 1, 0)
def mI9 : mMI := (⟨"FunDesk$Line", "append", "(I)Z"⟩, prog_4_method_2_code, 2, (Option.some Jvm.ClassFile.FieldType.boolean), 1, 1, 0)
def mI10 : mMI := (⟨"FunDesk$Row", "set", "(II)V"⟩, prog_7_method_3_code, 3, (Option.none : Option Jvm.ClassFile.FieldType), 2, 2, 0)
def mI11 : mMI := (⟨"FunDesk", "wipe", "()V"⟩, prog_1_method_3_code, 1, (Option.none : Option Jvm.ClassFile.FieldType), 0, 0, 0)
def mI12 : mMI := (⟨"FunDesk$Line", "clear", "()V"⟩, prog_4_method_3_code, 1, (Option.none : Option Jvm.ClassFile.FieldType), 1, 0, 0)
def mI13 : mMI := (⟨"FunDesk", "shown", "(I)I"⟩, prog_1_method_5_code, 2, (Option.some Jvm.ClassFile.FieldType.int), 0, 1, 0)
def mI14 : mMI := (⟨"FunDesk$Row", "get", "(I)I"⟩, prog_7_method_2_code, 2, (Option.some Jvm.ClassFile.FieldType.int), 2, 1, 0)
def mI15 : mMI := (⟨"FunDesk", "run", "(I)I"⟩, prog_1_method_6_code, 3, (Option.some Jvm.ClassFile.FieldType.int), 0, 1, 0)
def mI16 : mMI := (⟨"FunDesk$Machine", "phase", "()I"⟩, prog_5_method_3_code, 1, (Option.some Jvm.ClassFile.FieldType.int), 7, 0, 0)
def mI17 : mMI := (⟨"FunDesk$Machine", "go", "(I)I"⟩, prog_5_method_8_code, 4, (Option.some Jvm.ClassFile.FieldType.int), 7, 1, 0)
def mI18 : mMI := (⟨"FunDesk$Machine", "enter", "()V"⟩, prog_5_method_13_code, 1, (Option.none : Option Jvm.ClassFile.FieldType), 7, 0, 0)
def mI19 : mMI := (⟨"FunDesk$Tree", "kind", "(I)I"⟩, prog_9_method_11_code, 2, (Option.some Jvm.ClassFile.FieldType.int), 3, 1, 0)
def mI20 : mMI := (⟨"FunDesk$Tree", "number", "(I)I"⟩, prog_9_method_12_code, 2, (Option.some Jvm.ClassFile.FieldType.int), 3, 1, 0)
def mI21 : mMI := (⟨"FunDesk$Value", "<init>", "(II)V"⟩, prog_11_method_1_code, 3, (Option.none : Option Jvm.ClassFile.FieldType), 8, 2, 0)
def mI22 : mMI := (⟨"FunDesk$Machine", "settle", "(LFunDesk$Value;)V"⟩, prog_5_method_11_code, 2, (Option.none : Option Jvm.ClassFile.FieldType), 7, 1, 0)
def mI23 : mMI := (⟨"FunDesk$Machine", "fail", "(I)V"⟩, prog_5_method_9_code, 2, (Option.none : Option Jvm.ClassFile.FieldType), 7, 1, 0)
def mI24 : mMI := (⟨"FunDesk$Value", "ofReal", "(D)LFunDesk$Value;"⟩, prog_11_method_2_code, 3, (Option.some (Jvm.ClassFile.FieldType.object "FunDesk$Value")), 8, 1, 1)
def mI25 : mMI := (⟨"FunDesk$Machine", "find", "(I)LFunDesk$Value;"⟩, prog_5_method_14_code, 3, (Option.some (Jvm.ClassFile.FieldType.object "FunDesk$Value")), 7, 1, 0)
def mI26 : mMI := (⟨"FunDesk$Value", "ofFunction", "(ILFunDesk$Scope;)LFunDesk$Value;"⟩, prog_11_method_4_code, 3, (Option.some (Jvm.ClassFile.FieldType.object "FunDesk$Value")), 8, 2, 1)
def mI27 : mMI := (⟨"FunDesk$Tree", "first", "(I)I"⟩, prog_9_method_13_code, 2, (Option.some Jvm.ClassFile.FieldType.int), 3, 1, 0)
def mI28 : mMI := (⟨"FunDesk$Machine", "goInto", "(I)V"⟩, prog_5_method_10_code, 2, (Option.none : Option Jvm.ClassFile.FieldType), 7, 1, 0)
def mI29 : mMI := (⟨"FunDesk$Machine", "leave", "()V"⟩, prog_5_method_15_code, 2, (Option.none : Option Jvm.ClassFile.FieldType), 7, 0, 0)
def mI30 : mMI := (⟨"FunDesk$Tree", "parent", "(I)I"⟩, prog_9_method_16_code, 2, (Option.some Jvm.ClassFile.FieldType.int), 3, 1, 0)
def mI31 : mMI := (⟨"FunDesk$Tree", "second", "(I)I"⟩, prog_9_method_14_code, 2, (Option.some Jvm.ClassFile.FieldType.int), 3, 1, 0)
def mI32 : mMI := (⟨"FunDesk$Machine", "unbind", "(I)V"⟩, prog_5_method_16_code, 3, (Option.none : Option Jvm.ClassFile.FieldType), 7, 1, 0)
def mI33 : mMI := (⟨"FunDesk$Machine", "giveBack", "()V"⟩, prog_5_method_17_code, 2, (Option.none : Option Jvm.ClassFile.FieldType), 7, 0, 0)
def mI34 : mMI := (⟨"FunDesk$Machine", "finish", "()V"⟩, prog_5_method_18_code, 1, (Option.none : Option Jvm.ClassFile.FieldType), 7, 0, 0)
def mI35 : mMI := (⟨"FunDesk$Machine", "take", "()LFunDesk$Value;"⟩, prog_5_method_12_code, 2, (Option.some (Jvm.ClassFile.FieldType.object "FunDesk$Value")), 7, 0, 0)
def mI36 : mMI := (⟨"FunDesk$Machine", "step", "()V"⟩, prog_5_method_19_code, 2, (Option.none : Option Jvm.ClassFile.FieldType), 7, 0, 0)
def mI37 : mMI := (⟨"FunDesk$Machine", "operate", "()V"⟩, prog_5_method_21_code, 4, (Option.none : Option Jvm.ClassFile.FieldType), 7, 0, 0)
def mI38 : mMI := (⟨"FunDesk$Machine", "operateOnReals", "(IDD)V"⟩, prog_5_method_23_code, 8, (Option.none : Option Jvm.ClassFile.FieldType), 7, 3, 0)
def mI39 : mMI := (⟨"FunDesk$Machine", "operateOnNumbers", "(III)V"⟩, prog_5_method_22_code, 4, (Option.none : Option Jvm.ClassFile.FieldType), 7, 3, 0)
def mI40 : mMI := (⟨"FunDesk$Value", "ofList", "(LFunDesk$Value;LFunDesk$Value;)LFunDesk$Value;"⟩, prog_11_method_3_code, 3, (Option.some (Jvm.ClassFile.FieldType.object "FunDesk$Value")), 8, 2, 1)
def mI41 : mMI := (⟨"FunDesk$Machine", "apply", "()V"⟩, prog_5_method_24_code, 4, (Option.none : Option Jvm.ClassFile.FieldType), 7, 0, 0)
def mI42 : mMI := (⟨"FunDesk$Frame", "<init>", "(ILFunDesk$Scope;LFunDesk$Frame;)V"⟩, prog_3_method_1_code, 4, (Option.none : Option Jvm.ClassFile.FieldType), 9, 3, 0)
def mI43 : mMI := (⟨"FunDesk$Scope", "<init>", "(ILFunDesk$Value;LFunDesk$Scope;)V"⟩, prog_8_method_1_code, 4, (Option.none : Option Jvm.ClassFile.FieldType), 10, 3, 0)
def mI44 : mMI := (⟨"FunDesk$Machine", "bindOwn", "()V"⟩, prog_5_method_20_code, 2, (Option.none : Option Jvm.ClassFile.FieldType), 7, 0, 0)
def mI45 : mMI := (⟨"FunDesk$Tree", "third", "(I)I"⟩, prog_9_method_15_code, 2, (Option.some Jvm.ClassFile.FieldType.int), 3, 1, 0)
def mI46 : mMI := (⟨"FunDesk$Machine", "choose", "()V"⟩, prog_5_method_25_code, 5, (Option.none : Option Jvm.ClassFile.FieldType), 7, 0, 0)
def mI47 : mMI := (⟨"FunDesk$Machine", "fits", "(ILFunDesk$Value;I)Z"⟩, prog_5_method_26_code, 4, (Option.some Jvm.ClassFile.FieldType.boolean), 7, 3, 0)
def mI48 : mMI := (⟨"FunDesk$Machine", "bind", "(ILFunDesk$Value;LFunDesk$Scope;I)LFunDesk$Scope;"⟩, prog_5_method_27_code, 6, (Option.some (Jvm.ClassFile.FieldType.object "FunDesk$Scope")), 7, 4, 0)
def mI49 : mMI := (⟨"FunDesk$Machine", "result", "()LFunDesk$Value;"⟩, prog_5_method_7_code, 1, (Option.some (Jvm.ClassFile.FieldType.object "FunDesk$Value")), 7, 0, 0)
def mI50 : mMI := (⟨"FunDesk", "state", "(I)I"⟩, prog_1_method_7_code, 2, (Option.some Jvm.ClassFile.FieldType.int), 0, 1, 0)
def mI51 : mMI := (⟨"FunDesk$Machine", "failure", "()I"⟩, prog_5_method_4_code, 1, (Option.some Jvm.ClassFile.FieldType.int), 7, 0, 0)
def mI52 : mMI := (⟨"FunDesk$Machine", "steps", "()I"⟩, prog_5_method_5_code, 1, (Option.some Jvm.ClassFile.FieldType.int), 7, 0, 0)
def mI53 : mMI := (⟨"FunDesk$Machine", "allSteps", "()I"⟩, prog_5_method_6_code, 1, (Option.some Jvm.ClassFile.FieldType.int), 7, 0, 0)
def mI54 : mMI := (⟨"FunDesk", "load", "()I"⟩, prog_1_method_4_code, 1, (Option.some Jvm.ClassFile.FieldType.int), 0, 0, 0)
def mI55 : mMI := (⟨"FunDesk$Reader", "reads", "()Z"⟩, prog_6_method_2_code, 1, (Option.some Jvm.ClassFile.FieldType.boolean), 4, 0, 0)
def mI56 : mMI := (⟨"FunDesk$Row", "fill", "(I)V"⟩, prog_7_method_4_code, 3, (Option.none : Option Jvm.ClassFile.FieldType), 2, 1, 0)
def mI57 : mMI := (⟨"FunDesk$Tree", "clear", "()V"⟩, prog_9_method_2_code, 1, (Option.none : Option Jvm.ClassFile.FieldType), 3, 0, 0)
def mI58 : mMI := (⟨"FunDesk$Reader", "expression", "(I)I"⟩, prog_6_method_11_code, 2, (Option.some Jvm.ClassFile.FieldType.int), 4, 1, 0)
def mI59 : mMI := (⟨"FunDesk$Reader", "breakOff", "()I"⟩, prog_6_method_7_code, 1, (Option.some Jvm.ClassFile.FieldType.int), 4, 0, 0)
def mI60 : mMI := (⟨"FunDesk$Reader", "next", "()I"⟩, prog_6_method_4_code, 2, (Option.some Jvm.ClassFile.FieldType.int), 4, 0, 0)
def mI61 : mMI := (⟨"FunDesk$Line", "charAt", "(I)I"⟩, prog_4_method_4_code, 2, (Option.some Jvm.ClassFile.FieldType.int), 1, 1, 0)
def mI62 : mMI := (⟨"FunDesk$Reader", "function", "(I)I"⟩, prog_6_method_12_code, 4, (Option.some Jvm.ClassFile.FieldType.int), 4, 1, 0)
def mI63 : mMI := (⟨"FunDesk$Reader", "expect", "(I)V"⟩, prog_6_method_6_code, 2, (Option.none : Option Jvm.ClassFile.FieldType), 4, 1, 0)
def mI64 : mMI := (⟨"FunDesk$Reader", "takes", "(I)Z"⟩, prog_6_method_5_code, 2, (Option.some Jvm.ClassFile.FieldType.boolean), 4, 1, 0)
def mI65 : mMI := (⟨"FunDesk$Reader", "name", "()I"⟩, prog_6_method_8_code, 2, (Option.some Jvm.ClassFile.FieldType.int), 4, 0, 0)
def mI66 : mMI := (⟨"FunDesk$Reader", "bind", "(II)V"⟩, prog_6_method_9_code, 3, (Option.none : Option Jvm.ClassFile.FieldType), 4, 2, 0)
def mI67 : mMI := (⟨"FunDesk$Tree", "add", "(IIIII)I"⟩, prog_9_method_3_code, 7, (Option.some Jvm.ClassFile.FieldType.int), 3, 5, 0)
def mI68 : mMI := (⟨"FunDesk$Reader", "let", "(I)I"⟩, prog_6_method_13_code, 5, (Option.some Jvm.ClassFile.FieldType.int), 4, 1, 0)
def mI69 : mMI := (⟨"FunDesk$Reader", "recursion", "(I)I"⟩, prog_6_method_14_code, 5, (Option.some Jvm.ClassFile.FieldType.int), 4, 1, 0)
def mI70 : mMI := (⟨"FunDesk$Reader", "condition", "(I)I"⟩, prog_6_method_15_code, 5, (Option.some Jvm.ClassFile.FieldType.int), 4, 1, 0)
def mI71 : mMI := (⟨"FunDesk$Reader", "choice", "(I)I"⟩, prog_6_method_16_code, 6, (Option.some Jvm.ClassFile.FieldType.int), 4, 1, 0)
def mI72 : mMI := (⟨"FunDesk$Reader", "branch", "(I)I"⟩, prog_6_method_17_code, 5, (Option.some Jvm.ClassFile.FieldType.int), 4, 1, 0)
def mI73 : mMI := (⟨"FunDesk$Reader", "pattern", "(I)I"⟩, prog_6_method_18_code, 3, (Option.some Jvm.ClassFile.FieldType.int), 4, 1, 0)
def mI74 : mMI := (⟨"FunDesk$Reader", "part", "(I)I"⟩, prog_6_method_19_code, 4, (Option.some Jvm.ClassFile.FieldType.int), 4, 1, 0)
def mI75 : mMI := (⟨"FunDesk$Reader", "binder", "()I"⟩, prog_6_method_20_code, 3, (Option.some Jvm.ClassFile.FieldType.int), 4, 0, 0)
def mI76 : mMI := (⟨"FunDesk$Tree", "addLeaf", "(II)I"⟩, prog_9_method_4_code, 3, (Option.some Jvm.ClassFile.FieldType.int), 3, 2, 0)
def mI77 : mMI := (⟨"FunDesk$Reader", "isDigit", "(I)Z"⟩, prog_6_method_29_code, 1, (Option.some Jvm.ClassFile.FieldType.boolean), 4, 1, 1)
def mI78 : mMI := (⟨"FunDesk$Reader", "digits", "(I)I"⟩, prog_6_method_34_code, 4, (Option.some Jvm.ClassFile.FieldType.int), 4, 1, 0)
def mI79 : mMI := (⟨"FunDesk$Reader", "constant", "()I"⟩, prog_6_method_21_code, 1, (Option.some Jvm.ClassFile.FieldType.int), 4, 0, 0)
def mI80 : mMI := (⟨"FunDesk$Reader", "bindAll", "(II)V"⟩, prog_6_method_10_code, 4, (Option.none : Option Jvm.ClassFile.FieldType), 4, 2, 0)
def mI81 : mMI := (⟨"java/lang/Integer", "bitCount", "(I)I"⟩, prog_18_method_49_code, 1, (Option.some Jvm.ClassFile.FieldType.int), 13, 1, 1)
def mI82 : mMI := (⟨"FunDesk$Tree", "addBranch", "(III)V"⟩, prog_9_method_6_code, 4, (Option.none : Option Jvm.ClassFile.FieldType), 3, 3, 0)
def mI83 : mMI := (⟨"FunDesk$Reader", "list", "(I)I"⟩, prog_6_method_22_code, 7, (Option.some Jvm.ClassFile.FieldType.int), 4, 1, 0)
def mI84 : mMI := (⟨"FunDesk$Reader", "comparison", "(I)I"⟩, prog_6_method_23_code, 4, (Option.some Jvm.ClassFile.FieldType.int), 4, 1, 0)
def mI85 : mMI := (⟨"FunDesk$Reader", "sum", "(I)I"⟩, prog_6_method_24_code, 5, (Option.some Jvm.ClassFile.FieldType.int), 4, 1, 0)
def mI86 : mMI := (⟨"FunDesk$Reader", "product", "(I)I"⟩, prog_6_method_25_code, 5, (Option.some Jvm.ClassFile.FieldType.int), 4, 1, 0)
def mI87 : mMI := (⟨"FunDesk$Reader", "application", "(I)I"⟩, prog_6_method_27_code, 4, (Option.some Jvm.ClassFile.FieldType.int), 4, 1, 0)
def mI88 : mMI := (⟨"FunDesk$Reader", "atom", "(I)I"⟩, prog_6_method_30_code, 5, (Option.some Jvm.ClassFile.FieldType.int), 4, 1, 0)
def mI89 : mMI := (⟨"FunDesk$Reader", "plainAtom", "(I)I"⟩, prog_6_method_31_code, 4, (Option.some Jvm.ClassFile.FieldType.int), 4, 1, 0)
def mI90 : mMI := (⟨"FunDesk$Reader", "usedName", "()I"⟩, prog_6_method_32_code, 2, (Option.some Jvm.ClassFile.FieldType.int), 4, 0, 0)
def mI91 : mMI := (⟨"FunDesk$Reader", "numeral", "()I"⟩, prog_6_method_33_code, 5, (Option.some Jvm.ClassFile.FieldType.int), 4, 0, 0)
def mI92 : mMI := (⟨"FunDesk$Reader", "startsAtom", "(I)Z"⟩, prog_6_method_28_code, 1, (Option.some Jvm.ClassFile.FieldType.boolean), 4, 1, 1)
def mI93 : mMI := (⟨"FunDesk$Reader", "operator", "(II)I"⟩, prog_6_method_26_code, 4, (Option.some Jvm.ClassFile.FieldType.int), 4, 2, 0)
def mI94 : mMI := (⟨"FunDesk$Tree", "setSecond", "(II)V"⟩, prog_9_method_5_code, 3, (Option.none : Option Jvm.ClassFile.FieldType), 3, 2, 0)
def mI95 : mMI := (⟨"FunDesk$Tree", "setRoot", "(I)V"⟩, prog_9_method_7_code, 2, (Option.none : Option Jvm.ClassFile.FieldType), 3, 1, 0)
def mI96 : mMI := (⟨"FunDesk$Reader", "allBound", "()Z"⟩, prog_6_method_3_code, 1, (Option.some Jvm.ClassFile.FieldType.boolean), 4, 0, 0)
def mI97 : mMI := (⟨"FunDesk$Checker", "accepts", "()Z"⟩, prog_2_method_2_code, 2, (Option.some Jvm.ClassFile.FieldType.boolean), 6, 0, 0)
def mI98 : mMI := (⟨"FunDesk$Types", "clear", "()V"⟩, prog_10_method_2_code, 1, (Option.none : Option Jvm.ClassFile.FieldType), 5, 0, 0)
def mI99 : mMI := (⟨"FunDesk$Types", "make", "(III)I"⟩, prog_10_method_3_code, 5, (Option.some Jvm.ClassFile.FieldType.int), 5, 3, 0)
def mI100 : mMI := (⟨"FunDesk$Tree", "root", "()I"⟩, prog_9_method_9_code, 1, (Option.some Jvm.ClassFile.FieldType.int), 3, 0, 0)
def mI101 : mMI := (⟨"FunDesk$Checker", "infer", "(II)I"⟩, prog_2_method_6_code, 4, (Option.some Jvm.ClassFile.FieldType.int), 6, 2, 0)
def mI102 : mMI := (⟨"FunDesk$Checker", "leaf", "(I)I"⟩, prog_2_method_7_code, 3, (Option.some Jvm.ClassFile.FieldType.int), 6, 1, 0)
def mI103 : mMI := (⟨"FunDesk$Types", "fresh", "(I)I"⟩, prog_10_method_4_code, 2, (Option.some Jvm.ClassFile.FieldType.int), 5, 1, 0)
def mI104 : mMI := (⟨"FunDesk$Types", "list", "(I)I"⟩, prog_10_method_5_code, 2, (Option.some Jvm.ClassFile.FieldType.int), 5, 1, 0)
def mI105 : mMI := (⟨"FunDesk$Types", "arrow", "(II)I"⟩, prog_10_method_6_code, 3, (Option.some Jvm.ClassFile.FieldType.int), 5, 2, 0)
def mI106 : mMI := (⟨"FunDesk$Checker", "typeOfName", "(I)I"⟩, prog_2_method_5_code, 3, (Option.some Jvm.ClassFile.FieldType.int), 6, 1, 0)
def mI107 : mMI := (⟨"FunDesk$Types", "instance", "(II)I"⟩, prog_10_method_14_code, 3, (Option.some Jvm.ClassFile.FieldType.int), 5, 2, 0)
def mI108 : mMI := (⟨"FunDesk$Types", "tooLong", "(I)Z"⟩, prog_10_method_8_code, 2, (Option.some Jvm.ClassFile.FieldType.boolean), 5, 1, 0)
def mI109 : mMI := (⟨"FunDesk$Types", "length", "(II)I"⟩, prog_10_method_9_code, 5, (Option.some Jvm.ClassFile.FieldType.int), 5, 2, 0)
def mI110 : mMI := (⟨"FunDesk$Types", "resolve", "(I)I"⟩, prog_10_method_7_code, 4, (Option.some Jvm.ClassFile.FieldType.int), 5, 1, 0)
def mI111 : mMI := (⟨"FunDesk$Types", "copy", "(III)I"⟩, prog_10_method_15_code, 10, (Option.some Jvm.ClassFile.FieldType.int), 5, 3, 0)
def mI112 : mMI := (⟨"FunDesk$Types", "copyOf", "(II)I"⟩, prog_10_method_16_code, 4, (Option.some Jvm.ClassFile.FieldType.int), 5, 2, 0)
def mI113 : mMI := (⟨"FunDesk$Types", "placeOf", "(I)I"⟩, prog_10_method_17_code, 3, (Option.some Jvm.ClassFile.FieldType.int), 5, 1, 0)
def mI114 : mMI := (⟨"FunDesk$Checker", "enter", "(II)V"⟩, prog_2_method_4_code, 3, (Option.none : Option Jvm.ClassFile.FieldType), 6, 2, 0)
def mI115 : mMI := (⟨"FunDesk$Checker", "inferWhole", "(II)I"⟩, prog_2_method_8_code, 10, (Option.some Jvm.ClassFile.FieldType.int), 6, 2, 0)
def mI116 : mMI := (⟨"FunDesk$Checker", "demand", "(II)V"⟩, prog_2_method_3_code, 3, (Option.none : Option Jvm.ClassFile.FieldType), 6, 2, 0)
def mI117 : mMI := (⟨"FunDesk$Types", "unify", "(III)Z"⟩, prog_10_method_10_code, 6, (Option.some Jvm.ClassFile.FieldType.boolean), 5, 3, 0)
def mI118 : mMI := (⟨"FunDesk$Types", "link", "(II)Z"⟩, prog_10_method_11_code, 3, (Option.some Jvm.ClassFile.FieldType.boolean), 5, 2, 0)
def mI119 : mMI := (⟨"FunDesk$Types", "takesIn", "(III)Z"⟩, prog_10_method_12_code, 5, (Option.some Jvm.ClassFile.FieldType.boolean), 5, 3, 0)
def mI120 : mMI := (⟨"FunDesk$Checker", "operandOf", "(I)I"⟩, prog_2_method_10_code, 1, (Option.some Jvm.ClassFile.FieldType.int), 6, 1, 1)
def mI121 : mMI := (⟨"FunDesk$Checker", "compares", "(I)Z"⟩, prog_2_method_9_code, 1, (Option.some Jvm.ClassFile.FieldType.boolean), 6, 1, 1)
def mI122 : mMI := (⟨"FunDesk$Checker", "inferLet", "(II)I"⟩, prog_2_method_11_code, 4, (Option.some Jvm.ClassFile.FieldType.int), 6, 2, 0)
def mI123 : mMI := (⟨"FunDesk$Checker", "inferBound", "(III)I"⟩, prog_2_method_13_code, 5, (Option.some Jvm.ClassFile.FieldType.int), 6, 3, 0)
def mI124 : mMI := (⟨"FunDesk$Types", "generalise", "(III)V"⟩, prog_10_method_13_code, 5, (Option.none : Option Jvm.ClassFile.FieldType), 5, 3, 0)
def mI125 : mMI := (⟨"FunDesk$Checker", "inferRecursion", "(II)I"⟩, prog_2_method_12_code, 5, (Option.some Jvm.ClassFile.FieldType.int), 6, 2, 0)
def mI126 : mMI := (⟨"FunDesk$Checker", "inferCondition", "(II)I"⟩, prog_2_method_14_code, 4, (Option.some Jvm.ClassFile.FieldType.int), 6, 2, 0)
def mI127 : mMI := (⟨"FunDesk$Checker", "inferChoice", "(II)I"⟩, prog_2_method_15_code, 8, (Option.some Jvm.ClassFile.FieldType.int), 6, 2, 0)
def mI128 : mMI := (⟨"FunDesk$Tree", "setType", "(II)V"⟩, prog_9_method_8_code, 3, (Option.none : Option Jvm.ClassFile.FieldType), 3, 2, 0)
def mI129 : mMI := (⟨"FunDesk$Tree", "size", "()I"⟩, prog_9_method_10_code, 1, (Option.some Jvm.ClassFile.FieldType.int), 3, 0, 0)
def mI130 : mMI := (⟨"FunDesk$Tree", "typeOf", "(I)I"⟩, prog_9_method_17_code, 2, (Option.some Jvm.ClassFile.FieldType.int), 3, 1, 0)
def mI131 : mMI := (⟨"FunDesk$Types", "write", "(ILFunDesk$Row;)I"⟩, prog_10_method_18_code, 3, (Option.some Jvm.ClassFile.FieldType.int), 5, 2, 0)
def mI132 : mMI := (⟨"FunDesk$Types", "writePart", "(ILFunDesk$Row;I)V"⟩, prog_10_method_19_code, 5, (Option.none : Option Jvm.ClassFile.FieldType), 5, 3, 0)
def mI133 : mMI := (⟨"FunDesk$Types", "put", "(ILFunDesk$Row;)V"⟩, prog_10_method_20_code, 3, (Option.none : Option Jvm.ClassFile.FieldType), 5, 2, 0)
def mI134 : mMI := (⟨"FunDesk$Tree", "copy", "(LFunDesk$Tree;)V"⟩, prog_9_method_18_code, 2, (Option.none : Option Jvm.ClassFile.FieldType), 3, 1, 0)
def mI135 : mMI := (⟨"FunDesk$Row", "copy", "(LFunDesk$Row;)V"⟩, prog_7_method_5_code, 3, (Option.none : Option Jvm.ClassFile.FieldType), 2, 1, 0)
def mI136 : mMI := (⟨"FunDesk$Machine", "begin", "()V"⟩, prog_5_method_2_code, 1, (Option.none : Option Jvm.ClassFile.FieldType), 7, 0, 0)
def mI137 : mMI := (⟨"FunDesk", "value", "(I)I"⟩, prog_1_method_8_code, 3, (Option.some Jvm.ClassFile.FieldType.int), 0, 1, 0)
def mI138 : mMI := (⟨"FunDesk", "real", "()D"⟩, prog_1_method_9_code, 2, (Option.some Jvm.ClassFile.FieldType.double), 0, 0, 0)
def mI139 : mMI := (⟨"FunDesk", "item", "(I)V"⟩, prog_1_method_10_code, 4, (Option.none : Option Jvm.ClassFile.FieldType), 0, 1, 0)
def mI140 : mMI := (⟨"FunDesk$Value", "itemAt", "(I)LFunDesk$Value;"⟩, prog_11_method_5_code, 4, (Option.some (Jvm.ClassFile.FieldType.object "FunDesk$Value")), 8, 1, 0)
def mI141 : mMI := (⟨"FunDesk", "top", "()V"⟩, prog_1_method_11_code, 1, (Option.none : Option Jvm.ClassFile.FieldType), 0, 0, 0)
def mI142 : mMI := (⟨"FunDeskModel", "<init>", "()V"⟩, prog_13_method_1_code, 1, (Option.none : Option Jvm.ClassFile.FieldType), 11, 0, 0)
def mI143 : mMI := (⟨"FunDeskModel", "thrown", "()I"⟩, prog_13_method_2_code, 1, (Option.some Jvm.ClassFile.FieldType.int), 11, 0, 0)
def mI144 : mMI := (⟨"FunDeskModel", "type", "(C)Z"⟩, prog_13_method_3_code, 2, (Option.some Jvm.ClassFile.FieldType.boolean), 11, 1, 0)
def mI145 : mMI := (⟨"FunDeskModel", "wipe", "()V"⟩, prog_13_method_4_code, 1, (Option.none : Option Jvm.ClassFile.FieldType), 11, 0, 0)
def mI146 : mMI := (⟨"FunDeskModel", "load", "()I"⟩, prog_13_method_73_code, 1, (Option.some Jvm.ClassFile.FieldType.int), 11, 0, 0)
def mI147 : mMI := (⟨"FunDeskModel", "reads", "()Z"⟩, prog_13_method_30_code, 3, (Option.some Jvm.ClassFile.FieldType.boolean), 11, 0, 0)
def mI148 : mMI := (⟨"FunDeskModel", "begin", "(I)V"⟩, prog_13_method_18_code, 2, (Option.none : Option Jvm.ClassFile.FieldType), 11, 1, 0)
def mI149 : mMI := (⟨"FunDeskModel", "exprBegins", "(I)V"⟩, prog_13_method_22_code, 5, (Option.none : Option Jvm.ClassFile.FieldType), 11, 1, 0)
def mI150 : mMI := (⟨"FunDeskModel", "deeper", "()V"⟩, prog_13_method_20_code, 1, (Option.none : Option Jvm.ClassFile.FieldType), 11, 0, 0)
def mI151 : mMI := (⟨"FunDeskModel", "peek", "()C"⟩, prog_13_method_6_code, 1, (Option.some Jvm.ClassFile.FieldType.char), 11, 0, 0)
def mI152 : mMI := (⟨"FunDeskModel", "here", "()C"⟩, prog_13_method_5_code, 1, (Option.some Jvm.ClassFile.FieldType.char), 11, 0, 0)
def mI153 : mMI := (⟨"FunDeskModel", "after", "(II)V"⟩, prog_13_method_19_code, 3, (Option.none : Option Jvm.ClassFile.FieldType), 11, 2, 0)
def mI154 : mMI := (⟨"FunDeskModel", "name", "()I"⟩, prog_13_method_12_code, 2, (Option.some Jvm.ClassFile.FieldType.int), 11, 0, 0)
def mI155 : mMI := (⟨"FunDeskModel", "letter", "(C)Z"⟩, prog_13_method_10_code, 1, (Option.some Jvm.ClassFile.FieldType.boolean), 11, 1, 1)
def mI156 : mMI := (⟨"FunDeskModel", "want", "(C)V"⟩, prog_13_method_8_code, 2, (Option.none : Option Jvm.ClassFile.FieldType), 11, 1, 0)
def mI157 : mMI := (⟨"FunDeskModel", "eat", "(C)Z"⟩, prog_13_method_7_code, 3, (Option.some Jvm.ClassFile.FieldType.boolean), 11, 1, 0)
def mI158 : mMI := (⟨"FunDeskModel", "put", "(III)V"⟩, prog_13_method_15_code, 4, (Option.none : Option Jvm.ClassFile.FieldType), 11, 3, 0)
def mI159 : mMI := (⟨"FunDeskModel", "exprGoesOn", "(I)V"⟩, prog_13_method_25_code, 4, (Option.none : Option Jvm.ClassFile.FieldType), 11, 1, 0)
def mI160 : mMI := (⟨"FunDeskModel", "clauseEnds", "(I)V"⟩, prog_13_method_24_code, 6, (Option.none : Option Jvm.ClassFile.FieldType), 11, 1, 0)
def mI161 : mMI := (⟨"FunDeskModel", "clauseBegins", "(I)V"⟩, prog_13_method_23_code, 2, (Option.none : Option Jvm.ClassFile.FieldType), 11, 1, 0)
def mI162 : mMI := (⟨"FunDeskModel", "endsDeep", "()V"⟩, prog_13_method_21_code, 1, (Option.none : Option Jvm.ClassFile.FieldType), 11, 0, 0)
def mI163 : mMI := (⟨"FunDeskModel", "operands", "(I)V"⟩, prog_13_method_29_code, 4, (Option.none : Option Jvm.ClassFile.FieldType), 11, 1, 0)
def mI164 : mMI := (⟨"FunDeskModel", "atomBegins", "(C)Z"⟩, prog_13_method_11_code, 1, (Option.some Jvm.ClassFile.FieldType.boolean), 11, 1, 1)
def mI165 : mMI := (⟨"FunDeskModel", "digit", "(C)Z"⟩, prog_13_method_9_code, 1, (Option.some Jvm.ClassFile.FieldType.boolean), 11, 1, 1)
def mI166 : mMI := (⟨"FunDeskModel", "operator", "(I)I"⟩, prog_13_method_14_code, 4, (Option.some Jvm.ClassFile.FieldType.int), 11, 1, 0)
def mI167 : mMI := (⟨"FunDeskModel", "atom", "(I)V"⟩, prog_13_method_26_code, 7, (Option.none : Option Jvm.ClassFile.FieldType), 11, 1, 0)
def mI168 : mMI := (⟨"FunDeskModel", "digits", "(I)I"⟩, prog_13_method_13_code, 4, (Option.some Jvm.ClassFile.FieldType.int), 11, 1, 0)
def mI169 : mMI := (⟨"FunDeskModel", "pattern", "(I)V"⟩, prog_13_method_28_code, 2, (Option.none : Option Jvm.ClassFile.FieldType), 11, 1, 0)
def mI170 : mMI := (⟨"FunDeskModel", "insertSign", "(I)V"⟩, prog_13_method_17_code, 3, (Option.none : Option Jvm.ClassFile.FieldType), 11, 1, 0)
def mI171 : mMI := (⟨"FunDeskModel", "part", "(I)V"⟩, prog_13_method_27_code, 4, (Option.none : Option Jvm.ClassFile.FieldType), 11, 1, 0)
def mI172 : mMI := (⟨"FunDeskModel", "putSign", "(II)V"⟩, prog_13_method_16_code, 3, (Option.none : Option Jvm.ClassFile.FieldType), 11, 2, 0)
def mI173 : mMI := (⟨"FunDeskModel", "namesFound", "()Z"⟩, prog_13_method_34_code, 3, (Option.some Jvm.ClassFile.FieldType.boolean), 11, 0, 0)
def mI174 : mMI := (⟨"FunDeskModel", "scope", "(I)V"⟩, prog_13_method_33_code, 3, (Option.none : Option Jvm.ClassFile.FieldType), 11, 1, 0)
def mI175 : mMI := (⟨"FunDeskModel", "bind", "(II)V"⟩, prog_13_method_31_code, 3, (Option.none : Option Jvm.ClassFile.FieldType), 11, 2, 0)
def mI176 : mMI := (⟨"FunDeskModel", "bindPattern", "(I)V"⟩, prog_13_method_32_code, 3, (Option.none : Option Jvm.ClassFile.FieldType), 11, 1, 0)
def mI177 : mMI := (⟨"FunDeskModel", "typesFound", "()Z"⟩, prog_13_method_52_code, 6, (Option.some Jvm.ClassFile.FieldType.boolean), 11, 0, 0)
def mI178 : mMI := (⟨"FunDeskModel", "make", "(III)I"⟩, prog_13_method_35_code, 4, (Option.some Jvm.ClassFile.FieldType.int), 11, 3, 0)
def mI179 : mMI := (⟨"FunDeskModel", "typeOf", "(I)V"⟩, prog_13_method_50_code, 5, (Option.none : Option Jvm.ClassFile.FieldType), 11, 1, 0)
def mI180 : mMI := (⟨"FunDeskModel", "push", "(I)V"⟩, prog_13_method_41_code, 2, (Option.none : Option Jvm.ClassFile.FieldType), 11, 1, 0)
def mI181 : mMI := (⟨"FunDeskModel", "fresh", "()I"⟩, prog_13_method_36_code, 1, (Option.some Jvm.ClassFile.FieldType.int), 11, 0, 0)
def mI182 : mMI := (⟨"FunDeskModel", "instance", "(I)I"⟩, prog_13_method_45_code, 6, (Option.some Jvm.ClassFile.FieldType.int), 11, 1, 0)
def mI183 : mMI := (⟨"FunDeskModel", "width", "(I)I"⟩, prog_13_method_38_code, 5, (Option.some Jvm.ClassFile.FieldType.int), 11, 1, 0)
def mI184 : mMI := (⟨"FunDeskModel", "realType", "(I)I"⟩, prog_13_method_37_code, 3, (Option.some Jvm.ClassFile.FieldType.int), 11, 1, 0)
def mI185 : mMI := (⟨"FunDeskModel", "copyOf", "(I)I"⟩, prog_13_method_44_code, 3, (Option.some Jvm.ClassFile.FieldType.int), 11, 1, 0)
def mI186 : mMI := (⟨"FunDeskModel", "pop", "()I"⟩, prog_13_method_42_code, 1, (Option.some Jvm.ClassFile.FieldType.int), 11, 0, 0)
def mI187 : mMI := (⟨"FunDeskModel", "applied", "()V"⟩, prog_13_method_49_code, 3, (Option.none : Option Jvm.ClassFile.FieldType), 11, 0, 0)
def mI188 : mMI := (⟨"FunDeskModel", "unify", "(II)V"⟩, prog_13_method_40_code, 8, (Option.none : Option Jvm.ClassFile.FieldType), 11, 2, 0)
def mI189 : mMI := (⟨"FunDeskModel", "standsIn", "(II)Z"⟩, prog_13_method_39_code, 3, (Option.some Jvm.ClassFile.FieldType.boolean), 11, 2, 0)
def mI190 : mMI := (⟨"FunDeskModel", "operation", "(I)V"⟩, prog_13_method_47_code, 4, (Option.none : Option Jvm.ClassFile.FieldType), 11, 1, 0)
def mI191 : mMI := (⟨"FunDeskModel", "operand", "(I)I"⟩, prog_13_method_46_code, 2, (Option.some Jvm.ClassFile.FieldType.int), 11, 1, 0)
def mI192 : mMI := (⟨"FunDeskModel", "bindingType", "(II)V"⟩, prog_13_method_51_code, 4, (Option.none : Option Jvm.ClassFile.FieldType), 11, 2, 0)
def mI193 : mMI := (⟨"FunDeskModel", "generalize", "(I)V"⟩, prog_13_method_43_code, 5, (Option.none : Option Jvm.ClassFile.FieldType), 11, 1, 0)
def mI194 : mMI := (⟨"FunDeskModel", "patternTypes", "(II)V"⟩, prog_13_method_48_code, 8, (Option.none : Option Jvm.ClassFile.FieldType), 11, 2, 0)
def mI195 : mMI := (⟨"FunDeskModel", "startProgram", "()V"⟩, prog_13_method_72_code, 2, (Option.none : Option Jvm.ClassFile.FieldType), 11, 0, 0)
def mI196 : mMI := (⟨"FunDeskModel", "show", "(I)V"⟩, prog_13_method_53_code, 6, (Option.none : Option Jvm.ClassFile.FieldType), 11, 1, 0)
def mI197 : mMI := (⟨"FunDeskModel", "shown", "(I)I"⟩, prog_13_method_74_code, 2, (Option.some Jvm.ClassFile.FieldType.int), 11, 1, 0)
def mI198 : mMI := (⟨"FunDeskModel", "run", "(I)I"⟩, prog_13_method_76_code, 3, (Option.some Jvm.ClassFile.FieldType.int), 11, 1, 0)
def mI199 : mMI := (⟨"FunDeskModel", "stepIsDue", "()Z"⟩, prog_13_method_75_code, 1, (Option.some Jvm.ClassFile.FieldType.boolean), 11, 0, 0)
def mI200 : mMI := (⟨"FunDeskModel", "isStep", "(I)Z"⟩, prog_13_method_62_code, 1, (Option.some Jvm.ClassFile.FieldType.boolean), 11, 1, 1)
def mI201 : mMI := (⟨"FunDeskModel", "execute", "()V"⟩, prog_13_method_69_code, 4, (Option.none : Option Jvm.ClassFile.FieldType), 11, 0, 0)
def mI202 : mMI := (⟨"FunDeskModel", "known", "(II)V"⟩, prog_13_method_55_code, 3, (Option.none : Option Jvm.ClassFile.FieldType), 11, 2, 0)
def mI203 : mMI := (⟨"FunDeskModel", "fail", "(I)V"⟩, prog_13_method_54_code, 2, (Option.none : Option Jvm.ClassFile.FieldType), 11, 1, 0)
def mI204 : mMI := (⟨"FunDeskModel", "further", "(I)I"⟩, prog_13_method_68_code, 4, (Option.some Jvm.ClassFile.FieldType.int), 11, 1, 0)
def mI205 : mMI := (⟨"FunDeskModel", "knownValue", "(J)V"⟩, prog_13_method_56_code, 3, (Option.none : Option Jvm.ClassFile.FieldType), 11, 1, 0)
def mI206 : mMI := (⟨"FunDeskModel", "apply", "()V"⟩, prog_13_method_63_code, 5, (Option.none : Option Jvm.ClassFile.FieldType), 11, 0, 0)
def mI207 : mMI := (⟨"FunDeskModel", "kind", "(J)I"⟩, prog_13_method_57_code, 2, (Option.some Jvm.ClassFile.FieldType.int), 11, 1, 1)
def mI208 : mMI := (⟨"FunDeskModel", "told", "(J)I"⟩, prog_13_method_58_code, 2, (Option.some Jvm.ClassFile.FieldType.int), 11, 1, 1)
def mI209 : mMI := (⟨"FunDeskModel", "knownReal", "(D)V"⟩, prog_13_method_60_code, 3, (Option.none : Option Jvm.ClassFile.FieldType), 11, 1, 0)
def mI210 : mMI := (⟨"FunDeskModel", "realOf", "(J)D"⟩, prog_13_method_59_code, 3, (Option.some Jvm.ClassFile.FieldType.double), 11, 1, 0)
def mI211 : mMI := (⟨"FunDeskModel", "worthIs", "(JI)V"⟩, prog_13_method_61_code, 4, (Option.none : Option Jvm.ClassFile.FieldType), 11, 2, 0)
def mI212 : mMI := (⟨"FunDeskModel", "work", "(I)V"⟩, prog_13_method_64_code, 6, (Option.none : Option Jvm.ClassFile.FieldType), 11, 1, 0)
def mI213 : mMI := (⟨"FunDeskModel", "workReals", "(IDD)V"⟩, prog_13_method_66_code, 8, (Option.none : Option Jvm.ClassFile.FieldType), 11, 3, 0)
def mI214 : mMI := (⟨"FunDeskModel", "workNumbers", "(III)V"⟩, prog_13_method_65_code, 4, (Option.none : Option Jvm.ClassFile.FieldType), 11, 3, 0)
def mI215 : mMI := (⟨"FunDeskModel", "bindTop", "(Z)V"⟩, prog_13_method_70_code, 4, (Option.none : Option Jvm.ClassFile.FieldType), 11, 1, 0)
def mI216 : mMI := (⟨"FunDeskModel", "flow", "(III)V"⟩, prog_13_method_71_code, 5, (Option.none : Option Jvm.ClassFile.FieldType), 11, 3, 0)
def mI217 : mMI := (⟨"FunDeskModel", "fits", "(II)Z"⟩, prog_13_method_67_code, 10, (Option.some Jvm.ClassFile.FieldType.boolean), 11, 2, 0)
def mI218 : mMI := (⟨"FunDeskModel", "state", "(I)I"⟩, prog_13_method_77_code, 2, (Option.some Jvm.ClassFile.FieldType.int), 11, 1, 0)
def mI219 : mMI := (⟨"FunDeskModel", "value", "(I)I"⟩, prog_13_method_79_code, 3, (Option.some Jvm.ClassFile.FieldType.int), 11, 1, 0)
def mI220 : mMI := (⟨"FunDeskModel", "items", "(J)I"⟩, prog_13_method_78_code, 6, (Option.some Jvm.ClassFile.FieldType.int), 11, 1, 0)
def mI221 : mMI := (⟨"FunDeskModel", "real", "()D"⟩, prog_13_method_80_code, 1, (Option.some Jvm.ClassFile.FieldType.double), 11, 0, 0)
def mI222 : mMI := (⟨"FunDeskModel", "item", "(I)V"⟩, prog_13_method_81_code, 5, (Option.none : Option Jvm.ClassFile.FieldType), 11, 1, 0)
def mI223 : mMI := (⟨"FunDeskModel", "top", "()V"⟩, prog_13_method_82_code, 1, (Option.none : Option Jvm.ClassFile.FieldType), 11, 0, 0)
def mI224 : mMI := (⟨"FunDeskLaw", "load", "(LFunDesk;[J)I"⟩, method_3_code, 3, (Option.some Jvm.ClassFile.FieldType.int), 12, 2, 1)
def mI225 : mMI := (⟨"FunDeskLaw", "value", "(LFunDesk;I[J)I"⟩, method_4_code, 4, (Option.some Jvm.ClassFile.FieldType.int), 12, 3, 1)
def mI226 : mMI := (⟨"FunDeskLaw", "real", "(LFunDesk;[D)I"⟩, method_5_code, 3, (Option.some Jvm.ClassFile.FieldType.int), 12, 2, 1)
def mI227 : mMI := (⟨"FunDeskLaw", "item", "(LFunDesk;I)I"⟩, method_6_code, 3, (Option.some Jvm.ClassFile.FieldType.int), 12, 2, 1)
def mI228 : mMI := (⟨"FunDeskLaw", "top", "(LFunDesk;)I"⟩, method_7_code, 2, (Option.some Jvm.ClassFile.FieldType.int), 12, 1, 1)
def mI229 : mMI := (⟨"FunDeskLaw", "law", "([I)Z"⟩, code, 9, ret, 12, 1, 1)
def mTab : List mMI := [mI0, mI1, mI2, mI3, mI4, mI5, mI6, mI7, mI8, mI9, mI10, mI11, mI12, mI13, mI14, mI15, mI16, mI17, mI18, mI19, mI20, mI21, mI22, mI23, mI24, mI25, mI26, mI27, mI28, mI29, mI30, mI31, mI32, mI33, mI34, mI35, mI36, mI37, mI38, mI39, mI40, mI41, mI42, mI43, mI44, mI45, mI46, mI47, mI48, mI49, mI50, mI51, mI52, mI53, mI54, mI55, mI56, mI57, mI58, mI59, mI60, mI61, mI62, mI63, mI64, mI65, mI66, mI67, mI68, mI69, mI70, mI71, mI72, mI73, mI74, mI75, mI76, mI77, mI78, mI79, mI80, mI81, mI82, mI83, mI84, mI85, mI86, mI87, mI88, mI89, mI90, mI91, mI92, mI93, mI94, mI95, mI96, mI97, mI98, mI99, mI100, mI101, mI102, mI103, mI104, mI105, mI106, mI107, mI108, mI109, mI110, mI111, mI112, mI113, mI114, mI115, mI116, mI117, mI118, mI119, mI120, mI121, mI122, mI123, mI124, mI125, mI126, mI127, mI128, mI129, mI130, mI131, mI132, mI133, mI134, mI135, mI136, mI137, mI138, mI139, mI140, mI141, mI142, mI143, mI144, mI145, mI146, mI147, mI148, mI149, mI150, mI151, mI152, mI153, mI154, mI155, mI156, mI157, mI158, mI159, mI160, mI161, mI162, mI163, mI164, mI165, mI166, mI167, mI168, mI169, mI170, mI171, mI172, mI173, mI174, mI175, mI176, mI177, mI178, mI179, mI180, mI181, mI182, mI183, mI184, mI185, mI186, mI187, mI188, mI189, mI190, mI191, mI192, mI193, mI194, mI195, mI196, mI197, mI198, mI199, mI200, mI201, mI202, mI203, mI204, mI205, mI206, mI207, mI208, mI209, mI210, mI211, mI212, mI213, mI214, mI215, mI216, mI217, mI218, mI219, mI220, mI221, mI222, mI223, mI224, mI225, mI226, mI227, mI228, mI229]
def mIO (q : mMI) : Prop := ownN[q.2.2.2.2.1]? = some q.1.cls ∧ (q.1.cls ≠ "java/lang/invoke/MethodHandle" ∧ q.1.cls ≠ "java/lang/invoke/VarHandle" ∧ (parseMethodDescriptor q.1.desc).map (fun d => d.parameters.length) = some q.2.2.2.2.2.1) ∧ plainName q.1.cls = true ∧ Cond.initialized q.1.cls ∈ lw_tbl ∧ (q.2.2.2.2.2.2 = 1 → Cond.static q.1 ∈ lw_tbl) ∧ (q.2.2.2.2.2.2 = 0 → Cond.instanceMethod q.1 ∈ lw_tbl ∧ (q.1.name ≠ "<init>" → Cond.selects q.1.cls q.1 q.1 ∈ lw_tbl))
def mIC (q : mMI) : Prop := Cond.code q.1 q.2.1 q.2.2.1 q.2.2.2.1 ∈ lw_tbl
theorem mI0_ok : mIO mI0 := ⟨rfl, by decide +kernel, by decide +kernel, List.mem_of_getElem? (i := 135) (by decide +kernel), fun h => absurd h (by decide +kernel), fun _ => ⟨List.mem_of_getElem? (i := 160) (by decide +kernel), fun h => absurd rfl h⟩⟩
theorem mI0_code : mIC mI0 := List.mem_of_getElem? (i := 161) (by decide +kernel)
theorem mI1_ok : mIO mI1 := ⟨rfl, by decide +kernel, by decide +kernel, List.mem_of_getElem? (i := 136) (by decide +kernel), fun h => absurd h (by decide +kernel), fun _ => ⟨List.mem_of_getElem? (i := 168) (by decide +kernel), fun h => absurd rfl h⟩⟩
theorem mI1_code : mIC mI1 := List.mem_of_getElem? (i := 169) (by decide +kernel)
theorem mI2_ok : mIO mI2 := ⟨rfl, by decide +kernel, by decide +kernel, List.mem_of_getElem? (i := 137) (by decide +kernel), fun h => absurd h (by decide +kernel), fun _ => ⟨List.mem_of_getElem? (i := 174) (by decide +kernel), fun h => absurd rfl h⟩⟩
theorem mI2_code : mIC mI2 := List.mem_of_getElem? (i := 175) (by decide +kernel)
theorem mI3_ok : mIO mI3 := ⟨rfl, by decide +kernel, by decide +kernel, List.mem_of_getElem? (i := 138) (by decide +kernel), fun h => absurd h (by decide +kernel), fun _ => ⟨List.mem_of_getElem? (i := 192) (by decide +kernel), fun h => absurd rfl h⟩⟩
theorem mI3_code : mIC mI3 := List.mem_of_getElem? (i := 193) (by decide +kernel)
theorem mI4_ok : mIO mI4 := ⟨rfl, by decide +kernel, by decide +kernel, List.mem_of_getElem? (i := 139) (by decide +kernel), fun h => absurd h (by decide +kernel), fun _ => ⟨List.mem_of_getElem? (i := 228) (by decide +kernel), fun h => absurd rfl h⟩⟩
theorem mI4_code : mIC mI4 := List.mem_of_getElem? (i := 229) (by decide +kernel)
theorem mI5_ok : mIO mI5 := ⟨rfl, by decide +kernel, by decide +kernel, List.mem_of_getElem? (i := 140) (by decide +kernel), fun h => absurd h (by decide +kernel), fun _ => ⟨List.mem_of_getElem? (i := 258) (by decide +kernel), fun h => absurd rfl h⟩⟩
theorem mI5_code : mIC mI5 := List.mem_of_getElem? (i := 259) (by decide +kernel)
theorem mI6_ok : mIO mI6 := ⟨rfl, by decide +kernel, by decide +kernel, List.mem_of_getElem? (i := 141) (by decide +kernel), fun h => absurd h (by decide +kernel), fun _ => ⟨List.mem_of_getElem? (i := 291) (by decide +kernel), fun h => absurd rfl h⟩⟩
theorem mI6_code : mIC mI6 := List.mem_of_getElem? (i := 292) (by decide +kernel)
theorem mI7_ok : mIO mI7 := ⟨rfl, by decide +kernel, by decide +kernel, List.mem_of_getElem? (i := 142) (by decide +kernel), fun h => absurd h (by decide +kernel), fun _ => ⟨List.mem_of_getElem? (i := 321) (by decide +kernel), fun h => absurd rfl h⟩⟩
theorem mI7_code : mIC mI7 := List.mem_of_getElem? (i := 322) (by decide +kernel)
theorem mI8_ok : mIO mI8 := ⟨rfl, by decide +kernel, by decide +kernel, List.mem_of_getElem? (i := 135) (by decide +kernel), fun h => absurd h (by decide +kernel), fun _ => ⟨List.mem_of_getElem? (i := 397) (by decide +kernel), fun _ => List.mem_of_getElem? (i := 398) (by decide +kernel)⟩⟩
theorem mI8_code : mIC mI8 := List.mem_of_getElem? (i := 399) (by decide +kernel)
theorem mI9_ok : mIO mI9 := ⟨rfl, by decide +kernel, by decide +kernel, List.mem_of_getElem? (i := 136) (by decide +kernel), fun h => absurd h (by decide +kernel), fun _ => ⟨List.mem_of_getElem? (i := 401) (by decide +kernel), fun _ => List.mem_of_getElem? (i := 402) (by decide +kernel)⟩⟩
theorem mI9_code : mIC mI9 := List.mem_of_getElem? (i := 403) (by decide +kernel)
theorem mI10_ok : mIO mI10 := ⟨rfl, by decide +kernel, by decide +kernel, List.mem_of_getElem? (i := 137) (by decide +kernel), fun h => absurd h (by decide +kernel), fun _ => ⟨List.mem_of_getElem? (i := 405) (by decide +kernel), fun _ => List.mem_of_getElem? (i := 406) (by decide +kernel)⟩⟩
theorem mI10_code : mIC mI10 := List.mem_of_getElem? (i := 407) (by decide +kernel)
theorem mI11_ok : mIO mI11 := ⟨rfl, by decide +kernel, by decide +kernel, List.mem_of_getElem? (i := 135) (by decide +kernel), fun h => absurd h (by decide +kernel), fun _ => ⟨List.mem_of_getElem? (i := 409) (by decide +kernel), fun _ => List.mem_of_getElem? (i := 410) (by decide +kernel)⟩⟩
theorem mI11_code : mIC mI11 := List.mem_of_getElem? (i := 411) (by decide +kernel)
theorem mI12_ok : mIO mI12 := ⟨rfl, by decide +kernel, by decide +kernel, List.mem_of_getElem? (i := 136) (by decide +kernel), fun h => absurd h (by decide +kernel), fun _ => ⟨List.mem_of_getElem? (i := 413) (by decide +kernel), fun _ => List.mem_of_getElem? (i := 414) (by decide +kernel)⟩⟩
theorem mI12_code : mIC mI12 := List.mem_of_getElem? (i := 415) (by decide +kernel)
theorem mI13_ok : mIO mI13 := ⟨rfl, by decide +kernel, by decide +kernel, List.mem_of_getElem? (i := 135) (by decide +kernel), fun h => absurd h (by decide +kernel), fun _ => ⟨List.mem_of_getElem? (i := 417) (by decide +kernel), fun _ => List.mem_of_getElem? (i := 418) (by decide +kernel)⟩⟩
theorem mI13_code : mIC mI13 := List.mem_of_getElem? (i := 419) (by decide +kernel)
theorem mI14_ok : mIO mI14 := ⟨rfl, by decide +kernel, by decide +kernel, List.mem_of_getElem? (i := 137) (by decide +kernel), fun h => absurd h (by decide +kernel), fun _ => ⟨List.mem_of_getElem? (i := 421) (by decide +kernel), fun _ => List.mem_of_getElem? (i := 422) (by decide +kernel)⟩⟩
theorem mI14_code : mIC mI14 := List.mem_of_getElem? (i := 423) (by decide +kernel)
theorem mI15_ok : mIO mI15 := ⟨rfl, by decide +kernel, by decide +kernel, List.mem_of_getElem? (i := 135) (by decide +kernel), fun h => absurd h (by decide +kernel), fun _ => ⟨List.mem_of_getElem? (i := 425) (by decide +kernel), fun _ => List.mem_of_getElem? (i := 426) (by decide +kernel)⟩⟩
theorem mI15_code : mIC mI15 := List.mem_of_getElem? (i := 427) (by decide +kernel)
theorem mI16_ok : mIO mI16 := ⟨rfl, by decide +kernel, by decide +kernel, List.mem_of_getElem? (i := 142) (by decide +kernel), fun h => absurd h (by decide +kernel), fun _ => ⟨List.mem_of_getElem? (i := 429) (by decide +kernel), fun _ => List.mem_of_getElem? (i := 430) (by decide +kernel)⟩⟩
theorem mI16_code : mIC mI16 := List.mem_of_getElem? (i := 431) (by decide +kernel)
theorem mI17_ok : mIO mI17 := ⟨rfl, by decide +kernel, by decide +kernel, List.mem_of_getElem? (i := 142) (by decide +kernel), fun h => absurd h (by decide +kernel), fun _ => ⟨List.mem_of_getElem? (i := 433) (by decide +kernel), fun _ => List.mem_of_getElem? (i := 434) (by decide +kernel)⟩⟩
theorem mI17_code : mIC mI17 := List.mem_of_getElem? (i := 435) (by decide +kernel)
theorem mI18_ok : mIO mI18 := ⟨rfl, by decide +kernel, by decide +kernel, List.mem_of_getElem? (i := 142) (by decide +kernel), fun h => absurd h (by decide +kernel), fun _ => ⟨List.mem_of_getElem? (i := 439) (by decide +kernel), fun _ => List.mem_of_getElem? (i := 0) (by decide +kernel)⟩⟩
theorem mI18_code : mIC mI18 := List.mem_of_getElem? (i := 440) (by decide +kernel)
theorem mI19_ok : mIO mI19 := ⟨rfl, by decide +kernel, by decide +kernel, List.mem_of_getElem? (i := 138) (by decide +kernel), fun h => absurd h (by decide +kernel), fun _ => ⟨List.mem_of_getElem? (i := 442) (by decide +kernel), fun _ => List.mem_of_getElem? (i := 443) (by decide +kernel)⟩⟩
theorem mI19_code : mIC mI19 := List.mem_of_getElem? (i := 444) (by decide +kernel)
theorem mI20_ok : mIO mI20 := ⟨rfl, by decide +kernel, by decide +kernel, List.mem_of_getElem? (i := 138) (by decide +kernel), fun h => absurd h (by decide +kernel), fun _ => ⟨List.mem_of_getElem? (i := 448) (by decide +kernel), fun _ => List.mem_of_getElem? (i := 449) (by decide +kernel)⟩⟩
theorem mI20_code : mIC mI20 := List.mem_of_getElem? (i := 450) (by decide +kernel)
theorem mI21_ok : mIO mI21 := ⟨rfl, by decide +kernel, by decide +kernel, List.mem_of_getElem? (i := 152) (by decide +kernel), fun h => absurd h (by decide +kernel), fun _ => ⟨List.mem_of_getElem? (i := 452) (by decide +kernel), fun h => absurd rfl h⟩⟩
theorem mI21_code : mIC mI21 := List.mem_of_getElem? (i := 453) (by decide +kernel)
theorem mI22_ok : mIO mI22 := ⟨rfl, by decide +kernel, by decide +kernel, List.mem_of_getElem? (i := 142) (by decide +kernel), fun h => absurd h (by decide +kernel), fun _ => ⟨List.mem_of_getElem? (i := 484) (by decide +kernel), fun _ => List.mem_of_getElem? (i := 1) (by decide +kernel)⟩⟩
theorem mI22_code : mIC mI22 := List.mem_of_getElem? (i := 485) (by decide +kernel)
theorem mI23_ok : mIO mI23 := ⟨rfl, by decide +kernel, by decide +kernel, List.mem_of_getElem? (i := 142) (by decide +kernel), fun h => absurd h (by decide +kernel), fun _ => ⟨List.mem_of_getElem? (i := 488) (by decide +kernel), fun _ => List.mem_of_getElem? (i := 2) (by decide +kernel)⟩⟩
theorem mI23_code : mIC mI23 := List.mem_of_getElem? (i := 489) (by decide +kernel)
theorem mI24_ok : mIO mI24 := ⟨rfl, by decide +kernel, by decide +kernel, List.mem_of_getElem? (i := 152) (by decide +kernel), fun _ => List.mem_of_getElem? (i := 492) (by decide +kernel), fun h => absurd h (by decide +kernel)⟩
theorem mI24_code : mIC mI24 := List.mem_of_getElem? (i := 493) (by decide +kernel)
theorem mI25_ok : mIO mI25 := ⟨rfl, by decide +kernel, by decide +kernel, List.mem_of_getElem? (i := 142) (by decide +kernel), fun h => absurd h (by decide +kernel), fun _ => ⟨List.mem_of_getElem? (i := 498) (by decide +kernel), fun _ => List.mem_of_getElem? (i := 3) (by decide +kernel)⟩⟩
theorem mI25_code : mIC mI25 := List.mem_of_getElem? (i := 499) (by decide +kernel)
theorem mI26_ok : mIO mI26 := ⟨rfl, by decide +kernel, by decide +kernel, List.mem_of_getElem? (i := 152) (by decide +kernel), fun _ => List.mem_of_getElem? (i := 501) (by decide +kernel), fun h => absurd h (by decide +kernel)⟩
theorem mI26_code : mIC mI26 := List.mem_of_getElem? (i := 502) (by decide +kernel)
theorem mI27_ok : mIO mI27 := ⟨rfl, by decide +kernel, by decide +kernel, List.mem_of_getElem? (i := 138) (by decide +kernel), fun h => absurd h (by decide +kernel), fun _ => ⟨List.mem_of_getElem? (i := 504) (by decide +kernel), fun _ => List.mem_of_getElem? (i := 505) (by decide +kernel)⟩⟩
theorem mI27_code : mIC mI27 := List.mem_of_getElem? (i := 506) (by decide +kernel)
theorem mI28_ok : mIO mI28 := ⟨rfl, by decide +kernel, by decide +kernel, List.mem_of_getElem? (i := 142) (by decide +kernel), fun h => absurd h (by decide +kernel), fun _ => ⟨List.mem_of_getElem? (i := 509) (by decide +kernel), fun _ => List.mem_of_getElem? (i := 4) (by decide +kernel)⟩⟩
theorem mI28_code : mIC mI28 := List.mem_of_getElem? (i := 510) (by decide +kernel)
theorem mI29_ok : mIO mI29 := ⟨rfl, by decide +kernel, by decide +kernel, List.mem_of_getElem? (i := 142) (by decide +kernel), fun h => absurd h (by decide +kernel), fun _ => ⟨List.mem_of_getElem? (i := 513) (by decide +kernel), fun _ => List.mem_of_getElem? (i := 5) (by decide +kernel)⟩⟩
theorem mI29_code : mIC mI29 := List.mem_of_getElem? (i := 514) (by decide +kernel)
theorem mI30_ok : mIO mI30 := ⟨rfl, by decide +kernel, by decide +kernel, List.mem_of_getElem? (i := 138) (by decide +kernel), fun h => absurd h (by decide +kernel), fun _ => ⟨List.mem_of_getElem? (i := 516) (by decide +kernel), fun _ => List.mem_of_getElem? (i := 517) (by decide +kernel)⟩⟩
theorem mI30_code : mIC mI30 := List.mem_of_getElem? (i := 518) (by decide +kernel)
theorem mI31_ok : mIO mI31 := ⟨rfl, by decide +kernel, by decide +kernel, List.mem_of_getElem? (i := 138) (by decide +kernel), fun h => absurd h (by decide +kernel), fun _ => ⟨List.mem_of_getElem? (i := 520) (by decide +kernel), fun _ => List.mem_of_getElem? (i := 521) (by decide +kernel)⟩⟩
theorem mI31_code : mIC mI31 := List.mem_of_getElem? (i := 522) (by decide +kernel)
theorem mI32_ok : mIO mI32 := ⟨rfl, by decide +kernel, by decide +kernel, List.mem_of_getElem? (i := 142) (by decide +kernel), fun h => absurd h (by decide +kernel), fun _ => ⟨List.mem_of_getElem? (i := 525) (by decide +kernel), fun _ => List.mem_of_getElem? (i := 6) (by decide +kernel)⟩⟩
theorem mI32_code : mIC mI32 := List.mem_of_getElem? (i := 526) (by decide +kernel)
theorem mI33_ok : mIO mI33 := ⟨rfl, by decide +kernel, by decide +kernel, List.mem_of_getElem? (i := 142) (by decide +kernel), fun h => absurd h (by decide +kernel), fun _ => ⟨List.mem_of_getElem? (i := 529) (by decide +kernel), fun _ => List.mem_of_getElem? (i := 7) (by decide +kernel)⟩⟩
theorem mI33_code : mIC mI33 := List.mem_of_getElem? (i := 530) (by decide +kernel)
theorem mI34_ok : mIO mI34 := ⟨rfl, by decide +kernel, by decide +kernel, List.mem_of_getElem? (i := 142) (by decide +kernel), fun h => absurd h (by decide +kernel), fun _ => ⟨List.mem_of_getElem? (i := 533) (by decide +kernel), fun _ => List.mem_of_getElem? (i := 8) (by decide +kernel)⟩⟩
theorem mI34_code : mIC mI34 := List.mem_of_getElem? (i := 534) (by decide +kernel)
theorem mI35_ok : mIO mI35 := ⟨rfl, by decide +kernel, by decide +kernel, List.mem_of_getElem? (i := 142) (by decide +kernel), fun h => absurd h (by decide +kernel), fun _ => ⟨List.mem_of_getElem? (i := 537) (by decide +kernel), fun _ => List.mem_of_getElem? (i := 9) (by decide +kernel)⟩⟩
theorem mI35_code : mIC mI35 := List.mem_of_getElem? (i := 538) (by decide +kernel)
theorem mI36_ok : mIO mI36 := ⟨rfl, by decide +kernel, by decide +kernel, List.mem_of_getElem? (i := 142) (by decide +kernel), fun h => absurd h (by decide +kernel), fun _ => ⟨List.mem_of_getElem? (i := 541) (by decide +kernel), fun _ => List.mem_of_getElem? (i := 10) (by decide +kernel)⟩⟩
theorem mI36_code : mIC mI36 := List.mem_of_getElem? (i := 542) (by decide +kernel)
theorem mI37_ok : mIO mI37 := ⟨rfl, by decide +kernel, by decide +kernel, List.mem_of_getElem? (i := 142) (by decide +kernel), fun h => absurd h (by decide +kernel), fun _ => ⟨List.mem_of_getElem? (i := 545) (by decide +kernel), fun _ => List.mem_of_getElem? (i := 11) (by decide +kernel)⟩⟩
theorem mI37_code : mIC mI37 := List.mem_of_getElem? (i := 546) (by decide +kernel)
theorem mI38_ok : mIO mI38 := ⟨rfl, by decide +kernel, by decide +kernel, List.mem_of_getElem? (i := 142) (by decide +kernel), fun h => absurd h (by decide +kernel), fun _ => ⟨List.mem_of_getElem? (i := 549) (by decide +kernel), fun _ => List.mem_of_getElem? (i := 12) (by decide +kernel)⟩⟩
theorem mI38_code : mIC mI38 := List.mem_of_getElem? (i := 550) (by decide +kernel)
theorem mI39_ok : mIO mI39 := ⟨rfl, by decide +kernel, by decide +kernel, List.mem_of_getElem? (i := 142) (by decide +kernel), fun h => absurd h (by decide +kernel), fun _ => ⟨List.mem_of_getElem? (i := 555) (by decide +kernel), fun _ => List.mem_of_getElem? (i := 13) (by decide +kernel)⟩⟩
theorem mI39_code : mIC mI39 := List.mem_of_getElem? (i := 556) (by decide +kernel)
theorem mI40_ok : mIO mI40 := ⟨rfl, by decide +kernel, by decide +kernel, List.mem_of_getElem? (i := 152) (by decide +kernel), fun _ => List.mem_of_getElem? (i := 558) (by decide +kernel), fun h => absurd h (by decide +kernel)⟩
theorem mI40_code : mIC mI40 := List.mem_of_getElem? (i := 559) (by decide +kernel)
theorem mI41_ok : mIO mI41 := ⟨rfl, by decide +kernel, by decide +kernel, List.mem_of_getElem? (i := 142) (by decide +kernel), fun h => absurd h (by decide +kernel), fun _ => ⟨List.mem_of_getElem? (i := 562) (by decide +kernel), fun _ => List.mem_of_getElem? (i := 14) (by decide +kernel)⟩⟩
theorem mI41_code : mIC mI41 := List.mem_of_getElem? (i := 563) (by decide +kernel)
theorem mI42_ok : mIO mI42 := ⟨rfl, by decide +kernel, by decide +kernel, List.mem_of_getElem? (i := 153) (by decide +kernel), fun h => absurd h (by decide +kernel), fun _ => ⟨List.mem_of_getElem? (i := 567) (by decide +kernel), fun h => absurd rfl h⟩⟩
theorem mI42_code : mIC mI42 := List.mem_of_getElem? (i := 568) (by decide +kernel)
theorem mI43_ok : mIO mI43 := ⟨rfl, by decide +kernel, by decide +kernel, List.mem_of_getElem? (i := 154) (by decide +kernel), fun h => absurd h (by decide +kernel), fun _ => ⟨List.mem_of_getElem? (i := 586) (by decide +kernel), fun h => absurd rfl h⟩⟩
theorem mI43_code : mIC mI43 := List.mem_of_getElem? (i := 587) (by decide +kernel)
theorem mI44_ok : mIO mI44 := ⟨rfl, by decide +kernel, by decide +kernel, List.mem_of_getElem? (i := 142) (by decide +kernel), fun h => absurd h (by decide +kernel), fun _ => ⟨List.mem_of_getElem? (i := 604) (by decide +kernel), fun _ => List.mem_of_getElem? (i := 15) (by decide +kernel)⟩⟩
theorem mI44_code : mIC mI44 := List.mem_of_getElem? (i := 605) (by decide +kernel)
theorem mI45_ok : mIO mI45 := ⟨rfl, by decide +kernel, by decide +kernel, List.mem_of_getElem? (i := 138) (by decide +kernel), fun h => absurd h (by decide +kernel), fun _ => ⟨List.mem_of_getElem? (i := 607) (by decide +kernel), fun _ => List.mem_of_getElem? (i := 608) (by decide +kernel)⟩⟩
theorem mI45_code : mIC mI45 := List.mem_of_getElem? (i := 609) (by decide +kernel)
theorem mI46_ok : mIO mI46 := ⟨rfl, by decide +kernel, by decide +kernel, List.mem_of_getElem? (i := 142) (by decide +kernel), fun h => absurd h (by decide +kernel), fun _ => ⟨List.mem_of_getElem? (i := 612) (by decide +kernel), fun _ => List.mem_of_getElem? (i := 16) (by decide +kernel)⟩⟩
theorem mI46_code : mIC mI46 := List.mem_of_getElem? (i := 613) (by decide +kernel)
theorem mI47_ok : mIO mI47 := ⟨rfl, by decide +kernel, by decide +kernel, List.mem_of_getElem? (i := 142) (by decide +kernel), fun h => absurd h (by decide +kernel), fun _ => ⟨List.mem_of_getElem? (i := 616) (by decide +kernel), fun _ => List.mem_of_getElem? (i := 17) (by decide +kernel)⟩⟩
theorem mI47_code : mIC mI47 := List.mem_of_getElem? (i := 617) (by decide +kernel)
theorem mI48_ok : mIO mI48 := ⟨rfl, by decide +kernel, by decide +kernel, List.mem_of_getElem? (i := 142) (by decide +kernel), fun h => absurd h (by decide +kernel), fun _ => ⟨List.mem_of_getElem? (i := 620) (by decide +kernel), fun _ => List.mem_of_getElem? (i := 18) (by decide +kernel)⟩⟩
theorem mI48_code : mIC mI48 := List.mem_of_getElem? (i := 621) (by decide +kernel)
theorem mI49_ok : mIO mI49 := ⟨rfl, by decide +kernel, by decide +kernel, List.mem_of_getElem? (i := 142) (by decide +kernel), fun h => absurd h (by decide +kernel), fun _ => ⟨List.mem_of_getElem? (i := 623) (by decide +kernel), fun _ => List.mem_of_getElem? (i := 624) (by decide +kernel)⟩⟩
theorem mI49_code : mIC mI49 := List.mem_of_getElem? (i := 625) (by decide +kernel)
theorem mI50_ok : mIO mI50 := ⟨rfl, by decide +kernel, by decide +kernel, List.mem_of_getElem? (i := 135) (by decide +kernel), fun h => absurd h (by decide +kernel), fun _ => ⟨List.mem_of_getElem? (i := 627) (by decide +kernel), fun _ => List.mem_of_getElem? (i := 628) (by decide +kernel)⟩⟩
theorem mI50_code : mIC mI50 := List.mem_of_getElem? (i := 629) (by decide +kernel)
theorem mI51_ok : mIO mI51 := ⟨rfl, by decide +kernel, by decide +kernel, List.mem_of_getElem? (i := 142) (by decide +kernel), fun h => absurd h (by decide +kernel), fun _ => ⟨List.mem_of_getElem? (i := 631) (by decide +kernel), fun _ => List.mem_of_getElem? (i := 632) (by decide +kernel)⟩⟩
theorem mI51_code : mIC mI51 := List.mem_of_getElem? (i := 633) (by decide +kernel)
theorem mI52_ok : mIO mI52 := ⟨rfl, by decide +kernel, by decide +kernel, List.mem_of_getElem? (i := 142) (by decide +kernel), fun h => absurd h (by decide +kernel), fun _ => ⟨List.mem_of_getElem? (i := 635) (by decide +kernel), fun _ => List.mem_of_getElem? (i := 636) (by decide +kernel)⟩⟩
theorem mI52_code : mIC mI52 := List.mem_of_getElem? (i := 637) (by decide +kernel)
theorem mI53_ok : mIO mI53 := ⟨rfl, by decide +kernel, by decide +kernel, List.mem_of_getElem? (i := 142) (by decide +kernel), fun h => absurd h (by decide +kernel), fun _ => ⟨List.mem_of_getElem? (i := 639) (by decide +kernel), fun _ => List.mem_of_getElem? (i := 640) (by decide +kernel)⟩⟩
theorem mI53_code : mIC mI53 := List.mem_of_getElem? (i := 641) (by decide +kernel)
theorem mI54_ok : mIO mI54 := ⟨rfl, by decide +kernel, by decide +kernel, List.mem_of_getElem? (i := 135) (by decide +kernel), fun h => absurd h (by decide +kernel), fun _ => ⟨List.mem_of_getElem? (i := 649) (by decide +kernel), fun _ => List.mem_of_getElem? (i := 650) (by decide +kernel)⟩⟩
theorem mI54_code : mIC mI54 := List.mem_of_getElem? (i := 651) (by decide +kernel)
theorem mI55_ok : mIO mI55 := ⟨rfl, by decide +kernel, by decide +kernel, List.mem_of_getElem? (i := 139) (by decide +kernel), fun h => absurd h (by decide +kernel), fun _ => ⟨List.mem_of_getElem? (i := 653) (by decide +kernel), fun _ => List.mem_of_getElem? (i := 654) (by decide +kernel)⟩⟩
theorem mI55_code : mIC mI55 := List.mem_of_getElem? (i := 655) (by decide +kernel)
theorem mI56_ok : mIO mI56 := ⟨rfl, by decide +kernel, by decide +kernel, List.mem_of_getElem? (i := 137) (by decide +kernel), fun h => absurd h (by decide +kernel), fun _ => ⟨List.mem_of_getElem? (i := 657) (by decide +kernel), fun _ => List.mem_of_getElem? (i := 658) (by decide +kernel)⟩⟩
theorem mI56_code : mIC mI56 := List.mem_of_getElem? (i := 659) (by decide +kernel)
theorem mI57_ok : mIO mI57 := ⟨rfl, by decide +kernel, by decide +kernel, List.mem_of_getElem? (i := 138) (by decide +kernel), fun h => absurd h (by decide +kernel), fun _ => ⟨List.mem_of_getElem? (i := 661) (by decide +kernel), fun _ => List.mem_of_getElem? (i := 662) (by decide +kernel)⟩⟩
theorem mI57_code : mIC mI57 := List.mem_of_getElem? (i := 663) (by decide +kernel)
theorem mI58_ok : mIO mI58 := ⟨rfl, by decide +kernel, by decide +kernel, List.mem_of_getElem? (i := 139) (by decide +kernel), fun h => absurd h (by decide +kernel), fun _ => ⟨List.mem_of_getElem? (i := 666) (by decide +kernel), fun _ => List.mem_of_getElem? (i := 19) (by decide +kernel)⟩⟩
theorem mI58_code : mIC mI58 := List.mem_of_getElem? (i := 667) (by decide +kernel)
theorem mI59_ok : mIO mI59 := ⟨rfl, by decide +kernel, by decide +kernel, List.mem_of_getElem? (i := 139) (by decide +kernel), fun h => absurd h (by decide +kernel), fun _ => ⟨List.mem_of_getElem? (i := 670) (by decide +kernel), fun _ => List.mem_of_getElem? (i := 20) (by decide +kernel)⟩⟩
theorem mI59_code : mIC mI59 := List.mem_of_getElem? (i := 671) (by decide +kernel)
theorem mI60_ok : mIO mI60 := ⟨rfl, by decide +kernel, by decide +kernel, List.mem_of_getElem? (i := 139) (by decide +kernel), fun h => absurd h (by decide +kernel), fun _ => ⟨List.mem_of_getElem? (i := 674) (by decide +kernel), fun _ => List.mem_of_getElem? (i := 21) (by decide +kernel)⟩⟩
theorem mI60_code : mIC mI60 := List.mem_of_getElem? (i := 675) (by decide +kernel)
theorem mI61_ok : mIO mI61 := ⟨rfl, by decide +kernel, by decide +kernel, List.mem_of_getElem? (i := 136) (by decide +kernel), fun h => absurd h (by decide +kernel), fun _ => ⟨List.mem_of_getElem? (i := 677) (by decide +kernel), fun _ => List.mem_of_getElem? (i := 678) (by decide +kernel)⟩⟩
theorem mI61_code : mIC mI61 := List.mem_of_getElem? (i := 679) (by decide +kernel)
theorem mI62_ok : mIO mI62 := ⟨rfl, by decide +kernel, by decide +kernel, List.mem_of_getElem? (i := 139) (by decide +kernel), fun h => absurd h (by decide +kernel), fun _ => ⟨List.mem_of_getElem? (i := 683) (by decide +kernel), fun _ => List.mem_of_getElem? (i := 22) (by decide +kernel)⟩⟩
theorem mI62_code : mIC mI62 := List.mem_of_getElem? (i := 684) (by decide +kernel)
theorem mI63_ok : mIO mI63 := ⟨rfl, by decide +kernel, by decide +kernel, List.mem_of_getElem? (i := 139) (by decide +kernel), fun h => absurd h (by decide +kernel), fun _ => ⟨List.mem_of_getElem? (i := 687) (by decide +kernel), fun _ => List.mem_of_getElem? (i := 23) (by decide +kernel)⟩⟩
theorem mI63_code : mIC mI63 := List.mem_of_getElem? (i := 688) (by decide +kernel)
theorem mI64_ok : mIO mI64 := ⟨rfl, by decide +kernel, by decide +kernel, List.mem_of_getElem? (i := 139) (by decide +kernel), fun h => absurd h (by decide +kernel), fun _ => ⟨List.mem_of_getElem? (i := 691) (by decide +kernel), fun _ => List.mem_of_getElem? (i := 24) (by decide +kernel)⟩⟩
theorem mI64_code : mIC mI64 := List.mem_of_getElem? (i := 692) (by decide +kernel)
theorem mI65_ok : mIO mI65 := ⟨rfl, by decide +kernel, by decide +kernel, List.mem_of_getElem? (i := 139) (by decide +kernel), fun h => absurd h (by decide +kernel), fun _ => ⟨List.mem_of_getElem? (i := 695) (by decide +kernel), fun _ => List.mem_of_getElem? (i := 25) (by decide +kernel)⟩⟩
theorem mI65_code : mIC mI65 := List.mem_of_getElem? (i := 696) (by decide +kernel)
theorem mI66_ok : mIO mI66 := ⟨rfl, by decide +kernel, by decide +kernel, List.mem_of_getElem? (i := 139) (by decide +kernel), fun h => absurd h (by decide +kernel), fun _ => ⟨List.mem_of_getElem? (i := 699) (by decide +kernel), fun _ => List.mem_of_getElem? (i := 26) (by decide +kernel)⟩⟩
theorem mI66_code : mIC mI66 := List.mem_of_getElem? (i := 700) (by decide +kernel)
theorem mI67_ok : mIO mI67 := ⟨rfl, by decide +kernel, by decide +kernel, List.mem_of_getElem? (i := 138) (by decide +kernel), fun h => absurd h (by decide +kernel), fun _ => ⟨List.mem_of_getElem? (i := 704) (by decide +kernel), fun _ => List.mem_of_getElem? (i := 705) (by decide +kernel)⟩⟩
theorem mI67_code : mIC mI67 := List.mem_of_getElem? (i := 706) (by decide +kernel)
theorem mI68_ok : mIO mI68 := ⟨rfl, by decide +kernel, by decide +kernel, List.mem_of_getElem? (i := 139) (by decide +kernel), fun h => absurd h (by decide +kernel), fun _ => ⟨List.mem_of_getElem? (i := 710) (by decide +kernel), fun _ => List.mem_of_getElem? (i := 27) (by decide +kernel)⟩⟩
theorem mI68_code : mIC mI68 := List.mem_of_getElem? (i := 711) (by decide +kernel)
theorem mI69_ok : mIO mI69 := ⟨rfl, by decide +kernel, by decide +kernel, List.mem_of_getElem? (i := 139) (by decide +kernel), fun h => absurd h (by decide +kernel), fun _ => ⟨List.mem_of_getElem? (i := 714) (by decide +kernel), fun _ => List.mem_of_getElem? (i := 28) (by decide +kernel)⟩⟩
theorem mI69_code : mIC mI69 := List.mem_of_getElem? (i := 715) (by decide +kernel)
theorem mI70_ok : mIO mI70 := ⟨rfl, by decide +kernel, by decide +kernel, List.mem_of_getElem? (i := 139) (by decide +kernel), fun h => absurd h (by decide +kernel), fun _ => ⟨List.mem_of_getElem? (i := 718) (by decide +kernel), fun _ => List.mem_of_getElem? (i := 29) (by decide +kernel)⟩⟩
theorem mI70_code : mIC mI70 := List.mem_of_getElem? (i := 719) (by decide +kernel)
theorem mI71_ok : mIO mI71 := ⟨rfl, by decide +kernel, by decide +kernel, List.mem_of_getElem? (i := 139) (by decide +kernel), fun h => absurd h (by decide +kernel), fun _ => ⟨List.mem_of_getElem? (i := 722) (by decide +kernel), fun _ => List.mem_of_getElem? (i := 30) (by decide +kernel)⟩⟩
theorem mI71_code : mIC mI71 := List.mem_of_getElem? (i := 723) (by decide +kernel)
theorem mI72_ok : mIO mI72 := ⟨rfl, by decide +kernel, by decide +kernel, List.mem_of_getElem? (i := 139) (by decide +kernel), fun h => absurd h (by decide +kernel), fun _ => ⟨List.mem_of_getElem? (i := 726) (by decide +kernel), fun _ => List.mem_of_getElem? (i := 31) (by decide +kernel)⟩⟩
theorem mI72_code : mIC mI72 := List.mem_of_getElem? (i := 727) (by decide +kernel)
theorem mI73_ok : mIO mI73 := ⟨rfl, by decide +kernel, by decide +kernel, List.mem_of_getElem? (i := 139) (by decide +kernel), fun h => absurd h (by decide +kernel), fun _ => ⟨List.mem_of_getElem? (i := 730) (by decide +kernel), fun _ => List.mem_of_getElem? (i := 32) (by decide +kernel)⟩⟩
theorem mI73_code : mIC mI73 := List.mem_of_getElem? (i := 731) (by decide +kernel)
theorem mI74_ok : mIO mI74 := ⟨rfl, by decide +kernel, by decide +kernel, List.mem_of_getElem? (i := 139) (by decide +kernel), fun h => absurd h (by decide +kernel), fun _ => ⟨List.mem_of_getElem? (i := 734) (by decide +kernel), fun _ => List.mem_of_getElem? (i := 33) (by decide +kernel)⟩⟩
theorem mI74_code : mIC mI74 := List.mem_of_getElem? (i := 735) (by decide +kernel)
theorem mI75_ok : mIO mI75 := ⟨rfl, by decide +kernel, by decide +kernel, List.mem_of_getElem? (i := 139) (by decide +kernel), fun h => absurd h (by decide +kernel), fun _ => ⟨List.mem_of_getElem? (i := 738) (by decide +kernel), fun _ => List.mem_of_getElem? (i := 34) (by decide +kernel)⟩⟩
theorem mI75_code : mIC mI75 := List.mem_of_getElem? (i := 739) (by decide +kernel)
theorem mI76_ok : mIO mI76 := ⟨rfl, by decide +kernel, by decide +kernel, List.mem_of_getElem? (i := 138) (by decide +kernel), fun h => absurd h (by decide +kernel), fun _ => ⟨List.mem_of_getElem? (i := 741) (by decide +kernel), fun _ => List.mem_of_getElem? (i := 742) (by decide +kernel)⟩⟩
theorem mI76_code : mIC mI76 := List.mem_of_getElem? (i := 743) (by decide +kernel)
theorem mI77_ok : mIO mI77 := ⟨rfl, by decide +kernel, by decide +kernel, List.mem_of_getElem? (i := 139) (by decide +kernel), fun _ => List.mem_of_getElem? (i := 746) (by decide +kernel), fun h => absurd h (by decide +kernel)⟩
theorem mI77_code : mIC mI77 := List.mem_of_getElem? (i := 747) (by decide +kernel)
theorem mI78_ok : mIO mI78 := ⟨rfl, by decide +kernel, by decide +kernel, List.mem_of_getElem? (i := 139) (by decide +kernel), fun h => absurd h (by decide +kernel), fun _ => ⟨List.mem_of_getElem? (i := 750) (by decide +kernel), fun _ => List.mem_of_getElem? (i := 35) (by decide +kernel)⟩⟩
theorem mI78_code : mIC mI78 := List.mem_of_getElem? (i := 751) (by decide +kernel)
theorem mI79_ok : mIO mI79 := ⟨rfl, by decide +kernel, by decide +kernel, List.mem_of_getElem? (i := 139) (by decide +kernel), fun h => absurd h (by decide +kernel), fun _ => ⟨List.mem_of_getElem? (i := 754) (by decide +kernel), fun _ => List.mem_of_getElem? (i := 36) (by decide +kernel)⟩⟩
theorem mI79_code : mIC mI79 := List.mem_of_getElem? (i := 755) (by decide +kernel)
theorem mI80_ok : mIO mI80 := ⟨rfl, by decide +kernel, by decide +kernel, List.mem_of_getElem? (i := 139) (by decide +kernel), fun h => absurd h (by decide +kernel), fun _ => ⟨List.mem_of_getElem? (i := 758) (by decide +kernel), fun _ => List.mem_of_getElem? (i := 37) (by decide +kernel)⟩⟩
theorem mI80_code : mIC mI80 := List.mem_of_getElem? (i := 759) (by decide +kernel)
theorem mI81_ok : mIO mI81 := ⟨rfl, by decide +kernel, by decide +kernel, List.mem_of_getElem? (i := 144) (by decide +kernel), fun _ => List.mem_of_getElem? (i := 761) (by decide +kernel), fun h => absurd h (by decide +kernel)⟩
theorem mI81_code : mIC mI81 := List.mem_of_getElem? (i := 762) (by decide +kernel)
theorem mI82_ok : mIO mI82 := ⟨rfl, by decide +kernel, by decide +kernel, List.mem_of_getElem? (i := 138) (by decide +kernel), fun h => absurd h (by decide +kernel), fun _ => ⟨List.mem_of_getElem? (i := 767) (by decide +kernel), fun _ => List.mem_of_getElem? (i := 768) (by decide +kernel)⟩⟩
theorem mI82_code : mIC mI82 := List.mem_of_getElem? (i := 769) (by decide +kernel)
theorem mI83_ok : mIO mI83 := ⟨rfl, by decide +kernel, by decide +kernel, List.mem_of_getElem? (i := 139) (by decide +kernel), fun h => absurd h (by decide +kernel), fun _ => ⟨List.mem_of_getElem? (i := 772) (by decide +kernel), fun _ => List.mem_of_getElem? (i := 38) (by decide +kernel)⟩⟩
theorem mI83_code : mIC mI83 := List.mem_of_getElem? (i := 773) (by decide +kernel)
theorem mI84_ok : mIO mI84 := ⟨rfl, by decide +kernel, by decide +kernel, List.mem_of_getElem? (i := 139) (by decide +kernel), fun h => absurd h (by decide +kernel), fun _ => ⟨List.mem_of_getElem? (i := 776) (by decide +kernel), fun _ => List.mem_of_getElem? (i := 39) (by decide +kernel)⟩⟩
theorem mI84_code : mIC mI84 := List.mem_of_getElem? (i := 777) (by decide +kernel)
theorem mI85_ok : mIO mI85 := ⟨rfl, by decide +kernel, by decide +kernel, List.mem_of_getElem? (i := 139) (by decide +kernel), fun h => absurd h (by decide +kernel), fun _ => ⟨List.mem_of_getElem? (i := 780) (by decide +kernel), fun _ => List.mem_of_getElem? (i := 40) (by decide +kernel)⟩⟩
theorem mI85_code : mIC mI85 := List.mem_of_getElem? (i := 781) (by decide +kernel)
theorem mI86_ok : mIO mI86 := ⟨rfl, by decide +kernel, by decide +kernel, List.mem_of_getElem? (i := 139) (by decide +kernel), fun h => absurd h (by decide +kernel), fun _ => ⟨List.mem_of_getElem? (i := 784) (by decide +kernel), fun _ => List.mem_of_getElem? (i := 41) (by decide +kernel)⟩⟩
theorem mI86_code : mIC mI86 := List.mem_of_getElem? (i := 785) (by decide +kernel)
theorem mI87_ok : mIO mI87 := ⟨rfl, by decide +kernel, by decide +kernel, List.mem_of_getElem? (i := 139) (by decide +kernel), fun h => absurd h (by decide +kernel), fun _ => ⟨List.mem_of_getElem? (i := 788) (by decide +kernel), fun _ => List.mem_of_getElem? (i := 42) (by decide +kernel)⟩⟩
theorem mI87_code : mIC mI87 := List.mem_of_getElem? (i := 789) (by decide +kernel)
theorem mI88_ok : mIO mI88 := ⟨rfl, by decide +kernel, by decide +kernel, List.mem_of_getElem? (i := 139) (by decide +kernel), fun h => absurd h (by decide +kernel), fun _ => ⟨List.mem_of_getElem? (i := 792) (by decide +kernel), fun _ => List.mem_of_getElem? (i := 43) (by decide +kernel)⟩⟩
theorem mI88_code : mIC mI88 := List.mem_of_getElem? (i := 793) (by decide +kernel)
theorem mI89_ok : mIO mI89 := ⟨rfl, by decide +kernel, by decide +kernel, List.mem_of_getElem? (i := 139) (by decide +kernel), fun h => absurd h (by decide +kernel), fun _ => ⟨List.mem_of_getElem? (i := 796) (by decide +kernel), fun _ => List.mem_of_getElem? (i := 44) (by decide +kernel)⟩⟩
theorem mI89_code : mIC mI89 := List.mem_of_getElem? (i := 797) (by decide +kernel)
theorem mI90_ok : mIO mI90 := ⟨rfl, by decide +kernel, by decide +kernel, List.mem_of_getElem? (i := 139) (by decide +kernel), fun h => absurd h (by decide +kernel), fun _ => ⟨List.mem_of_getElem? (i := 800) (by decide +kernel), fun _ => List.mem_of_getElem? (i := 45) (by decide +kernel)⟩⟩
theorem mI90_code : mIC mI90 := List.mem_of_getElem? (i := 801) (by decide +kernel)
theorem mI91_ok : mIO mI91 := ⟨rfl, by decide +kernel, by decide +kernel, List.mem_of_getElem? (i := 139) (by decide +kernel), fun h => absurd h (by decide +kernel), fun _ => ⟨List.mem_of_getElem? (i := 804) (by decide +kernel), fun _ => List.mem_of_getElem? (i := 46) (by decide +kernel)⟩⟩
theorem mI91_code : mIC mI91 := List.mem_of_getElem? (i := 805) (by decide +kernel)
theorem mI92_ok : mIO mI92 := ⟨rfl, by decide +kernel, by decide +kernel, List.mem_of_getElem? (i := 139) (by decide +kernel), fun _ => List.mem_of_getElem? (i := 807) (by decide +kernel), fun h => absurd h (by decide +kernel)⟩
theorem mI92_code : mIC mI92 := List.mem_of_getElem? (i := 808) (by decide +kernel)
theorem mI93_ok : mIO mI93 := ⟨rfl, by decide +kernel, by decide +kernel, List.mem_of_getElem? (i := 139) (by decide +kernel), fun h => absurd h (by decide +kernel), fun _ => ⟨List.mem_of_getElem? (i := 811) (by decide +kernel), fun _ => List.mem_of_getElem? (i := 47) (by decide +kernel)⟩⟩
theorem mI93_code : mIC mI93 := List.mem_of_getElem? (i := 812) (by decide +kernel)
theorem mI94_ok : mIO mI94 := ⟨rfl, by decide +kernel, by decide +kernel, List.mem_of_getElem? (i := 138) (by decide +kernel), fun h => absurd h (by decide +kernel), fun _ => ⟨List.mem_of_getElem? (i := 814) (by decide +kernel), fun _ => List.mem_of_getElem? (i := 815) (by decide +kernel)⟩⟩
theorem mI94_code : mIC mI94 := List.mem_of_getElem? (i := 816) (by decide +kernel)
theorem mI95_ok : mIO mI95 := ⟨rfl, by decide +kernel, by decide +kernel, List.mem_of_getElem? (i := 138) (by decide +kernel), fun h => absurd h (by decide +kernel), fun _ => ⟨List.mem_of_getElem? (i := 818) (by decide +kernel), fun _ => List.mem_of_getElem? (i := 819) (by decide +kernel)⟩⟩
theorem mI95_code : mIC mI95 := List.mem_of_getElem? (i := 820) (by decide +kernel)
theorem mI96_ok : mIO mI96 := ⟨rfl, by decide +kernel, by decide +kernel, List.mem_of_getElem? (i := 139) (by decide +kernel), fun h => absurd h (by decide +kernel), fun _ => ⟨List.mem_of_getElem? (i := 892) (by decide +kernel), fun _ => List.mem_of_getElem? (i := 893) (by decide +kernel)⟩⟩
theorem mI96_code : mIC mI96 := List.mem_of_getElem? (i := 894) (by decide +kernel)
theorem mI97_ok : mIO mI97 := ⟨rfl, by decide +kernel, by decide +kernel, List.mem_of_getElem? (i := 141) (by decide +kernel), fun h => absurd h (by decide +kernel), fun _ => ⟨List.mem_of_getElem? (i := 912) (by decide +kernel), fun _ => List.mem_of_getElem? (i := 913) (by decide +kernel)⟩⟩
theorem mI97_code : mIC mI97 := List.mem_of_getElem? (i := 914) (by decide +kernel)
theorem mI98_ok : mIO mI98 := ⟨rfl, by decide +kernel, by decide +kernel, List.mem_of_getElem? (i := 140) (by decide +kernel), fun h => absurd h (by decide +kernel), fun _ => ⟨List.mem_of_getElem? (i := 916) (by decide +kernel), fun _ => List.mem_of_getElem? (i := 917) (by decide +kernel)⟩⟩
theorem mI98_code : mIC mI98 := List.mem_of_getElem? (i := 918) (by decide +kernel)
theorem mI99_ok : mIO mI99 := ⟨rfl, by decide +kernel, by decide +kernel, List.mem_of_getElem? (i := 140) (by decide +kernel), fun h => absurd h (by decide +kernel), fun _ => ⟨List.mem_of_getElem? (i := 921) (by decide +kernel), fun _ => List.mem_of_getElem? (i := 49) (by decide +kernel)⟩⟩
theorem mI99_code : mIC mI99 := List.mem_of_getElem? (i := 922) (by decide +kernel)
theorem mI100_ok : mIO mI100 := ⟨rfl, by decide +kernel, by decide +kernel, List.mem_of_getElem? (i := 138) (by decide +kernel), fun h => absurd h (by decide +kernel), fun _ => ⟨List.mem_of_getElem? (i := 925) (by decide +kernel), fun _ => List.mem_of_getElem? (i := 926) (by decide +kernel)⟩⟩
theorem mI100_code : mIC mI100 := List.mem_of_getElem? (i := 927) (by decide +kernel)
theorem mI101_ok : mIO mI101 := ⟨rfl, by decide +kernel, by decide +kernel, List.mem_of_getElem? (i := 141) (by decide +kernel), fun h => absurd h (by decide +kernel), fun _ => ⟨List.mem_of_getElem? (i := 930) (by decide +kernel), fun _ => List.mem_of_getElem? (i := 50) (by decide +kernel)⟩⟩
theorem mI101_code : mIC mI101 := List.mem_of_getElem? (i := 931) (by decide +kernel)
theorem mI102_ok : mIO mI102 := ⟨rfl, by decide +kernel, by decide +kernel, List.mem_of_getElem? (i := 141) (by decide +kernel), fun h => absurd h (by decide +kernel), fun _ => ⟨List.mem_of_getElem? (i := 935) (by decide +kernel), fun _ => List.mem_of_getElem? (i := 51) (by decide +kernel)⟩⟩
theorem mI102_code : mIC mI102 := List.mem_of_getElem? (i := 936) (by decide +kernel)
theorem mI103_ok : mIO mI103 := ⟨rfl, by decide +kernel, by decide +kernel, List.mem_of_getElem? (i := 140) (by decide +kernel), fun h => absurd h (by decide +kernel), fun _ => ⟨List.mem_of_getElem? (i := 939) (by decide +kernel), fun _ => List.mem_of_getElem? (i := 940) (by decide +kernel)⟩⟩
theorem mI103_code : mIC mI103 := List.mem_of_getElem? (i := 941) (by decide +kernel)
theorem mI104_ok : mIO mI104 := ⟨rfl, by decide +kernel, by decide +kernel, List.mem_of_getElem? (i := 140) (by decide +kernel), fun h => absurd h (by decide +kernel), fun _ => ⟨List.mem_of_getElem? (i := 943) (by decide +kernel), fun _ => List.mem_of_getElem? (i := 944) (by decide +kernel)⟩⟩
theorem mI104_code : mIC mI104 := List.mem_of_getElem? (i := 945) (by decide +kernel)
theorem mI105_ok : mIO mI105 := ⟨rfl, by decide +kernel, by decide +kernel, List.mem_of_getElem? (i := 140) (by decide +kernel), fun h => absurd h (by decide +kernel), fun _ => ⟨List.mem_of_getElem? (i := 948) (by decide +kernel), fun _ => List.mem_of_getElem? (i := 949) (by decide +kernel)⟩⟩
theorem mI105_code : mIC mI105 := List.mem_of_getElem? (i := 950) (by decide +kernel)
theorem mI106_ok : mIO mI106 := ⟨rfl, by decide +kernel, by decide +kernel, List.mem_of_getElem? (i := 141) (by decide +kernel), fun h => absurd h (by decide +kernel), fun _ => ⟨List.mem_of_getElem? (i := 953) (by decide +kernel), fun _ => List.mem_of_getElem? (i := 52) (by decide +kernel)⟩⟩
theorem mI106_code : mIC mI106 := List.mem_of_getElem? (i := 954) (by decide +kernel)
theorem mI107_ok : mIO mI107 := ⟨rfl, by decide +kernel, by decide +kernel, List.mem_of_getElem? (i := 140) (by decide +kernel), fun h => absurd h (by decide +kernel), fun _ => ⟨List.mem_of_getElem? (i := 957) (by decide +kernel), fun _ => List.mem_of_getElem? (i := 958) (by decide +kernel)⟩⟩
theorem mI107_code : mIC mI107 := List.mem_of_getElem? (i := 959) (by decide +kernel)
theorem mI108_ok : mIO mI108 := ⟨rfl, by decide +kernel, by decide +kernel, List.mem_of_getElem? (i := 140) (by decide +kernel), fun h => absurd h (by decide +kernel), fun _ => ⟨List.mem_of_getElem? (i := 961) (by decide +kernel), fun _ => List.mem_of_getElem? (i := 962) (by decide +kernel)⟩⟩
theorem mI108_code : mIC mI108 := List.mem_of_getElem? (i := 963) (by decide +kernel)
theorem mI109_ok : mIO mI109 := ⟨rfl, by decide +kernel, by decide +kernel, List.mem_of_getElem? (i := 140) (by decide +kernel), fun h => absurd h (by decide +kernel), fun _ => ⟨List.mem_of_getElem? (i := 966) (by decide +kernel), fun _ => List.mem_of_getElem? (i := 53) (by decide +kernel)⟩⟩
theorem mI109_code : mIC mI109 := List.mem_of_getElem? (i := 967) (by decide +kernel)
theorem mI110_ok : mIO mI110 := ⟨rfl, by decide +kernel, by decide +kernel, List.mem_of_getElem? (i := 140) (by decide +kernel), fun h => absurd h (by decide +kernel), fun _ => ⟨List.mem_of_getElem? (i := 970) (by decide +kernel), fun _ => List.mem_of_getElem? (i := 54) (by decide +kernel)⟩⟩
theorem mI110_code : mIC mI110 := List.mem_of_getElem? (i := 971) (by decide +kernel)
theorem mI111_ok : mIO mI111 := ⟨rfl, by decide +kernel, by decide +kernel, List.mem_of_getElem? (i := 140) (by decide +kernel), fun h => absurd h (by decide +kernel), fun _ => ⟨List.mem_of_getElem? (i := 975) (by decide +kernel), fun _ => List.mem_of_getElem? (i := 55) (by decide +kernel)⟩⟩
theorem mI111_code : mIC mI111 := List.mem_of_getElem? (i := 976) (by decide +kernel)
theorem mI112_ok : mIO mI112 := ⟨rfl, by decide +kernel, by decide +kernel, List.mem_of_getElem? (i := 140) (by decide +kernel), fun h => absurd h (by decide +kernel), fun _ => ⟨List.mem_of_getElem? (i := 981) (by decide +kernel), fun _ => List.mem_of_getElem? (i := 56) (by decide +kernel)⟩⟩
theorem mI112_code : mIC mI112 := List.mem_of_getElem? (i := 982) (by decide +kernel)
theorem mI113_ok : mIO mI113 := ⟨rfl, by decide +kernel, by decide +kernel, List.mem_of_getElem? (i := 140) (by decide +kernel), fun h => absurd h (by decide +kernel), fun _ => ⟨List.mem_of_getElem? (i := 985) (by decide +kernel), fun _ => List.mem_of_getElem? (i := 57) (by decide +kernel)⟩⟩
theorem mI113_code : mIC mI113 := List.mem_of_getElem? (i := 986) (by decide +kernel)
theorem mI114_ok : mIO mI114 := ⟨rfl, by decide +kernel, by decide +kernel, List.mem_of_getElem? (i := 141) (by decide +kernel), fun h => absurd h (by decide +kernel), fun _ => ⟨List.mem_of_getElem? (i := 989) (by decide +kernel), fun _ => List.mem_of_getElem? (i := 58) (by decide +kernel)⟩⟩
theorem mI114_code : mIC mI114 := List.mem_of_getElem? (i := 990) (by decide +kernel)
theorem mI115_ok : mIO mI115 := ⟨rfl, by decide +kernel, by decide +kernel, List.mem_of_getElem? (i := 141) (by decide +kernel), fun h => absurd h (by decide +kernel), fun _ => ⟨List.mem_of_getElem? (i := 994) (by decide +kernel), fun _ => List.mem_of_getElem? (i := 59) (by decide +kernel)⟩⟩
theorem mI115_code : mIC mI115 := List.mem_of_getElem? (i := 995) (by decide +kernel)
theorem mI116_ok : mIO mI116 := ⟨rfl, by decide +kernel, by decide +kernel, List.mem_of_getElem? (i := 141) (by decide +kernel), fun h => absurd h (by decide +kernel), fun _ => ⟨List.mem_of_getElem? (i := 998) (by decide +kernel), fun _ => List.mem_of_getElem? (i := 60) (by decide +kernel)⟩⟩
theorem mI116_code : mIC mI116 := List.mem_of_getElem? (i := 999) (by decide +kernel)
theorem mI117_ok : mIO mI117 := ⟨rfl, by decide +kernel, by decide +kernel, List.mem_of_getElem? (i := 140) (by decide +kernel), fun h => absurd h (by decide +kernel), fun _ => ⟨List.mem_of_getElem? (i := 1001) (by decide +kernel), fun _ => List.mem_of_getElem? (i := 1002) (by decide +kernel)⟩⟩
theorem mI117_code : mIC mI117 := List.mem_of_getElem? (i := 1003) (by decide +kernel)
theorem mI118_ok : mIO mI118 := ⟨rfl, by decide +kernel, by decide +kernel, List.mem_of_getElem? (i := 140) (by decide +kernel), fun h => absurd h (by decide +kernel), fun _ => ⟨List.mem_of_getElem? (i := 1006) (by decide +kernel), fun _ => List.mem_of_getElem? (i := 61) (by decide +kernel)⟩⟩
theorem mI118_code : mIC mI118 := List.mem_of_getElem? (i := 1007) (by decide +kernel)
theorem mI119_ok : mIO mI119 := ⟨rfl, by decide +kernel, by decide +kernel, List.mem_of_getElem? (i := 140) (by decide +kernel), fun h => absurd h (by decide +kernel), fun _ => ⟨List.mem_of_getElem? (i := 1010) (by decide +kernel), fun _ => List.mem_of_getElem? (i := 62) (by decide +kernel)⟩⟩
theorem mI119_code : mIC mI119 := List.mem_of_getElem? (i := 1011) (by decide +kernel)
theorem mI120_ok : mIO mI120 := ⟨rfl, by decide +kernel, by decide +kernel, List.mem_of_getElem? (i := 141) (by decide +kernel), fun _ => List.mem_of_getElem? (i := 1017) (by decide +kernel), fun h => absurd h (by decide +kernel)⟩
theorem mI120_code : mIC mI120 := List.mem_of_getElem? (i := 1018) (by decide +kernel)
theorem mI121_ok : mIO mI121 := ⟨rfl, by decide +kernel, by decide +kernel, List.mem_of_getElem? (i := 141) (by decide +kernel), fun _ => List.mem_of_getElem? (i := 1021) (by decide +kernel), fun h => absurd h (by decide +kernel)⟩
theorem mI121_code : mIC mI121 := List.mem_of_getElem? (i := 1022) (by decide +kernel)
theorem mI122_ok : mIO mI122 := ⟨rfl, by decide +kernel, by decide +kernel, List.mem_of_getElem? (i := 141) (by decide +kernel), fun h => absurd h (by decide +kernel), fun _ => ⟨List.mem_of_getElem? (i := 1025) (by decide +kernel), fun _ => List.mem_of_getElem? (i := 63) (by decide +kernel)⟩⟩
theorem mI122_code : mIC mI122 := List.mem_of_getElem? (i := 1026) (by decide +kernel)
theorem mI123_ok : mIO mI123 := ⟨rfl, by decide +kernel, by decide +kernel, List.mem_of_getElem? (i := 141) (by decide +kernel), fun h => absurd h (by decide +kernel), fun _ => ⟨List.mem_of_getElem? (i := 1029) (by decide +kernel), fun _ => List.mem_of_getElem? (i := 64) (by decide +kernel)⟩⟩
theorem mI123_code : mIC mI123 := List.mem_of_getElem? (i := 1030) (by decide +kernel)
theorem mI124_ok : mIO mI124 := ⟨rfl, by decide +kernel, by decide +kernel, List.mem_of_getElem? (i := 140) (by decide +kernel), fun h => absurd h (by decide +kernel), fun _ => ⟨List.mem_of_getElem? (i := 1033) (by decide +kernel), fun _ => List.mem_of_getElem? (i := 1034) (by decide +kernel)⟩⟩
theorem mI124_code : mIC mI124 := List.mem_of_getElem? (i := 1035) (by decide +kernel)
theorem mI125_ok : mIO mI125 := ⟨rfl, by decide +kernel, by decide +kernel, List.mem_of_getElem? (i := 141) (by decide +kernel), fun h => absurd h (by decide +kernel), fun _ => ⟨List.mem_of_getElem? (i := 1039) (by decide +kernel), fun _ => List.mem_of_getElem? (i := 65) (by decide +kernel)⟩⟩
theorem mI125_code : mIC mI125 := List.mem_of_getElem? (i := 1040) (by decide +kernel)
theorem mI126_ok : mIO mI126 := ⟨rfl, by decide +kernel, by decide +kernel, List.mem_of_getElem? (i := 141) (by decide +kernel), fun h => absurd h (by decide +kernel), fun _ => ⟨List.mem_of_getElem? (i := 1043) (by decide +kernel), fun _ => List.mem_of_getElem? (i := 66) (by decide +kernel)⟩⟩
theorem mI126_code : mIC mI126 := List.mem_of_getElem? (i := 1044) (by decide +kernel)
theorem mI127_ok : mIO mI127 := ⟨rfl, by decide +kernel, by decide +kernel, List.mem_of_getElem? (i := 141) (by decide +kernel), fun h => absurd h (by decide +kernel), fun _ => ⟨List.mem_of_getElem? (i := 1048) (by decide +kernel), fun _ => List.mem_of_getElem? (i := 67) (by decide +kernel)⟩⟩
theorem mI127_code : mIC mI127 := List.mem_of_getElem? (i := 1049) (by decide +kernel)
theorem mI128_ok : mIO mI128 := ⟨rfl, by decide +kernel, by decide +kernel, List.mem_of_getElem? (i := 138) (by decide +kernel), fun h => absurd h (by decide +kernel), fun _ => ⟨List.mem_of_getElem? (i := 1051) (by decide +kernel), fun _ => List.mem_of_getElem? (i := 1052) (by decide +kernel)⟩⟩
theorem mI128_code : mIC mI128 := List.mem_of_getElem? (i := 1053) (by decide +kernel)
theorem mI129_ok : mIO mI129 := ⟨rfl, by decide +kernel, by decide +kernel, List.mem_of_getElem? (i := 138) (by decide +kernel), fun h => absurd h (by decide +kernel), fun _ => ⟨List.mem_of_getElem? (i := 1055) (by decide +kernel), fun _ => List.mem_of_getElem? (i := 1056) (by decide +kernel)⟩⟩
theorem mI129_code : mIC mI129 := List.mem_of_getElem? (i := 1057) (by decide +kernel)
theorem mI130_ok : mIO mI130 := ⟨rfl, by decide +kernel, by decide +kernel, List.mem_of_getElem? (i := 138) (by decide +kernel), fun h => absurd h (by decide +kernel), fun _ => ⟨List.mem_of_getElem? (i := 1059) (by decide +kernel), fun _ => List.mem_of_getElem? (i := 1060) (by decide +kernel)⟩⟩
theorem mI130_code : mIC mI130 := List.mem_of_getElem? (i := 1061) (by decide +kernel)
theorem mI131_ok : mIO mI131 := ⟨rfl, by decide +kernel, by decide +kernel, List.mem_of_getElem? (i := 140) (by decide +kernel), fun h => absurd h (by decide +kernel), fun _ => ⟨List.mem_of_getElem? (i := 1081) (by decide +kernel), fun _ => List.mem_of_getElem? (i := 1082) (by decide +kernel)⟩⟩
theorem mI131_code : mIC mI131 := List.mem_of_getElem? (i := 1083) (by decide +kernel)
theorem mI132_ok : mIO mI132 := ⟨rfl, by decide +kernel, by decide +kernel, List.mem_of_getElem? (i := 140) (by decide +kernel), fun h => absurd h (by decide +kernel), fun _ => ⟨List.mem_of_getElem? (i := 1086) (by decide +kernel), fun _ => List.mem_of_getElem? (i := 68) (by decide +kernel)⟩⟩
theorem mI132_code : mIC mI132 := List.mem_of_getElem? (i := 1087) (by decide +kernel)
theorem mI133_ok : mIO mI133 := ⟨rfl, by decide +kernel, by decide +kernel, List.mem_of_getElem? (i := 140) (by decide +kernel), fun h => absurd h (by decide +kernel), fun _ => ⟨List.mem_of_getElem? (i := 1090) (by decide +kernel), fun _ => List.mem_of_getElem? (i := 69) (by decide +kernel)⟩⟩
theorem mI133_code : mIC mI133 := List.mem_of_getElem? (i := 1091) (by decide +kernel)
theorem mI134_ok : mIO mI134 := ⟨rfl, by decide +kernel, by decide +kernel, List.mem_of_getElem? (i := 138) (by decide +kernel), fun h => absurd h (by decide +kernel), fun _ => ⟨List.mem_of_getElem? (i := 1093) (by decide +kernel), fun _ => List.mem_of_getElem? (i := 1094) (by decide +kernel)⟩⟩
theorem mI134_code : mIC mI134 := List.mem_of_getElem? (i := 1095) (by decide +kernel)
theorem mI135_ok : mIO mI135 := ⟨rfl, by decide +kernel, by decide +kernel, List.mem_of_getElem? (i := 137) (by decide +kernel), fun h => absurd h (by decide +kernel), fun _ => ⟨List.mem_of_getElem? (i := 1097) (by decide +kernel), fun _ => List.mem_of_getElem? (i := 1098) (by decide +kernel)⟩⟩
theorem mI135_code : mIC mI135 := List.mem_of_getElem? (i := 1099) (by decide +kernel)
theorem mI136_ok : mIO mI136 := ⟨rfl, by decide +kernel, by decide +kernel, List.mem_of_getElem? (i := 142) (by decide +kernel), fun h => absurd h (by decide +kernel), fun _ => ⟨List.mem_of_getElem? (i := 1102) (by decide +kernel), fun _ => List.mem_of_getElem? (i := 1103) (by decide +kernel)⟩⟩
theorem mI136_code : mIC mI136 := List.mem_of_getElem? (i := 1104) (by decide +kernel)
theorem mI137_ok : mIO mI137 := ⟨rfl, by decide +kernel, by decide +kernel, List.mem_of_getElem? (i := 135) (by decide +kernel), fun h => absurd h (by decide +kernel), fun _ => ⟨List.mem_of_getElem? (i := 1112) (by decide +kernel), fun _ => List.mem_of_getElem? (i := 1113) (by decide +kernel)⟩⟩
theorem mI137_code : mIC mI137 := List.mem_of_getElem? (i := 1114) (by decide +kernel)
theorem mI138_ok : mIO mI138 := ⟨rfl, by decide +kernel, by decide +kernel, List.mem_of_getElem? (i := 135) (by decide +kernel), fun h => absurd h (by decide +kernel), fun _ => ⟨List.mem_of_getElem? (i := 1151) (by decide +kernel), fun _ => List.mem_of_getElem? (i := 1152) (by decide +kernel)⟩⟩
theorem mI138_code : mIC mI138 := List.mem_of_getElem? (i := 1153) (by decide +kernel)
theorem mI139_ok : mIO mI139 := ⟨rfl, by decide +kernel, by decide +kernel, List.mem_of_getElem? (i := 135) (by decide +kernel), fun h => absurd h (by decide +kernel), fun _ => ⟨List.mem_of_getElem? (i := 1158) (by decide +kernel), fun _ => List.mem_of_getElem? (i := 1159) (by decide +kernel)⟩⟩
theorem mI139_code : mIC mI139 := List.mem_of_getElem? (i := 1160) (by decide +kernel)
theorem mI140_ok : mIO mI140 := ⟨rfl, by decide +kernel, by decide +kernel, List.mem_of_getElem? (i := 152) (by decide +kernel), fun h => absurd h (by decide +kernel), fun _ => ⟨List.mem_of_getElem? (i := 1162) (by decide +kernel), fun _ => List.mem_of_getElem? (i := 1163) (by decide +kernel)⟩⟩
theorem mI140_code : mIC mI140 := List.mem_of_getElem? (i := 1164) (by decide +kernel)
theorem mI141_ok : mIO mI141 := ⟨rfl, by decide +kernel, by decide +kernel, List.mem_of_getElem? (i := 135) (by decide +kernel), fun h => absurd h (by decide +kernel), fun _ => ⟨List.mem_of_getElem? (i := 1170) (by decide +kernel), fun _ => List.mem_of_getElem? (i := 1171) (by decide +kernel)⟩⟩
theorem mI141_code : mIC mI141 := List.mem_of_getElem? (i := 1172) (by decide +kernel)
theorem mI142_ok : mIO mI142 := ⟨rfl, by decide +kernel, by decide +kernel, List.mem_of_getElem? (i := 143) (by decide +kernel), fun h => absurd h (by decide +kernel), fun _ => ⟨List.mem_of_getElem? (i := 1176) (by decide +kernel), fun h => absurd rfl h⟩⟩
theorem mI142_code : mIC mI142 := List.mem_of_getElem? (i := 1177) (by decide +kernel)
theorem mI143_ok : mIO mI143 := ⟨rfl, by decide +kernel, by decide +kernel, List.mem_of_getElem? (i := 143) (by decide +kernel), fun h => absurd h (by decide +kernel), fun _ => ⟨List.mem_of_getElem? (i := 1401) (by decide +kernel), fun _ => List.mem_of_getElem? (i := 1402) (by decide +kernel)⟩⟩
theorem mI143_code : mIC mI143 := List.mem_of_getElem? (i := 1403) (by decide +kernel)
theorem mI144_ok : mIO mI144 := ⟨rfl, by decide +kernel, by decide +kernel, List.mem_of_getElem? (i := 143) (by decide +kernel), fun h => absurd h (by decide +kernel), fun _ => ⟨List.mem_of_getElem? (i := 1405) (by decide +kernel), fun _ => List.mem_of_getElem? (i := 1406) (by decide +kernel)⟩⟩
theorem mI144_code : mIC mI144 := List.mem_of_getElem? (i := 1407) (by decide +kernel)
theorem mI145_ok : mIO mI145 := ⟨rfl, by decide +kernel, by decide +kernel, List.mem_of_getElem? (i := 143) (by decide +kernel), fun h => absurd h (by decide +kernel), fun _ => ⟨List.mem_of_getElem? (i := 1409) (by decide +kernel), fun _ => List.mem_of_getElem? (i := 1410) (by decide +kernel)⟩⟩
theorem mI145_code : mIC mI145 := List.mem_of_getElem? (i := 1411) (by decide +kernel)
theorem mI146_ok : mIO mI146 := ⟨rfl, by decide +kernel, by decide +kernel, List.mem_of_getElem? (i := 143) (by decide +kernel), fun h => absurd h (by decide +kernel), fun _ => ⟨List.mem_of_getElem? (i := 1413) (by decide +kernel), fun _ => List.mem_of_getElem? (i := 1414) (by decide +kernel)⟩⟩
theorem mI146_code : mIC mI146 := List.mem_of_getElem? (i := 1415) (by decide +kernel)
theorem mI147_ok : mIO mI147 := ⟨rfl, by decide +kernel, by decide +kernel, List.mem_of_getElem? (i := 143) (by decide +kernel), fun h => absurd h (by decide +kernel), fun _ => ⟨List.mem_of_getElem? (i := 1418) (by decide +kernel), fun _ => List.mem_of_getElem? (i := 70) (by decide +kernel)⟩⟩
theorem mI147_code : mIC mI147 := List.mem_of_getElem? (i := 1419) (by decide +kernel)
theorem mI148_ok : mIO mI148 := ⟨rfl, by decide +kernel, by decide +kernel, List.mem_of_getElem? (i := 143) (by decide +kernel), fun h => absurd h (by decide +kernel), fun _ => ⟨List.mem_of_getElem? (i := 1422) (by decide +kernel), fun _ => List.mem_of_getElem? (i := 71) (by decide +kernel)⟩⟩
theorem mI148_code : mIC mI148 := List.mem_of_getElem? (i := 1423) (by decide +kernel)
theorem mI149_ok : mIO mI149 := ⟨rfl, by decide +kernel, by decide +kernel, List.mem_of_getElem? (i := 143) (by decide +kernel), fun h => absurd h (by decide +kernel), fun _ => ⟨List.mem_of_getElem? (i := 1426) (by decide +kernel), fun _ => List.mem_of_getElem? (i := 72) (by decide +kernel)⟩⟩
theorem mI149_code : mIC mI149 := List.mem_of_getElem? (i := 1427) (by decide +kernel)
theorem mI150_ok : mIO mI150 := ⟨rfl, by decide +kernel, by decide +kernel, List.mem_of_getElem? (i := 143) (by decide +kernel), fun h => absurd h (by decide +kernel), fun _ => ⟨List.mem_of_getElem? (i := 1430) (by decide +kernel), fun _ => List.mem_of_getElem? (i := 73) (by decide +kernel)⟩⟩
theorem mI150_code : mIC mI150 := List.mem_of_getElem? (i := 1431) (by decide +kernel)
theorem mI151_ok : mIO mI151 := ⟨rfl, by decide +kernel, by decide +kernel, List.mem_of_getElem? (i := 143) (by decide +kernel), fun h => absurd h (by decide +kernel), fun _ => ⟨List.mem_of_getElem? (i := 1434) (by decide +kernel), fun _ => List.mem_of_getElem? (i := 74) (by decide +kernel)⟩⟩
theorem mI151_code : mIC mI151 := List.mem_of_getElem? (i := 1435) (by decide +kernel)
theorem mI152_ok : mIO mI152 := ⟨rfl, by decide +kernel, by decide +kernel, List.mem_of_getElem? (i := 143) (by decide +kernel), fun h => absurd h (by decide +kernel), fun _ => ⟨List.mem_of_getElem? (i := 1438) (by decide +kernel), fun _ => List.mem_of_getElem? (i := 75) (by decide +kernel)⟩⟩
theorem mI152_code : mIC mI152 := List.mem_of_getElem? (i := 1439) (by decide +kernel)
theorem mI153_ok : mIO mI153 := ⟨rfl, by decide +kernel, by decide +kernel, List.mem_of_getElem? (i := 143) (by decide +kernel), fun h => absurd h (by decide +kernel), fun _ => ⟨List.mem_of_getElem? (i := 1442) (by decide +kernel), fun _ => List.mem_of_getElem? (i := 76) (by decide +kernel)⟩⟩
theorem mI153_code : mIC mI153 := List.mem_of_getElem? (i := 1443) (by decide +kernel)
theorem mI154_ok : mIO mI154 := ⟨rfl, by decide +kernel, by decide +kernel, List.mem_of_getElem? (i := 143) (by decide +kernel), fun h => absurd h (by decide +kernel), fun _ => ⟨List.mem_of_getElem? (i := 1446) (by decide +kernel), fun _ => List.mem_of_getElem? (i := 77) (by decide +kernel)⟩⟩
theorem mI154_code : mIC mI154 := List.mem_of_getElem? (i := 1447) (by decide +kernel)
theorem mI155_ok : mIO mI155 := ⟨rfl, by decide +kernel, by decide +kernel, List.mem_of_getElem? (i := 143) (by decide +kernel), fun _ => List.mem_of_getElem? (i := 1449) (by decide +kernel), fun h => absurd h (by decide +kernel)⟩
theorem mI155_code : mIC mI155 := List.mem_of_getElem? (i := 1450) (by decide +kernel)
theorem mI156_ok : mIO mI156 := ⟨rfl, by decide +kernel, by decide +kernel, List.mem_of_getElem? (i := 143) (by decide +kernel), fun h => absurd h (by decide +kernel), fun _ => ⟨List.mem_of_getElem? (i := 1453) (by decide +kernel), fun _ => List.mem_of_getElem? (i := 78) (by decide +kernel)⟩⟩
theorem mI156_code : mIC mI156 := List.mem_of_getElem? (i := 1454) (by decide +kernel)
theorem mI157_ok : mIO mI157 := ⟨rfl, by decide +kernel, by decide +kernel, List.mem_of_getElem? (i := 143) (by decide +kernel), fun h => absurd h (by decide +kernel), fun _ => ⟨List.mem_of_getElem? (i := 1457) (by decide +kernel), fun _ => List.mem_of_getElem? (i := 79) (by decide +kernel)⟩⟩
theorem mI157_code : mIC mI157 := List.mem_of_getElem? (i := 1458) (by decide +kernel)
theorem mI158_ok : mIO mI158 := ⟨rfl, by decide +kernel, by decide +kernel, List.mem_of_getElem? (i := 143) (by decide +kernel), fun h => absurd h (by decide +kernel), fun _ => ⟨List.mem_of_getElem? (i := 1461) (by decide +kernel), fun _ => List.mem_of_getElem? (i := 80) (by decide +kernel)⟩⟩
theorem mI158_code : mIC mI158 := List.mem_of_getElem? (i := 1462) (by decide +kernel)
theorem mI159_ok : mIO mI159 := ⟨rfl, by decide +kernel, by decide +kernel, List.mem_of_getElem? (i := 143) (by decide +kernel), fun h => absurd h (by decide +kernel), fun _ => ⟨List.mem_of_getElem? (i := 1465) (by decide +kernel), fun _ => List.mem_of_getElem? (i := 81) (by decide +kernel)⟩⟩
theorem mI159_code : mIC mI159 := List.mem_of_getElem? (i := 1466) (by decide +kernel)
theorem mI160_ok : mIO mI160 := ⟨rfl, by decide +kernel, by decide +kernel, List.mem_of_getElem? (i := 143) (by decide +kernel), fun h => absurd h (by decide +kernel), fun _ => ⟨List.mem_of_getElem? (i := 1469) (by decide +kernel), fun _ => List.mem_of_getElem? (i := 82) (by decide +kernel)⟩⟩
theorem mI160_code : mIC mI160 := List.mem_of_getElem? (i := 1470) (by decide +kernel)
theorem mI161_ok : mIO mI161 := ⟨rfl, by decide +kernel, by decide +kernel, List.mem_of_getElem? (i := 143) (by decide +kernel), fun h => absurd h (by decide +kernel), fun _ => ⟨List.mem_of_getElem? (i := 1474) (by decide +kernel), fun _ => List.mem_of_getElem? (i := 83) (by decide +kernel)⟩⟩
theorem mI161_code : mIC mI161 := List.mem_of_getElem? (i := 1475) (by decide +kernel)
theorem mI162_ok : mIO mI162 := ⟨rfl, by decide +kernel, by decide +kernel, List.mem_of_getElem? (i := 143) (by decide +kernel), fun h => absurd h (by decide +kernel), fun _ => ⟨List.mem_of_getElem? (i := 1478) (by decide +kernel), fun _ => List.mem_of_getElem? (i := 84) (by decide +kernel)⟩⟩
theorem mI162_code : mIC mI162 := List.mem_of_getElem? (i := 1479) (by decide +kernel)
theorem mI163_ok : mIO mI163 := ⟨rfl, by decide +kernel, by decide +kernel, List.mem_of_getElem? (i := 143) (by decide +kernel), fun h => absurd h (by decide +kernel), fun _ => ⟨List.mem_of_getElem? (i := 1482) (by decide +kernel), fun _ => List.mem_of_getElem? (i := 85) (by decide +kernel)⟩⟩
theorem mI163_code : mIC mI163 := List.mem_of_getElem? (i := 1483) (by decide +kernel)
theorem mI164_ok : mIO mI164 := ⟨rfl, by decide +kernel, by decide +kernel, List.mem_of_getElem? (i := 143) (by decide +kernel), fun _ => List.mem_of_getElem? (i := 1485) (by decide +kernel), fun h => absurd h (by decide +kernel)⟩
theorem mI164_code : mIC mI164 := List.mem_of_getElem? (i := 1486) (by decide +kernel)
theorem mI165_ok : mIO mI165 := ⟨rfl, by decide +kernel, by decide +kernel, List.mem_of_getElem? (i := 143) (by decide +kernel), fun _ => List.mem_of_getElem? (i := 1488) (by decide +kernel), fun h => absurd h (by decide +kernel)⟩
theorem mI165_code : mIC mI165 := List.mem_of_getElem? (i := 1489) (by decide +kernel)
theorem mI166_ok : mIO mI166 := ⟨rfl, by decide +kernel, by decide +kernel, List.mem_of_getElem? (i := 143) (by decide +kernel), fun h => absurd h (by decide +kernel), fun _ => ⟨List.mem_of_getElem? (i := 1492) (by decide +kernel), fun _ => List.mem_of_getElem? (i := 86) (by decide +kernel)⟩⟩
theorem mI166_code : mIC mI166 := List.mem_of_getElem? (i := 1493) (by decide +kernel)
theorem mI167_ok : mIO mI167 := ⟨rfl, by decide +kernel, by decide +kernel, List.mem_of_getElem? (i := 143) (by decide +kernel), fun h => absurd h (by decide +kernel), fun _ => ⟨List.mem_of_getElem? (i := 1496) (by decide +kernel), fun _ => List.mem_of_getElem? (i := 87) (by decide +kernel)⟩⟩
theorem mI167_code : mIC mI167 := List.mem_of_getElem? (i := 1497) (by decide +kernel)
theorem mI168_ok : mIO mI168 := ⟨rfl, by decide +kernel, by decide +kernel, List.mem_of_getElem? (i := 143) (by decide +kernel), fun h => absurd h (by decide +kernel), fun _ => ⟨List.mem_of_getElem? (i := 1500) (by decide +kernel), fun _ => List.mem_of_getElem? (i := 88) (by decide +kernel)⟩⟩
theorem mI168_code : mIC mI168 := List.mem_of_getElem? (i := 1501) (by decide +kernel)
theorem mI169_ok : mIO mI169 := ⟨rfl, by decide +kernel, by decide +kernel, List.mem_of_getElem? (i := 143) (by decide +kernel), fun h => absurd h (by decide +kernel), fun _ => ⟨List.mem_of_getElem? (i := 1504) (by decide +kernel), fun _ => List.mem_of_getElem? (i := 89) (by decide +kernel)⟩⟩
theorem mI169_code : mIC mI169 := List.mem_of_getElem? (i := 1505) (by decide +kernel)
theorem mI170_ok : mIO mI170 := ⟨rfl, by decide +kernel, by decide +kernel, List.mem_of_getElem? (i := 143) (by decide +kernel), fun h => absurd h (by decide +kernel), fun _ => ⟨List.mem_of_getElem? (i := 1508) (by decide +kernel), fun _ => List.mem_of_getElem? (i := 90) (by decide +kernel)⟩⟩
theorem mI170_code : mIC mI170 := List.mem_of_getElem? (i := 1509) (by decide +kernel)
theorem mI171_ok : mIO mI171 := ⟨rfl, by decide +kernel, by decide +kernel, List.mem_of_getElem? (i := 143) (by decide +kernel), fun h => absurd h (by decide +kernel), fun _ => ⟨List.mem_of_getElem? (i := 1512) (by decide +kernel), fun _ => List.mem_of_getElem? (i := 91) (by decide +kernel)⟩⟩
theorem mI171_code : mIC mI171 := List.mem_of_getElem? (i := 1513) (by decide +kernel)
theorem mI172_ok : mIO mI172 := ⟨rfl, by decide +kernel, by decide +kernel, List.mem_of_getElem? (i := 143) (by decide +kernel), fun h => absurd h (by decide +kernel), fun _ => ⟨List.mem_of_getElem? (i := 1516) (by decide +kernel), fun _ => List.mem_of_getElem? (i := 92) (by decide +kernel)⟩⟩
theorem mI172_code : mIC mI172 := List.mem_of_getElem? (i := 1517) (by decide +kernel)
theorem mI173_ok : mIO mI173 := ⟨rfl, by decide +kernel, by decide +kernel, List.mem_of_getElem? (i := 143) (by decide +kernel), fun h => absurd h (by decide +kernel), fun _ => ⟨List.mem_of_getElem? (i := 1520) (by decide +kernel), fun _ => List.mem_of_getElem? (i := 93) (by decide +kernel)⟩⟩
theorem mI173_code : mIC mI173 := List.mem_of_getElem? (i := 1521) (by decide +kernel)
theorem mI174_ok : mIO mI174 := ⟨rfl, by decide +kernel, by decide +kernel, List.mem_of_getElem? (i := 143) (by decide +kernel), fun h => absurd h (by decide +kernel), fun _ => ⟨List.mem_of_getElem? (i := 1524) (by decide +kernel), fun _ => List.mem_of_getElem? (i := 94) (by decide +kernel)⟩⟩
theorem mI174_code : mIC mI174 := List.mem_of_getElem? (i := 1525) (by decide +kernel)
theorem mI175_ok : mIO mI175 := ⟨rfl, by decide +kernel, by decide +kernel, List.mem_of_getElem? (i := 143) (by decide +kernel), fun h => absurd h (by decide +kernel), fun _ => ⟨List.mem_of_getElem? (i := 1528) (by decide +kernel), fun _ => List.mem_of_getElem? (i := 95) (by decide +kernel)⟩⟩
theorem mI175_code : mIC mI175 := List.mem_of_getElem? (i := 1529) (by decide +kernel)
theorem mI176_ok : mIO mI176 := ⟨rfl, by decide +kernel, by decide +kernel, List.mem_of_getElem? (i := 143) (by decide +kernel), fun h => absurd h (by decide +kernel), fun _ => ⟨List.mem_of_getElem? (i := 1532) (by decide +kernel), fun _ => List.mem_of_getElem? (i := 96) (by decide +kernel)⟩⟩
theorem mI176_code : mIC mI176 := List.mem_of_getElem? (i := 1533) (by decide +kernel)
theorem mI177_ok : mIO mI177 := ⟨rfl, by decide +kernel, by decide +kernel, List.mem_of_getElem? (i := 143) (by decide +kernel), fun h => absurd h (by decide +kernel), fun _ => ⟨List.mem_of_getElem? (i := 1536) (by decide +kernel), fun _ => List.mem_of_getElem? (i := 97) (by decide +kernel)⟩⟩
theorem mI177_code : mIC mI177 := List.mem_of_getElem? (i := 1537) (by decide +kernel)
theorem mI178_ok : mIO mI178 := ⟨rfl, by decide +kernel, by decide +kernel, List.mem_of_getElem? (i := 143) (by decide +kernel), fun h => absurd h (by decide +kernel), fun _ => ⟨List.mem_of_getElem? (i := 1540) (by decide +kernel), fun _ => List.mem_of_getElem? (i := 98) (by decide +kernel)⟩⟩
theorem mI178_code : mIC mI178 := List.mem_of_getElem? (i := 1541) (by decide +kernel)
theorem mI179_ok : mIO mI179 := ⟨rfl, by decide +kernel, by decide +kernel, List.mem_of_getElem? (i := 143) (by decide +kernel), fun h => absurd h (by decide +kernel), fun _ => ⟨List.mem_of_getElem? (i := 1544) (by decide +kernel), fun _ => List.mem_of_getElem? (i := 99) (by decide +kernel)⟩⟩
theorem mI179_code : mIC mI179 := List.mem_of_getElem? (i := 1545) (by decide +kernel)
theorem mI180_ok : mIO mI180 := ⟨rfl, by decide +kernel, by decide +kernel, List.mem_of_getElem? (i := 143) (by decide +kernel), fun h => absurd h (by decide +kernel), fun _ => ⟨List.mem_of_getElem? (i := 1548) (by decide +kernel), fun _ => List.mem_of_getElem? (i := 100) (by decide +kernel)⟩⟩
theorem mI180_code : mIC mI180 := List.mem_of_getElem? (i := 1549) (by decide +kernel)
theorem mI181_ok : mIO mI181 := ⟨rfl, by decide +kernel, by decide +kernel, List.mem_of_getElem? (i := 143) (by decide +kernel), fun h => absurd h (by decide +kernel), fun _ => ⟨List.mem_of_getElem? (i := 1552) (by decide +kernel), fun _ => List.mem_of_getElem? (i := 101) (by decide +kernel)⟩⟩
theorem mI181_code : mIC mI181 := List.mem_of_getElem? (i := 1553) (by decide +kernel)
theorem mI182_ok : mIO mI182 := ⟨rfl, by decide +kernel, by decide +kernel, List.mem_of_getElem? (i := 143) (by decide +kernel), fun h => absurd h (by decide +kernel), fun _ => ⟨List.mem_of_getElem? (i := 1556) (by decide +kernel), fun _ => List.mem_of_getElem? (i := 102) (by decide +kernel)⟩⟩
theorem mI182_code : mIC mI182 := List.mem_of_getElem? (i := 1557) (by decide +kernel)
theorem mI183_ok : mIO mI183 := ⟨rfl, by decide +kernel, by decide +kernel, List.mem_of_getElem? (i := 143) (by decide +kernel), fun h => absurd h (by decide +kernel), fun _ => ⟨List.mem_of_getElem? (i := 1560) (by decide +kernel), fun _ => List.mem_of_getElem? (i := 103) (by decide +kernel)⟩⟩
theorem mI183_code : mIC mI183 := List.mem_of_getElem? (i := 1561) (by decide +kernel)
theorem mI184_ok : mIO mI184 := ⟨rfl, by decide +kernel, by decide +kernel, List.mem_of_getElem? (i := 143) (by decide +kernel), fun h => absurd h (by decide +kernel), fun _ => ⟨List.mem_of_getElem? (i := 1564) (by decide +kernel), fun _ => List.mem_of_getElem? (i := 104) (by decide +kernel)⟩⟩
theorem mI184_code : mIC mI184 := List.mem_of_getElem? (i := 1565) (by decide +kernel)
theorem mI185_ok : mIO mI185 := ⟨rfl, by decide +kernel, by decide +kernel, List.mem_of_getElem? (i := 143) (by decide +kernel), fun h => absurd h (by decide +kernel), fun _ => ⟨List.mem_of_getElem? (i := 1568) (by decide +kernel), fun _ => List.mem_of_getElem? (i := 105) (by decide +kernel)⟩⟩
theorem mI185_code : mIC mI185 := List.mem_of_getElem? (i := 1569) (by decide +kernel)
theorem mI186_ok : mIO mI186 := ⟨rfl, by decide +kernel, by decide +kernel, List.mem_of_getElem? (i := 143) (by decide +kernel), fun h => absurd h (by decide +kernel), fun _ => ⟨List.mem_of_getElem? (i := 1572) (by decide +kernel), fun _ => List.mem_of_getElem? (i := 106) (by decide +kernel)⟩⟩
theorem mI186_code : mIC mI186 := List.mem_of_getElem? (i := 1573) (by decide +kernel)
theorem mI187_ok : mIO mI187 := ⟨rfl, by decide +kernel, by decide +kernel, List.mem_of_getElem? (i := 143) (by decide +kernel), fun h => absurd h (by decide +kernel), fun _ => ⟨List.mem_of_getElem? (i := 1576) (by decide +kernel), fun _ => List.mem_of_getElem? (i := 107) (by decide +kernel)⟩⟩
theorem mI187_code : mIC mI187 := List.mem_of_getElem? (i := 1577) (by decide +kernel)
theorem mI188_ok : mIO mI188 := ⟨rfl, by decide +kernel, by decide +kernel, List.mem_of_getElem? (i := 143) (by decide +kernel), fun h => absurd h (by decide +kernel), fun _ => ⟨List.mem_of_getElem? (i := 1580) (by decide +kernel), fun _ => List.mem_of_getElem? (i := 108) (by decide +kernel)⟩⟩
theorem mI188_code : mIC mI188 := List.mem_of_getElem? (i := 1581) (by decide +kernel)
theorem mI189_ok : mIO mI189 := ⟨rfl, by decide +kernel, by decide +kernel, List.mem_of_getElem? (i := 143) (by decide +kernel), fun h => absurd h (by decide +kernel), fun _ => ⟨List.mem_of_getElem? (i := 1584) (by decide +kernel), fun _ => List.mem_of_getElem? (i := 109) (by decide +kernel)⟩⟩
theorem mI189_code : mIC mI189 := List.mem_of_getElem? (i := 1585) (by decide +kernel)
theorem mI190_ok : mIO mI190 := ⟨rfl, by decide +kernel, by decide +kernel, List.mem_of_getElem? (i := 143) (by decide +kernel), fun h => absurd h (by decide +kernel), fun _ => ⟨List.mem_of_getElem? (i := 1588) (by decide +kernel), fun _ => List.mem_of_getElem? (i := 110) (by decide +kernel)⟩⟩
theorem mI190_code : mIC mI190 := List.mem_of_getElem? (i := 1589) (by decide +kernel)
theorem mI191_ok : mIO mI191 := ⟨rfl, by decide +kernel, by decide +kernel, List.mem_of_getElem? (i := 143) (by decide +kernel), fun h => absurd h (by decide +kernel), fun _ => ⟨List.mem_of_getElem? (i := 1592) (by decide +kernel), fun _ => List.mem_of_getElem? (i := 111) (by decide +kernel)⟩⟩
theorem mI191_code : mIC mI191 := List.mem_of_getElem? (i := 1593) (by decide +kernel)
theorem mI192_ok : mIO mI192 := ⟨rfl, by decide +kernel, by decide +kernel, List.mem_of_getElem? (i := 143) (by decide +kernel), fun h => absurd h (by decide +kernel), fun _ => ⟨List.mem_of_getElem? (i := 1596) (by decide +kernel), fun _ => List.mem_of_getElem? (i := 112) (by decide +kernel)⟩⟩
theorem mI192_code : mIC mI192 := List.mem_of_getElem? (i := 1597) (by decide +kernel)
theorem mI193_ok : mIO mI193 := ⟨rfl, by decide +kernel, by decide +kernel, List.mem_of_getElem? (i := 143) (by decide +kernel), fun h => absurd h (by decide +kernel), fun _ => ⟨List.mem_of_getElem? (i := 1600) (by decide +kernel), fun _ => List.mem_of_getElem? (i := 113) (by decide +kernel)⟩⟩
theorem mI193_code : mIC mI193 := List.mem_of_getElem? (i := 1601) (by decide +kernel)
theorem mI194_ok : mIO mI194 := ⟨rfl, by decide +kernel, by decide +kernel, List.mem_of_getElem? (i := 143) (by decide +kernel), fun h => absurd h (by decide +kernel), fun _ => ⟨List.mem_of_getElem? (i := 1604) (by decide +kernel), fun _ => List.mem_of_getElem? (i := 114) (by decide +kernel)⟩⟩
theorem mI194_code : mIC mI194 := List.mem_of_getElem? (i := 1605) (by decide +kernel)
theorem mI195_ok : mIO mI195 := ⟨rfl, by decide +kernel, by decide +kernel, List.mem_of_getElem? (i := 143) (by decide +kernel), fun h => absurd h (by decide +kernel), fun _ => ⟨List.mem_of_getElem? (i := 1608) (by decide +kernel), fun _ => List.mem_of_getElem? (i := 115) (by decide +kernel)⟩⟩
theorem mI195_code : mIC mI195 := List.mem_of_getElem? (i := 1609) (by decide +kernel)
theorem mI196_ok : mIO mI196 := ⟨rfl, by decide +kernel, by decide +kernel, List.mem_of_getElem? (i := 143) (by decide +kernel), fun h => absurd h (by decide +kernel), fun _ => ⟨List.mem_of_getElem? (i := 1612) (by decide +kernel), fun _ => List.mem_of_getElem? (i := 116) (by decide +kernel)⟩⟩
theorem mI196_code : mIC mI196 := List.mem_of_getElem? (i := 1613) (by decide +kernel)
theorem mI197_ok : mIO mI197 := ⟨rfl, by decide +kernel, by decide +kernel, List.mem_of_getElem? (i := 143) (by decide +kernel), fun h => absurd h (by decide +kernel), fun _ => ⟨List.mem_of_getElem? (i := 1615) (by decide +kernel), fun _ => List.mem_of_getElem? (i := 1616) (by decide +kernel)⟩⟩
theorem mI197_code : mIC mI197 := List.mem_of_getElem? (i := 1617) (by decide +kernel)
theorem mI198_ok : mIO mI198 := ⟨rfl, by decide +kernel, by decide +kernel, List.mem_of_getElem? (i := 143) (by decide +kernel), fun h => absurd h (by decide +kernel), fun _ => ⟨List.mem_of_getElem? (i := 1619) (by decide +kernel), fun _ => List.mem_of_getElem? (i := 1620) (by decide +kernel)⟩⟩
theorem mI198_code : mIC mI198 := List.mem_of_getElem? (i := 1621) (by decide +kernel)
theorem mI199_ok : mIO mI199 := ⟨rfl, by decide +kernel, by decide +kernel, List.mem_of_getElem? (i := 143) (by decide +kernel), fun h => absurd h (by decide +kernel), fun _ => ⟨List.mem_of_getElem? (i := 1624) (by decide +kernel), fun _ => List.mem_of_getElem? (i := 117) (by decide +kernel)⟩⟩
theorem mI199_code : mIC mI199 := List.mem_of_getElem? (i := 1625) (by decide +kernel)
theorem mI200_ok : mIO mI200 := ⟨rfl, by decide +kernel, by decide +kernel, List.mem_of_getElem? (i := 143) (by decide +kernel), fun _ => List.mem_of_getElem? (i := 1627) (by decide +kernel), fun h => absurd h (by decide +kernel)⟩
theorem mI200_code : mIC mI200 := List.mem_of_getElem? (i := 1628) (by decide +kernel)
theorem mI201_ok : mIO mI201 := ⟨rfl, by decide +kernel, by decide +kernel, List.mem_of_getElem? (i := 143) (by decide +kernel), fun h => absurd h (by decide +kernel), fun _ => ⟨List.mem_of_getElem? (i := 1631) (by decide +kernel), fun _ => List.mem_of_getElem? (i := 118) (by decide +kernel)⟩⟩
theorem mI201_code : mIC mI201 := List.mem_of_getElem? (i := 1632) (by decide +kernel)
theorem mI202_ok : mIO mI202 := ⟨rfl, by decide +kernel, by decide +kernel, List.mem_of_getElem? (i := 143) (by decide +kernel), fun h => absurd h (by decide +kernel), fun _ => ⟨List.mem_of_getElem? (i := 1635) (by decide +kernel), fun _ => List.mem_of_getElem? (i := 119) (by decide +kernel)⟩⟩
theorem mI202_code : mIC mI202 := List.mem_of_getElem? (i := 1636) (by decide +kernel)
theorem mI203_ok : mIO mI203 := ⟨rfl, by decide +kernel, by decide +kernel, List.mem_of_getElem? (i := 143) (by decide +kernel), fun h => absurd h (by decide +kernel), fun _ => ⟨List.mem_of_getElem? (i := 1639) (by decide +kernel), fun _ => List.mem_of_getElem? (i := 120) (by decide +kernel)⟩⟩
theorem mI203_code : mIC mI203 := List.mem_of_getElem? (i := 1640) (by decide +kernel)
theorem mI204_ok : mIO mI204 := ⟨rfl, by decide +kernel, by decide +kernel, List.mem_of_getElem? (i := 143) (by decide +kernel), fun h => absurd h (by decide +kernel), fun _ => ⟨List.mem_of_getElem? (i := 1644) (by decide +kernel), fun _ => List.mem_of_getElem? (i := 121) (by decide +kernel)⟩⟩
theorem mI204_code : mIC mI204 := List.mem_of_getElem? (i := 1645) (by decide +kernel)
theorem mI205_ok : mIO mI205 := ⟨rfl, by decide +kernel, by decide +kernel, List.mem_of_getElem? (i := 143) (by decide +kernel), fun h => absurd h (by decide +kernel), fun _ => ⟨List.mem_of_getElem? (i := 1648) (by decide +kernel), fun _ => List.mem_of_getElem? (i := 122) (by decide +kernel)⟩⟩
theorem mI205_code : mIC mI205 := List.mem_of_getElem? (i := 1649) (by decide +kernel)
theorem mI206_ok : mIO mI206 := ⟨rfl, by decide +kernel, by decide +kernel, List.mem_of_getElem? (i := 143) (by decide +kernel), fun h => absurd h (by decide +kernel), fun _ => ⟨List.mem_of_getElem? (i := 1653) (by decide +kernel), fun _ => List.mem_of_getElem? (i := 123) (by decide +kernel)⟩⟩
theorem mI206_code : mIC mI206 := List.mem_of_getElem? (i := 1654) (by decide +kernel)
theorem mI207_ok : mIO mI207 := ⟨rfl, by decide +kernel, by decide +kernel, List.mem_of_getElem? (i := 143) (by decide +kernel), fun _ => List.mem_of_getElem? (i := 1656) (by decide +kernel), fun h => absurd h (by decide +kernel)⟩
theorem mI207_code : mIC mI207 := List.mem_of_getElem? (i := 1657) (by decide +kernel)
theorem mI208_ok : mIO mI208 := ⟨rfl, by decide +kernel, by decide +kernel, List.mem_of_getElem? (i := 143) (by decide +kernel), fun _ => List.mem_of_getElem? (i := 1659) (by decide +kernel), fun h => absurd h (by decide +kernel)⟩
theorem mI208_code : mIC mI208 := List.mem_of_getElem? (i := 1660) (by decide +kernel)
theorem mI209_ok : mIO mI209 := ⟨rfl, by decide +kernel, by decide +kernel, List.mem_of_getElem? (i := 143) (by decide +kernel), fun h => absurd h (by decide +kernel), fun _ => ⟨List.mem_of_getElem? (i := 1663) (by decide +kernel), fun _ => List.mem_of_getElem? (i := 124) (by decide +kernel)⟩⟩
theorem mI209_code : mIC mI209 := List.mem_of_getElem? (i := 1664) (by decide +kernel)
theorem mI210_ok : mIO mI210 := ⟨rfl, by decide +kernel, by decide +kernel, List.mem_of_getElem? (i := 143) (by decide +kernel), fun h => absurd h (by decide +kernel), fun _ => ⟨List.mem_of_getElem? (i := 1667) (by decide +kernel), fun _ => List.mem_of_getElem? (i := 125) (by decide +kernel)⟩⟩
theorem mI210_code : mIC mI210 := List.mem_of_getElem? (i := 1668) (by decide +kernel)
theorem mI211_ok : mIO mI211 := ⟨rfl, by decide +kernel, by decide +kernel, List.mem_of_getElem? (i := 143) (by decide +kernel), fun h => absurd h (by decide +kernel), fun _ => ⟨List.mem_of_getElem? (i := 1672) (by decide +kernel), fun _ => List.mem_of_getElem? (i := 126) (by decide +kernel)⟩⟩
theorem mI211_code : mIC mI211 := List.mem_of_getElem? (i := 1673) (by decide +kernel)
theorem mI212_ok : mIO mI212 := ⟨rfl, by decide +kernel, by decide +kernel, List.mem_of_getElem? (i := 143) (by decide +kernel), fun h => absurd h (by decide +kernel), fun _ => ⟨List.mem_of_getElem? (i := 1676) (by decide +kernel), fun _ => List.mem_of_getElem? (i := 127) (by decide +kernel)⟩⟩
theorem mI212_code : mIC mI212 := List.mem_of_getElem? (i := 1677) (by decide +kernel)
theorem mI213_ok : mIO mI213 := ⟨rfl, by decide +kernel, by decide +kernel, List.mem_of_getElem? (i := 143) (by decide +kernel), fun h => absurd h (by decide +kernel), fun _ => ⟨List.mem_of_getElem? (i := 1680) (by decide +kernel), fun _ => List.mem_of_getElem? (i := 128) (by decide +kernel)⟩⟩
theorem mI213_code : mIC mI213 := List.mem_of_getElem? (i := 1681) (by decide +kernel)
theorem mI214_ok : mIO mI214 := ⟨rfl, by decide +kernel, by decide +kernel, List.mem_of_getElem? (i := 143) (by decide +kernel), fun h => absurd h (by decide +kernel), fun _ => ⟨List.mem_of_getElem? (i := 1686) (by decide +kernel), fun _ => List.mem_of_getElem? (i := 129) (by decide +kernel)⟩⟩
theorem mI214_code : mIC mI214 := List.mem_of_getElem? (i := 1687) (by decide +kernel)
theorem mI215_ok : mIO mI215 := ⟨rfl, by decide +kernel, by decide +kernel, List.mem_of_getElem? (i := 143) (by decide +kernel), fun h => absurd h (by decide +kernel), fun _ => ⟨List.mem_of_getElem? (i := 1690) (by decide +kernel), fun _ => List.mem_of_getElem? (i := 130) (by decide +kernel)⟩⟩
theorem mI215_code : mIC mI215 := List.mem_of_getElem? (i := 1691) (by decide +kernel)
theorem mI216_ok : mIO mI216 := ⟨rfl, by decide +kernel, by decide +kernel, List.mem_of_getElem? (i := 143) (by decide +kernel), fun h => absurd h (by decide +kernel), fun _ => ⟨List.mem_of_getElem? (i := 1695) (by decide +kernel), fun _ => List.mem_of_getElem? (i := 131) (by decide +kernel)⟩⟩
theorem mI216_code : mIC mI216 := List.mem_of_getElem? (i := 1696) (by decide +kernel)
theorem mI217_ok : mIO mI217 := ⟨rfl, by decide +kernel, by decide +kernel, List.mem_of_getElem? (i := 143) (by decide +kernel), fun h => absurd h (by decide +kernel), fun _ => ⟨List.mem_of_getElem? (i := 1699) (by decide +kernel), fun _ => List.mem_of_getElem? (i := 132) (by decide +kernel)⟩⟩
theorem mI217_code : mIC mI217 := List.mem_of_getElem? (i := 1700) (by decide +kernel)
theorem mI218_ok : mIO mI218 := ⟨rfl, by decide +kernel, by decide +kernel, List.mem_of_getElem? (i := 143) (by decide +kernel), fun h => absurd h (by decide +kernel), fun _ => ⟨List.mem_of_getElem? (i := 1702) (by decide +kernel), fun _ => List.mem_of_getElem? (i := 1703) (by decide +kernel)⟩⟩
theorem mI218_code : mIC mI218 := List.mem_of_getElem? (i := 1704) (by decide +kernel)
theorem mI219_ok : mIO mI219 := ⟨rfl, by decide +kernel, by decide +kernel, List.mem_of_getElem? (i := 143) (by decide +kernel), fun h => absurd h (by decide +kernel), fun _ => ⟨List.mem_of_getElem? (i := 1706) (by decide +kernel), fun _ => List.mem_of_getElem? (i := 1707) (by decide +kernel)⟩⟩
theorem mI219_code : mIC mI219 := List.mem_of_getElem? (i := 1708) (by decide +kernel)
theorem mI220_ok : mIO mI220 := ⟨rfl, by decide +kernel, by decide +kernel, List.mem_of_getElem? (i := 143) (by decide +kernel), fun h => absurd h (by decide +kernel), fun _ => ⟨List.mem_of_getElem? (i := 1711) (by decide +kernel), fun _ => List.mem_of_getElem? (i := 133) (by decide +kernel)⟩⟩
theorem mI220_code : mIC mI220 := List.mem_of_getElem? (i := 1712) (by decide +kernel)
theorem mI221_ok : mIO mI221 := ⟨rfl, by decide +kernel, by decide +kernel, List.mem_of_getElem? (i := 143) (by decide +kernel), fun h => absurd h (by decide +kernel), fun _ => ⟨List.mem_of_getElem? (i := 1714) (by decide +kernel), fun _ => List.mem_of_getElem? (i := 1715) (by decide +kernel)⟩⟩
theorem mI221_code : mIC mI221 := List.mem_of_getElem? (i := 1716) (by decide +kernel)
theorem mI222_ok : mIO mI222 := ⟨rfl, by decide +kernel, by decide +kernel, List.mem_of_getElem? (i := 143) (by decide +kernel), fun h => absurd h (by decide +kernel), fun _ => ⟨List.mem_of_getElem? (i := 1718) (by decide +kernel), fun _ => List.mem_of_getElem? (i := 1719) (by decide +kernel)⟩⟩
theorem mI222_code : mIC mI222 := List.mem_of_getElem? (i := 1720) (by decide +kernel)
theorem mI223_ok : mIO mI223 := ⟨rfl, by decide +kernel, by decide +kernel, List.mem_of_getElem? (i := 143) (by decide +kernel), fun h => absurd h (by decide +kernel), fun _ => ⟨List.mem_of_getElem? (i := 1722) (by decide +kernel), fun _ => List.mem_of_getElem? (i := 1723) (by decide +kernel)⟩⟩
theorem mI223_code : mIC mI223 := List.mem_of_getElem? (i := 1724) (by decide +kernel)
theorem mI224_ok : mIO mI224 := ⟨rfl, by decide +kernel, by decide +kernel, List.mem_of_getElem? (i := 134) (by decide +kernel), fun _ => List.mem_of_getElem? (i := 643) (by decide +kernel), fun h => absurd h (by decide +kernel)⟩
theorem mI225_ok : mIO mI225 := ⟨rfl, by decide +kernel, by decide +kernel, List.mem_of_getElem? (i := 134) (by decide +kernel), fun _ => List.mem_of_getElem? (i := 1107) (by decide +kernel), fun h => absurd h (by decide +kernel)⟩
theorem mI226_ok : mIO mI226 := ⟨rfl, by decide +kernel, by decide +kernel, List.mem_of_getElem? (i := 134) (by decide +kernel), fun _ => List.mem_of_getElem? (i := 1148) (by decide +kernel), fun h => absurd h (by decide +kernel)⟩
theorem mI227_ok : mIO mI227 := ⟨rfl, by decide +kernel, by decide +kernel, List.mem_of_getElem? (i := 134) (by decide +kernel), fun _ => List.mem_of_getElem? (i := 1155) (by decide +kernel), fun h => absurd h (by decide +kernel)⟩
theorem mI228_ok : mIO mI228 := ⟨rfl, by decide +kernel, by decide +kernel, List.mem_of_getElem? (i := 134) (by decide +kernel), fun _ => List.mem_of_getElem? (i := 1167) (by decide +kernel), fun h => absurd h (by decide +kernel)⟩
end
section
abbrev mEnt : Type := Instr × Nat × Nat × Nat × Nat
def mLen (n : Nat) : Instr → Nat
  | .bipush _ | .ldc _ | .iload _ | .lload _ | .dload _ | .aload _ | .istore _ | .lstore _ | .dstore _ | .astore _ | .newarray _ => 2
  | .sipush _ | .ldc_w _ | .ldc2_w _ | .iinc _ _ | .ifCond _ _ | .if_icmp _ _ | .goto _ | .ifnull _ | .ifnonnull _ | .getfield _ | .putfield _ | .invokevirtual _ | .invokespecial _ | .invokestatic _ | .new _ | .anewarray _ => 3
  | .tableswitch _ _ _ _ | .lookupswitch _ _ => n
  | _ => 1
def mNmOf (y : Nat) : MethodName := (mTab.getD y mI0).1
def mLinkOk (own : String) (a b w : Nat) : Instr → Bool
  | .getfield ix | .putfield ix => match cls[a]? with
    | some q => decide (b < q.2.2) && decide (lw_tbl[w]? = some (.fieldLink own ix q.1 (q.2.1 b).2.1 (q.2.1 b).2.2.1))
    | none => false
  | .invokevirtual ix => match mTab[b]? with
    | some q => decide (a = 0) && decide (lw_tbl[w]? = some (.methodLink own ix q.1)) && decide (q.2.2.2.2.2.2 = 0) && decide (q.1.name ≠ "<init>")
    | none => false
  | .invokestatic ix => if a = 5 then decide (lw_tbl[w]? = some (.methodLink own ix ⟨"java/lang/Math", "min", "(II)I"⟩)) else match mTab[b]? with
    | some q => decide (a = 1) && decide (lw_tbl[w]? = some (.methodLink own ix q.1)) && decide (q.2.2.2.2.2.2 = 1)
    | none => false
  | .invokespecial ix => if a = 4 then decide (lw_tbl[w]? = some (.methodLink own ix Lib.objectInit)) else if a = 9 then true else match mTab[b]? with
    | some q => decide (q.1.name = "<init>") && decide (q.2.2.2.2.2.2 = 0) && decide (q.2.2.2.1 = none) && (if a = 2 then decide (lw_tbl[w]? = some (.methodLink own ix q.1)) else decide (a = 3) && decide (lw_tbl[w]? = some (.methodLinkNest own ix q.1 "FunDesk")))
    | none => false
  | .new ix => if 100 ≤ a then true else match cls[a]? with
    | some q => decide (lw_tbl[w]? = some (.classLink own ix q.1))
    | none => false
  | .anewarray ix => decide (a = 8) && decide (lw_tbl[w]? = some (.classLink own ix mR8))
  | .ldc ix => if a = 0 then decide (lw_tbl[w]? = some (.constant own ix (Int32.ofNat b))) else true
  | .ldc_w ix => if a = 0 then decide (lw_tbl[w]? = some (.constant own ix (Int32.ofNat b))) else true
  | .ldc2_w ix => if a = 0 then decide (lw_tbl[w]? = some (.constantLong own ix (Int64.ofNat b))) else decide (lw_tbl[w]? = some (.constantDouble own ix (UInt64.ofNat b)))
  | _ => true
def mChkAt (own : String) (bytes : ByteArray) : Nat → List (Option mEnt) → Bool
  | _, [] => true
  | pc, none :: r => mChkAt own bytes (pc + 1) r
  | pc, some (i, n, a, b, w) :: r => decide (decode bytes pc = .ok (i, n)) && decide (n = mLen n i) && mLinkOk own a b w i && mChkAt own bytes (pc + 1) r
def cd0 : List (Option mEnt) := [some (.aload_n 0, 1, 0, 0, 0), some (.invokespecial 1, 3, 4, 0, 162), none, none, some (.aload_n 0, 1, 0, 0, 0), some (.new 7, 3, 1, 0, 165), none, none, some (.dup, 1, 0, 0, 0), some (.invokespecial 9, 3, 3, 1, 167), none, none, some (.putfield 10, 3, 0, 0, 365), none, none, some (.aload_n 0, 1, 0, 0, 0), some (.new 16, 3, 3, 0, 189), none, none, some (.dup, 1, 0, 0, 0), some (.invokespecial 18, 3, 3, 3, 191), none, none, some (.putfield 19, 3, 0, 1, 366), none, none, some (.aload_n 0, 1, 0, 0, 0), some (.new 16, 3, 3, 0, 189), none, none, some (.dup, 1, 0, 0, 0), some (.invokespecial 18, 3, 3, 3, 191), none, none, some (.putfield 23, 3, 0, 2, 367), none, none, some (.aload_n 0, 1, 0, 0, 0), some (.new 26, 3, 4, 0, 225), none, none, some (.dup, 1, 0, 0, 0), some (.aload_n 0, 1, 0, 0, 0), some (.getfield 10, 3, 0, 0, 365), none, none, some (.aload_n 0, 1, 0, 0, 0), some (.getfield 19, 3, 0, 1, 366), none, none, some (.invokespecial 28, 3, 2, 4, 227), none, none, some (.putfield 31, 3, 0, 3, 368), none, none, some (.aload_n 0, 1, 0, 0, 0), some (.new 35, 3, 5, 0, 255), none, none, some (.dup, 1, 0, 0, 0), some (.invokespecial 37, 3, 3, 5, 257), none, none, some (.putfield 38, 3, 0, 4, 369), none, none, some (.aload_n 0, 1, 0, 0, 0), some (.new 42, 3, 6, 0, 288), none, none, some (.dup, 1, 0, 0, 0), some (.aload_n 0, 1, 0, 0, 0), some (.getfield 19, 3, 0, 1, 366), none, none, some (.aload_n 0, 1, 0, 0, 0), some (.getfield 38, 3, 0, 4, 369), none, none, some (.invokespecial 44, 3, 2, 6, 290), none, none, some (.putfield 47, 3, 0, 5, 370), none, none, some (.aload_n 0, 1, 0, 0, 0), some (.new 51, 3, 7, 0, 318), none, none, some (.dup, 1, 0, 0, 0), some (.aload_n 0, 1, 0, 0, 0), some (.getfield 23, 3, 0, 2, 367), none, none, some (.invokespecial 53, 3, 2, 7, 320), none, none, some (.putfield 56, 3, 0, 6, 371), none, none, some (.aload_n 0, 1, 0, 0, 0), some (.new 60, 3, 2, 0, 363), none, none, some (.dup, 1, 0, 0, 0), some (.bipush (80), 2, 0, 0, 0), none, some (.invokespecial 62, 3, 2, 2, 364), none, none, some (.putfield 65, 3, 0, 7, 372), none, none, some (.return_, 1, 0, 0, 0)]
set_option maxRecDepth 100000 in
theorem cd0_ok : mChkAt mI0.1.cls mI0.2.1 0 cd0 = true := by decide +kernel
def cd1 : List (Option mEnt) := [some (.aload_n 0, 1, 0, 0, 0), some (.invokespecial 3, 3, 4, 0, 170), none, none, some (.aload_n 0, 1, 0, 0, 0), some (.new 9, 3, 2, 0, 171), none, none, some (.dup, 1, 0, 0, 0), some (.bipush (60), 2, 0, 0, 0), none, some (.invokespecial 13, 3, 2, 2, 173), none, none, some (.putfield 16, 3, 1, 0, 182), none, none, some (.return_, 1, 0, 0, 0)]
set_option maxRecDepth 100000 in
theorem cd1_ok : mChkAt mI1.1.cls mI1.2.1 0 cd1 = true := by decide +kernel
def cd2 : List (Option mEnt) := [some (.aload_n 0, 1, 0, 0, 0), some (.invokespecial 3, 3, 4, 0, 176), none, none, some (.aload_n 0, 1, 0, 0, 0), some (.iload_n 1, 1, 0, 0, 0), some (.ifCond .ge (7), 3, 0, 0, 0), none, none, some (.iconst 0, 1, 0, 0, 0), some (.goto (4), 3, 0, 0, 0), none, none, some (.iload_n 1, 1, 0, 0, 0), some (.newarray .int, 2, 0, 0, 0), none, some (.putfield 9, 3, 2, 0, 177), none, none, some (.return_, 1, 0, 0, 0)]
set_option maxRecDepth 100000 in
theorem cd2_ok : mChkAt mI2.1.cls mI2.2.1 0 cd2 = true := by decide +kernel
def cd3 : List (Option mEnt) := [some (.aload_n 0, 1, 0, 0, 0), some (.invokespecial 3, 3, 4, 0, 194), none, none, some (.aload_n 0, 1, 0, 0, 0), some (.new 9, 3, 2, 0, 195), none, none, some (.dup, 1, 0, 0, 0), some (.sipush (128), 3, 0, 0, 0), none, none, some (.invokespecial 13, 3, 2, 2, 196), none, none, some (.putfield 16, 3, 3, 0, 197), none, none, some (.aload_n 0, 1, 0, 0, 0), some (.new 9, 3, 2, 0, 195), none, none, some (.dup, 1, 0, 0, 0), some (.sipush (128), 3, 0, 0, 0), none, none, some (.invokespecial 13, 3, 2, 2, 196), none, none, some (.putfield 20, 3, 3, 1, 198), none, none, some (.aload_n 0, 1, 0, 0, 0), some (.new 9, 3, 2, 0, 195), none, none, some (.dup, 1, 0, 0, 0), some (.sipush (128), 3, 0, 0, 0), none, none, some (.invokespecial 13, 3, 2, 2, 196), none, none, some (.putfield 23, 3, 3, 2, 199), none, none, some (.aload_n 0, 1, 0, 0, 0), some (.new 9, 3, 2, 0, 195), none, none, some (.dup, 1, 0, 0, 0), some (.sipush (128), 3, 0, 0, 0), none, none, some (.invokespecial 13, 3, 2, 2, 196), none, none, some (.putfield 26, 3, 3, 3, 200), none, none, some (.aload_n 0, 1, 0, 0, 0), some (.new 9, 3, 2, 0, 195), none, none, some (.dup, 1, 0, 0, 0), some (.sipush (128), 3, 0, 0, 0), none, none, some (.invokespecial 13, 3, 2, 2, 196), none, none, some (.putfield 29, 3, 3, 4, 201), none, none, some (.aload_n 0, 1, 0, 0, 0), some (.new 9, 3, 2, 0, 195), none, none, some (.dup, 1, 0, 0, 0), some (.sipush (128), 3, 0, 0, 0), none, none, some (.invokespecial 13, 3, 2, 2, 196), none, none, some (.putfield 32, 3, 3, 5, 202), none, none, some (.aload_n 0, 1, 0, 0, 0), some (.new 9, 3, 2, 0, 195), none, none, some (.dup, 1, 0, 0, 0), some (.sipush (128), 3, 0, 0, 0), none, none, some (.invokespecial 13, 3, 2, 2, 196), none, none, some (.putfield 35, 3, 3, 6, 203), none, none, some (.aload_n 0, 1, 0, 0, 0), some (.iconst (-1), 1, 0, 0, 0), some (.putfield 38, 3, 3, 8, 205), none, none, some (.return_, 1, 0, 0, 0)]
set_option maxRecDepth 100000 in
theorem cd3_ok : mChkAt mI3.1.cls mI3.2.1 0 cd3 = true := by decide +kernel
def cd4 : List (Option mEnt) := [some (.aload_n 0, 1, 0, 0, 0), some (.invokespecial 3, 3, 4, 0, 230), none, none, some (.aload_n 0, 1, 0, 0, 0), some (.new 9, 3, 2, 0, 231), none, none, some (.dup, 1, 0, 0, 0), some (.bipush (26), 2, 0, 0, 0), none, some (.invokespecial 13, 3, 2, 2, 232), none, none, some (.putfield 16, 3, 4, 2, 235), none, none, some (.aload_n 0, 1, 0, 0, 0), some (.aload_n 1, 1, 0, 0, 0), some (.putfield 20, 3, 4, 0, 233), none, none, some (.aload_n 0, 1, 0, 0, 0), some (.aload_n 2, 1, 0, 0, 0), some (.putfield 24, 3, 4, 1, 234), none, none, some (.return_, 1, 0, 0, 0)]
set_option maxRecDepth 100000 in
theorem cd4_ok : mChkAt mI4.1.cls mI4.2.1 0 cd4 = true := by decide +kernel
def cd5 : List (Option mEnt) := [some (.aload_n 0, 1, 0, 0, 0), some (.invokespecial 3, 3, 4, 0, 260), none, none, some (.aload_n 0, 1, 0, 0, 0), some (.new 9, 3, 2, 0, 261), none, none, some (.dup, 1, 0, 0, 0), some (.sipush (3000), 3, 0, 0, 0), none, none, some (.invokespecial 13, 3, 2, 2, 262), none, none, some (.putfield 16, 3, 5, 0, 263), none, none, some (.aload_n 0, 1, 0, 0, 0), some (.new 9, 3, 2, 0, 261), none, none, some (.dup, 1, 0, 0, 0), some (.sipush (3000), 3, 0, 0, 0), none, none, some (.invokespecial 13, 3, 2, 2, 262), none, none, some (.putfield 20, 3, 5, 1, 264), none, none, some (.aload_n 0, 1, 0, 0, 0), some (.new 9, 3, 2, 0, 261), none, none, some (.dup, 1, 0, 0, 0), some (.sipush (3000), 3, 0, 0, 0), none, none, some (.invokespecial 13, 3, 2, 2, 262), none, none, some (.putfield 23, 3, 5, 2, 265), none, none, some (.aload_n 0, 1, 0, 0, 0), some (.new 9, 3, 2, 0, 261), none, none, some (.dup, 1, 0, 0, 0), some (.bipush (20), 2, 0, 0, 0), none, some (.invokespecial 13, 3, 2, 2, 262), none, none, some (.putfield 26, 3, 5, 3, 266), none, none, some (.aload_n 0, 1, 0, 0, 0), some (.new 9, 3, 2, 0, 261), none, none, some (.dup, 1, 0, 0, 0), some (.bipush (20), 2, 0, 0, 0), none, some (.invokespecial 13, 3, 2, 2, 262), none, none, some (.putfield 29, 3, 5, 4, 267), none, none, some (.return_, 1, 0, 0, 0)]
set_option maxRecDepth 100000 in
theorem cd5_ok : mChkAt mI5.1.cls mI5.2.1 0 cd5 = true := by decide +kernel
def cd6 : List (Option mEnt) := [some (.aload_n 0, 1, 0, 0, 0), some (.invokespecial 3, 3, 4, 0, 293), none, none, some (.aload_n 0, 1, 0, 0, 0), some (.new 9, 3, 2, 0, 294), none, none, some (.dup, 1, 0, 0, 0), some (.bipush (64), 2, 0, 0, 0), none, some (.invokespecial 13, 3, 2, 2, 295), none, none, some (.putfield 16, 3, 6, 2, 298), none, none, some (.aload_n 0, 1, 0, 0, 0), some (.new 9, 3, 2, 0, 294), none, none, some (.dup, 1, 0, 0, 0), some (.bipush (64), 2, 0, 0, 0), none, some (.invokespecial 13, 3, 2, 2, 295), none, none, some (.putfield 20, 3, 6, 3, 299), none, none, some (.aload_n 0, 1, 0, 0, 0), some (.aload_n 1, 1, 0, 0, 0), some (.putfield 23, 3, 6, 0, 296), none, none, some (.aload_n 0, 1, 0, 0, 0), some (.aload_n 2, 1, 0, 0, 0), some (.putfield 27, 3, 6, 1, 297), none, none, some (.return_, 1, 0, 0, 0)]
set_option maxRecDepth 100000 in
theorem cd6_ok : mChkAt mI6.1.cls mI6.2.1 0 cd6 = true := by decide +kernel
def cd7 : List (Option mEnt) := [some (.aload_n 0, 1, 0, 0, 0), some (.invokespecial 3, 3, 4, 0, 323), none, none, some (.aload_n 0, 1, 0, 0, 0), some (.sipush (200), 3, 0, 0, 0), none, none, some (.anewarray 11, 3, 8, 0, 324), none, none, some (.putfield 13, 3, 7, 1, 327), none, none, some (.aload_n 0, 1, 0, 0, 0), some (.aload_n 1, 1, 0, 0, 0), some (.putfield 17, 3, 7, 0, 326), none, none, some (.return_, 1, 0, 0, 0)]
set_option maxRecDepth 100000 in
theorem cd7_ok : mChkAt mI7.1.cls mI7.2.1 0 cd7 = true := by decide +kernel
def cd8 : List (Option mEnt) := [some (.aload_n 0, 1, 0, 0, 0), some (.getfield 10, 3, 0, 0, 365), none, none, some (.iload_n 1, 1, 0, 0, 0), some (.invokevirtual 69, 3, 0, 9, 400), none, none, some (.ireturn, 1, 0, 0, 0)]
set_option maxRecDepth 100000 in
theorem cd8_ok : mChkAt mI8.1.cls mI8.2.1 0 cd8 = true := by decide +kernel
def cd9 : List (Option mEnt) := [some (.iload_n 1, 1, 0, 0, 0), some (.bipush (32), 2, 0, 0, 0), none, some (.if_icmp .lt (18), 3, 0, 0, 0), none, none, some (.iload_n 1, 1, 0, 0, 0), some (.bipush (126), 2, 0, 0, 0), none, some (.if_icmp .gt (12), 3, 0, 0, 0), none, none, some (.aload_n 0, 1, 0, 0, 0), some (.getfield 20, 3, 1, 1, 183), none, none, some (.bipush (60), 2, 0, 0, 0), none, some (.if_icmp .lt (5), 3, 0, 0, 0), none, none, some (.iconst 0, 1, 0, 0, 0), some (.ireturn, 1, 0, 0, 0), some (.aload_n 0, 1, 0, 0, 0), some (.getfield 16, 3, 1, 0, 182), none, none, some (.aload_n 0, 1, 0, 0, 0), some (.getfield 20, 3, 1, 1, 183), none, none, some (.iload_n 1, 1, 0, 0, 0), some (.invokevirtual 24, 3, 0, 10, 404), none, none, some (.aload_n 0, 1, 0, 0, 0), some (.dup, 1, 0, 0, 0), some (.getfield 20, 3, 1, 1, 183), none, none, some (.iconst 1, 1, 0, 0, 0), some (.iadd, 1, 0, 0, 0), some (.putfield 20, 3, 1, 1, 183), none, none, some (.iconst 1, 1, 0, 0, 0), some (.ireturn, 1, 0, 0, 0)]
set_option maxRecDepth 100000 in
theorem cd9_ok : mChkAt mI9.1.cls mI9.2.1 0 cd9 = true := by decide +kernel
def cd10 : List (Option mEnt) := [some (.iload_n 1, 1, 0, 0, 0), some (.ifCond .lt (19), 3, 0, 0, 0), none, none, some (.iload_n 1, 1, 0, 0, 0), some (.aload_n 0, 1, 0, 0, 0), some (.getfield 9, 3, 2, 0, 177), none, none, some (.arraylength, 1, 0, 0, 0), some (.if_icmp .ge (10), 3, 0, 0, 0), none, none, some (.aload_n 0, 1, 0, 0, 0), some (.getfield 9, 3, 2, 0, 177), none, none, some (.iload_n 1, 1, 0, 0, 0), some (.iload_n 2, 1, 0, 0, 0), some (.iastore, 1, 0, 0, 0), some (.return_, 1, 0, 0, 0)]
set_option maxRecDepth 100000 in
theorem cd10_ok : mChkAt mI10.1.cls mI10.2.1 0 cd10 = true := by decide +kernel
def cd11 : List (Option mEnt) := [some (.aload_n 0, 1, 0, 0, 0), some (.getfield 10, 3, 0, 0, 365), none, none, some (.invokevirtual 73, 3, 0, 12, 412), none, none, some (.return_, 1, 0, 0, 0)]
set_option maxRecDepth 100000 in
theorem cd11_ok : mChkAt mI11.1.cls mI11.2.1 0 cd11 = true := by decide +kernel
def cd12 : List (Option mEnt) := [some (.aload_n 0, 1, 0, 0, 0), some (.iconst 0, 1, 0, 0, 0), some (.putfield 20, 3, 1, 1, 183), none, none, some (.return_, 1, 0, 0, 0)]
set_option maxRecDepth 100000 in
theorem cd12_ok : mChkAt mI12.1.cls mI12.2.1 0 cd12 = true := by decide +kernel
def cd13 : List (Option mEnt) := [some (.iload_n 1, 1, 0, 0, 0), some (.ifCond .lt (22), 3, 0, 0, 0), none, none, some (.iload_n 1, 1, 0, 0, 0), some (.aload_n 0, 1, 0, 0, 0), some (.getfield 115, 3, 0, 8, 373), none, none, some (.if_icmp .ge (14), 3, 0, 0, 0), none, none, some (.aload_n 0, 1, 0, 0, 0), some (.getfield 65, 3, 0, 7, 372), none, none, some (.iload_n 1, 1, 0, 0, 0), some (.invokevirtual 129, 3, 0, 14, 420), none, none, some (.goto (4), 3, 0, 0, 0), none, none, some (.iconst (-1), 1, 0, 0, 0), some (.ireturn, 1, 0, 0, 0)]
set_option maxRecDepth 100000 in
theorem cd13_ok : mChkAt mI13.1.cls mI13.2.1 0 cd13 = true := by decide +kernel
def cd14 : List (Option mEnt) := [some (.iload_n 1, 1, 0, 0, 0), some (.ifCond .lt (21), 3, 0, 0, 0), none, none, some (.iload_n 1, 1, 0, 0, 0), some (.aload_n 0, 1, 0, 0, 0), some (.getfield 9, 3, 2, 0, 177), none, none, some (.arraylength, 1, 0, 0, 0), some (.if_icmp .ge (12), 3, 0, 0, 0), none, none, some (.aload_n 0, 1, 0, 0, 0), some (.getfield 9, 3, 2, 0, 177), none, none, some (.iload_n 1, 1, 0, 0, 0), some (.iaload, 1, 0, 0, 0), some (.goto (4), 3, 0, 0, 0), none, none, some (.iconst (-1), 1, 0, 0, 0), some (.ireturn, 1, 0, 0, 0)]
set_option maxRecDepth 100000 in
theorem cd14_ok : mChkAt mI14.1.cls mI14.2.1 0 cd14 = true := by decide +kernel
def cd15 : List (Option mEnt) := [some (.iload_n 1, 1, 0, 0, 0), some (.ifCond .lt (20), 3, 0, 0, 0), none, none, some (.iload_n 1, 1, 0, 0, 0), some (.bipush (100), 2, 0, 0, 0), none, some (.if_icmp .gt (14), 3, 0, 0, 0), none, none, some (.aload_n 0, 1, 0, 0, 0), some (.getfield 56, 3, 0, 6, 371), none, none, some (.invokevirtual 132, 3, 0, 16, 428), none, none, some (.iconst 1, 1, 0, 0, 0), some (.if_icmp .eq (5), 3, 0, 0, 0), none, none, some (.iconst (-1), 1, 0, 0, 0), some (.ireturn, 1, 0, 0, 0), some (.aload_n 0, 1, 0, 0, 0), some (.getfield 56, 3, 0, 6, 371), none, none, some (.iload_n 1, 1, 0, 0, 0), some (.invokevirtual 135, 3, 0, 17, 432), none, none, some (.istore_n 2, 1, 0, 0, 0), some (.aload_n 0, 1, 0, 0, 0), some (.aload_n 0, 1, 0, 0, 0), some (.getfield 56, 3, 0, 6, 371), none, none, some (.invokevirtual 138, 3, 0, 49, 622), none, none, some (.putfield 125, 3, 0, 9, 374), none, none, some (.iload_n 2, 1, 0, 0, 0), some (.ireturn, 1, 0, 0, 0)]
set_option maxRecDepth 100000 in
theorem cd15_ok : mChkAt mI15.1.cls mI15.2.1 0 cd15 = true := by decide +kernel
def cd16 : List (Option mEnt) := [some (.aload_n 0, 1, 0, 0, 0), some (.getfield 45, 3, 7, 7, 333), none, none, some (.ireturn, 1, 0, 0, 0)]
set_option maxRecDepth 100000 in
theorem cd16_ok : mChkAt mI16.1.cls mI16.2.1 0 cd16 = true := by decide +kernel
def cd17 : List (Option mEnt) := [some (.iconst 0, 1, 0, 0, 0), some (.istore_n 2, 1, 0, 0, 0), some (.iconst 0, 1, 0, 0, 0), some (.istore_n 3, 1, 0, 0, 0), some (.iload_n 3, 1, 0, 0, 0), some (.ldc 61, 2, 0, 1000000, 436), none, some (.if_icmp .ge (108), 3, 0, 0, 0), none, none, some (.aload_n 0, 1, 0, 0, 0), some (.getfield 45, 3, 7, 7, 333), none, none, some (.iconst 1, 1, 0, 0, 0), some (.if_icmp .ne (100), 3, 0, 0, 0), none, none, some (.aload_n 0, 1, 0, 0, 0), some (.getfield 34, 3, 7, 4, 330), none, none, some (.ifCond .ne (10), 3, 0, 0, 0), none, none, some (.aload_n 0, 1, 0, 0, 0), some (.invokevirtual 62, 3, 0, 18, 437), none, none, some (.goto (80), 3, 0, 0, 0), none, none, some (.aload_n 0, 1, 0, 0, 0), some (.getfield 34, 3, 7, 4, 330), none, none, some (.iconst 1, 1, 0, 0, 0), some (.if_icmp .ne (10), 3, 0, 0, 0), none, none, some (.aload_n 0, 1, 0, 0, 0), some (.invokevirtual 65, 3, 0, 29, 511), none, none, some (.goto (65), 3, 0, 0, 0), none, none, some (.iload_n 2, 1, 0, 0, 0), some (.iload_n 1, 1, 0, 0, 0), some (.if_icmp .lt (5), 3, 0, 0, 0), none, none, some (.iload_n 2, 1, 0, 0, 0), some (.ireturn, 1, 0, 0, 0), some (.aload_n 0, 1, 0, 0, 0), some (.getfield 51, 3, 7, 9, 335), none, none, some (.sipush (500), 3, 0, 0, 0), none, none, some (.if_icmp .ge (13), 3, 0, 0, 0), none, none, some (.aload_n 0, 1, 0, 0, 0), some (.getfield 58, 3, 7, 10, 336), none, none, some (.sipush (1000), 3, 0, 0, 0), none, none, some (.if_icmp .lt (11), 3, 0, 0, 0), none, none, some (.aload_n 0, 1, 0, 0, 0), some (.iconst 4, 1, 0, 0, 0), some (.invokevirtual 68, 3, 0, 23, 486), none, none, some (.goto (30), 3, 0, 0, 0), none, none, some (.iinc 2 (1), 3, 0, 0, 0), none, none, some (.aload_n 0, 1, 0, 0, 0), some (.dup, 1, 0, 0, 0), some (.getfield 51, 3, 7, 9, 335), none, none, some (.iconst 1, 1, 0, 0, 0), some (.iadd, 1, 0, 0, 0), some (.putfield 51, 3, 7, 9, 335), none, none, some (.aload_n 0, 1, 0, 0, 0), some (.dup, 1, 0, 0, 0), some (.getfield 58, 3, 7, 10, 336), none, none, some (.iconst 1, 1, 0, 0, 0), some (.iadd, 1, 0, 0, 0), some (.putfield 58, 3, 7, 10, 336), none, none, some (.aload_n 0, 1, 0, 0, 0), some (.invokevirtual 72, 3, 0, 36, 539), none, none, some (.iinc 3 (1), 3, 0, 0, 0), none, none, some (.goto (-108), 3, 0, 0, 0), none, none, some (.iload_n 2, 1, 0, 0, 0), some (.ireturn, 1, 0, 0, 0)]
set_option maxRecDepth 100000 in
theorem cd17_ok : mChkAt mI17.1.cls mI17.2.1 0 cd17 = true := by decide +kernel
def cd18 : List (Option mEnt) := [some (.aload_n 0, 1, 0, 0, 0), some (.getfield 17, 3, 7, 0, 326), none, none, some (.aload_n 0, 1, 0, 0, 0), some (.getfield 31, 3, 7, 3, 329), none, none, some (.invokevirtual 78, 3, 0, 19, 441), none, none, some (.tableswitch (215) (0) (14) #[73, 99, 125, 151, 189, 167, 215, 215, 215, 215, 215, 215, 189, 215, 207], 73, 0, 0, 0), none, none, none, none, none, none, none, none, none, none, none, none, none, none, none, none, none, none, none, none, none, none, none, none, none, none, none, none, none, none, none, none, none, none, none, none, none, none, none, none, none, none, none, none, none, none, none, none, none, none, none, none, none, none, none, none, none, none, none, none, none, none, none, none, none, none, none, none, none, none, none, none, some (.aload_n 0, 1, 0, 0, 0), some (.new 11, 3, 8, 0, 324), none, none, some (.dup, 1, 0, 0, 0), some (.iconst 0, 1, 0, 0, 0), some (.aload_n 0, 1, 0, 0, 0), some (.getfield 17, 3, 7, 0, 326), none, none, some (.aload_n 0, 1, 0, 0, 0), some (.getfield 31, 3, 7, 3, 329), none, none, some (.invokevirtual 82, 3, 0, 20, 447), none, none, some (.invokespecial 75, 3, 2, 21, 451), none, none, some (.invokevirtual 85, 3, 0, 22, 482), none, none, some (.goto (134), 3, 0, 0, 0), none, none, some (.aload_n 0, 1, 0, 0, 0), some (.aload_n 0, 1, 0, 0, 0), some (.getfield 17, 3, 7, 0, 326), none, none, some (.aload_n 0, 1, 0, 0, 0), some (.getfield 31, 3, 7, 3, 329), none, none, some (.invokevirtual 82, 3, 0, 20, 447), none, none, some (.i2d, 1, 0, 0, 0), some (.ldc2_w 89, 3, 1, 4652007308841189376, 490), none, none, some (.ddiv, 1, 0, 0, 0), some (.invokestatic 91, 3, 1, 24, 491), none, none, some (.invokevirtual 85, 3, 0, 22, 482), none, none, some (.goto (108), 3, 0, 0, 0), none, none, some (.aload_n 0, 1, 0, 0, 0), some (.new 11, 3, 8, 0, 324), none, none, some (.dup, 1, 0, 0, 0), some (.iconst 1, 1, 0, 0, 0), some (.aload_n 0, 1, 0, 0, 0), some (.getfield 17, 3, 7, 0, 326), none, none, some (.aload_n 0, 1, 0, 0, 0), some (.getfield 31, 3, 7, 3, 329), none, none, some (.invokevirtual 82, 3, 0, 20, 447), none, none, some (.invokespecial 75, 3, 2, 21, 451), none, none, some (.invokevirtual 85, 3, 0, 22, 482), none, none, some (.goto (82), 3, 0, 0, 0), none, none, some (.aload_n 0, 1, 0, 0, 0), some (.new 11, 3, 8, 0, 324), none, none, some (.dup, 1, 0, 0, 0), some (.iconst 3, 1, 0, 0, 0), some (.iconst 0, 1, 0, 0, 0), some (.invokespecial 75, 3, 2, 21, 451), none, none, some (.invokevirtual 85, 3, 0, 22, 482), none, none, some (.goto (66), 3, 0, 0, 0), none, none, some (.aload_n 0, 1, 0, 0, 0), some (.aload_n 0, 1, 0, 0, 0), some (.aload_n 0, 1, 0, 0, 0), some (.getfield 17, 3, 7, 0, 326), none, none, some (.aload_n 0, 1, 0, 0, 0), some (.getfield 31, 3, 7, 3, 329), none, none, some (.invokevirtual 82, 3, 0, 20, 447), none, none, some (.invokevirtual 95, 3, 0, 25, 496), none, none, some (.invokevirtual 85, 3, 0, 22, 482), none, none, some (.goto (44), 3, 0, 0, 0), none, none, some (.aload_n 0, 1, 0, 0, 0), some (.aload_n 0, 1, 0, 0, 0), some (.getfield 31, 3, 7, 3, 329), none, none, some (.aload_n 0, 1, 0, 0, 0), some (.getfield 37, 3, 7, 5, 331), none, none, some (.invokestatic 99, 3, 1, 26, 500), none, none, some (.invokevirtual 85, 3, 0, 22, 482), none, none, some (.goto (26), 3, 0, 0, 0), none, none, some (.aload_n 0, 1, 0, 0, 0), some (.iconst 2, 1, 0, 0, 0), some (.putfield 34, 3, 7, 4, 330), none, none, some (.goto (18), 3, 0, 0, 0), none, none, some (.aload_n 0, 1, 0, 0, 0), some (.aload_n 0, 1, 0, 0, 0), some (.getfield 17, 3, 7, 0, 326), none, none, some (.aload_n 0, 1, 0, 0, 0), some (.getfield 31, 3, 7, 3, 329), none, none, some (.invokevirtual 103, 3, 0, 27, 503), none, none, some (.invokevirtual 106, 3, 0, 28, 507), none, none, some (.return_, 1, 0, 0, 0)]
set_option maxRecDepth 100000 in
theorem cd18_ok : mChkAt mI18.1.cls mI18.2.1 0 cd18 = true := by decide +kernel
def cd19 : List (Option mEnt) := [some (.aload_n 0, 1, 0, 0, 0), some (.getfield 16, 3, 3, 0, 197), none, none, some (.iload_n 1, 1, 0, 0, 0), some (.invokevirtual 53, 3, 0, 14, 445), none, none, some (.ireturn, 1, 0, 0, 0)]
set_option maxRecDepth 100000 in
theorem cd19_ok : mChkAt mI19.1.cls mI19.2.1 0 cd19 = true := by decide +kernel
def cd20 : List (Option mEnt) := [some (.aload_n 0, 1, 0, 0, 0), some (.getfield 20, 3, 3, 1, 198), none, none, some (.iload_n 1, 1, 0, 0, 0), some (.invokevirtual 53, 3, 0, 14, 445), none, none, some (.ireturn, 1, 0, 0, 0)]
set_option maxRecDepth 100000 in
theorem cd20_ok : mChkAt mI20.1.cls mI20.2.1 0 cd20 = true := by decide +kernel
def cd21 : List (Option mEnt) := [some (.aload_n 0, 1, 0, 0, 0), some (.invokespecial 1, 3, 4, 0, 454), none, none, some (.aload_n 0, 1, 0, 0, 0), some (.iload_n 1, 1, 0, 0, 0), some (.putfield 7, 3, 8, 0, 455), none, none, some (.aload_n 0, 1, 0, 0, 0), some (.iload_n 2, 1, 0, 0, 0), some (.putfield 13, 3, 8, 1, 457), none, none, some (.return_, 1, 0, 0, 0)]
set_option maxRecDepth 100000 in
theorem cd21_ok : mChkAt mI21.1.cls mI21.2.1 0 cd21 = true := by decide +kernel
def cd22 : List (Option mEnt) := [some (.aload_n 0, 1, 0, 0, 0), some (.getfield 21, 3, 7, 2, 328), none, none, some (.ifCond .lt (15), 3, 0, 0, 0), none, none, some (.aload_n 0, 1, 0, 0, 0), some (.getfield 21, 3, 7, 2, 328), none, none, some (.aload_n 0, 1, 0, 0, 0), some (.getfield 13, 3, 7, 1, 327), none, none, some (.arraylength, 1, 0, 0, 0), some (.if_icmp .lt (9), 3, 0, 0, 0), none, none, some (.aload_n 0, 1, 0, 0, 0), some (.iconst 5, 1, 0, 0, 0), some (.invokevirtual 68, 3, 0, 23, 486), none, none, some (.return_, 1, 0, 0, 0), some (.aload_n 0, 1, 0, 0, 0), some (.getfield 13, 3, 7, 1, 327), none, none, some (.aload_n 0, 1, 0, 0, 0), some (.getfield 21, 3, 7, 2, 328), none, none, some (.aload_n 1, 1, 0, 0, 0), some (.aastore, 1, 0, 0, 0), some (.aload_n 0, 1, 0, 0, 0), some (.dup, 1, 0, 0, 0), some (.getfield 21, 3, 7, 2, 328), none, none, some (.iconst 1, 1, 0, 0, 0), some (.iadd, 1, 0, 0, 0), some (.putfield 21, 3, 7, 2, 328), none, none, some (.aload_n 0, 1, 0, 0, 0), some (.iconst 1, 1, 0, 0, 0), some (.putfield 34, 3, 7, 4, 330), none, none, some (.return_, 1, 0, 0, 0)]
set_option maxRecDepth 100000 in
theorem cd22_ok : mChkAt mI22.1.cls mI22.2.1 0 cd22 = true := by decide +kernel
def cd23 : List (Option mEnt) := [some (.aload_n 0, 1, 0, 0, 0), some (.iconst 3, 1, 0, 0, 0), some (.putfield 45, 3, 7, 7, 333), none, none, some (.aload_n 0, 1, 0, 0, 0), some (.iload_n 1, 1, 0, 0, 0), some (.putfield 48, 3, 7, 8, 334), none, none, some (.return_, 1, 0, 0, 0)]
set_option maxRecDepth 100000 in
theorem cd23_ok : mChkAt mI23.1.cls mI23.2.1 0 cd23 = true := by decide +kernel
def cd24 : List (Option mEnt) := [some (.new 8, 3, 8, 0, 494), none, none, some (.dup, 1, 0, 0, 0), some (.iconst 2, 1, 0, 0, 0), some (.iconst 0, 1, 0, 0, 0), some (.invokespecial 16, 3, 2, 21, 495), none, none, some (.astore_n 2, 1, 0, 0, 0), some (.aload_n 2, 1, 0, 0, 0), some (.dload_n 0, 1, 0, 0, 0), some (.putfield 19, 3, 8, 2, 460), none, none, some (.aload_n 2, 1, 0, 0, 0), some (.areturn, 1, 0, 0, 0)]
set_option maxRecDepth 100000 in
theorem cd24_ok : mChkAt mI24.1.cls mI24.2.1 0 cd24 = true := by decide +kernel
def cd25 : List (Option mEnt) := [some (.aload_n 0, 1, 0, 0, 0), some (.getfield 37, 3, 7, 5, 331), none, none, some (.astore_n 2, 1, 0, 0, 0), some (.aload_n 2, 1, 0, 0, 0), some (.ifnull (31), 3, 0, 0, 0), none, none, some (.aload_n 2, 1, 0, 0, 0), some (.getfield 109, 3, 10, 0, 590), none, none, some (.iload_n 1, 1, 0, 0, 0), some (.if_icmp .ne (15), 3, 0, 0, 0), none, none, some (.aload_n 2, 1, 0, 0, 0), some (.getfield 114, 3, 10, 2, 594), none, none, some (.ifnull (8), 3, 0, 0, 0), none, none, some (.aload_n 2, 1, 0, 0, 0), some (.getfield 114, 3, 10, 2, 594), none, none, some (.areturn, 1, 0, 0, 0), some (.aload_n 2, 1, 0, 0, 0), some (.getfield 117, 3, 10, 1, 592), none, none, some (.astore_n 2, 1, 0, 0, 0), some (.goto (-29), 3, 0, 0, 0), none, none, some (.new 11, 3, 8, 0, 324), none, none, some (.dup, 1, 0, 0, 0), some (.iconst 0, 1, 0, 0, 0), some (.iconst 0, 1, 0, 0, 0), some (.invokespecial 75, 3, 2, 21, 451), none, none, some (.areturn, 1, 0, 0, 0)]
set_option maxRecDepth 100000 in
theorem cd25_ok : mChkAt mI25.1.cls mI25.2.1 0 cd25 = true := by decide +kernel
def cd26 : List (Option mEnt) := [some (.new 8, 3, 8, 0, 494), none, none, some (.dup, 1, 0, 0, 0), some (.iconst 4, 1, 0, 0, 0), some (.iload_n 0, 1, 0, 0, 0), some (.invokespecial 16, 3, 2, 21, 495), none, none, some (.astore_n 2, 1, 0, 0, 0), some (.aload_n 2, 1, 0, 0, 0), some (.aload_n 1, 1, 0, 0, 0), some (.putfield 30, 3, 8, 5, 467), none, none, some (.aload_n 2, 1, 0, 0, 0), some (.areturn, 1, 0, 0, 0)]
set_option maxRecDepth 100000 in
theorem cd26_ok : mChkAt mI26.1.cls mI26.2.1 0 cd26 = true := by decide +kernel
def cd27 : List (Option mEnt) := [some (.aload_n 0, 1, 0, 0, 0), some (.getfield 23, 3, 3, 2, 199), none, none, some (.iload_n 1, 1, 0, 0, 0), some (.invokevirtual 53, 3, 0, 14, 445), none, none, some (.ireturn, 1, 0, 0, 0)]
set_option maxRecDepth 100000 in
theorem cd27_ok : mChkAt mI27.1.cls mI27.2.1 0 cd27 = true := by decide +kernel
def cd28 : List (Option mEnt) := [some (.aload_n 0, 1, 0, 0, 0), some (.iload_n 1, 1, 0, 0, 0), some (.putfield 31, 3, 7, 3, 329), none, none, some (.aload_n 0, 1, 0, 0, 0), some (.iconst 0, 1, 0, 0, 0), some (.putfield 34, 3, 7, 4, 330), none, none, some (.return_, 1, 0, 0, 0)]
set_option maxRecDepth 100000 in
theorem cd28_ok : mChkAt mI28.1.cls mI28.2.1 0 cd28 = true := by decide +kernel
def cd29 : List (Option mEnt) := [some (.aload_n 0, 1, 0, 0, 0), some (.getfield 31, 3, 7, 3, 329), none, none, some (.istore_n 1, 1, 0, 0, 0), some (.aload_n 0, 1, 0, 0, 0), some (.aload_n 0, 1, 0, 0, 0), some (.getfield 17, 3, 7, 0, 326), none, none, some (.iload_n 1, 1, 0, 0, 0), some (.invokevirtual 120, 3, 0, 30, 515), none, none, some (.putfield 31, 3, 7, 3, 329), none, none, some (.aload_n 0, 1, 0, 0, 0), some (.getfield 17, 3, 7, 0, 326), none, none, some (.aload_n 0, 1, 0, 0, 0), some (.getfield 31, 3, 7, 3, 329), none, none, some (.invokevirtual 78, 3, 0, 19, 441), none, none, some (.tableswitch (207) (8) (17) #[97, 56, 56, 56, 200, 128, 159, 105, 105, 167], 56, 0, 0, 0), none, none, none, none, none, none, none, none, none, none, none, none, none, none, none, none, none, none, none, none, none, none, none, none, none, none, none, none, none, none, none, none, none, none, none, none, none, none, none, none, none, none, none, none, none, none, none, none, none, none, none, none, none, none, none, some (.iload_n 1, 1, 0, 0, 0), some (.aload_n 0, 1, 0, 0, 0), some (.getfield 17, 3, 7, 0, 326), none, none, some (.aload_n 0, 1, 0, 0, 0), some (.getfield 31, 3, 7, 3, 329), none, none, some (.invokevirtual 103, 3, 0, 27, 503), none, none, some (.if_icmp .ne (21), 3, 0, 0, 0), none, none, some (.aload_n 0, 1, 0, 0, 0), some (.aload_n 0, 1, 0, 0, 0), some (.getfield 17, 3, 7, 0, 326), none, none, some (.aload_n 0, 1, 0, 0, 0), some (.getfield 31, 3, 7, 3, 329), none, none, some (.invokevirtual 123, 3, 0, 31, 519), none, none, some (.invokevirtual 106, 3, 0, 28, 507), none, none, some (.goto (125), 3, 0, 0, 0), none, none, some (.aload_n 0, 1, 0, 0, 0), some (.iconst 2, 1, 0, 0, 0), some (.putfield 34, 3, 7, 4, 330), none, none, some (.goto (117), 3, 0, 0, 0), none, none, some (.aload_n 0, 1, 0, 0, 0), some (.iconst 2, 1, 0, 0, 0), some (.putfield 34, 3, 7, 4, 330), none, none, some (.goto (109), 3, 0, 0, 0), none, none, some (.iload_n 1, 1, 0, 0, 0), some (.aload_n 0, 1, 0, 0, 0), some (.getfield 17, 3, 7, 0, 326), none, none, some (.aload_n 0, 1, 0, 0, 0), some (.getfield 31, 3, 7, 3, 329), none, none, some (.invokevirtual 103, 3, 0, 27, 503), none, none, some (.if_icmp .ne (94), 3, 0, 0, 0), none, none, some (.aload_n 0, 1, 0, 0, 0), some (.iconst 2, 1, 0, 0, 0), some (.putfield 34, 3, 7, 4, 330), none, none, some (.goto (86), 3, 0, 0, 0), none, none, some (.iload_n 1, 1, 0, 0, 0), some (.aload_n 0, 1, 0, 0, 0), some (.getfield 17, 3, 7, 0, 326), none, none, some (.aload_n 0, 1, 0, 0, 0), some (.getfield 31, 3, 7, 3, 329), none, none, some (.invokevirtual 103, 3, 0, 27, 503), none, none, some (.if_icmp .ne (11), 3, 0, 0, 0), none, none, some (.aload_n 0, 1, 0, 0, 0), some (.iconst 2, 1, 0, 0, 0), some (.putfield 34, 3, 7, 4, 330), none, none, some (.goto (63), 3, 0, 0, 0), none, none, some (.aload_n 0, 1, 0, 0, 0), some (.iconst 1, 1, 0, 0, 0), some (.invokevirtual 126, 3, 0, 32, 523), none, none, some (.goto (55), 3, 0, 0, 0), none, none, some (.aload_n 0, 1, 0, 0, 0), some (.iconst 1, 1, 0, 0, 0), some (.invokevirtual 126, 3, 0, 32, 523), none, none, some (.goto (47), 3, 0, 0, 0), none, none, some (.aload_n 0, 1, 0, 0, 0), some (.aload_n 0, 1, 0, 0, 0), some (.getfield 17, 3, 7, 0, 326), none, none, some (.aload_n 0, 1, 0, 0, 0), some (.getfield 31, 3, 7, 3, 329), none, none, some (.invokevirtual 82, 3, 0, 20, 447), none, none, some (.invokevirtual 126, 3, 0, 32, 523), none, none, some (.aload_n 0, 1, 0, 0, 0), some (.aload_n 0, 1, 0, 0, 0), some (.getfield 17, 3, 7, 0, 326), none, none, some (.aload_n 0, 1, 0, 0, 0), some (.getfield 31, 3, 7, 3, 329), none, none, some (.invokevirtual 120, 3, 0, 30, 515), none, none, some (.putfield 31, 3, 7, 3, 329), none, none, some (.goto (14), 3, 0, 0, 0), none, none, some (.aload_n 0, 1, 0, 0, 0), some (.invokevirtual 129, 3, 0, 33, 527), none, none, some (.goto (7), 3, 0, 0, 0), none, none, some (.aload_n 0, 1, 0, 0, 0), some (.invokevirtual 132, 3, 0, 34, 531), none, none, some (.return_, 1, 0, 0, 0)]
set_option maxRecDepth 100000 in
theorem cd29_ok : mChkAt mI29.1.cls mI29.2.1 0 cd29 = true := by decide +kernel
def cd30 : List (Option mEnt) := [some (.aload_n 0, 1, 0, 0, 0), some (.getfield 32, 3, 3, 5, 202), none, none, some (.iload_n 1, 1, 0, 0, 0), some (.invokevirtual 53, 3, 0, 14, 445), none, none, some (.ireturn, 1, 0, 0, 0)]
set_option maxRecDepth 100000 in
theorem cd30_ok : mChkAt mI30.1.cls mI30.2.1 0 cd30 = true := by decide +kernel
def cd31 : List (Option mEnt) := [some (.aload_n 0, 1, 0, 0, 0), some (.getfield 26, 3, 3, 3, 200), none, none, some (.iload_n 1, 1, 0, 0, 0), some (.invokevirtual 53, 3, 0, 14, 445), none, none, some (.ireturn, 1, 0, 0, 0)]
set_option maxRecDepth 100000 in
theorem cd31_ok : mChkAt mI31.1.cls mI31.2.1 0 cd31 = true := by decide +kernel
def cd32 : List (Option mEnt) := [some (.iconst 0, 1, 0, 0, 0), some (.istore_n 2, 1, 0, 0, 0), some (.iload_n 2, 1, 0, 0, 0), some (.iload_n 1, 1, 0, 0, 0), some (.if_icmp .ge (27), 3, 0, 0, 0), none, none, some (.aload_n 0, 1, 0, 0, 0), some (.getfield 37, 3, 7, 5, 331), none, none, some (.ifnull (20), 3, 0, 0, 0), none, none, some (.aload_n 0, 1, 0, 0, 0), some (.aload_n 0, 1, 0, 0, 0), some (.getfield 37, 3, 7, 5, 331), none, none, some (.getfield 117, 3, 10, 1, 592), none, none, some (.putfield 37, 3, 7, 5, 331), none, none, some (.iinc 2 (1), 3, 0, 0, 0), none, none, some (.goto (-26), 3, 0, 0, 0), none, none, some (.return_, 1, 0, 0, 0)]
set_option maxRecDepth 100000 in
theorem cd32_ok : mChkAt mI32.1.cls mI32.2.1 0 cd32 = true := by decide +kernel
def cd33 : List (Option mEnt) := [some (.aload_n 0, 1, 0, 0, 0), some (.getfield 41, 3, 7, 6, 332), none, none, some (.astore_n 1, 1, 0, 0, 0), some (.aload_n 1, 1, 0, 0, 0), some (.ifnonnull (8), 3, 0, 0, 0), none, none, some (.aload_n 0, 1, 0, 0, 0), some (.invokevirtual 132, 3, 0, 34, 531), none, none, some (.return_, 1, 0, 0, 0), some (.aload_n 0, 1, 0, 0, 0), some (.aload_n 1, 1, 0, 0, 0), some (.getfield 135, 3, 9, 0, 571), none, none, some (.putfield 31, 3, 7, 3, 329), none, none, some (.aload_n 0, 1, 0, 0, 0), some (.aload_n 1, 1, 0, 0, 0), some (.getfield 140, 3, 9, 1, 573), none, none, some (.putfield 37, 3, 7, 5, 331), none, none, some (.aload_n 0, 1, 0, 0, 0), some (.aload_n 1, 1, 0, 0, 0), some (.getfield 141, 3, 9, 2, 575), none, none, some (.putfield 41, 3, 7, 6, 332), none, none, some (.return_, 1, 0, 0, 0)]
set_option maxRecDepth 100000 in
theorem cd33_ok : mChkAt mI33.1.cls mI33.2.1 0 cd33 = true := by decide +kernel
def cd34 : List (Option mEnt) := [some (.aload_n 0, 1, 0, 0, 0), some (.aload_n 0, 1, 0, 0, 0), some (.invokevirtual 144, 3, 0, 35, 535), none, none, some (.putfield 54, 3, 7, 11, 337), none, none, some (.aload_n 0, 1, 0, 0, 0), some (.iconst 2, 1, 0, 0, 0), some (.putfield 45, 3, 7, 7, 333), none, none, some (.return_, 1, 0, 0, 0)]
set_option maxRecDepth 100000 in
theorem cd34_ok : mChkAt mI34.1.cls mI34.2.1 0 cd34 = true := by decide +kernel
def cd35 : List (Option mEnt) := [some (.aload_n 0, 1, 0, 0, 0), some (.getfield 21, 3, 7, 2, 328), none, none, some (.ifCond .le (41), 3, 0, 0, 0), none, none, some (.aload_n 0, 1, 0, 0, 0), some (.getfield 21, 3, 7, 2, 328), none, none, some (.aload_n 0, 1, 0, 0, 0), some (.getfield 13, 3, 7, 1, 327), none, none, some (.arraylength, 1, 0, 0, 0), some (.if_icmp .gt (29), 3, 0, 0, 0), none, none, some (.aload_n 0, 1, 0, 0, 0), some (.dup, 1, 0, 0, 0), some (.getfield 21, 3, 7, 2, 328), none, none, some (.iconst 1, 1, 0, 0, 0), some (.isub, 1, 0, 0, 0), some (.putfield 21, 3, 7, 2, 328), none, none, some (.aload_n 0, 1, 0, 0, 0), some (.getfield 13, 3, 7, 1, 327), none, none, some (.aload_n 0, 1, 0, 0, 0), some (.getfield 21, 3, 7, 2, 328), none, none, some (.aaload, 1, 0, 0, 0), some (.astore_n 1, 1, 0, 0, 0), some (.aload_n 1, 1, 0, 0, 0), some (.ifnull (5), 3, 0, 0, 0), none, none, some (.aload_n 1, 1, 0, 0, 0), some (.areturn, 1, 0, 0, 0), some (.new 11, 3, 8, 0, 324), none, none, some (.dup, 1, 0, 0, 0), some (.iconst 0, 1, 0, 0, 0), some (.iconst 0, 1, 0, 0, 0), some (.invokespecial 75, 3, 2, 21, 451), none, none, some (.areturn, 1, 0, 0, 0)]
set_option maxRecDepth 100000 in
theorem cd35_ok : mChkAt mI35.1.cls mI35.2.1 0 cd35 = true := by decide +kernel
def cd36 : List (Option mEnt) := [some (.aload_n 0, 1, 0, 0, 0), some (.getfield 17, 3, 7, 0, 326), none, none, some (.aload_n 0, 1, 0, 0, 0), some (.getfield 31, 3, 7, 3, 329), none, none, some (.invokevirtual 78, 3, 0, 19, 441), none, none, some (.tableswitch (195) (8) (15) #[45, 63, 70, 90, 195, 97, 145, 152], 45, 0, 0, 0), none, none, none, none, none, none, none, none, none, none, none, none, none, none, none, none, none, none, none, none, none, none, none, none, none, none, none, none, none, none, none, none, none, none, none, none, none, none, none, none, none, none, none, none, some (.aload_n 0, 1, 0, 0, 0), some (.aload_n 0, 1, 0, 0, 0), some (.invokevirtual 144, 3, 0, 35, 535), none, none, some (.getfield 148, 3, 8, 2, 462), none, none, some (.dneg, 1, 0, 0, 0), some (.invokestatic 91, 3, 1, 24, 491), none, none, some (.invokevirtual 85, 3, 0, 22, 482), none, none, some (.goto (139), 3, 0, 0, 0), none, none, some (.aload_n 0, 1, 0, 0, 0), some (.invokevirtual 152, 3, 0, 37, 543), none, none, some (.goto (132), 3, 0, 0, 0), none, none, some (.aload_n 0, 1, 0, 0, 0), some (.invokevirtual 144, 3, 0, 35, 535), none, none, some (.astore_n 1, 1, 0, 0, 0), some (.aload_n 0, 1, 0, 0, 0), some (.aload_n 0, 1, 0, 0, 0), some (.invokevirtual 144, 3, 0, 35, 535), none, none, some (.aload_n 1, 1, 0, 0, 0), some (.invokestatic 155, 3, 1, 40, 557), none, none, some (.invokevirtual 85, 3, 0, 22, 482), none, none, some (.goto (112), 3, 0, 0, 0), none, none, some (.aload_n 0, 1, 0, 0, 0), some (.invokevirtual 159, 3, 0, 41, 560), none, none, some (.goto (105), 3, 0, 0, 0), none, none, some (.aload_n 0, 1, 0, 0, 0), some (.new 110, 3, 10, 0, 583), none, none, some (.dup, 1, 0, 0, 0), some (.aload_n 0, 1, 0, 0, 0), some (.getfield 17, 3, 7, 0, 326), none, none, some (.aload_n 0, 1, 0, 0, 0), some (.getfield 31, 3, 7, 3, 329), none, none, some (.invokevirtual 82, 3, 0, 20, 447), none, none, some (.aload_n 0, 1, 0, 0, 0), some (.invokevirtual 144, 3, 0, 35, 535), none, none, some (.aload_n 0, 1, 0, 0, 0), some (.getfield 37, 3, 7, 5, 331), none, none, some (.invokespecial 162, 3, 2, 43, 585), none, none, some (.putfield 37, 3, 7, 5, 331), none, none, some (.aload_n 0, 1, 0, 0, 0), some (.aload_n 0, 1, 0, 0, 0), some (.getfield 17, 3, 7, 0, 326), none, none, some (.aload_n 0, 1, 0, 0, 0), some (.getfield 31, 3, 7, 3, 329), none, none, some (.invokevirtual 123, 3, 0, 31, 519), none, none, some (.invokevirtual 106, 3, 0, 28, 507), none, none, some (.goto (57), 3, 0, 0, 0), none, none, some (.aload_n 0, 1, 0, 0, 0), some (.invokevirtual 165, 3, 0, 44, 602), none, none, some (.goto (50), 3, 0, 0, 0), none, none, some (.aload_n 0, 1, 0, 0, 0), some (.aload_n 0, 1, 0, 0, 0), some (.invokevirtual 144, 3, 0, 35, 535), none, none, some (.getfield 168, 3, 8, 1, 459), none, none, some (.iconst 1, 1, 0, 0, 0), some (.if_icmp .ne (17), 3, 0, 0, 0), none, none, some (.aload_n 0, 1, 0, 0, 0), some (.getfield 17, 3, 7, 0, 326), none, none, some (.aload_n 0, 1, 0, 0, 0), some (.getfield 31, 3, 7, 3, 329), none, none, some (.invokevirtual 123, 3, 0, 31, 519), none, none, some (.goto (14), 3, 0, 0, 0), none, none, some (.aload_n 0, 1, 0, 0, 0), some (.getfield 17, 3, 7, 0, 326), none, none, some (.aload_n 0, 1, 0, 0, 0), some (.getfield 31, 3, 7, 3, 329), none, none, some (.invokevirtual 170, 3, 0, 45, 606), none, none, some (.invokevirtual 106, 3, 0, 28, 507), none, none, some (.goto (7), 3, 0, 0, 0), none, none, some (.aload_n 0, 1, 0, 0, 0), some (.invokevirtual 173, 3, 0, 46, 610), none, none, some (.return_, 1, 0, 0, 0)]
set_option maxRecDepth 100000 in
theorem cd36_ok : mChkAt mI36.1.cls mI36.2.1 0 cd36 = true := by decide +kernel
def cd37 : List (Option mEnt) := [some (.aload_n 0, 1, 0, 0, 0), some (.getfield 17, 3, 7, 0, 326), none, none, some (.aload_n 0, 1, 0, 0, 0), some (.getfield 31, 3, 7, 3, 329), none, none, some (.invokevirtual 82, 3, 0, 20, 447), none, none, some (.istore_n 1, 1, 0, 0, 0), some (.aload_n 0, 1, 0, 0, 0), some (.invokevirtual 144, 3, 0, 35, 535), none, none, some (.astore_n 2, 1, 0, 0, 0), some (.aload_n 0, 1, 0, 0, 0), some (.invokevirtual 144, 3, 0, 35, 535), none, none, some (.astore_n 3, 1, 0, 0, 0), some (.iload_n 1, 1, 0, 0, 0), some (.sipush (188), 3, 0, 0, 0), none, none, some (.if_icmp .ne (35), 3, 0, 0, 0), none, none, some (.aload_n 0, 1, 0, 0, 0), some (.new 11, 3, 8, 0, 324), none, none, some (.dup, 1, 0, 0, 0), some (.iconst 1, 1, 0, 0, 0), some (.aload_n 3, 1, 0, 0, 0), some (.getfield 148, 3, 8, 2, 462), none, none, some (.aload_n 2, 1, 0, 0, 0), some (.getfield 148, 3, 8, 2, 462), none, none, some (.dcmp .g, 1, 0, 0, 0), some (.ifCond .ge (7), 3, 0, 0, 0), none, none, some (.iconst 1, 1, 0, 0, 0), some (.goto (4), 3, 0, 0, 0), none, none, some (.iconst 0, 1, 0, 0, 0), some (.invokespecial 75, 3, 2, 21, 451), none, none, some (.invokevirtual 85, 3, 0, 22, 482), none, none, some (.goto (43), 3, 0, 0, 0), none, none, some (.iload_n 1, 1, 0, 0, 0), some (.sipush (128), 3, 0, 0, 0), none, none, some (.if_icmp .lt (23), 3, 0, 0, 0), none, none, some (.aload_n 0, 1, 0, 0, 0), some (.iload_n 1, 1, 0, 0, 0), some (.sipush (128), 3, 0, 0, 0), none, none, some (.isub, 1, 0, 0, 0), some (.aload_n 3, 1, 0, 0, 0), some (.getfield 148, 3, 8, 2, 462), none, none, some (.aload_n 2, 1, 0, 0, 0), some (.getfield 148, 3, 8, 2, 462), none, none, some (.invokevirtual 176, 3, 0, 38, 547), none, none, some (.goto (16), 3, 0, 0, 0), none, none, some (.aload_n 0, 1, 0, 0, 0), some (.iload_n 1, 1, 0, 0, 0), some (.aload_n 3, 1, 0, 0, 0), some (.getfield 168, 3, 8, 1, 459), none, none, some (.aload_n 2, 1, 0, 0, 0), some (.getfield 168, 3, 8, 1, 459), none, none, some (.invokevirtual 180, 3, 0, 39, 553), none, none, some (.return_, 1, 0, 0, 0)]
set_option maxRecDepth 100000 in
theorem cd37_ok : mChkAt mI37.1.cls mI37.2.1 0 cd37 = true := by decide +kernel
def cd38 : List (Option mEnt) := [some (.iload_n 1, 1, 0, 0, 0), some (.bipush (43), 2, 0, 0, 0), none, some (.if_icmp .ne (12), 3, 0, 0, 0), none, none, some (.dload_n 2, 1, 0, 0, 0), some (.dload 4, 2, 0, 0, 0), none, some (.dadd, 1, 0, 0, 0), some (.dstore 6, 2, 0, 0, 0), none, some (.goto (52), 3, 0, 0, 0), none, none, some (.iload_n 1, 1, 0, 0, 0), some (.bipush (45), 2, 0, 0, 0), none, some (.if_icmp .ne (12), 3, 0, 0, 0), none, none, some (.dload_n 2, 1, 0, 0, 0), some (.dload 4, 2, 0, 0, 0), none, some (.dsub, 1, 0, 0, 0), some (.dstore 6, 2, 0, 0, 0), none, some (.goto (37), 3, 0, 0, 0), none, none, some (.iload_n 1, 1, 0, 0, 0), some (.bipush (42), 2, 0, 0, 0), none, some (.if_icmp .ne (12), 3, 0, 0, 0), none, none, some (.dload_n 2, 1, 0, 0, 0), some (.dload 4, 2, 0, 0, 0), none, some (.dmul, 1, 0, 0, 0), some (.dstore 6, 2, 0, 0, 0), none, some (.goto (22), 3, 0, 0, 0), none, none, some (.dload 4, 2, 0, 0, 0), none, some (.dconst 0, 1, 0, 0, 0), some (.dcmp .l, 1, 0, 0, 0), some (.ifCond .ne (9), 3, 0, 0, 0), none, none, some (.aload_n 0, 1, 0, 0, 0), some (.iconst 1, 1, 0, 0, 0), some (.invokevirtual 68, 3, 0, 23, 486), none, none, some (.return_, 1, 0, 0, 0), some (.dload_n 2, 1, 0, 0, 0), some (.dload 4, 2, 0, 0, 0), none, some (.ddiv, 1, 0, 0, 0), some (.dstore 6, 2, 0, 0, 0), none, some (.dload 6, 2, 0, 0, 0), none, some (.ldc2_w 184, 3, 1, 4741671816366391296, 551), none, none, some (.dcmp .l, 1, 0, 0, 0), some (.ifCond .gt (12), 3, 0, 0, 0), none, none, some (.dload 6, 2, 0, 0, 0), none, some (.ldc2_w 186, 3, 1, 13965043853221167104, 552), none, none, some (.dcmp .g, 1, 0, 0, 0), some (.ifCond .ge (11), 3, 0, 0, 0), none, none, some (.aload_n 0, 1, 0, 0, 0), some (.iconst 3, 1, 0, 0, 0), some (.invokevirtual 68, 3, 0, 23, 486), none, none, some (.goto (12), 3, 0, 0, 0), none, none, some (.aload_n 0, 1, 0, 0, 0), some (.dload 6, 2, 0, 0, 0), none, some (.invokestatic 91, 3, 1, 24, 491), none, none, some (.invokevirtual 85, 3, 0, 22, 482), none, none, some (.return_, 1, 0, 0, 0)]
set_option maxRecDepth 100000 in
theorem cd38_ok : mChkAt mI38.1.cls mI38.2.1 0 cd38 = true := by decide +kernel
def cd39 : List (Option mEnt) := [some (.iload_n 1, 1, 0, 0, 0), some (.lookupswitch (155) #[(42, 87), (43, 51), (45, 69), (60, 105), (61, 130)], 51, 0, 0, 0), none, none, none, none, none, none, none, none, none, none, none, none, none, none, none, none, none, none, none, none, none, none, none, none, none, none, none, none, none, none, none, none, none, none, none, none, none, none, none, none, none, none, none, none, none, none, none, none, none, none, some (.aload_n 0, 1, 0, 0, 0), some (.new 11, 3, 8, 0, 324), none, none, some (.dup, 1, 0, 0, 0), some (.iconst 0, 1, 0, 0, 0), some (.iload_n 2, 1, 0, 0, 0), some (.iload_n 3, 1, 0, 0, 0), some (.iadd, 1, 0, 0, 0), some (.invokespecial 75, 3, 2, 21, 451), none, none, some (.invokevirtual 85, 3, 0, 22, 482), none, none, some (.goto (116), 3, 0, 0, 0), none, none, some (.aload_n 0, 1, 0, 0, 0), some (.new 11, 3, 8, 0, 324), none, none, some (.dup, 1, 0, 0, 0), some (.iconst 0, 1, 0, 0, 0), some (.iload_n 2, 1, 0, 0, 0), some (.iload_n 3, 1, 0, 0, 0), some (.isub, 1, 0, 0, 0), some (.invokespecial 75, 3, 2, 21, 451), none, none, some (.invokevirtual 85, 3, 0, 22, 482), none, none, some (.goto (98), 3, 0, 0, 0), none, none, some (.aload_n 0, 1, 0, 0, 0), some (.new 11, 3, 8, 0, 324), none, none, some (.dup, 1, 0, 0, 0), some (.iconst 0, 1, 0, 0, 0), some (.iload_n 2, 1, 0, 0, 0), some (.iload_n 3, 1, 0, 0, 0), some (.imul, 1, 0, 0, 0), some (.invokespecial 75, 3, 2, 21, 451), none, none, some (.invokevirtual 85, 3, 0, 22, 482), none, none, some (.goto (80), 3, 0, 0, 0), none, none, some (.aload_n 0, 1, 0, 0, 0), some (.new 11, 3, 8, 0, 324), none, none, some (.dup, 1, 0, 0, 0), some (.iconst 1, 1, 0, 0, 0), some (.iload_n 2, 1, 0, 0, 0), some (.iload_n 3, 1, 0, 0, 0), some (.if_icmp .ge (7), 3, 0, 0, 0), none, none, some (.iconst 1, 1, 0, 0, 0), some (.goto (4), 3, 0, 0, 0), none, none, some (.iconst 0, 1, 0, 0, 0), some (.invokespecial 75, 3, 2, 21, 451), none, none, some (.invokevirtual 85, 3, 0, 22, 482), none, none, some (.goto (55), 3, 0, 0, 0), none, none, some (.aload_n 0, 1, 0, 0, 0), some (.new 11, 3, 8, 0, 324), none, none, some (.dup, 1, 0, 0, 0), some (.iconst 1, 1, 0, 0, 0), some (.iload_n 2, 1, 0, 0, 0), some (.iload_n 3, 1, 0, 0, 0), some (.if_icmp .ne (7), 3, 0, 0, 0), none, none, some (.iconst 1, 1, 0, 0, 0), some (.goto (4), 3, 0, 0, 0), none, none, some (.iconst 0, 1, 0, 0, 0), some (.invokespecial 75, 3, 2, 21, 451), none, none, some (.invokevirtual 85, 3, 0, 22, 482), none, none, some (.goto (30), 3, 0, 0, 0), none, none, some (.iload_n 3, 1, 0, 0, 0), some (.ifCond .ne (11), 3, 0, 0, 0), none, none, some (.aload_n 0, 1, 0, 0, 0), some (.iconst 1, 1, 0, 0, 0), some (.invokevirtual 68, 3, 0, 23, 486), none, none, some (.goto (18), 3, 0, 0, 0), none, none, some (.aload_n 0, 1, 0, 0, 0), some (.new 11, 3, 8, 0, 324), none, none, some (.dup, 1, 0, 0, 0), some (.iconst 0, 1, 0, 0, 0), some (.iload_n 2, 1, 0, 0, 0), some (.iload_n 3, 1, 0, 0, 0), some (.idiv, 1, 0, 0, 0), some (.invokespecial 75, 3, 2, 21, 451), none, none, some (.invokevirtual 85, 3, 0, 22, 482), none, none, some (.return_, 1, 0, 0, 0)]
set_option maxRecDepth 100000 in
theorem cd39_ok : mChkAt mI39.1.cls mI39.2.1 0 cd39 = true := by decide +kernel
def cd40 : List (Option mEnt) := [some (.new 8, 3, 8, 0, 494), none, none, some (.dup, 1, 0, 0, 0), some (.iconst 3, 1, 0, 0, 0), some (.aload_n 1, 1, 0, 0, 0), some (.getfield 13, 3, 8, 1, 457), none, none, some (.iconst 1, 1, 0, 0, 0), some (.iadd, 1, 0, 0, 0), some (.invokespecial 16, 3, 2, 21, 495), none, none, some (.astore_n 2, 1, 0, 0, 0), some (.aload_n 2, 1, 0, 0, 0), some (.aload_n 0, 1, 0, 0, 0), some (.putfield 23, 3, 8, 3, 463), none, none, some (.aload_n 2, 1, 0, 0, 0), some (.aload_n 1, 1, 0, 0, 0), some (.putfield 27, 3, 8, 4, 465), none, none, some (.aload_n 2, 1, 0, 0, 0), some (.areturn, 1, 0, 0, 0)]
set_option maxRecDepth 100000 in
theorem cd40_ok : mChkAt mI40.1.cls mI40.2.1 0 cd40 = true := by decide +kernel
def cd41 : List (Option mEnt) := [some (.aload_n 0, 1, 0, 0, 0), some (.invokevirtual 144, 3, 0, 35, 535), none, none, some (.astore_n 1, 1, 0, 0, 0), some (.aload_n 0, 1, 0, 0, 0), some (.invokevirtual 144, 3, 0, 35, 535), none, none, some (.astore_n 2, 1, 0, 0, 0), some (.aload_n 2, 1, 0, 0, 0), some (.getfield 168, 3, 8, 1, 459), none, none, some (.istore_n 3, 1, 0, 0, 0), some (.aload_n 0, 1, 0, 0, 0), some (.getfield 17, 3, 7, 0, 326), none, none, some (.iload_n 3, 1, 0, 0, 0), some (.invokevirtual 78, 3, 0, 19, 441), none, none, some (.bipush (12), 2, 0, 0, 0), none, some (.if_icmp .ne (65), 3, 0, 0, 0), none, none, some (.aload_n 0, 1, 0, 0, 0), some (.new 136, 3, 9, 0, 564), none, none, some (.dup, 1, 0, 0, 0), some (.aload_n 0, 1, 0, 0, 0), some (.getfield 31, 3, 7, 3, 329), none, none, some (.aload_n 0, 1, 0, 0, 0), some (.getfield 37, 3, 7, 5, 331), none, none, some (.aload_n 0, 1, 0, 0, 0), some (.getfield 41, 3, 7, 6, 332), none, none, some (.invokespecial 188, 3, 2, 42, 566), none, none, some (.putfield 41, 3, 7, 6, 332), none, none, some (.aload_n 0, 1, 0, 0, 0), some (.new 110, 3, 10, 0, 583), none, none, some (.dup, 1, 0, 0, 0), some (.aload_n 0, 1, 0, 0, 0), some (.getfield 17, 3, 7, 0, 326), none, none, some (.iload_n 3, 1, 0, 0, 0), some (.invokevirtual 82, 3, 0, 20, 447), none, none, some (.aload_n 1, 1, 0, 0, 0), some (.aload_n 2, 1, 0, 0, 0), some (.getfield 191, 3, 8, 5, 468), none, none, some (.invokespecial 162, 3, 2, 43, 585), none, none, some (.putfield 37, 3, 7, 5, 331), none, none, some (.aload_n 0, 1, 0, 0, 0), some (.aload_n 0, 1, 0, 0, 0), some (.getfield 17, 3, 7, 0, 326), none, none, some (.iload_n 3, 1, 0, 0, 0), some (.invokevirtual 103, 3, 0, 27, 503), none, none, some (.invokevirtual 106, 3, 0, 28, 507), none, none, some (.goto (48), 3, 0, 0, 0), none, none, some (.aload_n 0, 1, 0, 0, 0), some (.getfield 17, 3, 7, 0, 326), none, none, some (.iload_n 3, 1, 0, 0, 0), some (.invokevirtual 82, 3, 0, 20, 447), none, none, some (.bipush (82), 2, 0, 0, 0), none, some (.if_icmp .ne (18), 3, 0, 0, 0), none, none, some (.aload_n 0, 1, 0, 0, 0), some (.aload_n 1, 1, 0, 0, 0), some (.getfield 168, 3, 8, 1, 459), none, none, some (.i2d, 1, 0, 0, 0), some (.invokestatic 91, 3, 1, 24, 491), none, none, some (.invokevirtual 85, 3, 0, 22, 482), none, none, some (.goto (20), 3, 0, 0, 0), none, none, some (.aload_n 0, 1, 0, 0, 0), some (.new 11, 3, 8, 0, 324), none, none, some (.dup, 1, 0, 0, 0), some (.iconst 0, 1, 0, 0, 0), some (.aload_n 1, 1, 0, 0, 0), some (.getfield 148, 3, 8, 2, 462), none, none, some (.d2i, 1, 0, 0, 0), some (.invokespecial 75, 3, 2, 21, 451), none, none, some (.invokevirtual 85, 3, 0, 22, 482), none, none, some (.return_, 1, 0, 0, 0)]
set_option maxRecDepth 100000 in
theorem cd41_ok : mChkAt mI41.1.cls mI41.2.1 0 cd41 = true := by decide +kernel
def cd42 : List (Option mEnt) := [some (.aload_n 0, 1, 0, 0, 0), some (.invokespecial 1, 3, 4, 0, 569), none, none, some (.aload_n 0, 1, 0, 0, 0), some (.iload_n 1, 1, 0, 0, 0), some (.putfield 7, 3, 9, 0, 570), none, none, some (.aload_n 0, 1, 0, 0, 0), some (.aload_n 2, 1, 0, 0, 0), some (.putfield 13, 3, 9, 1, 572), none, none, some (.aload_n 0, 1, 0, 0, 0), some (.aload_n 3, 1, 0, 0, 0), some (.putfield 17, 3, 9, 2, 574), none, none, some (.return_, 1, 0, 0, 0)]
set_option maxRecDepth 100000 in
theorem cd42_ok : mChkAt mI42.1.cls mI42.2.1 0 cd42 = true := by decide +kernel
def cd43 : List (Option mEnt) := [some (.aload_n 0, 1, 0, 0, 0), some (.invokespecial 1, 3, 4, 0, 588), none, none, some (.aload_n 0, 1, 0, 0, 0), some (.iload_n 1, 1, 0, 0, 0), some (.putfield 7, 3, 10, 0, 589), none, none, some (.aload_n 0, 1, 0, 0, 0), some (.aload_n 2, 1, 0, 0, 0), some (.putfield 13, 3, 10, 2, 593), none, none, some (.aload_n 0, 1, 0, 0, 0), some (.aload_n 3, 1, 0, 0, 0), some (.putfield 17, 3, 10, 1, 591), none, none, some (.return_, 1, 0, 0, 0)]
set_option maxRecDepth 100000 in
theorem cd43_ok : mChkAt mI43.1.cls mI43.2.1 0 cd43 = true := by decide +kernel
def cd44 : List (Option mEnt) := [some (.new 110, 3, 10, 0, 583), none, none, some (.dup, 1, 0, 0, 0), some (.aload_n 0, 1, 0, 0, 0), some (.getfield 17, 3, 7, 0, 326), none, none, some (.aload_n 0, 1, 0, 0, 0), some (.getfield 31, 3, 7, 3, 329), none, none, some (.invokevirtual 82, 3, 0, 20, 447), none, none, some (.aconst_null, 1, 0, 0, 0), some (.aload_n 0, 1, 0, 0, 0), some (.getfield 37, 3, 7, 5, 331), none, none, some (.invokespecial 162, 3, 2, 43, 585), none, none, some (.astore_n 1, 1, 0, 0, 0), some (.aload_n 1, 1, 0, 0, 0), some (.aload_n 0, 1, 0, 0, 0), some (.getfield 17, 3, 7, 0, 326), none, none, some (.aload_n 0, 1, 0, 0, 0), some (.getfield 31, 3, 7, 3, 329), none, none, some (.invokevirtual 103, 3, 0, 27, 503), none, none, some (.aload_n 1, 1, 0, 0, 0), some (.invokestatic 99, 3, 1, 26, 500), none, none, some (.putfield 114, 3, 10, 2, 594), none, none, some (.aload_n 0, 1, 0, 0, 0), some (.aload_n 1, 1, 0, 0, 0), some (.putfield 37, 3, 7, 5, 331), none, none, some (.aload_n 0, 1, 0, 0, 0), some (.aload_n 0, 1, 0, 0, 0), some (.getfield 17, 3, 7, 0, 326), none, none, some (.aload_n 0, 1, 0, 0, 0), some (.getfield 31, 3, 7, 3, 329), none, none, some (.invokevirtual 123, 3, 0, 31, 519), none, none, some (.invokevirtual 106, 3, 0, 28, 507), none, none, some (.return_, 1, 0, 0, 0)]
set_option maxRecDepth 100000 in
theorem cd44_ok : mChkAt mI44.1.cls mI44.2.1 0 cd44 = true := by decide +kernel
def cd45 : List (Option mEnt) := [some (.aload_n 0, 1, 0, 0, 0), some (.getfield 29, 3, 3, 4, 201), none, none, some (.iload_n 1, 1, 0, 0, 0), some (.invokevirtual 53, 3, 0, 14, 445), none, none, some (.ireturn, 1, 0, 0, 0)]
set_option maxRecDepth 100000 in
theorem cd45_ok : mChkAt mI45.1.cls mI45.2.1 0 cd45 = true := by decide +kernel
def cd46 : List (Option mEnt) := [some (.aload_n 0, 1, 0, 0, 0), some (.invokevirtual 144, 3, 0, 35, 535), none, none, some (.astore_n 1, 1, 0, 0, 0), some (.aload_n 0, 1, 0, 0, 0), some (.getfield 17, 3, 7, 0, 326), none, none, some (.aload_n 0, 1, 0, 0, 0), some (.getfield 31, 3, 7, 3, 329), none, none, some (.invokevirtual 123, 3, 0, 31, 519), none, none, some (.istore_n 2, 1, 0, 0, 0), some (.iconst 0, 1, 0, 0, 0), some (.istore_n 3, 1, 0, 0, 0), some (.iload_n 3, 1, 0, 0, 0), some (.iconst 5, 1, 0, 0, 0), some (.if_icmp .ge (73), 3, 0, 0, 0), none, none, some (.iload_n 2, 1, 0, 0, 0), some (.iconst (-1), 1, 0, 0, 0), some (.if_icmp .eq (68), 3, 0, 0, 0), none, none, some (.aload_n 0, 1, 0, 0, 0), some (.getfield 17, 3, 7, 0, 326), none, none, some (.iload_n 2, 1, 0, 0, 0), some (.invokevirtual 103, 3, 0, 27, 503), none, none, some (.istore 4, 2, 0, 0, 0), none, some (.aload_n 0, 1, 0, 0, 0), some (.iload 4, 2, 0, 0, 0), none, some (.aload_n 1, 1, 0, 0, 0), some (.iconst 0, 1, 0, 0, 0), some (.invokevirtual 194, 3, 0, 47, 614), none, none, some (.ifCond .eq (32), 3, 0, 0, 0), none, none, some (.aload_n 0, 1, 0, 0, 0), some (.aload_n 0, 1, 0, 0, 0), some (.iload 4, 2, 0, 0, 0), none, some (.aload_n 1, 1, 0, 0, 0), some (.aload_n 0, 1, 0, 0, 0), some (.getfield 37, 3, 7, 5, 331), none, none, some (.iconst 0, 1, 0, 0, 0), some (.invokevirtual 198, 3, 0, 48, 618), none, none, some (.putfield 37, 3, 7, 5, 331), none, none, some (.aload_n 0, 1, 0, 0, 0), some (.aload_n 0, 1, 0, 0, 0), some (.getfield 17, 3, 7, 0, 326), none, none, some (.iload_n 2, 1, 0, 0, 0), some (.invokevirtual 123, 3, 0, 31, 519), none, none, some (.invokevirtual 106, 3, 0, 28, 507), none, none, some (.return_, 1, 0, 0, 0), some (.aload_n 0, 1, 0, 0, 0), some (.getfield 17, 3, 7, 0, 326), none, none, some (.iload_n 2, 1, 0, 0, 0), some (.invokevirtual 170, 3, 0, 45, 606), none, none, some (.istore_n 2, 1, 0, 0, 0), some (.iinc 3 (1), 3, 0, 0, 0), none, none, some (.goto (-72), 3, 0, 0, 0), none, none, some (.aload_n 0, 1, 0, 0, 0), some (.iconst 2, 1, 0, 0, 0), some (.invokevirtual 68, 3, 0, 23, 486), none, none, some (.return_, 1, 0, 0, 0)]
set_option maxRecDepth 100000 in
theorem cd46_ok : mChkAt mI46.1.cls mI46.2.1 0 cd46 = true := by decide +kernel
def cd47 : List (Option mEnt) := [some (.aload_n 2, 1, 0, 0, 0), some (.ifnull (9), 3, 0, 0, 0), none, none, some (.iload_n 3, 1, 0, 0, 0), some (.bipush (16), 2, 0, 0, 0), none, some (.if_icmp .le (5), 3, 0, 0, 0), none, none, some (.iconst 0, 1, 0, 0, 0), some (.ireturn, 1, 0, 0, 0), some (.aload_n 0, 1, 0, 0, 0), some (.getfield 17, 3, 7, 0, 326), none, none, some (.iload_n 1, 1, 0, 0, 0), some (.invokevirtual 78, 3, 0, 19, 441), none, none, some (.lookupswitch (122) #[(0, 44), (2, 44), (3, 44), (10, 65)], 44, 0, 0, 0), none, none, none, none, none, none, none, none, none, none, none, none, none, none, none, none, none, none, none, none, none, none, none, none, none, none, none, none, none, none, none, none, none, none, none, none, none, none, none, none, none, none, none, some (.aload_n 2, 1, 0, 0, 0), some (.getfield 168, 3, 8, 1, 459), none, none, some (.aload_n 0, 1, 0, 0, 0), some (.getfield 17, 3, 7, 0, 326), none, none, some (.iload_n 1, 1, 0, 0, 0), some (.invokevirtual 82, 3, 0, 20, 447), none, none, some (.if_icmp .ne (7), 3, 0, 0, 0), none, none, some (.iconst 1, 1, 0, 0, 0), some (.goto (4), 3, 0, 0, 0), none, none, some (.iconst 0, 1, 0, 0, 0), some (.ireturn, 1, 0, 0, 0), some (.aload_n 2, 1, 0, 0, 0), some (.getfield 168, 3, 8, 1, 459), none, none, some (.ifCond .le (51), 3, 0, 0, 0), none, none, some (.aload_n 0, 1, 0, 0, 0), some (.aload_n 0, 1, 0, 0, 0), some (.getfield 17, 3, 7, 0, 326), none, none, some (.iload_n 1, 1, 0, 0, 0), some (.invokevirtual 103, 3, 0, 27, 503), none, none, some (.aload_n 2, 1, 0, 0, 0), some (.getfield 202, 3, 8, 3, 464), none, none, some (.iload_n 3, 1, 0, 0, 0), some (.iconst 1, 1, 0, 0, 0), some (.iadd, 1, 0, 0, 0), some (.invokevirtual 194, 3, 0, 47, 614), none, none, some (.ifCond .eq (29), 3, 0, 0, 0), none, none, some (.aload_n 0, 1, 0, 0, 0), some (.aload_n 0, 1, 0, 0, 0), some (.getfield 17, 3, 7, 0, 326), none, none, some (.iload_n 1, 1, 0, 0, 0), some (.invokevirtual 123, 3, 0, 31, 519), none, none, some (.aload_n 2, 1, 0, 0, 0), some (.getfield 204, 3, 8, 4, 466), none, none, some (.iload_n 3, 1, 0, 0, 0), some (.iconst 1, 1, 0, 0, 0), some (.iadd, 1, 0, 0, 0), some (.invokevirtual 194, 3, 0, 47, 614), none, none, some (.ifCond .eq (7), 3, 0, 0, 0), none, none, some (.iconst 1, 1, 0, 0, 0), some (.goto (4), 3, 0, 0, 0), none, none, some (.iconst 0, 1, 0, 0, 0), some (.ireturn, 1, 0, 0, 0), some (.iconst 1, 1, 0, 0, 0), some (.ireturn, 1, 0, 0, 0)]
set_option maxRecDepth 100000 in
theorem cd47_ok : mChkAt mI47.1.cls mI47.2.1 0 cd47 = true := by decide +kernel
def cd48 : List (Option mEnt) := [some (.aload_n 2, 1, 0, 0, 0), some (.ifnull (10), 3, 0, 0, 0), none, none, some (.iload 4, 2, 0, 0, 0), none, some (.bipush (16), 2, 0, 0, 0), none, some (.if_icmp .le (5), 3, 0, 0, 0), none, none, some (.aload_n 3, 1, 0, 0, 0), some (.areturn, 1, 0, 0, 0), some (.aload_n 0, 1, 0, 0, 0), some (.getfield 17, 3, 7, 0, 326), none, none, some (.iload_n 1, 1, 0, 0, 0), some (.invokevirtual 78, 3, 0, 19, 441), none, none, some (.lookupswitch (91) #[(6, 27), (10, 45)], 27, 0, 0, 0), none, none, none, none, none, none, none, none, none, none, none, none, none, none, none, none, none, none, none, none, none, none, none, none, none, none, some (.new 110, 3, 10, 0, 583), none, none, some (.dup, 1, 0, 0, 0), some (.aload_n 0, 1, 0, 0, 0), some (.getfield 17, 3, 7, 0, 326), none, none, some (.iload_n 1, 1, 0, 0, 0), some (.invokevirtual 82, 3, 0, 20, 447), none, none, some (.aload_n 2, 1, 0, 0, 0), some (.aload_n 3, 1, 0, 0, 0), some (.invokespecial 162, 3, 2, 43, 585), none, none, some (.areturn, 1, 0, 0, 0), some (.aload_n 0, 1, 0, 0, 0), some (.aload_n 0, 1, 0, 0, 0), some (.getfield 17, 3, 7, 0, 326), none, none, some (.iload_n 1, 1, 0, 0, 0), some (.invokevirtual 103, 3, 0, 27, 503), none, none, some (.aload_n 2, 1, 0, 0, 0), some (.getfield 202, 3, 8, 3, 464), none, none, some (.aload_n 3, 1, 0, 0, 0), some (.iload 4, 2, 0, 0, 0), none, some (.iconst 1, 1, 0, 0, 0), some (.iadd, 1, 0, 0, 0), some (.invokevirtual 198, 3, 0, 48, 618), none, none, some (.astore 5, 2, 0, 0, 0), none, some (.aload_n 0, 1, 0, 0, 0), some (.aload_n 0, 1, 0, 0, 0), some (.getfield 17, 3, 7, 0, 326), none, none, some (.iload_n 1, 1, 0, 0, 0), some (.invokevirtual 123, 3, 0, 31, 519), none, none, some (.aload_n 2, 1, 0, 0, 0), some (.getfield 204, 3, 8, 4, 466), none, none, some (.aload 5, 2, 0, 0, 0), none, some (.iload 4, 2, 0, 0, 0), none, some (.iconst 1, 1, 0, 0, 0), some (.iadd, 1, 0, 0, 0), some (.invokevirtual 198, 3, 0, 48, 618), none, none, some (.areturn, 1, 0, 0, 0), some (.aload_n 3, 1, 0, 0, 0), some (.areturn, 1, 0, 0, 0)]
set_option maxRecDepth 100000 in
theorem cd48_ok : mChkAt mI48.1.cls mI48.2.1 0 cd48 = true := by decide +kernel
def cd49 : List (Option mEnt) := [some (.aload_n 0, 1, 0, 0, 0), some (.getfield 54, 3, 7, 11, 337), none, none, some (.areturn, 1, 0, 0, 0)]
set_option maxRecDepth 100000 in
theorem cd49_ok : mChkAt mI49.1.cls mI49.2.1 0 cd49 = true := by decide +kernel
end
section
def cd50 : List (Option mEnt) := [some (.iload_n 1, 1, 0, 0, 0), some (.tableswitch (63) (0) (3) #[31, 39, 47, 55], 31, 0, 0, 0), none, none, none, none, none, none, none, none, none, none, none, none, none, none, none, none, none, none, none, none, none, none, none, none, none, none, none, none, none, none, some (.aload_n 0, 1, 0, 0, 0), some (.getfield 56, 3, 0, 6, 371), none, none, some (.invokevirtual 132, 3, 0, 16, 428), none, none, some (.ireturn, 1, 0, 0, 0), some (.aload_n 0, 1, 0, 0, 0), some (.getfield 56, 3, 0, 6, 371), none, none, some (.invokevirtual 142, 3, 0, 51, 630), none, none, some (.ireturn, 1, 0, 0, 0), some (.aload_n 0, 1, 0, 0, 0), some (.getfield 56, 3, 0, 6, 371), none, none, some (.invokevirtual 145, 3, 0, 52, 634), none, none, some (.ireturn, 1, 0, 0, 0), some (.aload_n 0, 1, 0, 0, 0), some (.getfield 56, 3, 0, 6, 371), none, none, some (.invokevirtual 148, 3, 0, 53, 638), none, none, some (.ireturn, 1, 0, 0, 0), some (.iconst (-1), 1, 0, 0, 0), some (.ireturn, 1, 0, 0, 0)]
set_option maxRecDepth 100000 in
theorem cd50_ok : mChkAt mI50.1.cls mI50.2.1 0 cd50 = true := by decide +kernel
def cd51 : List (Option mEnt) := [some (.aload_n 0, 1, 0, 0, 0), some (.getfield 48, 3, 7, 8, 334), none, none, some (.ireturn, 1, 0, 0, 0)]
set_option maxRecDepth 100000 in
theorem cd51_ok : mChkAt mI51.1.cls mI51.2.1 0 cd51 = true := by decide +kernel
def cd52 : List (Option mEnt) := [some (.aload_n 0, 1, 0, 0, 0), some (.getfield 51, 3, 7, 9, 335), none, none, some (.ireturn, 1, 0, 0, 0)]
set_option maxRecDepth 100000 in
theorem cd52_ok : mChkAt mI52.1.cls mI52.2.1 0 cd52 = true := by decide +kernel
def cd53 : List (Option mEnt) := [some (.aload_n 0, 1, 0, 0, 0), some (.getfield 58, 3, 7, 10, 336), none, none, some (.ireturn, 1, 0, 0, 0)]
set_option maxRecDepth 100000 in
theorem cd53_ok : mChkAt mI53.1.cls mI53.2.1 0 cd53 = true := by decide +kernel
def cd54 : List (Option mEnt) := [some (.aload_n 0, 1, 0, 0, 0), some (.getfield 31, 3, 0, 3, 368), none, none, some (.invokevirtual 76, 3, 0, 55, 652), none, none, some (.ifCond .ne (13), 3, 0, 0, 0), none, none, some (.new 80, 3, 100, 0, 821), none, none, some (.dup, 1, 0, 0, 0), some (.ldc 82, 2, 2, 0, 864), none, some (.invokespecial 84, 3, 9, 0, 865), none, none, some (.athrow, 1, 0, 0, 0), some (.aload_n 0, 1, 0, 0, 0), some (.getfield 31, 3, 0, 3, 368), none, none, some (.invokevirtual 87, 3, 0, 96, 891), none, none, some (.ifCond .ne (13), 3, 0, 0, 0), none, none, some (.new 90, 3, 101, 0, 895), none, none, some (.dup, 1, 0, 0, 0), some (.ldc 92, 2, 2, 0, 904), none, some (.invokespecial 94, 3, 9, 0, 905), none, none, some (.athrow, 1, 0, 0, 0), some (.aload_n 0, 1, 0, 0, 0), some (.getfield 47, 3, 0, 5, 370), none, none, some (.invokevirtual 95, 3, 0, 97, 911), none, none, some (.ifCond .ne (13), 3, 0, 0, 0), none, none, some (.new 98, 3, 102, 0, 1062), none, none, some (.dup, 1, 0, 0, 0), some (.ldc 100, 2, 2, 0, 1071), none, some (.invokespecial 102, 3, 9, 0, 1072), none, none, some (.athrow, 1, 0, 0, 0), some (.aload_n 0, 1, 0, 0, 0), some (.aload_n 0, 1, 0, 0, 0), some (.getfield 38, 3, 0, 4, 369), none, none, some (.aload_n 0, 1, 0, 0, 0), some (.getfield 19, 3, 0, 1, 366), none, none, some (.aload_n 0, 1, 0, 0, 0), some (.getfield 19, 3, 0, 1, 366), none, none, some (.invokevirtual 103, 3, 0, 100, 1078), none, none, some (.invokevirtual 107, 3, 0, 130, 1079), none, none, some (.aload_n 0, 1, 0, 0, 0), some (.getfield 65, 3, 0, 7, 372), none, none, some (.invokevirtual 111, 3, 0, 131, 1080), none, none, some (.putfield 115, 3, 0, 8, 373), none, none, some (.aload_n 0, 1, 0, 0, 0), some (.getfield 23, 3, 0, 2, 367), none, none, some (.aload_n 0, 1, 0, 0, 0), some (.getfield 19, 3, 0, 1, 366), none, none, some (.invokevirtual 119, 3, 0, 134, 1092), none, none, some (.aload_n 0, 1, 0, 0, 0), some (.getfield 56, 3, 0, 6, 371), none, none, some (.invokevirtual 122, 3, 0, 136, 1101), none, none, some (.aload_n 0, 1, 0, 0, 0), some (.aconst_null, 1, 0, 0, 0), some (.putfield 125, 3, 0, 9, 374), none, none, some (.aload_n 0, 1, 0, 0, 0), some (.getfield 10, 3, 0, 0, 365), none, none, some (.invokevirtual 73, 3, 0, 12, 412), none, none, some (.aload_n 0, 1, 0, 0, 0), some (.getfield 115, 3, 0, 8, 373), none, none, some (.ireturn, 1, 0, 0, 0)]
set_option maxRecDepth 100000 in
theorem cd54_ok : mChkAt mI54.1.cls mI54.2.1 0 cd54 = true := by decide +kernel
def cd55 : List (Option mEnt) := [some (.aload_n 0, 1, 0, 0, 0), some (.iconst 0, 1, 0, 0, 0), some (.putfield 28, 3, 4, 3, 236), none, none, some (.aload_n 0, 1, 0, 0, 0), some (.iconst 0, 1, 0, 0, 0), some (.putfield 32, 3, 4, 4, 237), none, none, some (.aload_n 0, 1, 0, 0, 0), some (.iconst 0, 1, 0, 0, 0), some (.putfield 36, 3, 4, 5, 238), none, none, some (.aload_n 0, 1, 0, 0, 0), some (.getfield 16, 3, 4, 2, 235), none, none, some (.iconst 0, 1, 0, 0, 0), some (.invokevirtual 39, 3, 0, 56, 656), none, none, some (.aload_n 0, 1, 0, 0, 0), some (.getfield 24, 3, 4, 1, 234), none, none, some (.invokevirtual 42, 3, 0, 57, 660), none, none, some (.aload_n 0, 1, 0, 0, 0), some (.getfield 24, 3, 4, 1, 234), none, none, some (.aload_n 0, 1, 0, 0, 0), some (.iconst 1, 1, 0, 0, 0), some (.invokevirtual 47, 3, 0, 58, 664), none, none, some (.invokevirtual 51, 3, 0, 95, 817), none, none, some (.aload_n 0, 1, 0, 0, 0), some (.getfield 32, 3, 4, 4, 237), none, none, some (.ifCond .ne (15), 3, 0, 0, 0), none, none, some (.aload_n 0, 1, 0, 0, 0), some (.invokevirtual 54, 3, 0, 60, 672), none, none, some (.iconst (-1), 1, 0, 0, 0), some (.if_icmp .ne (7), 3, 0, 0, 0), none, none, some (.iconst 1, 1, 0, 0, 0), some (.goto (4), 3, 0, 0, 0), none, none, some (.iconst 0, 1, 0, 0, 0), some (.ireturn, 1, 0, 0, 0)]
set_option maxRecDepth 100000 in
theorem cd55_ok : mChkAt mI55.1.cls mI55.2.1 0 cd55 = true := by decide +kernel
def cd56 : List (Option mEnt) := [some (.iconst 0, 1, 0, 0, 0), some (.istore_n 2, 1, 0, 0, 0), some (.iload_n 2, 1, 0, 0, 0), some (.aload_n 0, 1, 0, 0, 0), some (.getfield 9, 3, 2, 0, 177), none, none, some (.arraylength, 1, 0, 0, 0), some (.if_icmp .ge (16), 3, 0, 0, 0), none, none, some (.aload_n 0, 1, 0, 0, 0), some (.getfield 9, 3, 2, 0, 177), none, none, some (.iload_n 2, 1, 0, 0, 0), some (.iload_n 1, 1, 0, 0, 0), some (.iastore, 1, 0, 0, 0), some (.iinc 2 (1), 3, 0, 0, 0), none, none, some (.goto (-19), 3, 0, 0, 0), none, none, some (.return_, 1, 0, 0, 0)]
set_option maxRecDepth 100000 in
theorem cd56_ok : mChkAt mI56.1.cls mI56.2.1 0 cd56 = true := by decide +kernel
def cd57 : List (Option mEnt) := [some (.aload_n 0, 1, 0, 0, 0), some (.iconst 0, 1, 0, 0, 0), some (.putfield 42, 3, 3, 7, 204), none, none, some (.aload_n 0, 1, 0, 0, 0), some (.iconst (-1), 1, 0, 0, 0), some (.putfield 38, 3, 3, 8, 205), none, none, some (.return_, 1, 0, 0, 0)]
set_option maxRecDepth 100000 in
theorem cd57_ok : mChkAt mI57.1.cls mI57.2.1 0 cd57 = true := by decide +kernel
def cd58 : List (Option mEnt) := [some (.iload_n 1, 1, 0, 0, 0), some (.bipush (16), 2, 0, 0, 0), none, some (.if_icmp .le (8), 3, 0, 0, 0), none, none, some (.aload_n 0, 1, 0, 0, 0), some (.invokevirtual 67, 3, 0, 59, 668), none, none, some (.ireturn, 1, 0, 0, 0), some (.aload_n 0, 1, 0, 0, 0), some (.invokevirtual 54, 3, 0, 60, 672), none, none, some (.lookupswitch (79) #[(33, 55), (35, 73), (63, 67), (64, 61), (92, 49)], 49, 0, 0, 0), none, none, none, none, none, none, none, none, none, none, none, none, none, none, none, none, none, none, none, none, none, none, none, none, none, none, none, none, none, none, none, none, none, none, none, none, none, none, none, none, none, none, none, none, none, none, none, none, some (.aload_n 0, 1, 0, 0, 0), some (.iload_n 1, 1, 0, 0, 0), some (.invokevirtual 80, 3, 0, 62, 681), none, none, some (.ireturn, 1, 0, 0, 0), some (.aload_n 0, 1, 0, 0, 0), some (.iload_n 1, 1, 0, 0, 0), some (.invokevirtual 83, 3, 0, 68, 708), none, none, some (.ireturn, 1, 0, 0, 0), some (.aload_n 0, 1, 0, 0, 0), some (.iload_n 1, 1, 0, 0, 0), some (.invokevirtual 86, 3, 0, 69, 712), none, none, some (.ireturn, 1, 0, 0, 0), some (.aload_n 0, 1, 0, 0, 0), some (.iload_n 1, 1, 0, 0, 0), some (.invokevirtual 89, 3, 0, 70, 716), none, none, some (.ireturn, 1, 0, 0, 0), some (.aload_n 0, 1, 0, 0, 0), some (.iload_n 1, 1, 0, 0, 0), some (.invokevirtual 92, 3, 0, 71, 720), none, none, some (.ireturn, 1, 0, 0, 0), some (.aload_n 0, 1, 0, 0, 0), some (.iload_n 1, 1, 0, 0, 0), some (.invokevirtual 95, 3, 0, 83, 770), none, none, some (.ireturn, 1, 0, 0, 0)]
set_option maxRecDepth 100000 in
theorem cd58_ok : mChkAt mI58.1.cls mI58.2.1 0 cd58 = true := by decide +kernel
def cd59 : List (Option mEnt) := [some (.aload_n 0, 1, 0, 0, 0), some (.iconst 1, 1, 0, 0, 0), some (.putfield 32, 3, 4, 4, 237), none, none, some (.iconst (-1), 1, 0, 0, 0), some (.ireturn, 1, 0, 0, 0)]
set_option maxRecDepth 100000 in
theorem cd59_ok : mChkAt mI59.1.cls mI59.2.1 0 cd59 = true := by decide +kernel
def cd60 : List (Option mEnt) := [some (.iconst 0, 1, 0, 0, 0), some (.istore_n 1, 1, 0, 0, 0), some (.iload_n 1, 1, 0, 0, 0), some (.bipush (60), 2, 0, 0, 0), none, some (.if_icmp .ge (35), 3, 0, 0, 0), none, none, some (.aload_n 0, 1, 0, 0, 0), some (.getfield 20, 3, 4, 0, 233), none, none, some (.aload_n 0, 1, 0, 0, 0), some (.getfield 28, 3, 4, 3, 236), none, none, some (.invokevirtual 60, 3, 0, 61, 676), none, none, some (.bipush (32), 2, 0, 0, 0), none, some (.if_icmp .ne (19), 3, 0, 0, 0), none, none, some (.aload_n 0, 1, 0, 0, 0), some (.dup, 1, 0, 0, 0), some (.getfield 28, 3, 4, 3, 236), none, none, some (.iconst 1, 1, 0, 0, 0), some (.iadd, 1, 0, 0, 0), some (.putfield 28, 3, 4, 3, 236), none, none, some (.iinc 1 (1), 3, 0, 0, 0), none, none, some (.goto (-35), 3, 0, 0, 0), none, none, some (.aload_n 0, 1, 0, 0, 0), some (.getfield 32, 3, 4, 4, 237), none, none, some (.ifCond .eq (7), 3, 0, 0, 0), none, none, some (.iconst (-1), 1, 0, 0, 0), some (.goto (14), 3, 0, 0, 0), none, none, some (.aload_n 0, 1, 0, 0, 0), some (.getfield 20, 3, 4, 0, 233), none, none, some (.aload_n 0, 1, 0, 0, 0), some (.getfield 28, 3, 4, 3, 236), none, none, some (.invokevirtual 60, 3, 0, 61, 676), none, none, some (.ireturn, 1, 0, 0, 0)]
set_option maxRecDepth 100000 in
theorem cd60_ok : mChkAt mI60.1.cls mI60.2.1 0 cd60 = true := by decide +kernel
def cd61 : List (Option mEnt) := [some (.iload_n 1, 1, 0, 0, 0), some (.aload_n 0, 1, 0, 0, 0), some (.getfield 20, 3, 1, 1, 183), none, none, some (.if_icmp .ge (14), 3, 0, 0, 0), none, none, some (.aload_n 0, 1, 0, 0, 0), some (.getfield 16, 3, 1, 0, 182), none, none, some (.iload_n 1, 1, 0, 0, 0), some (.invokevirtual 28, 3, 0, 14, 680), none, none, some (.goto (4), 3, 0, 0, 0), none, none, some (.iconst (-1), 1, 0, 0, 0), some (.ireturn, 1, 0, 0, 0)]
set_option maxRecDepth 100000 in
theorem cd61_ok : mChkAt mI61.1.cls mI61.2.1 0 cd61 = true := by decide +kernel
def cd62 : List (Option mEnt) := [some (.aload_n 0, 1, 0, 0, 0), some (.bipush (92), 2, 0, 0, 0), none, some (.invokevirtual 98, 3, 0, 63, 685), none, none, some (.aload_n 0, 1, 0, 0, 0), some (.invokevirtual 101, 3, 0, 65, 693), none, none, some (.istore_n 2, 1, 0, 0, 0), some (.aload_n 0, 1, 0, 0, 0), some (.bipush (46), 2, 0, 0, 0), none, some (.invokevirtual 98, 3, 0, 63, 685), none, none, some (.aload_n 0, 1, 0, 0, 0), some (.iload_n 2, 1, 0, 0, 0), some (.iconst 1, 1, 0, 0, 0), some (.invokevirtual 77, 3, 0, 66, 697), none, none, some (.aload_n 0, 1, 0, 0, 0), some (.iload_n 1, 1, 0, 0, 0), some (.iconst 1, 1, 0, 0, 0), some (.iadd, 1, 0, 0, 0), some (.invokevirtual 47, 3, 0, 58, 664), none, none, some (.istore_n 3, 1, 0, 0, 0), some (.aload_n 0, 1, 0, 0, 0), some (.iload_n 2, 1, 0, 0, 0), some (.iconst (-1), 1, 0, 0, 0), some (.invokevirtual 77, 3, 0, 66, 697), none, none, some (.aload_n 0, 1, 0, 0, 0), some (.getfield 24, 3, 4, 1, 234), none, none, some (.bipush (12), 2, 0, 0, 0), none, some (.iload_n 2, 1, 0, 0, 0), some (.iload_n 3, 1, 0, 0, 0), some (.iconst (-1), 1, 0, 0, 0), some (.iconst (-1), 1, 0, 0, 0), some (.invokevirtual 104, 3, 0, 67, 703), none, none, some (.ireturn, 1, 0, 0, 0)]
set_option maxRecDepth 100000 in
theorem cd62_ok : mChkAt mI62.1.cls mI62.2.1 0 cd62 = true := by decide +kernel
def cd63 : List (Option mEnt) := [some (.aload_n 0, 1, 0, 0, 0), some (.iload_n 1, 1, 0, 0, 0), some (.invokevirtual 63, 3, 0, 64, 689), none, none, some (.ifCond .ne (8), 3, 0, 0, 0), none, none, some (.aload_n 0, 1, 0, 0, 0), some (.iconst 1, 1, 0, 0, 0), some (.putfield 32, 3, 4, 4, 237), none, none, some (.return_, 1, 0, 0, 0)]
set_option maxRecDepth 100000 in
theorem cd63_ok : mChkAt mI63.1.cls mI63.2.1 0 cd63 = true := by decide +kernel
def cd64 : List (Option mEnt) := [some (.aload_n 0, 1, 0, 0, 0), some (.invokevirtual 54, 3, 0, 60, 672), none, none, some (.iload_n 1, 1, 0, 0, 0), some (.if_icmp .eq (5), 3, 0, 0, 0), none, none, some (.iconst 0, 1, 0, 0, 0), some (.ireturn, 1, 0, 0, 0), some (.aload_n 0, 1, 0, 0, 0), some (.dup, 1, 0, 0, 0), some (.getfield 28, 3, 4, 3, 236), none, none, some (.iconst 1, 1, 0, 0, 0), some (.iadd, 1, 0, 0, 0), some (.putfield 28, 3, 4, 3, 236), none, none, some (.iconst 1, 1, 0, 0, 0), some (.ireturn, 1, 0, 0, 0)]
set_option maxRecDepth 100000 in
theorem cd64_ok : mChkAt mI64.1.cls mI64.2.1 0 cd64 = true := by decide +kernel
def cd65 : List (Option mEnt) := [some (.aload_n 0, 1, 0, 0, 0), some (.invokevirtual 54, 3, 0, 60, 672), none, none, some (.istore_n 1, 1, 0, 0, 0), some (.iload_n 1, 1, 0, 0, 0), some (.bipush (97), 2, 0, 0, 0), none, some (.if_icmp .lt (9), 3, 0, 0, 0), none, none, some (.iload_n 1, 1, 0, 0, 0), some (.bipush (122), 2, 0, 0, 0), none, some (.if_icmp .le (8), 3, 0, 0, 0), none, none, some (.aload_n 0, 1, 0, 0, 0), some (.invokevirtual 67, 3, 0, 59, 668), none, none, some (.ireturn, 1, 0, 0, 0), some (.aload_n 0, 1, 0, 0, 0), some (.dup, 1, 0, 0, 0), some (.getfield 28, 3, 4, 3, 236), none, none, some (.iconst 1, 1, 0, 0, 0), some (.iadd, 1, 0, 0, 0), some (.putfield 28, 3, 4, 3, 236), none, none, some (.iload_n 1, 1, 0, 0, 0), some (.ireturn, 1, 0, 0, 0)]
set_option maxRecDepth 100000 in
theorem cd65_ok : mChkAt mI65.1.cls mI65.2.1 0 cd65 = true := by decide +kernel
def cd66 : List (Option mEnt) := [some (.aload_n 0, 1, 0, 0, 0), some (.getfield 16, 3, 4, 2, 235), none, none, some (.iload_n 1, 1, 0, 0, 0), some (.bipush (97), 2, 0, 0, 0), none, some (.isub, 1, 0, 0, 0), some (.aload_n 0, 1, 0, 0, 0), some (.getfield 16, 3, 4, 2, 235), none, none, some (.iload_n 1, 1, 0, 0, 0), some (.bipush (97), 2, 0, 0, 0), none, some (.isub, 1, 0, 0, 0), some (.invokevirtual 70, 3, 0, 14, 701), none, none, some (.iload_n 2, 1, 0, 0, 0), some (.iadd, 1, 0, 0, 0), some (.invokevirtual 73, 3, 0, 10, 702), none, none, some (.return_, 1, 0, 0, 0)]
set_option maxRecDepth 100000 in
theorem cd66_ok : mChkAt mI66.1.cls mI66.2.1 0 cd66 = true := by decide +kernel
def cd67 : List (Option mEnt) := [some (.aload_n 0, 1, 0, 0, 0), some (.getfield 42, 3, 3, 7, 204), none, none, some (.sipush (128), 3, 0, 0, 0), none, none, some (.if_icmp .lt (5), 3, 0, 0, 0), none, none, some (.iconst (-1), 1, 0, 0, 0), some (.ireturn, 1, 0, 0, 0), some (.aload_n 0, 1, 0, 0, 0), some (.getfield 42, 3, 3, 7, 204), none, none, some (.istore 6, 2, 0, 0, 0), none, some (.aload_n 0, 1, 0, 0, 0), some (.dup, 1, 0, 0, 0), some (.getfield 42, 3, 3, 7, 204), none, none, some (.iconst 1, 1, 0, 0, 0), some (.iadd, 1, 0, 0, 0), some (.putfield 42, 3, 3, 7, 204), none, none, some (.aload_n 0, 1, 0, 0, 0), some (.getfield 16, 3, 3, 0, 197), none, none, some (.iload 6, 2, 0, 0, 0), none, some (.iload_n 1, 1, 0, 0, 0), some (.invokevirtual 45, 3, 0, 10, 707), none, none, some (.aload_n 0, 1, 0, 0, 0), some (.getfield 20, 3, 3, 1, 198), none, none, some (.iload 6, 2, 0, 0, 0), none, some (.iload_n 2, 1, 0, 0, 0), some (.invokevirtual 45, 3, 0, 10, 707), none, none, some (.aload_n 0, 1, 0, 0, 0), some (.getfield 23, 3, 3, 2, 199), none, none, some (.iload 6, 2, 0, 0, 0), none, some (.iload_n 3, 1, 0, 0, 0), some (.invokevirtual 45, 3, 0, 10, 707), none, none, some (.aload_n 0, 1, 0, 0, 0), some (.getfield 26, 3, 3, 3, 200), none, none, some (.iload 6, 2, 0, 0, 0), none, some (.iload 4, 2, 0, 0, 0), none, some (.invokevirtual 45, 3, 0, 10, 707), none, none, some (.aload_n 0, 1, 0, 0, 0), some (.getfield 29, 3, 3, 4, 201), none, none, some (.iload 6, 2, 0, 0, 0), none, some (.iload 5, 2, 0, 0, 0), none, some (.invokevirtual 45, 3, 0, 10, 707), none, none, some (.aload_n 0, 1, 0, 0, 0), some (.getfield 32, 3, 3, 5, 202), none, none, some (.iload 6, 2, 0, 0, 0), none, some (.iconst (-1), 1, 0, 0, 0), some (.invokevirtual 45, 3, 0, 10, 707), none, none, some (.aload_n 0, 1, 0, 0, 0), some (.getfield 35, 3, 3, 6, 203), none, none, some (.iload 6, 2, 0, 0, 0), none, some (.iconst (-1), 1, 0, 0, 0), some (.invokevirtual 45, 3, 0, 10, 707), none, none, some (.aload_n 0, 1, 0, 0, 0), some (.getfield 32, 3, 3, 5, 202), none, none, some (.iload_n 3, 1, 0, 0, 0), some (.iload 6, 2, 0, 0, 0), none, some (.invokevirtual 45, 3, 0, 10, 707), none, none, some (.aload_n 0, 1, 0, 0, 0), some (.getfield 32, 3, 3, 5, 202), none, none, some (.iload 4, 2, 0, 0, 0), none, some (.iload 6, 2, 0, 0, 0), none, some (.invokevirtual 45, 3, 0, 10, 707), none, none, some (.aload_n 0, 1, 0, 0, 0), some (.getfield 32, 3, 3, 5, 202), none, none, some (.iload 5, 2, 0, 0, 0), none, some (.iload 6, 2, 0, 0, 0), none, some (.invokevirtual 45, 3, 0, 10, 707), none, none, some (.iload 6, 2, 0, 0, 0), none, some (.ireturn, 1, 0, 0, 0)]
set_option maxRecDepth 100000 in
theorem cd67_ok : mChkAt mI67.1.cls mI67.2.1 0 cd67 = true := by decide +kernel
def cd68 : List (Option mEnt) := [some (.aload_n 0, 1, 0, 0, 0), some (.bipush (33), 2, 0, 0, 0), none, some (.invokevirtual 98, 3, 0, 63, 685), none, none, some (.aload_n 0, 1, 0, 0, 0), some (.invokevirtual 101, 3, 0, 65, 693), none, none, some (.istore_n 2, 1, 0, 0, 0), some (.aload_n 0, 1, 0, 0, 0), some (.bipush (61), 2, 0, 0, 0), none, some (.invokevirtual 98, 3, 0, 63, 685), none, none, some (.aload_n 0, 1, 0, 0, 0), some (.iload_n 1, 1, 0, 0, 0), some (.iconst 1, 1, 0, 0, 0), some (.iadd, 1, 0, 0, 0), some (.invokevirtual 47, 3, 0, 58, 664), none, none, some (.istore_n 3, 1, 0, 0, 0), some (.aload_n 0, 1, 0, 0, 0), some (.bipush (59), 2, 0, 0, 0), none, some (.invokevirtual 98, 3, 0, 63, 685), none, none, some (.aload_n 0, 1, 0, 0, 0), some (.iload_n 2, 1, 0, 0, 0), some (.iconst 1, 1, 0, 0, 0), some (.invokevirtual 77, 3, 0, 66, 697), none, none, some (.aload_n 0, 1, 0, 0, 0), some (.iload_n 1, 1, 0, 0, 0), some (.iconst 1, 1, 0, 0, 0), some (.iadd, 1, 0, 0, 0), some (.invokevirtual 47, 3, 0, 58, 664), none, none, some (.istore 4, 2, 0, 0, 0), none, some (.aload_n 0, 1, 0, 0, 0), some (.iload_n 2, 1, 0, 0, 0), some (.iconst (-1), 1, 0, 0, 0), some (.invokevirtual 77, 3, 0, 66, 697), none, none, some (.aload_n 0, 1, 0, 0, 0), some (.getfield 24, 3, 4, 1, 234), none, none, some (.bipush (13), 2, 0, 0, 0), none, some (.iload_n 2, 1, 0, 0, 0), some (.iload_n 3, 1, 0, 0, 0), some (.iload 4, 2, 0, 0, 0), none, some (.iconst (-1), 1, 0, 0, 0), some (.invokevirtual 104, 3, 0, 67, 703), none, none, some (.ireturn, 1, 0, 0, 0)]
set_option maxRecDepth 100000 in
theorem cd68_ok : mChkAt mI68.1.cls mI68.2.1 0 cd68 = true := by decide +kernel
def cd69 : List (Option mEnt) := [some (.aload_n 0, 1, 0, 0, 0), some (.bipush (64), 2, 0, 0, 0), none, some (.invokevirtual 98, 3, 0, 63, 685), none, none, some (.aload_n 0, 1, 0, 0, 0), some (.invokevirtual 101, 3, 0, 65, 693), none, none, some (.istore_n 2, 1, 0, 0, 0), some (.aload_n 0, 1, 0, 0, 0), some (.bipush (61), 2, 0, 0, 0), none, some (.invokevirtual 98, 3, 0, 63, 685), none, none, some (.aload_n 0, 1, 0, 0, 0), some (.iload_n 2, 1, 0, 0, 0), some (.iconst 1, 1, 0, 0, 0), some (.invokevirtual 77, 3, 0, 66, 697), none, none, some (.aload_n 0, 1, 0, 0, 0), some (.invokevirtual 54, 3, 0, 60, 672), none, none, some (.bipush (92), 2, 0, 0, 0), none, some (.if_icmp .ne (13), 3, 0, 0, 0), none, none, some (.aload_n 0, 1, 0, 0, 0), some (.iload_n 1, 1, 0, 0, 0), some (.iconst 1, 1, 0, 0, 0), some (.iadd, 1, 0, 0, 0), some (.invokevirtual 47, 3, 0, 58, 664), none, none, some (.goto (7), 3, 0, 0, 0), none, none, some (.aload_n 0, 1, 0, 0, 0), some (.invokevirtual 67, 3, 0, 59, 668), none, none, some (.istore_n 3, 1, 0, 0, 0), some (.aload_n 0, 1, 0, 0, 0), some (.bipush (59), 2, 0, 0, 0), none, some (.invokevirtual 98, 3, 0, 63, 685), none, none, some (.aload_n 0, 1, 0, 0, 0), some (.iload_n 1, 1, 0, 0, 0), some (.iconst 1, 1, 0, 0, 0), some (.iadd, 1, 0, 0, 0), some (.invokevirtual 47, 3, 0, 58, 664), none, none, some (.istore 4, 2, 0, 0, 0), none, some (.aload_n 0, 1, 0, 0, 0), some (.iload_n 2, 1, 0, 0, 0), some (.iconst (-1), 1, 0, 0, 0), some (.invokevirtual 77, 3, 0, 66, 697), none, none, some (.aload_n 0, 1, 0, 0, 0), some (.getfield 24, 3, 4, 1, 234), none, none, some (.bipush (14), 2, 0, 0, 0), none, some (.iload_n 2, 1, 0, 0, 0), some (.iload_n 3, 1, 0, 0, 0), some (.iload 4, 2, 0, 0, 0), none, some (.iconst (-1), 1, 0, 0, 0), some (.invokevirtual 104, 3, 0, 67, 703), none, none, some (.ireturn, 1, 0, 0, 0)]
set_option maxRecDepth 100000 in
theorem cd69_ok : mChkAt mI69.1.cls mI69.2.1 0 cd69 = true := by decide +kernel
def cd70 : List (Option mEnt) := [some (.aload_n 0, 1, 0, 0, 0), some (.bipush (63), 2, 0, 0, 0), none, some (.invokevirtual 98, 3, 0, 63, 685), none, none, some (.aload_n 0, 1, 0, 0, 0), some (.iload_n 1, 1, 0, 0, 0), some (.iconst 1, 1, 0, 0, 0), some (.iadd, 1, 0, 0, 0), some (.invokevirtual 47, 3, 0, 58, 664), none, none, some (.istore_n 2, 1, 0, 0, 0), some (.aload_n 0, 1, 0, 0, 0), some (.bipush (58), 2, 0, 0, 0), none, some (.invokevirtual 98, 3, 0, 63, 685), none, none, some (.aload_n 0, 1, 0, 0, 0), some (.iload_n 1, 1, 0, 0, 0), some (.iconst 1, 1, 0, 0, 0), some (.iadd, 1, 0, 0, 0), some (.invokevirtual 47, 3, 0, 58, 664), none, none, some (.istore_n 3, 1, 0, 0, 0), some (.aload_n 0, 1, 0, 0, 0), some (.bipush (124), 2, 0, 0, 0), none, some (.invokevirtual 98, 3, 0, 63, 685), none, none, some (.aload_n 0, 1, 0, 0, 0), some (.iload_n 1, 1, 0, 0, 0), some (.iconst 1, 1, 0, 0, 0), some (.iadd, 1, 0, 0, 0), some (.invokevirtual 47, 3, 0, 58, 664), none, none, some (.istore 4, 2, 0, 0, 0), none, some (.aload_n 0, 1, 0, 0, 0), some (.getfield 24, 3, 4, 1, 234), none, none, some (.bipush (15), 2, 0, 0, 0), none, some (.iconst 0, 1, 0, 0, 0), some (.iload_n 2, 1, 0, 0, 0), some (.iload_n 3, 1, 0, 0, 0), some (.iload 4, 2, 0, 0, 0), none, some (.invokevirtual 104, 3, 0, 67, 703), none, none, some (.ireturn, 1, 0, 0, 0)]
set_option maxRecDepth 100000 in
theorem cd70_ok : mChkAt mI70.1.cls mI70.2.1 0 cd70 = true := by decide +kernel
def cd71 : List (Option mEnt) := [some (.aload_n 0, 1, 0, 0, 0), some (.bipush (35), 2, 0, 0, 0), none, some (.invokevirtual 98, 3, 0, 63, 685), none, none, some (.aload_n 0, 1, 0, 0, 0), some (.getfield 24, 3, 4, 1, 234), none, none, some (.bipush (16), 2, 0, 0, 0), none, some (.iconst 0, 1, 0, 0, 0), some (.aload_n 0, 1, 0, 0, 0), some (.iload_n 1, 1, 0, 0, 0), some (.iconst 1, 1, 0, 0, 0), some (.iadd, 1, 0, 0, 0), some (.invokevirtual 47, 3, 0, 58, 664), none, none, some (.iconst (-1), 1, 0, 0, 0), some (.iconst (-1), 1, 0, 0, 0), some (.invokevirtual 104, 3, 0, 67, 703), none, none, some (.istore_n 2, 1, 0, 0, 0), some (.aload_n 0, 1, 0, 0, 0), some (.bipush (123), 2, 0, 0, 0), none, some (.invokevirtual 98, 3, 0, 63, 685), none, none, some (.iconst (-1), 1, 0, 0, 0), some (.istore_n 3, 1, 0, 0, 0), some (.iconst 0, 1, 0, 0, 0), some (.istore 4, 2, 0, 0, 0), none, some (.iload 4, 2, 0, 0, 0), none, some (.iconst 5, 1, 0, 0, 0), some (.if_icmp .ge (47), 3, 0, 0, 0), none, none, some (.aload_n 0, 1, 0, 0, 0), some (.iload_n 1, 1, 0, 0, 0), some (.invokevirtual 108, 3, 0, 72, 724), none, none, some (.istore 5, 2, 0, 0, 0), none, some (.aload_n 0, 1, 0, 0, 0), some (.getfield 24, 3, 4, 1, 234), none, none, some (.iload_n 2, 1, 0, 0, 0), some (.iload_n 3, 1, 0, 0, 0), some (.iload 5, 2, 0, 0, 0), none, some (.invokevirtual 111, 3, 0, 82, 766), none, none, some (.iload 5, 2, 0, 0, 0), none, some (.istore_n 3, 1, 0, 0, 0), some (.aload_n 0, 1, 0, 0, 0), some (.bipush (124), 2, 0, 0, 0), none, some (.invokevirtual 63, 3, 0, 64, 689), none, none, some (.ifCond .ne (11), 3, 0, 0, 0), none, none, some (.aload_n 0, 1, 0, 0, 0), some (.bipush (125), 2, 0, 0, 0), none, some (.invokevirtual 98, 3, 0, 63, 685), none, none, some (.iload_n 2, 1, 0, 0, 0), some (.ireturn, 1, 0, 0, 0), some (.iinc 4 (1), 3, 0, 0, 0), none, none, some (.goto (-47), 3, 0, 0, 0), none, none, some (.aload_n 0, 1, 0, 0, 0), some (.invokevirtual 67, 3, 0, 59, 668), none, none, some (.ireturn, 1, 0, 0, 0)]
set_option maxRecDepth 100000 in
theorem cd71_ok : mChkAt mI71.1.cls mI71.2.1 0 cd71 = true := by decide +kernel
def cd72 : List (Option mEnt) := [some (.aload_n 0, 1, 0, 0, 0), some (.iconst 0, 1, 0, 0, 0), some (.putfield 115, 3, 4, 6, 239), none, none, some (.aload_n 0, 1, 0, 0, 0), some (.iload_n 1, 1, 0, 0, 0), some (.iconst 1, 1, 0, 0, 0), some (.iadd, 1, 0, 0, 0), some (.invokevirtual 118, 3, 0, 73, 728), none, none, some (.istore_n 2, 1, 0, 0, 0), some (.aload_n 0, 1, 0, 0, 0), some (.getfield 115, 3, 4, 6, 239), none, none, some (.istore_n 3, 1, 0, 0, 0), some (.aload_n 0, 1, 0, 0, 0), some (.bipush (58), 2, 0, 0, 0), none, some (.invokevirtual 98, 3, 0, 63, 685), none, none, some (.aload_n 0, 1, 0, 0, 0), some (.iload_n 3, 1, 0, 0, 0), some (.iconst 1, 1, 0, 0, 0), some (.invokevirtual 121, 3, 0, 80, 756), none, none, some (.aload_n 0, 1, 0, 0, 0), some (.iload_n 1, 1, 0, 0, 0), some (.iconst 1, 1, 0, 0, 0), some (.iadd, 1, 0, 0, 0), some (.invokevirtual 47, 3, 0, 58, 664), none, none, some (.istore 4, 2, 0, 0, 0), none, some (.aload_n 0, 1, 0, 0, 0), some (.iload_n 3, 1, 0, 0, 0), some (.iconst (-1), 1, 0, 0, 0), some (.invokevirtual 121, 3, 0, 80, 756), none, none, some (.aload_n 0, 1, 0, 0, 0), some (.getfield 24, 3, 4, 1, 234), none, none, some (.bipush (17), 2, 0, 0, 0), none, some (.iload_n 3, 1, 0, 0, 0), some (.invokestatic 124, 3, 1, 81, 760), none, none, some (.iload_n 2, 1, 0, 0, 0), some (.iload 4, 2, 0, 0, 0), none, some (.iconst (-1), 1, 0, 0, 0), some (.invokevirtual 104, 3, 0, 67, 703), none, none, some (.ireturn, 1, 0, 0, 0)]
set_option maxRecDepth 100000 in
theorem cd72_ok : mChkAt mI72.1.cls mI72.2.1 0 cd72 = true := by decide +kernel
def cd73 : List (Option mEnt) := [some (.iload_n 1, 1, 0, 0, 0), some (.bipush (16), 2, 0, 0, 0), none, some (.if_icmp .le (8), 3, 0, 0, 0), none, none, some (.aload_n 0, 1, 0, 0, 0), some (.invokevirtual 67, 3, 0, 59, 668), none, none, some (.ireturn, 1, 0, 0, 0), some (.aload_n 0, 1, 0, 0, 0), some (.iload_n 1, 1, 0, 0, 0), some (.invokevirtual 129, 3, 0, 74, 732), none, none, some (.istore_n 2, 1, 0, 0, 0), some (.aload_n 0, 1, 0, 0, 0), some (.bipush (44), 2, 0, 0, 0), none, some (.invokevirtual 63, 3, 0, 64, 689), none, none, some (.ifCond .ne (5), 3, 0, 0, 0), none, none, some (.iload_n 2, 1, 0, 0, 0), some (.ireturn, 1, 0, 0, 0), some (.aload_n 0, 1, 0, 0, 0), some (.getfield 24, 3, 4, 1, 234), none, none, some (.bipush (10), 2, 0, 0, 0), none, some (.iconst 0, 1, 0, 0, 0), some (.iload_n 2, 1, 0, 0, 0), some (.aload_n 0, 1, 0, 0, 0), some (.iload_n 1, 1, 0, 0, 0), some (.iconst 1, 1, 0, 0, 0), some (.iadd, 1, 0, 0, 0), some (.invokevirtual 118, 3, 0, 73, 728), none, none, some (.iconst (-1), 1, 0, 0, 0), some (.invokevirtual 104, 3, 0, 67, 703), none, none, some (.ireturn, 1, 0, 0, 0)]
set_option maxRecDepth 100000 in
theorem cd73_ok : mChkAt mI73.1.cls mI73.2.1 0 cd73 = true := by decide +kernel
def cd74 : List (Option mEnt) := [some (.aload_n 0, 1, 0, 0, 0), some (.invokevirtual 54, 3, 0, 60, 672), none, none, some (.istore_n 2, 1, 0, 0, 0), some (.iload_n 2, 1, 0, 0, 0), some (.bipush (97), 2, 0, 0, 0), none, some (.if_icmp .lt (14), 3, 0, 0, 0), none, none, some (.iload_n 2, 1, 0, 0, 0), some (.bipush (122), 2, 0, 0, 0), none, some (.if_icmp .gt (8), 3, 0, 0, 0), none, none, some (.aload_n 0, 1, 0, 0, 0), some (.invokevirtual 132, 3, 0, 75, 736), none, none, some (.ireturn, 1, 0, 0, 0), some (.iload_n 2, 1, 0, 0, 0), some (.invokestatic 135, 3, 1, 77, 745), none, none, some (.ifCond .eq (17), 3, 0, 0, 0), none, none, some (.aload_n 0, 1, 0, 0, 0), some (.getfield 24, 3, 4, 1, 234), none, none, some (.iconst 0, 1, 0, 0, 0), some (.aload_n 0, 1, 0, 0, 0), some (.iconst 4, 1, 0, 0, 0), some (.invokevirtual 138, 3, 0, 78, 748), none, none, some (.invokevirtual 141, 3, 0, 76, 740), none, none, some (.ireturn, 1, 0, 0, 0), some (.aload_n 0, 1, 0, 0, 0), some (.bipush (95), 2, 0, 0, 0), none, some (.invokevirtual 63, 3, 0, 64, 689), none, none, some (.ifCond .eq (14), 3, 0, 0, 0), none, none, some (.aload_n 0, 1, 0, 0, 0), some (.getfield 24, 3, 4, 1, 234), none, none, some (.bipush (7), 2, 0, 0, 0), none, some (.iconst 0, 1, 0, 0, 0), some (.invokevirtual 141, 3, 0, 76, 740), none, none, some (.ireturn, 1, 0, 0, 0), some (.aload_n 0, 1, 0, 0, 0), some (.bipush (40), 2, 0, 0, 0), none, some (.invokevirtual 63, 3, 0, 64, 689), none, none, some (.ifCond .eq (19), 3, 0, 0, 0), none, none, some (.aload_n 0, 1, 0, 0, 0), some (.iload_n 1, 1, 0, 0, 0), some (.iconst 1, 1, 0, 0, 0), some (.iadd, 1, 0, 0, 0), some (.invokevirtual 118, 3, 0, 73, 728), none, none, some (.istore_n 3, 1, 0, 0, 0), some (.aload_n 0, 1, 0, 0, 0), some (.bipush (41), 2, 0, 0, 0), none, some (.invokevirtual 98, 3, 0, 63, 685), none, none, some (.iload_n 3, 1, 0, 0, 0), some (.ireturn, 1, 0, 0, 0), some (.aload_n 0, 1, 0, 0, 0), some (.invokevirtual 145, 3, 0, 79, 752), none, none, some (.ireturn, 1, 0, 0, 0)]
set_option maxRecDepth 100000 in
theorem cd74_ok : mChkAt mI74.1.cls mI74.2.1 0 cd74 = true := by decide +kernel
def cd75 : List (Option mEnt) := [some (.aload_n 0, 1, 0, 0, 0), some (.invokevirtual 101, 3, 0, 65, 693), none, none, some (.istore_n 1, 1, 0, 0, 0), some (.iconst 1, 1, 0, 0, 0), some (.iload_n 1, 1, 0, 0, 0), some (.bipush (97), 2, 0, 0, 0), none, some (.isub, 1, 0, 0, 0), some (.ishl, 1, 0, 0, 0), some (.istore_n 2, 1, 0, 0, 0), some (.aload_n 0, 1, 0, 0, 0), some (.getfield 115, 3, 4, 6, 239), none, none, some (.iload_n 2, 1, 0, 0, 0), some (.iand, 1, 0, 0, 0), some (.ifCond .eq (8), 3, 0, 0, 0), none, none, some (.aload_n 0, 1, 0, 0, 0), some (.invokevirtual 67, 3, 0, 59, 668), none, none, some (.ireturn, 1, 0, 0, 0), some (.aload_n 0, 1, 0, 0, 0), some (.dup, 1, 0, 0, 0), some (.getfield 115, 3, 4, 6, 239), none, none, some (.iload_n 2, 1, 0, 0, 0), some (.ior, 1, 0, 0, 0), some (.putfield 115, 3, 4, 6, 239), none, none, some (.aload_n 0, 1, 0, 0, 0), some (.getfield 24, 3, 4, 1, 234), none, none, some (.bipush (6), 2, 0, 0, 0), none, some (.iload_n 1, 1, 0, 0, 0), some (.invokevirtual 141, 3, 0, 76, 740), none, none, some (.ireturn, 1, 0, 0, 0)]
set_option maxRecDepth 100000 in
theorem cd75_ok : mChkAt mI75.1.cls mI75.2.1 0 cd75 = true := by decide +kernel
def cd76 : List (Option mEnt) := [some (.aload_n 0, 1, 0, 0, 0), some (.iload_n 1, 1, 0, 0, 0), some (.iload_n 2, 1, 0, 0, 0), some (.iconst (-1), 1, 0, 0, 0), some (.iconst (-1), 1, 0, 0, 0), some (.iconst (-1), 1, 0, 0, 0), some (.invokevirtual 49, 3, 0, 67, 744), none, none, some (.ireturn, 1, 0, 0, 0)]
set_option maxRecDepth 100000 in
theorem cd76_ok : mChkAt mI76.1.cls mI76.2.1 0 cd76 = true := by decide +kernel
def cd77 : List (Option mEnt) := [some (.iload_n 0, 1, 0, 0, 0), some (.bipush (48), 2, 0, 0, 0), none, some (.if_icmp .lt (13), 3, 0, 0, 0), none, none, some (.iload_n 0, 1, 0, 0, 0), some (.bipush (57), 2, 0, 0, 0), none, some (.if_icmp .gt (7), 3, 0, 0, 0), none, none, some (.iconst 1, 1, 0, 0, 0), some (.goto (4), 3, 0, 0, 0), none, none, some (.iconst 0, 1, 0, 0, 0), some (.ireturn, 1, 0, 0, 0)]
set_option maxRecDepth 100000 in
theorem cd77_ok : mChkAt mI77.1.cls mI77.2.1 0 cd77 = true := by decide +kernel
def cd78 : List (Option mEnt) := [some (.iconst 0, 1, 0, 0, 0), some (.istore_n 2, 1, 0, 0, 0), some (.iconst 0, 1, 0, 0, 0), some (.istore_n 3, 1, 0, 0, 0), some (.iload_n 3, 1, 0, 0, 0), some (.iload_n 1, 1, 0, 0, 0), some (.if_icmp .gt (56), 3, 0, 0, 0), none, none, some (.aload_n 0, 1, 0, 0, 0), some (.getfield 20, 3, 4, 0, 233), none, none, some (.aload_n 0, 1, 0, 0, 0), some (.getfield 28, 3, 4, 3, 236), none, none, some (.invokevirtual 60, 3, 0, 61, 676), none, none, some (.invokestatic 135, 3, 1, 77, 745), none, none, some (.ifCond .eq (39), 3, 0, 0, 0), none, none, some (.iload_n 2, 1, 0, 0, 0), some (.bipush (10), 2, 0, 0, 0), none, some (.imul, 1, 0, 0, 0), some (.aload_n 0, 1, 0, 0, 0), some (.getfield 20, 3, 4, 0, 233), none, none, some (.aload_n 0, 1, 0, 0, 0), some (.getfield 28, 3, 4, 3, 236), none, none, some (.invokevirtual 60, 3, 0, 61, 676), none, none, some (.iadd, 1, 0, 0, 0), some (.bipush (48), 2, 0, 0, 0), none, some (.isub, 1, 0, 0, 0), some (.istore_n 2, 1, 0, 0, 0), some (.aload_n 0, 1, 0, 0, 0), some (.dup, 1, 0, 0, 0), some (.getfield 28, 3, 4, 3, 236), none, none, some (.iconst 1, 1, 0, 0, 0), some (.iadd, 1, 0, 0, 0), some (.putfield 28, 3, 4, 3, 236), none, none, some (.iinc 3 (1), 3, 0, 0, 0), none, none, some (.goto (-55), 3, 0, 0, 0), none, none, some (.iload_n 3, 1, 0, 0, 0), some (.ifCond .eq (8), 3, 0, 0, 0), none, none, some (.iload_n 3, 1, 0, 0, 0), some (.iload_n 1, 1, 0, 0, 0), some (.if_icmp .le (8), 3, 0, 0, 0), none, none, some (.aload_n 0, 1, 0, 0, 0), some (.iconst 1, 1, 0, 0, 0), some (.putfield 32, 3, 4, 4, 237), none, none, some (.iload_n 2, 1, 0, 0, 0), some (.ireturn, 1, 0, 0, 0)]
set_option maxRecDepth 100000 in
theorem cd78_ok : mChkAt mI78.1.cls mI78.2.1 0 cd78 = true := by decide +kernel
def cd79 : List (Option mEnt) := [some (.aload_n 0, 1, 0, 0, 0), some (.bipush (84), 2, 0, 0, 0), none, some (.invokevirtual 63, 3, 0, 64, 689), none, none, some (.ifCond .eq (13), 3, 0, 0, 0), none, none, some (.aload_n 0, 1, 0, 0, 0), some (.getfield 24, 3, 4, 1, 234), none, none, some (.iconst 2, 1, 0, 0, 0), some (.iconst 1, 1, 0, 0, 0), some (.invokevirtual 141, 3, 0, 76, 740), none, none, some (.ireturn, 1, 0, 0, 0), some (.aload_n 0, 1, 0, 0, 0), some (.bipush (70), 2, 0, 0, 0), none, some (.invokevirtual 63, 3, 0, 64, 689), none, none, some (.ifCond .eq (13), 3, 0, 0, 0), none, none, some (.aload_n 0, 1, 0, 0, 0), some (.getfield 24, 3, 4, 1, 234), none, none, some (.iconst 2, 1, 0, 0, 0), some (.iconst 0, 1, 0, 0, 0), some (.invokevirtual 141, 3, 0, 76, 740), none, none, some (.ireturn, 1, 0, 0, 0), some (.aload_n 0, 1, 0, 0, 0), some (.bipush (91), 2, 0, 0, 0), none, some (.invokevirtual 63, 3, 0, 64, 689), none, none, some (.ifCond .eq (39), 3, 0, 0, 0), none, none, some (.aload_n 0, 1, 0, 0, 0), some (.getfield 20, 3, 4, 0, 233), none, none, some (.aload_n 0, 1, 0, 0, 0), some (.getfield 28, 3, 4, 3, 236), none, none, some (.invokevirtual 60, 3, 0, 61, 676), none, none, some (.bipush (93), 2, 0, 0, 0), none, some (.if_icmp .ne (23), 3, 0, 0, 0), none, none, some (.aload_n 0, 1, 0, 0, 0), some (.dup, 1, 0, 0, 0), some (.getfield 28, 3, 4, 3, 236), none, none, some (.iconst 1, 1, 0, 0, 0), some (.iadd, 1, 0, 0, 0), some (.putfield 28, 3, 4, 3, 236), none, none, some (.aload_n 0, 1, 0, 0, 0), some (.getfield 24, 3, 4, 1, 234), none, none, some (.iconst 3, 1, 0, 0, 0), some (.iconst 0, 1, 0, 0, 0), some (.invokevirtual 141, 3, 0, 76, 740), none, none, some (.ireturn, 1, 0, 0, 0), some (.aload_n 0, 1, 0, 0, 0), some (.invokevirtual 67, 3, 0, 59, 668), none, none, some (.ireturn, 1, 0, 0, 0)]
set_option maxRecDepth 100000 in
theorem cd79_ok : mChkAt mI79.1.cls mI79.2.1 0 cd79 = true := by decide +kernel
def cd80 : List (Option mEnt) := [some (.iconst 0, 1, 0, 0, 0), some (.istore_n 3, 1, 0, 0, 0), some (.iload_n 3, 1, 0, 0, 0), some (.bipush (26), 2, 0, 0, 0), none, some (.if_icmp .ge (27), 3, 0, 0, 0), none, none, some (.iload_n 1, 1, 0, 0, 0), some (.iload_n 3, 1, 0, 0, 0), some (.ishr, 1, 0, 0, 0), some (.iconst 1, 1, 0, 0, 0), some (.iand, 1, 0, 0, 0), some (.iconst 1, 1, 0, 0, 0), some (.if_icmp .ne (12), 3, 0, 0, 0), none, none, some (.aload_n 0, 1, 0, 0, 0), some (.bipush (97), 2, 0, 0, 0), none, some (.iload_n 3, 1, 0, 0, 0), some (.iadd, 1, 0, 0, 0), some (.iload_n 2, 1, 0, 0, 0), some (.invokevirtual 77, 3, 0, 66, 697), none, none, some (.iinc 3 (1), 3, 0, 0, 0), none, none, some (.goto (-27), 3, 0, 0, 0), none, none, some (.return_, 1, 0, 0, 0)]
set_option maxRecDepth 100000 in
theorem cd80_ok : mChkAt mI80.1.cls mI80.2.1 0 cd80 = true := by decide +kernel
def cd81 : List (Option mEnt) := [some (.iload_n 0, 1, 0, 0, 0), some (.iload_n 0, 1, 0, 0, 0), some (.iconst 1, 1, 0, 0, 0), some (.iushr, 1, 0, 0, 0), some (.ldc_w 265, 3, 0, 1431655765, 763), none, none, some (.iand, 1, 0, 0, 0), some (.isub, 1, 0, 0, 0), some (.istore_n 0, 1, 0, 0, 0), some (.iload_n 0, 1, 0, 0, 0), some (.ldc_w 266, 3, 0, 858993459, 764), none, none, some (.iand, 1, 0, 0, 0), some (.iload_n 0, 1, 0, 0, 0), some (.iconst 2, 1, 0, 0, 0), some (.iushr, 1, 0, 0, 0), some (.ldc_w 266, 3, 0, 858993459, 764), none, none, some (.iand, 1, 0, 0, 0), some (.iadd, 1, 0, 0, 0), some (.istore_n 0, 1, 0, 0, 0), some (.iload_n 0, 1, 0, 0, 0), some (.iload_n 0, 1, 0, 0, 0), some (.iconst 4, 1, 0, 0, 0), some (.iushr, 1, 0, 0, 0), some (.iadd, 1, 0, 0, 0), some (.ldc_w 267, 3, 0, 252645135, 765), none, none, some (.iand, 1, 0, 0, 0), some (.istore_n 0, 1, 0, 0, 0), some (.iload_n 0, 1, 0, 0, 0), some (.iload_n 0, 1, 0, 0, 0), some (.bipush (8), 2, 0, 0, 0), none, some (.iushr, 1, 0, 0, 0), some (.iadd, 1, 0, 0, 0), some (.istore_n 0, 1, 0, 0, 0), some (.iload_n 0, 1, 0, 0, 0), some (.iload_n 0, 1, 0, 0, 0), some (.bipush (16), 2, 0, 0, 0), none, some (.iushr, 1, 0, 0, 0), some (.iadd, 1, 0, 0, 0), some (.istore_n 0, 1, 0, 0, 0), some (.iload_n 0, 1, 0, 0, 0), some (.bipush (63), 2, 0, 0, 0), none, some (.iand, 1, 0, 0, 0), some (.ireturn, 1, 0, 0, 0)]
set_option maxRecDepth 100000 in
theorem cd81_ok : mChkAt mI81.1.cls mI81.2.1 0 cd81 = true := by decide +kernel
def cd82 : List (Option mEnt) := [some (.iload_n 2, 1, 0, 0, 0), some (.iconst (-1), 1, 0, 0, 0), some (.if_icmp .ne (15), 3, 0, 0, 0), none, none, some (.aload_n 0, 1, 0, 0, 0), some (.getfield 26, 3, 3, 3, 200), none, none, some (.iload_n 1, 1, 0, 0, 0), some (.iload_n 3, 1, 0, 0, 0), some (.invokevirtual 45, 3, 0, 10, 707), none, none, some (.goto (12), 3, 0, 0, 0), none, none, some (.aload_n 0, 1, 0, 0, 0), some (.getfield 29, 3, 3, 4, 201), none, none, some (.iload_n 2, 1, 0, 0, 0), some (.iload_n 3, 1, 0, 0, 0), some (.invokevirtual 45, 3, 0, 10, 707), none, none, some (.aload_n 0, 1, 0, 0, 0), some (.getfield 32, 3, 3, 5, 202), none, none, some (.iload_n 3, 1, 0, 0, 0), some (.iload_n 1, 1, 0, 0, 0), some (.invokevirtual 45, 3, 0, 10, 707), none, none, some (.return_, 1, 0, 0, 0)]
set_option maxRecDepth 100000 in
theorem cd82_ok : mChkAt mI82.1.cls mI82.2.1 0 cd82 = true := by decide +kernel
def cd83 : List (Option mEnt) := [some (.iconst (-1), 1, 0, 0, 0), some (.istore_n 2, 1, 0, 0, 0), some (.iconst (-1), 1, 0, 0, 0), some (.istore_n 3, 1, 0, 0, 0), some (.iconst 0, 1, 0, 0, 0), some (.istore 4, 2, 0, 0, 0), none, some (.iload 4, 2, 0, 0, 0), none, some (.bipush (60), 2, 0, 0, 0), none, some (.if_icmp .ge (76), 3, 0, 0, 0), none, none, some (.aload_n 0, 1, 0, 0, 0), some (.iload_n 1, 1, 0, 0, 0), some (.invokevirtual 148, 3, 0, 84, 774), none, none, some (.istore 5, 2, 0, 0, 0), none, some (.aload_n 0, 1, 0, 0, 0), some (.bipush (44), 2, 0, 0, 0), none, some (.invokevirtual 63, 3, 0, 64, 689), none, none, some (.istore 6, 2, 0, 0, 0), none, some (.iload 6, 2, 0, 0, 0), none, some (.ifCond .eq (19), 3, 0, 0, 0), none, none, some (.aload_n 0, 1, 0, 0, 0), some (.getfield 24, 3, 4, 1, 234), none, none, some (.bipush (10), 2, 0, 0, 0), none, some (.iconst 0, 1, 0, 0, 0), some (.iload 5, 2, 0, 0, 0), none, some (.iconst (-1), 1, 0, 0, 0), some (.iconst (-1), 1, 0, 0, 0), some (.invokevirtual 104, 3, 0, 67, 703), none, none, some (.istore 5, 2, 0, 0, 0), none, some (.iload_n 3, 1, 0, 0, 0), some (.iconst (-1), 1, 0, 0, 0), some (.if_icmp .ne (9), 3, 0, 0, 0), none, none, some (.iload 5, 2, 0, 0, 0), none, some (.istore_n 2, 1, 0, 0, 0), some (.goto (13), 3, 0, 0, 0), none, none, some (.aload_n 0, 1, 0, 0, 0), some (.getfield 24, 3, 4, 1, 234), none, none, some (.iload_n 3, 1, 0, 0, 0), some (.iload 5, 2, 0, 0, 0), none, some (.invokevirtual 151, 3, 0, 94, 813), none, none, some (.iload 5, 2, 0, 0, 0), none, some (.istore_n 3, 1, 0, 0, 0), some (.iload 6, 2, 0, 0, 0), none, some (.ifCond .ne (5), 3, 0, 0, 0), none, none, some (.iload_n 2, 1, 0, 0, 0), some (.ireturn, 1, 0, 0, 0), some (.iinc 4 (1), 3, 0, 0, 0), none, none, some (.goto (-77), 3, 0, 0, 0), none, none, some (.aload_n 0, 1, 0, 0, 0), some (.invokevirtual 67, 3, 0, 59, 668), none, none, some (.ireturn, 1, 0, 0, 0)]
set_option maxRecDepth 100000 in
theorem cd83_ok : mChkAt mI83.1.cls mI83.2.1 0 cd83 = true := by decide +kernel
def cd84 : List (Option mEnt) := [some (.aload_n 0, 1, 0, 0, 0), some (.iload_n 1, 1, 0, 0, 0), some (.invokevirtual 154, 3, 0, 85, 778), none, none, some (.istore_n 2, 1, 0, 0, 0), some (.aload_n 0, 1, 0, 0, 0), some (.bipush (61), 2, 0, 0, 0), none, some (.invokevirtual 63, 3, 0, 64, 689), none, none, some (.ifCond .eq (8), 3, 0, 0, 0), none, none, some (.bipush (61), 2, 0, 0, 0), none, some (.goto (11), 3, 0, 0, 0), none, none, some (.aload_n 0, 1, 0, 0, 0), some (.bipush (60), 2, 0, 0, 0), none, some (.bipush (60), 2, 0, 0, 0), none, some (.invokevirtual 157, 3, 0, 93, 809), none, none, some (.istore_n 3, 1, 0, 0, 0), some (.iload_n 3, 1, 0, 0, 0), some (.iconst (-1), 1, 0, 0, 0), some (.if_icmp .ne (5), 3, 0, 0, 0), none, none, some (.iload_n 2, 1, 0, 0, 0), some (.ireturn, 1, 0, 0, 0), some (.aload_n 0, 1, 0, 0, 0), some (.getfield 24, 3, 4, 1, 234), none, none, some (.bipush (9), 2, 0, 0, 0), none, some (.iload_n 3, 1, 0, 0, 0), some (.iload_n 2, 1, 0, 0, 0), some (.aload_n 0, 1, 0, 0, 0), some (.iload_n 1, 1, 0, 0, 0), some (.invokevirtual 154, 3, 0, 85, 778), none, none, some (.iconst (-1), 1, 0, 0, 0), some (.invokevirtual 104, 3, 0, 67, 703), none, none, some (.ireturn, 1, 0, 0, 0)]
set_option maxRecDepth 100000 in
theorem cd84_ok : mChkAt mI84.1.cls mI84.2.1 0 cd84 = true := by decide +kernel
def cd85 : List (Option mEnt) := [some (.aload_n 0, 1, 0, 0, 0), some (.iload_n 1, 1, 0, 0, 0), some (.invokevirtual 160, 3, 0, 86, 782), none, none, some (.istore_n 2, 1, 0, 0, 0), some (.iconst 0, 1, 0, 0, 0), some (.istore_n 3, 1, 0, 0, 0), some (.iload_n 3, 1, 0, 0, 0), some (.bipush (60), 2, 0, 0, 0), none, some (.if_icmp .ge (46), 3, 0, 0, 0), none, none, some (.aload_n 0, 1, 0, 0, 0), some (.bipush (43), 2, 0, 0, 0), none, some (.bipush (45), 2, 0, 0, 0), none, some (.invokevirtual 157, 3, 0, 93, 809), none, none, some (.istore 4, 2, 0, 0, 0), none, some (.iload 4, 2, 0, 0, 0), none, some (.iconst (-1), 1, 0, 0, 0), some (.if_icmp .ne (5), 3, 0, 0, 0), none, none, some (.iload_n 2, 1, 0, 0, 0), some (.ireturn, 1, 0, 0, 0), some (.aload_n 0, 1, 0, 0, 0), some (.getfield 24, 3, 4, 1, 234), none, none, some (.bipush (9), 2, 0, 0, 0), none, some (.iload 4, 2, 0, 0, 0), none, some (.iload_n 2, 1, 0, 0, 0), some (.aload_n 0, 1, 0, 0, 0), some (.iload_n 1, 1, 0, 0, 0), some (.invokevirtual 160, 3, 0, 86, 782), none, none, some (.iconst (-1), 1, 0, 0, 0), some (.invokevirtual 104, 3, 0, 67, 703), none, none, some (.istore_n 2, 1, 0, 0, 0), some (.iinc 3 (1), 3, 0, 0, 0), none, none, some (.goto (-46), 3, 0, 0, 0), none, none, some (.aload_n 0, 1, 0, 0, 0), some (.invokevirtual 67, 3, 0, 59, 668), none, none, some (.ireturn, 1, 0, 0, 0)]
set_option maxRecDepth 100000 in
theorem cd85_ok : mChkAt mI85.1.cls mI85.2.1 0 cd85 = true := by decide +kernel
def cd86 : List (Option mEnt) := [some (.aload_n 0, 1, 0, 0, 0), some (.iload_n 1, 1, 0, 0, 0), some (.invokevirtual 163, 3, 0, 87, 786), none, none, some (.istore_n 2, 1, 0, 0, 0), some (.iconst 0, 1, 0, 0, 0), some (.istore_n 3, 1, 0, 0, 0), some (.iload_n 3, 1, 0, 0, 0), some (.bipush (60), 2, 0, 0, 0), none, some (.if_icmp .ge (46), 3, 0, 0, 0), none, none, some (.aload_n 0, 1, 0, 0, 0), some (.bipush (42), 2, 0, 0, 0), none, some (.bipush (47), 2, 0, 0, 0), none, some (.invokevirtual 157, 3, 0, 93, 809), none, none, some (.istore 4, 2, 0, 0, 0), none, some (.iload 4, 2, 0, 0, 0), none, some (.iconst (-1), 1, 0, 0, 0), some (.if_icmp .ne (5), 3, 0, 0, 0), none, none, some (.iload_n 2, 1, 0, 0, 0), some (.ireturn, 1, 0, 0, 0), some (.aload_n 0, 1, 0, 0, 0), some (.getfield 24, 3, 4, 1, 234), none, none, some (.bipush (9), 2, 0, 0, 0), none, some (.iload 4, 2, 0, 0, 0), none, some (.iload_n 2, 1, 0, 0, 0), some (.aload_n 0, 1, 0, 0, 0), some (.iload_n 1, 1, 0, 0, 0), some (.invokevirtual 163, 3, 0, 87, 786), none, none, some (.iconst (-1), 1, 0, 0, 0), some (.invokevirtual 104, 3, 0, 67, 703), none, none, some (.istore_n 2, 1, 0, 0, 0), some (.iinc 3 (1), 3, 0, 0, 0), none, none, some (.goto (-46), 3, 0, 0, 0), none, none, some (.aload_n 0, 1, 0, 0, 0), some (.invokevirtual 67, 3, 0, 59, 668), none, none, some (.ireturn, 1, 0, 0, 0)]
set_option maxRecDepth 100000 in
theorem cd86_ok : mChkAt mI86.1.cls mI86.2.1 0 cd86 = true := by decide +kernel
def cd87 : List (Option mEnt) := [some (.aload_n 0, 1, 0, 0, 0), some (.iload_n 1, 1, 0, 0, 0), some (.invokevirtual 166, 3, 0, 88, 790), none, none, some (.istore_n 2, 1, 0, 0, 0), some (.iconst 0, 1, 0, 0, 0), some (.istore_n 3, 1, 0, 0, 0), some (.iload_n 3, 1, 0, 0, 0), some (.bipush (60), 2, 0, 0, 0), none, some (.if_icmp .ge (37), 3, 0, 0, 0), none, none, some (.aload_n 0, 1, 0, 0, 0), some (.invokevirtual 54, 3, 0, 60, 672), none, none, some (.invokestatic 169, 3, 1, 92, 806), none, none, some (.ifCond .eq (27), 3, 0, 0, 0), none, none, some (.aload_n 0, 1, 0, 0, 0), some (.getfield 24, 3, 4, 1, 234), none, none, some (.bipush (11), 2, 0, 0, 0), none, some (.iconst 0, 1, 0, 0, 0), some (.iload_n 2, 1, 0, 0, 0), some (.aload_n 0, 1, 0, 0, 0), some (.iload_n 1, 1, 0, 0, 0), some (.invokevirtual 166, 3, 0, 88, 790), none, none, some (.iconst (-1), 1, 0, 0, 0), some (.invokevirtual 104, 3, 0, 67, 703), none, none, some (.istore_n 2, 1, 0, 0, 0), some (.iinc 3 (1), 3, 0, 0, 0), none, none, some (.goto (-37), 3, 0, 0, 0), none, none, some (.iload_n 2, 1, 0, 0, 0), some (.ireturn, 1, 0, 0, 0)]
set_option maxRecDepth 100000 in
theorem cd87_ok : mChkAt mI87.1.cls mI87.2.1 0 cd87 = true := by decide +kernel
def cd88 : List (Option mEnt) := [some (.iconst 0, 1, 0, 0, 0), some (.istore_n 2, 1, 0, 0, 0), some (.iload_n 2, 1, 0, 0, 0), some (.bipush (60), 2, 0, 0, 0), none, some (.if_icmp .ge (18), 3, 0, 0, 0), none, none, some (.aload_n 0, 1, 0, 0, 0), some (.bipush (126), 2, 0, 0, 0), none, some (.invokevirtual 63, 3, 0, 64, 689), none, none, some (.ifCond .eq (9), 3, 0, 0, 0), none, none, some (.iinc 2 (1), 3, 0, 0, 0), none, none, some (.goto (-18), 3, 0, 0, 0), none, none, some (.aload_n 0, 1, 0, 0, 0), some (.iload_n 1, 1, 0, 0, 0), some (.invokevirtual 172, 3, 0, 89, 794), none, none, some (.istore_n 3, 1, 0, 0, 0), some (.iconst 0, 1, 0, 0, 0), some (.istore 4, 2, 0, 0, 0), none, some (.iload 4, 2, 0, 0, 0), none, some (.iload_n 2, 1, 0, 0, 0), some (.if_icmp .ge (23), 3, 0, 0, 0), none, none, some (.aload_n 0, 1, 0, 0, 0), some (.getfield 24, 3, 4, 1, 234), none, none, some (.bipush (8), 2, 0, 0, 0), none, some (.iconst 0, 1, 0, 0, 0), some (.iload_n 3, 1, 0, 0, 0), some (.iconst (-1), 1, 0, 0, 0), some (.iconst (-1), 1, 0, 0, 0), some (.invokevirtual 104, 3, 0, 67, 703), none, none, some (.istore_n 3, 1, 0, 0, 0), some (.iinc 4 (1), 3, 0, 0, 0), none, none, some (.goto (-23), 3, 0, 0, 0), none, none, some (.iload_n 3, 1, 0, 0, 0), some (.ireturn, 1, 0, 0, 0)]
set_option maxRecDepth 100000 in
theorem cd88_ok : mChkAt mI88.1.cls mI88.2.1 0 cd88 = true := by decide +kernel
def cd89 : List (Option mEnt) := [some (.aload_n 0, 1, 0, 0, 0), some (.invokevirtual 54, 3, 0, 60, 672), none, none, some (.istore_n 2, 1, 0, 0, 0), some (.iload_n 2, 1, 0, 0, 0), some (.bipush (97), 2, 0, 0, 0), none, some (.if_icmp .lt (14), 3, 0, 0, 0), none, none, some (.iload_n 2, 1, 0, 0, 0), some (.bipush (122), 2, 0, 0, 0), none, some (.if_icmp .gt (8), 3, 0, 0, 0), none, none, some (.aload_n 0, 1, 0, 0, 0), some (.invokevirtual 175, 3, 0, 90, 798), none, none, some (.ireturn, 1, 0, 0, 0), some (.iload_n 2, 1, 0, 0, 0), some (.invokestatic 135, 3, 1, 77, 745), none, none, some (.ifCond .eq (8), 3, 0, 0, 0), none, none, some (.aload_n 0, 1, 0, 0, 0), some (.invokevirtual 178, 3, 0, 91, 802), none, none, some (.ireturn, 1, 0, 0, 0), some (.aload_n 0, 1, 0, 0, 0), some (.bipush (82), 2, 0, 0, 0), none, some (.invokevirtual 63, 3, 0, 64, 689), none, none, some (.ifCond .eq (14), 3, 0, 0, 0), none, none, some (.aload_n 0, 1, 0, 0, 0), some (.getfield 24, 3, 4, 1, 234), none, none, some (.iconst 4, 1, 0, 0, 0), some (.bipush (82), 2, 0, 0, 0), none, some (.invokevirtual 141, 3, 0, 76, 740), none, none, some (.ireturn, 1, 0, 0, 0), some (.aload_n 0, 1, 0, 0, 0), some (.bipush (73), 2, 0, 0, 0), none, some (.invokevirtual 63, 3, 0, 64, 689), none, none, some (.ifCond .eq (14), 3, 0, 0, 0), none, none, some (.aload_n 0, 1, 0, 0, 0), some (.getfield 24, 3, 4, 1, 234), none, none, some (.iconst 4, 1, 0, 0, 0), some (.bipush (73), 2, 0, 0, 0), none, some (.invokevirtual 141, 3, 0, 76, 740), none, none, some (.ireturn, 1, 0, 0, 0), some (.aload_n 0, 1, 0, 0, 0), some (.bipush (40), 2, 0, 0, 0), none, some (.invokevirtual 63, 3, 0, 64, 689), none, none, some (.ifCond .eq (19), 3, 0, 0, 0), none, none, some (.aload_n 0, 1, 0, 0, 0), some (.iload_n 1, 1, 0, 0, 0), some (.iconst 1, 1, 0, 0, 0), some (.iadd, 1, 0, 0, 0), some (.invokevirtual 47, 3, 0, 58, 664), none, none, some (.istore_n 3, 1, 0, 0, 0), some (.aload_n 0, 1, 0, 0, 0), some (.bipush (41), 2, 0, 0, 0), none, some (.invokevirtual 98, 3, 0, 63, 685), none, none, some (.iload_n 3, 1, 0, 0, 0), some (.ireturn, 1, 0, 0, 0), some (.aload_n 0, 1, 0, 0, 0), some (.invokevirtual 145, 3, 0, 79, 752), none, none, some (.ireturn, 1, 0, 0, 0)]
set_option maxRecDepth 100000 in
theorem cd89_ok : mChkAt mI89.1.cls mI89.2.1 0 cd89 = true := by decide +kernel
def cd90 : List (Option mEnt) := [some (.aload_n 0, 1, 0, 0, 0), some (.invokevirtual 101, 3, 0, 65, 693), none, none, some (.istore_n 1, 1, 0, 0, 0), some (.aload_n 0, 1, 0, 0, 0), some (.getfield 16, 3, 4, 2, 235), none, none, some (.iload_n 1, 1, 0, 0, 0), some (.bipush (97), 2, 0, 0, 0), none, some (.isub, 1, 0, 0, 0), some (.invokevirtual 70, 3, 0, 14, 701), none, none, some (.iconst 1, 1, 0, 0, 0), some (.if_icmp .ge (8), 3, 0, 0, 0), none, none, some (.aload_n 0, 1, 0, 0, 0), some (.iconst 1, 1, 0, 0, 0), some (.putfield 36, 3, 4, 5, 238), none, none, some (.aload_n 0, 1, 0, 0, 0), some (.getfield 24, 3, 4, 1, 234), none, none, some (.iconst 5, 1, 0, 0, 0), some (.iload_n 1, 1, 0, 0, 0), some (.invokevirtual 141, 3, 0, 76, 740), none, none, some (.ireturn, 1, 0, 0, 0)]
set_option maxRecDepth 100000 in
theorem cd90_ok : mChkAt mI90.1.cls mI90.2.1 0 cd90 = true := by decide +kernel
def cd91 : List (Option mEnt) := [some (.aload_n 0, 1, 0, 0, 0), some (.iconst 4, 1, 0, 0, 0), some (.invokevirtual 138, 3, 0, 78, 748), none, none, some (.istore_n 1, 1, 0, 0, 0), some (.aload_n 0, 1, 0, 0, 0), some (.getfield 20, 3, 4, 0, 233), none, none, some (.aload_n 0, 1, 0, 0, 0), some (.getfield 28, 3, 4, 3, 236), none, none, some (.invokevirtual 60, 3, 0, 61, 676), none, none, some (.bipush (46), 2, 0, 0, 0), none, some (.if_icmp .eq (13), 3, 0, 0, 0), none, none, some (.aload_n 0, 1, 0, 0, 0), some (.getfield 24, 3, 4, 1, 234), none, none, some (.iconst 0, 1, 0, 0, 0), some (.iload_n 1, 1, 0, 0, 0), some (.invokevirtual 141, 3, 0, 76, 740), none, none, some (.ireturn, 1, 0, 0, 0), some (.aload_n 0, 1, 0, 0, 0), some (.dup, 1, 0, 0, 0), some (.getfield 28, 3, 4, 3, 236), none, none, some (.iconst 1, 1, 0, 0, 0), some (.iadd, 1, 0, 0, 0), some (.putfield 28, 3, 4, 3, 236), none, none, some (.aload_n 0, 1, 0, 0, 0), some (.getfield 28, 3, 4, 3, 236), none, none, some (.istore_n 2, 1, 0, 0, 0), some (.aload_n 0, 1, 0, 0, 0), some (.iconst 3, 1, 0, 0, 0), some (.invokevirtual 138, 3, 0, 78, 748), none, none, some (.istore_n 3, 1, 0, 0, 0), some (.aload_n 0, 1, 0, 0, 0), some (.getfield 28, 3, 4, 3, 236), none, none, some (.iload_n 2, 1, 0, 0, 0), some (.isub, 1, 0, 0, 0), some (.istore 4, 2, 0, 0, 0), none, some (.iload 4, 2, 0, 0, 0), none, some (.iconst 3, 1, 0, 0, 0), some (.if_icmp .ge (14), 3, 0, 0, 0), none, none, some (.iload_n 3, 1, 0, 0, 0), some (.bipush (10), 2, 0, 0, 0), none, some (.imul, 1, 0, 0, 0), some (.istore_n 3, 1, 0, 0, 0), some (.iinc 4 (1), 3, 0, 0, 0), none, none, some (.goto (-14), 3, 0, 0, 0), none, none, some (.aload_n 0, 1, 0, 0, 0), some (.getfield 24, 3, 4, 1, 234), none, none, some (.iconst 1, 1, 0, 0, 0), some (.iload_n 1, 1, 0, 0, 0), some (.sipush (1000), 3, 0, 0, 0), none, none, some (.imul, 1, 0, 0, 0), some (.iload_n 3, 1, 0, 0, 0), some (.iadd, 1, 0, 0, 0), some (.invokevirtual 141, 3, 0, 76, 740), none, none, some (.ireturn, 1, 0, 0, 0)]
set_option maxRecDepth 100000 in
theorem cd91_ok : mChkAt mI91.1.cls mI91.2.1 0 cd91 = true := by decide +kernel
def cd92 : List (Option mEnt) := [some (.iload_n 0, 1, 0, 0, 0), some (.lookupswitch (69) #[(40, 67), (70, 67), (73, 67), (82, 67), (84, 67), (91, 67), (126, 67)], 67, 0, 0, 0), none, none, none, none, none, none, none, none, none, none, none, none, none, none, none, none, none, none, none, none, none, none, none, none, none, none, none, none, none, none, none, none, none, none, none, none, none, none, none, none, none, none, none, none, none, none, none, none, none, none, none, none, none, none, none, none, none, none, none, none, none, none, none, none, none, none, some (.iconst 1, 1, 0, 0, 0), some (.ireturn, 1, 0, 0, 0), some (.iload_n 0, 1, 0, 0, 0), some (.invokestatic 135, 3, 1, 77, 745), none, none, some (.ifCond .ne (15), 3, 0, 0, 0), none, none, some (.iload_n 0, 1, 0, 0, 0), some (.bipush (97), 2, 0, 0, 0), none, some (.if_icmp .lt (13), 3, 0, 0, 0), none, none, some (.iload_n 0, 1, 0, 0, 0), some (.bipush (122), 2, 0, 0, 0), none, some (.if_icmp .gt (7), 3, 0, 0, 0), none, none, some (.iconst 1, 1, 0, 0, 0), some (.goto (4), 3, 0, 0, 0), none, none, some (.iconst 0, 1, 0, 0, 0), some (.ireturn, 1, 0, 0, 0)]
set_option maxRecDepth 100000 in
theorem cd92_ok : mChkAt mI92.1.cls mI92.2.1 0 cd92 = true := by decide +kernel
def cd93 : List (Option mEnt) := [some (.aload_n 0, 1, 0, 0, 0), some (.invokevirtual 54, 3, 0, 60, 672), none, none, some (.istore_n 3, 1, 0, 0, 0), some (.iload_n 3, 1, 0, 0, 0), some (.iconst (-1), 1, 0, 0, 0), some (.if_icmp .eq (13), 3, 0, 0, 0), none, none, some (.iload_n 3, 1, 0, 0, 0), some (.iload_n 1, 1, 0, 0, 0), some (.if_icmp .eq (10), 3, 0, 0, 0), none, none, some (.iload_n 3, 1, 0, 0, 0), some (.iload_n 2, 1, 0, 0, 0), some (.if_icmp .eq (5), 3, 0, 0, 0), none, none, some (.iconst (-1), 1, 0, 0, 0), some (.ireturn, 1, 0, 0, 0), some (.aload_n 0, 1, 0, 0, 0), some (.dup, 1, 0, 0, 0), some (.getfield 28, 3, 4, 3, 236), none, none, some (.iconst 1, 1, 0, 0, 0), some (.iadd, 1, 0, 0, 0), some (.putfield 28, 3, 4, 3, 236), none, none, some (.aload_n 0, 1, 0, 0, 0), some (.getfield 20, 3, 4, 0, 233), none, none, some (.aload_n 0, 1, 0, 0, 0), some (.getfield 28, 3, 4, 3, 236), none, none, some (.invokevirtual 60, 3, 0, 61, 676), none, none, some (.bipush (46), 2, 0, 0, 0), none, some (.if_icmp .eq (5), 3, 0, 0, 0), none, none, some (.iload_n 3, 1, 0, 0, 0), some (.ireturn, 1, 0, 0, 0), some (.aload_n 0, 1, 0, 0, 0), some (.dup, 1, 0, 0, 0), some (.getfield 28, 3, 4, 3, 236), none, none, some (.iconst 1, 1, 0, 0, 0), some (.iadd, 1, 0, 0, 0), some (.putfield 28, 3, 4, 3, 236), none, none, some (.iload_n 3, 1, 0, 0, 0), some (.sipush (128), 3, 0, 0, 0), none, none, some (.iadd, 1, 0, 0, 0), some (.ireturn, 1, 0, 0, 0)]
set_option maxRecDepth 100000 in
theorem cd93_ok : mChkAt mI93.1.cls mI93.2.1 0 cd93 = true := by decide +kernel
def cd94 : List (Option mEnt) := [some (.aload_n 0, 1, 0, 0, 0), some (.getfield 26, 3, 3, 3, 200), none, none, some (.iload_n 1, 1, 0, 0, 0), some (.iload_n 2, 1, 0, 0, 0), some (.invokevirtual 45, 3, 0, 10, 707), none, none, some (.aload_n 0, 1, 0, 0, 0), some (.getfield 32, 3, 3, 5, 202), none, none, some (.iload_n 2, 1, 0, 0, 0), some (.iload_n 1, 1, 0, 0, 0), some (.invokevirtual 45, 3, 0, 10, 707), none, none, some (.return_, 1, 0, 0, 0)]
set_option maxRecDepth 100000 in
theorem cd94_ok : mChkAt mI94.1.cls mI94.2.1 0 cd94 = true := by decide +kernel
end
section
def cd95 : List (Option mEnt) := [some (.aload_n 0, 1, 0, 0, 0), some (.iload_n 1, 1, 0, 0, 0), some (.putfield 38, 3, 3, 8, 205), none, none, some (.return_, 1, 0, 0, 0)]
set_option maxRecDepth 100000 in
theorem cd95_ok : mChkAt mI95.1.cls mI95.2.1 0 cd95 = true := by decide +kernel
def cd96 : List (Option mEnt) := [some (.aload_n 0, 1, 0, 0, 0), some (.getfield 36, 3, 4, 5, 238), none, none, some (.ifCond .ne (7), 3, 0, 0, 0), none, none, some (.iconst 1, 1, 0, 0, 0), some (.goto (4), 3, 0, 0, 0), none, none, some (.iconst 0, 1, 0, 0, 0), some (.ireturn, 1, 0, 0, 0)]
set_option maxRecDepth 100000 in
theorem cd96_ok : mChkAt mI96.1.cls mI96.2.1 0 cd96 = true := by decide +kernel
def cd97 : List (Option mEnt) := [some (.aload_n 0, 1, 0, 0, 0), some (.getfield 27, 3, 6, 1, 297), none, none, some (.invokevirtual 31, 3, 0, 98, 915), none, none, some (.aload_n 0, 1, 0, 0, 0), some (.iconst 0, 1, 0, 0, 0), some (.putfield 36, 3, 6, 4, 300), none, none, some (.aload_n 0, 1, 0, 0, 0), some (.iconst 0, 1, 0, 0, 0), some (.putfield 40, 3, 6, 5, 301), none, none, some (.aload_n 0, 1, 0, 0, 0), some (.iconst 0, 1, 0, 0, 0), some (.putfield 43, 3, 6, 6, 302), none, none, some (.aload_n 0, 1, 0, 0, 0), some (.aload_n 0, 1, 0, 0, 0), some (.getfield 23, 3, 6, 0, 296), none, none, some (.invokevirtual 47, 3, 0, 100, 924), none, none, some (.iconst 0, 1, 0, 0, 0), some (.invokevirtual 53, 3, 0, 101, 928), none, none, some (.pop, 1, 0, 0, 0), some (.iconst 0, 1, 0, 0, 0), some (.istore_n 1, 1, 0, 0, 0), some (.iload_n 1, 1, 0, 0, 0), some (.aload_n 0, 1, 0, 0, 0), some (.getfield 23, 3, 6, 0, 296), none, none, some (.invokevirtual 57, 3, 0, 129, 1054), none, none, some (.if_icmp .ge (35), 3, 0, 0, 0), none, none, some (.aload_n 0, 1, 0, 0, 0), some (.getfield 43, 3, 6, 6, 302), none, none, some (.ifCond .ne (28), 3, 0, 0, 0), none, none, some (.aload_n 0, 1, 0, 0, 0), some (.aload_n 0, 1, 0, 0, 0), some (.getfield 27, 3, 6, 1, 297), none, none, some (.aload_n 0, 1, 0, 0, 0), some (.getfield 23, 3, 6, 0, 296), none, none, some (.iload_n 1, 1, 0, 0, 0), some (.invokevirtual 60, 3, 0, 130, 1058), none, none, some (.invokevirtual 64, 3, 0, 108, 1031), none, none, some (.putfield 43, 3, 6, 6, 302), none, none, some (.iinc 1 (1), 3, 0, 0, 0), none, none, some (.goto (-40), 3, 0, 0, 0), none, none, some (.aload_n 0, 1, 0, 0, 0), some (.getfield 43, 3, 6, 6, 302), none, none, some (.ifCond .ne (7), 3, 0, 0, 0), none, none, some (.iconst 1, 1, 0, 0, 0), some (.goto (4), 3, 0, 0, 0), none, none, some (.iconst 0, 1, 0, 0, 0), some (.ireturn, 1, 0, 0, 0)]
set_option maxRecDepth 100000 in
theorem cd97_ok : mChkAt mI97.1.cls mI97.2.1 0 cd97 = true := by decide +kernel
def cd98 : List (Option mEnt) := [some (.aload_n 0, 1, 0, 0, 0), some (.iconst 0, 1, 0, 0, 0), some (.putfield 32, 3, 5, 5, 268), none, none, some (.aload_n 0, 1, 0, 0, 0), some (.bipush (105), 2, 0, 0, 0), none, some (.iconst (-1), 1, 0, 0, 0), some (.iconst (-1), 1, 0, 0, 0), some (.invokevirtual 36, 3, 0, 99, 919), none, none, some (.pop, 1, 0, 0, 0), some (.aload_n 0, 1, 0, 0, 0), some (.bipush (98), 2, 0, 0, 0), none, some (.iconst (-1), 1, 0, 0, 0), some (.iconst (-1), 1, 0, 0, 0), some (.invokevirtual 36, 3, 0, 99, 919), none, none, some (.pop, 1, 0, 0, 0), some (.aload_n 0, 1, 0, 0, 0), some (.bipush (114), 2, 0, 0, 0), none, some (.iconst (-1), 1, 0, 0, 0), some (.iconst (-1), 1, 0, 0, 0), some (.invokevirtual 36, 3, 0, 99, 919), none, none, some (.pop, 1, 0, 0, 0), some (.return_, 1, 0, 0, 0)]
set_option maxRecDepth 100000 in
theorem cd98_ok : mChkAt mI98.1.cls mI98.2.1 0 cd98 = true := by decide +kernel
def cd99 : List (Option mEnt) := [some (.aload_n 0, 1, 0, 0, 0), some (.getfield 32, 3, 5, 5, 268), none, none, some (.sipush (3000), 3, 0, 0, 0), none, none, some (.if_icmp .lt (5), 3, 0, 0, 0), none, none, some (.iconst (-1), 1, 0, 0, 0), some (.ireturn, 1, 0, 0, 0), some (.aload_n 0, 1, 0, 0, 0), some (.getfield 32, 3, 5, 5, 268), none, none, some (.istore 4, 2, 0, 0, 0), none, some (.aload_n 0, 1, 0, 0, 0), some (.dup, 1, 0, 0, 0), some (.getfield 32, 3, 5, 5, 268), none, none, some (.iconst 1, 1, 0, 0, 0), some (.iadd, 1, 0, 0, 0), some (.putfield 32, 3, 5, 5, 268), none, none, some (.aload_n 0, 1, 0, 0, 0), some (.getfield 16, 3, 5, 0, 263), none, none, some (.iload 4, 2, 0, 0, 0), none, some (.iload_n 1, 1, 0, 0, 0), some (.invokevirtual 40, 3, 0, 10, 923), none, none, some (.aload_n 0, 1, 0, 0, 0), some (.getfield 20, 3, 5, 1, 264), none, none, some (.iload 4, 2, 0, 0, 0), none, some (.iload_n 2, 1, 0, 0, 0), some (.invokevirtual 40, 3, 0, 10, 923), none, none, some (.aload_n 0, 1, 0, 0, 0), some (.getfield 23, 3, 5, 2, 265), none, none, some (.iload 4, 2, 0, 0, 0), none, some (.iload_n 3, 1, 0, 0, 0), some (.invokevirtual 40, 3, 0, 10, 923), none, none, some (.iload 4, 2, 0, 0, 0), none, some (.ireturn, 1, 0, 0, 0)]
set_option maxRecDepth 100000 in
theorem cd99_ok : mChkAt mI99.1.cls mI99.2.1 0 cd99 = true := by decide +kernel
def cd100 : List (Option mEnt) := [some (.aload_n 0, 1, 0, 0, 0), some (.getfield 38, 3, 3, 8, 205), none, none, some (.ireturn, 1, 0, 0, 0)]
set_option maxRecDepth 100000 in
theorem cd100_ok : mChkAt mI100.1.cls mI100.2.1 0 cd100 = true := by decide +kernel
def cd101 : List (Option mEnt) := [some (.iload_n 2, 1, 0, 0, 0), some (.bipush (64), 2, 0, 0, 0), none, some (.if_icmp .le (8), 3, 0, 0, 0), none, none, some (.aload_n 0, 1, 0, 0, 0), some (.iconst 1, 1, 0, 0, 0), some (.putfield 43, 3, 6, 6, 302), none, none, some (.aload_n 0, 1, 0, 0, 0), some (.getfield 43, 3, 6, 6, 302), none, none, some (.ifCond .eq (5), 3, 0, 0, 0), none, none, some (.iconst (-1), 1, 0, 0, 0), some (.ireturn, 1, 0, 0, 0), some (.aload_n 0, 1, 0, 0, 0), some (.getfield 23, 3, 6, 0, 296), none, none, some (.iload_n 1, 1, 0, 0, 0), some (.invokevirtual 79, 3, 0, 27, 932), none, none, some (.iconst (-1), 1, 0, 0, 0), some (.if_icmp .ne (11), 3, 0, 0, 0), none, none, some (.aload_n 0, 1, 0, 0, 0), some (.iload_n 1, 1, 0, 0, 0), some (.invokevirtual 82, 3, 0, 102, 933), none, none, some (.goto (9), 3, 0, 0, 0), none, none, some (.aload_n 0, 1, 0, 0, 0), some (.iload_n 1, 1, 0, 0, 0), some (.iload_n 2, 1, 0, 0, 0), some (.invokevirtual 85, 3, 0, 115, 992), none, none, some (.istore_n 3, 1, 0, 0, 0), some (.iload_n 3, 1, 0, 0, 0), some (.iconst (-1), 1, 0, 0, 0), some (.if_icmp .ne (8), 3, 0, 0, 0), none, none, some (.aload_n 0, 1, 0, 0, 0), some (.iconst 1, 1, 0, 0, 0), some (.putfield 43, 3, 6, 6, 302), none, none, some (.aload_n 0, 1, 0, 0, 0), some (.getfield 23, 3, 6, 0, 296), none, none, some (.iload_n 1, 1, 0, 0, 0), some (.iload_n 3, 1, 0, 0, 0), some (.invokevirtual 88, 3, 0, 128, 1050), none, none, some (.iload_n 3, 1, 0, 0, 0), some (.ireturn, 1, 0, 0, 0)]
set_option maxRecDepth 100000 in
theorem cd101_ok : mChkAt mI101.1.cls mI101.2.1 0 cd101 = true := by decide +kernel
def cd102 : List (Option mEnt) := [some (.aload_n 0, 1, 0, 0, 0), some (.getfield 23, 3, 6, 0, 296), none, none, some (.iload_n 1, 1, 0, 0, 0), some (.invokevirtual 91, 3, 0, 19, 937), none, none, some (.tableswitch (155) (0) (6) #[44, 46, 48, 50, 69, 104, 128], 44, 0, 0, 0), none, none, none, none, none, none, none, none, none, none, none, none, none, none, none, none, none, none, none, none, none, none, none, none, none, none, none, none, none, none, none, none, none, none, none, none, none, none, none, none, none, none, none, some (.iconst 0, 1, 0, 0, 0), some (.ireturn, 1, 0, 0, 0), some (.iconst 2, 1, 0, 0, 0), some (.ireturn, 1, 0, 0, 0), some (.iconst 1, 1, 0, 0, 0), some (.ireturn, 1, 0, 0, 0), some (.aload_n 0, 1, 0, 0, 0), some (.getfield 27, 3, 6, 1, 297), none, none, some (.aload_n 0, 1, 0, 0, 0), some (.getfield 27, 3, 6, 1, 297), none, none, some (.aload_n 0, 1, 0, 0, 0), some (.getfield 40, 3, 6, 5, 301), none, none, some (.invokevirtual 94, 3, 0, 103, 938), none, none, some (.invokevirtual 97, 3, 0, 104, 942), none, none, some (.ireturn, 1, 0, 0, 0), some (.aload_n 0, 1, 0, 0, 0), some (.getfield 23, 3, 6, 0, 296), none, none, some (.iload_n 1, 1, 0, 0, 0), some (.invokevirtual 100, 3, 0, 20, 946), none, none, some (.bipush (82), 2, 0, 0, 0), none, some (.if_icmp .ne (15), 3, 0, 0, 0), none, none, some (.aload_n 0, 1, 0, 0, 0), some (.getfield 27, 3, 6, 1, 297), none, none, some (.iconst 0, 1, 0, 0, 0), some (.iconst 2, 1, 0, 0, 0), some (.invokevirtual 103, 3, 0, 105, 947), none, none, some (.goto (12), 3, 0, 0, 0), none, none, some (.aload_n 0, 1, 0, 0, 0), some (.getfield 27, 3, 6, 1, 297), none, none, some (.iconst 2, 1, 0, 0, 0), some (.iconst 0, 1, 0, 0, 0), some (.invokevirtual 103, 3, 0, 105, 947), none, none, some (.ireturn, 1, 0, 0, 0), some (.aload_n 0, 1, 0, 0, 0), some (.getfield 27, 3, 6, 1, 297), none, none, some (.aload_n 0, 1, 0, 0, 0), some (.aload_n 0, 1, 0, 0, 0), some (.getfield 23, 3, 6, 0, 296), none, none, some (.iload_n 1, 1, 0, 0, 0), some (.invokevirtual 100, 3, 0, 20, 946), none, none, some (.invokevirtual 106, 3, 0, 106, 951), none, none, some (.aload_n 0, 1, 0, 0, 0), some (.getfield 40, 3, 6, 5, 301), none, none, some (.invokevirtual 109, 3, 0, 107, 956), none, none, some (.ireturn, 1, 0, 0, 0), some (.aload_n 0, 1, 0, 0, 0), some (.getfield 27, 3, 6, 1, 297), none, none, some (.aload_n 0, 1, 0, 0, 0), some (.getfield 40, 3, 6, 5, 301), none, none, some (.invokevirtual 94, 3, 0, 103, 938), none, none, some (.istore_n 2, 1, 0, 0, 0), some (.aload_n 0, 1, 0, 0, 0), some (.aload_n 0, 1, 0, 0, 0), some (.getfield 23, 3, 6, 0, 296), none, none, some (.iload_n 1, 1, 0, 0, 0), some (.invokevirtual 100, 3, 0, 20, 946), none, none, some (.iload_n 2, 1, 0, 0, 0), some (.invokevirtual 112, 3, 0, 114, 987), none, none, some (.iload_n 2, 1, 0, 0, 0), some (.ireturn, 1, 0, 0, 0), some (.aload_n 0, 1, 0, 0, 0), some (.getfield 27, 3, 6, 1, 297), none, none, some (.aload_n 0, 1, 0, 0, 0), some (.getfield 40, 3, 6, 5, 301), none, none, some (.invokevirtual 94, 3, 0, 103, 938), none, none, some (.ireturn, 1, 0, 0, 0)]
set_option maxRecDepth 100000 in
theorem cd102_ok : mChkAt mI102.1.cls mI102.2.1 0 cd102 = true := by decide +kernel
def cd103 : List (Option mEnt) := [some (.aload_n 0, 1, 0, 0, 0), some (.bipush (63), 2, 0, 0, 0), none, some (.iconst (-1), 1, 0, 0, 0), some (.iload_n 1, 1, 0, 0, 0), some (.invokevirtual 36, 3, 0, 99, 919), none, none, some (.ireturn, 1, 0, 0, 0)]
set_option maxRecDepth 100000 in
theorem cd103_ok : mChkAt mI103.1.cls mI103.2.1 0 cd103 = true := by decide +kernel
def cd104 : List (Option mEnt) := [some (.aload_n 0, 1, 0, 0, 0), some (.bipush (91), 2, 0, 0, 0), none, some (.iload_n 1, 1, 0, 0, 0), some (.iconst (-1), 1, 0, 0, 0), some (.invokevirtual 36, 3, 0, 99, 919), none, none, some (.ireturn, 1, 0, 0, 0)]
set_option maxRecDepth 100000 in
theorem cd104_ok : mChkAt mI104.1.cls mI104.2.1 0 cd104 = true := by decide +kernel
def cd105 : List (Option mEnt) := [some (.aload_n 0, 1, 0, 0, 0), some (.bipush (62), 2, 0, 0, 0), none, some (.iload_n 1, 1, 0, 0, 0), some (.iload_n 2, 1, 0, 0, 0), some (.invokevirtual 36, 3, 0, 99, 919), none, none, some (.ireturn, 1, 0, 0, 0)]
set_option maxRecDepth 100000 in
theorem cd105_ok : mChkAt mI105.1.cls mI105.2.1 0 cd105 = true := by decide +kernel
def cd106 : List (Option mEnt) := [some (.aload_n 0, 1, 0, 0, 0), some (.getfield 36, 3, 6, 4, 300), none, none, some (.iconst 1, 1, 0, 0, 0), some (.isub, 1, 0, 0, 0), some (.istore_n 2, 1, 0, 0, 0), some (.iload_n 2, 1, 0, 0, 0), some (.ifCond .lt (30), 3, 0, 0, 0), none, none, some (.aload_n 0, 1, 0, 0, 0), some (.getfield 16, 3, 6, 2, 298), none, none, some (.iload_n 2, 1, 0, 0, 0), some (.invokevirtual 76, 3, 0, 14, 955), none, none, some (.iload_n 1, 1, 0, 0, 0), some (.if_icmp .ne (12), 3, 0, 0, 0), none, none, some (.aload_n 0, 1, 0, 0, 0), some (.getfield 20, 3, 6, 3, 299), none, none, some (.iload_n 2, 1, 0, 0, 0), some (.invokevirtual 76, 3, 0, 14, 955), none, none, some (.ireturn, 1, 0, 0, 0), some (.iinc 2 (-1), 3, 0, 0, 0), none, none, some (.goto (-28), 3, 0, 0, 0), none, none, some (.iconst (-1), 1, 0, 0, 0), some (.ireturn, 1, 0, 0, 0)]
set_option maxRecDepth 100000 in
theorem cd106_ok : mChkAt mI106.1.cls mI106.2.1 0 cd106 = true := by decide +kernel
def cd107 : List (Option mEnt) := [some (.aload_n 0, 1, 0, 0, 0), some (.iconst 0, 1, 0, 0, 0), some (.putfield 79, 3, 5, 6, 269), none, none, some (.aload_n 0, 1, 0, 0, 0), some (.iload_n 1, 1, 0, 0, 0), some (.invokevirtual 55, 3, 0, 108, 960), none, none, some (.ifCond .eq (7), 3, 0, 0, 0), none, none, some (.iconst (-1), 1, 0, 0, 0), some (.goto (10), 3, 0, 0, 0), none, none, some (.aload_n 0, 1, 0, 0, 0), some (.iload_n 1, 1, 0, 0, 0), some (.iload_n 2, 1, 0, 0, 0), some (.iconst 0, 1, 0, 0, 0), some (.invokevirtual 82, 3, 0, 111, 973), none, none, some (.ireturn, 1, 0, 0, 0)]
set_option maxRecDepth 100000 in
theorem cd107_ok : mChkAt mI107.1.cls mI107.2.1 0 cd107 = true := by decide +kernel
def cd108 : List (Option mEnt) := [some (.aload_n 0, 1, 0, 0, 0), some (.iload_n 1, 1, 0, 0, 0), some (.iconst 0, 1, 0, 0, 0), some (.invokevirtual 48, 3, 0, 109, 964), none, none, some (.bipush (80), 2, 0, 0, 0), none, some (.if_icmp .le (7), 3, 0, 0, 0), none, none, some (.iconst 1, 1, 0, 0, 0), some (.goto (4), 3, 0, 0, 0), none, none, some (.iconst 0, 1, 0, 0, 0), some (.ireturn, 1, 0, 0, 0)]
set_option maxRecDepth 100000 in
theorem cd108_ok : mChkAt mI108.1.cls mI108.2.1 0 cd108 = true := by decide +kernel
def cd109 : List (Option mEnt) := [some (.iload_n 2, 1, 0, 0, 0), some (.bipush (40), 2, 0, 0, 0), none, some (.if_icmp .le (6), 3, 0, 0, 0), none, none, some (.bipush (81), 2, 0, 0, 0), none, some (.ireturn, 1, 0, 0, 0), some (.aload_n 0, 1, 0, 0, 0), some (.iload_n 1, 1, 0, 0, 0), some (.invokevirtual 52, 3, 0, 110, 968), none, none, some (.istore_n 3, 1, 0, 0, 0), some (.aload_n 0, 1, 0, 0, 0), some (.getfield 16, 3, 5, 0, 263), none, none, some (.iload_n 3, 1, 0, 0, 0), some (.invokevirtual 44, 3, 0, 14, 972), none, none, some (.lookupswitch (93) #[(62, 43), (91, 25)], 25, 0, 0, 0), none, none, none, none, none, none, none, none, none, none, none, none, none, none, none, none, none, none, none, none, none, none, none, none, some (.iconst 2, 1, 0, 0, 0), some (.aload_n 0, 1, 0, 0, 0), some (.aload_n 0, 1, 0, 0, 0), some (.getfield 20, 3, 5, 1, 264), none, none, some (.iload_n 3, 1, 0, 0, 0), some (.invokevirtual 44, 3, 0, 14, 972), none, none, some (.iload_n 2, 1, 0, 0, 0), some (.iconst 1, 1, 0, 0, 0), some (.iadd, 1, 0, 0, 0), some (.invokevirtual 48, 3, 0, 109, 964), none, none, some (.iadd, 1, 0, 0, 0), some (.ireturn, 1, 0, 0, 0), some (.aload_n 0, 1, 0, 0, 0), some (.aload_n 0, 1, 0, 0, 0), some (.getfield 20, 3, 5, 1, 264), none, none, some (.iload_n 3, 1, 0, 0, 0), some (.invokevirtual 44, 3, 0, 14, 972), none, none, some (.iload_n 2, 1, 0, 0, 0), some (.iconst 1, 1, 0, 0, 0), some (.iadd, 1, 0, 0, 0), some (.invokevirtual 48, 3, 0, 109, 964), none, none, some (.istore 4, 2, 0, 0, 0), none, some (.iload 4, 2, 0, 0, 0), none, some (.bipush (80), 2, 0, 0, 0), none, some (.if_icmp .le (8), 3, 0, 0, 0), none, none, some (.iload 4, 2, 0, 0, 0), none, some (.goto (23), 3, 0, 0, 0), none, none, some (.iconst 3, 1, 0, 0, 0), some (.iload 4, 2, 0, 0, 0), none, some (.iadd, 1, 0, 0, 0), some (.aload_n 0, 1, 0, 0, 0), some (.aload_n 0, 1, 0, 0, 0), some (.getfield 23, 3, 5, 2, 265), none, none, some (.iload_n 3, 1, 0, 0, 0), some (.invokevirtual 44, 3, 0, 14, 972), none, none, some (.iload_n 2, 1, 0, 0, 0), some (.iconst 1, 1, 0, 0, 0), some (.iadd, 1, 0, 0, 0), some (.invokevirtual 48, 3, 0, 109, 964), none, none, some (.iadd, 1, 0, 0, 0), some (.ireturn, 1, 0, 0, 0), some (.iconst 1, 1, 0, 0, 0), some (.ireturn, 1, 0, 0, 0)]
set_option maxRecDepth 100000 in
theorem cd109_ok : mChkAt mI109.1.cls mI109.2.1 0 cd109 = true := by decide +kernel
def cd110 : List (Option mEnt) := [some (.iload_n 1, 1, 0, 0, 0), some (.istore_n 2, 1, 0, 0, 0), some (.iconst 0, 1, 0, 0, 0), some (.istore_n 3, 1, 0, 0, 0), some (.iload_n 3, 1, 0, 0, 0), some (.sipush (3000), 3, 0, 0, 0), none, none, some (.if_icmp .ge (43), 3, 0, 0, 0), none, none, some (.aload_n 0, 1, 0, 0, 0), some (.getfield 16, 3, 5, 0, 263), none, none, some (.iload_n 2, 1, 0, 0, 0), some (.invokevirtual 44, 3, 0, 14, 972), none, none, some (.bipush (63), 2, 0, 0, 0), none, some (.if_icmp .ne (30), 3, 0, 0, 0), none, none, some (.aload_n 0, 1, 0, 0, 0), some (.getfield 20, 3, 5, 1, 264), none, none, some (.iload_n 2, 1, 0, 0, 0), some (.invokevirtual 44, 3, 0, 14, 972), none, none, some (.iconst (-1), 1, 0, 0, 0), some (.if_icmp .eq (18), 3, 0, 0, 0), none, none, some (.aload_n 0, 1, 0, 0, 0), some (.getfield 20, 3, 5, 1, 264), none, none, some (.iload_n 2, 1, 0, 0, 0), some (.invokevirtual 44, 3, 0, 14, 972), none, none, some (.istore_n 2, 1, 0, 0, 0), some (.iinc 3 (1), 3, 0, 0, 0), none, none, some (.goto (-44), 3, 0, 0, 0), none, none, some (.iload_n 2, 1, 0, 0, 0), some (.ireturn, 1, 0, 0, 0)]
set_option maxRecDepth 100000 in
theorem cd110_ok : mChkAt mI110.1.cls mI110.2.1 0 cd110 = true := by decide +kernel
def cd111 : List (Option mEnt) := [some (.aload_n 0, 1, 0, 0, 0), some (.iload_n 1, 1, 0, 0, 0), some (.invokevirtual 52, 3, 0, 110, 968), none, none, some (.istore 4, 2, 0, 0, 0), none, some (.iload_n 3, 1, 0, 0, 0), some (.bipush (40), 2, 0, 0, 0), none, some (.if_icmp .le (6), 3, 0, 0, 0), none, none, some (.iload 4, 2, 0, 0, 0), none, some (.ireturn, 1, 0, 0, 0), some (.aload_n 0, 1, 0, 0, 0), some (.getfield 20, 3, 5, 1, 264), none, none, some (.iload 4, 2, 0, 0, 0), none, some (.invokevirtual 44, 3, 0, 14, 972), none, none, some (.istore 5, 2, 0, 0, 0), none, some (.aload_n 0, 1, 0, 0, 0), some (.getfield 16, 3, 5, 0, 263), none, none, some (.iload 4, 2, 0, 0, 0), none, some (.invokevirtual 44, 3, 0, 14, 972), none, none, some (.lookupswitch (170) #[(62, 71), (63, 142), (91, 36)], 36, 0, 0, 0), none, none, none, none, none, none, none, none, none, none, none, none, none, none, none, none, none, none, none, none, none, none, none, none, none, none, none, none, none, none, none, none, none, none, none, some (.aload_n 0, 1, 0, 0, 0), some (.iload 5, 2, 0, 0, 0), none, some (.iload_n 2, 1, 0, 0, 0), some (.iload_n 3, 1, 0, 0, 0), some (.iconst 1, 1, 0, 0, 0), some (.iadd, 1, 0, 0, 0), some (.invokevirtual 82, 3, 0, 111, 973), none, none, some (.istore 6, 2, 0, 0, 0), none, some (.iload 6, 2, 0, 0, 0), none, some (.aload_n 0, 1, 0, 0, 0), some (.iload 5, 2, 0, 0, 0), none, some (.invokevirtual 52, 3, 0, 110, 968), none, none, some (.if_icmp .ne (8), 3, 0, 0, 0), none, none, some (.iload 4, 2, 0, 0, 0), none, some (.goto (9), 3, 0, 0, 0), none, none, some (.aload_n 0, 1, 0, 0, 0), some (.iload 6, 2, 0, 0, 0), none, some (.invokevirtual 85, 3, 0, 104, 977), none, none, some (.ireturn, 1, 0, 0, 0), some (.aload_n 0, 1, 0, 0, 0), some (.getfield 23, 3, 5, 2, 265), none, none, some (.iload 4, 2, 0, 0, 0), none, some (.invokevirtual 44, 3, 0, 14, 972), none, none, some (.istore 7, 2, 0, 0, 0), none, some (.aload_n 0, 1, 0, 0, 0), some (.iload 5, 2, 0, 0, 0), none, some (.iload_n 2, 1, 0, 0, 0), some (.iload_n 3, 1, 0, 0, 0), some (.iconst 1, 1, 0, 0, 0), some (.iadd, 1, 0, 0, 0), some (.invokevirtual 82, 3, 0, 111, 973), none, none, some (.istore 8, 2, 0, 0, 0), none, some (.aload_n 0, 1, 0, 0, 0), some (.iload 7, 2, 0, 0, 0), none, some (.iload_n 2, 1, 0, 0, 0), some (.iload_n 3, 1, 0, 0, 0), some (.iconst 1, 1, 0, 0, 0), some (.iadd, 1, 0, 0, 0), some (.invokevirtual 82, 3, 0, 111, 973), none, none, some (.istore 9, 2, 0, 0, 0), none, some (.iload 8, 2, 0, 0, 0), none, some (.aload_n 0, 1, 0, 0, 0), some (.iload 5, 2, 0, 0, 0), none, some (.invokevirtual 52, 3, 0, 110, 968), none, none, some (.if_icmp .ne (19), 3, 0, 0, 0), none, none, some (.iload 9, 2, 0, 0, 0), none, some (.aload_n 0, 1, 0, 0, 0), some (.iload 7, 2, 0, 0, 0), none, some (.invokevirtual 52, 3, 0, 110, 968), none, none, some (.if_icmp .ne (8), 3, 0, 0, 0), none, none, some (.iload 4, 2, 0, 0, 0), none, some (.goto (11), 3, 0, 0, 0), none, none, some (.aload_n 0, 1, 0, 0, 0), some (.iload 8, 2, 0, 0, 0), none, some (.iload 9, 2, 0, 0, 0), none, some (.invokevirtual 88, 3, 0, 105, 978), none, none, some (.ireturn, 1, 0, 0, 0), some (.aload_n 0, 1, 0, 0, 0), some (.getfield 23, 3, 5, 2, 265), none, none, some (.iload 4, 2, 0, 0, 0), none, some (.invokevirtual 44, 3, 0, 14, 972), none, none, some (.sipush (1000), 3, 0, 0, 0), none, none, some (.if_icmp .ne (13), 3, 0, 0, 0), none, none, some (.aload_n 0, 1, 0, 0, 0), some (.iload 4, 2, 0, 0, 0), none, some (.iload_n 2, 1, 0, 0, 0), some (.invokevirtual 91, 3, 0, 112, 979), none, none, some (.goto (5), 3, 0, 0, 0), none, none, some (.iload 4, 2, 0, 0, 0), none, some (.ireturn, 1, 0, 0, 0), some (.iload 4, 2, 0, 0, 0), none, some (.ireturn, 1, 0, 0, 0)]
set_option maxRecDepth 100000 in
theorem cd111_ok : mChkAt mI111.1.cls mI111.2.1 0 cd111 = true := by decide +kernel
def cd112 : List (Option mEnt) := [some (.aload_n 0, 1, 0, 0, 0), some (.iload_n 1, 1, 0, 0, 0), some (.invokevirtual 94, 3, 0, 113, 983), none, none, some (.istore_n 3, 1, 0, 0, 0), some (.aload_n 0, 1, 0, 0, 0), some (.getfield 29, 3, 5, 4, 267), none, none, some (.iload_n 3, 1, 0, 0, 0), some (.invokevirtual 44, 3, 0, 14, 972), none, none, some (.iconst (-1), 1, 0, 0, 0), some (.if_icmp .ne (19), 3, 0, 0, 0), none, none, some (.aload_n 0, 1, 0, 0, 0), some (.getfield 29, 3, 5, 4, 267), none, none, some (.iload_n 3, 1, 0, 0, 0), some (.aload_n 0, 1, 0, 0, 0), some (.bipush (63), 2, 0, 0, 0), none, some (.iconst (-1), 1, 0, 0, 0), some (.iload_n 2, 1, 0, 0, 0), some (.invokevirtual 36, 3, 0, 99, 919), none, none, some (.invokevirtual 40, 3, 0, 10, 923), none, none, some (.aload_n 0, 1, 0, 0, 0), some (.getfield 29, 3, 5, 4, 267), none, none, some (.iload_n 3, 1, 0, 0, 0), some (.invokevirtual 44, 3, 0, 14, 972), none, none, some (.ireturn, 1, 0, 0, 0)]
set_option maxRecDepth 100000 in
theorem cd112_ok : mChkAt mI112.1.cls mI112.2.1 0 cd112 = true := by decide +kernel
def cd113 : List (Option mEnt) := [some (.iconst 0, 1, 0, 0, 0), some (.istore_n 2, 1, 0, 0, 0), some (.iload_n 2, 1, 0, 0, 0), some (.aload_n 0, 1, 0, 0, 0), some (.getfield 79, 3, 5, 6, 269), none, none, some (.if_icmp .ge (23), 3, 0, 0, 0), none, none, some (.aload_n 0, 1, 0, 0, 0), some (.getfield 26, 3, 5, 3, 266), none, none, some (.iload_n 2, 1, 0, 0, 0), some (.invokevirtual 44, 3, 0, 14, 972), none, none, some (.iload_n 1, 1, 0, 0, 0), some (.if_icmp .ne (5), 3, 0, 0, 0), none, none, some (.iload_n 2, 1, 0, 0, 0), some (.ireturn, 1, 0, 0, 0), some (.iinc 2 (1), 3, 0, 0, 0), none, none, some (.goto (-25), 3, 0, 0, 0), none, none, some (.aload_n 0, 1, 0, 0, 0), some (.getfield 26, 3, 5, 3, 266), none, none, some (.aload_n 0, 1, 0, 0, 0), some (.getfield 79, 3, 5, 6, 269), none, none, some (.iload_n 1, 1, 0, 0, 0), some (.invokevirtual 40, 3, 0, 10, 923), none, none, some (.aload_n 0, 1, 0, 0, 0), some (.getfield 29, 3, 5, 4, 267), none, none, some (.aload_n 0, 1, 0, 0, 0), some (.getfield 79, 3, 5, 6, 269), none, none, some (.iconst (-1), 1, 0, 0, 0), some (.invokevirtual 40, 3, 0, 10, 923), none, none, some (.aload_n 0, 1, 0, 0, 0), some (.dup, 1, 0, 0, 0), some (.getfield 79, 3, 5, 6, 269), none, none, some (.iconst 1, 1, 0, 0, 0), some (.iadd, 1, 0, 0, 0), some (.putfield 79, 3, 5, 6, 269), none, none, some (.aload_n 0, 1, 0, 0, 0), some (.getfield 79, 3, 5, 6, 269), none, none, some (.iconst 1, 1, 0, 0, 0), some (.isub, 1, 0, 0, 0), some (.ireturn, 1, 0, 0, 0)]
set_option maxRecDepth 100000 in
theorem cd113_ok : mChkAt mI113.1.cls mI113.2.1 0 cd113 = true := by decide +kernel
def cd114 : List (Option mEnt) := [some (.aload_n 0, 1, 0, 0, 0), some (.getfield 16, 3, 6, 2, 298), none, none, some (.aload_n 0, 1, 0, 0, 0), some (.getfield 36, 3, 6, 4, 300), none, none, some (.iload_n 1, 1, 0, 0, 0), some (.invokevirtual 72, 3, 0, 10, 991), none, none, some (.aload_n 0, 1, 0, 0, 0), some (.getfield 20, 3, 6, 3, 299), none, none, some (.aload_n 0, 1, 0, 0, 0), some (.getfield 36, 3, 6, 4, 300), none, none, some (.iload_n 2, 1, 0, 0, 0), some (.invokevirtual 72, 3, 0, 10, 991), none, none, some (.aload_n 0, 1, 0, 0, 0), some (.dup, 1, 0, 0, 0), some (.getfield 36, 3, 6, 4, 300), none, none, some (.iconst 1, 1, 0, 0, 0), some (.iadd, 1, 0, 0, 0), some (.putfield 36, 3, 6, 4, 300), none, none, some (.return_, 1, 0, 0, 0)]
set_option maxRecDepth 100000 in
theorem cd114_ok : mChkAt mI114.1.cls mI114.2.1 0 cd114 = true := by decide +kernel
def cd115 : List (Option mEnt) := [some (.aload_n 0, 1, 0, 0, 0), some (.getfield 23, 3, 6, 0, 296), none, none, some (.iload_n 1, 1, 0, 0, 0), some (.invokevirtual 91, 3, 0, 19, 937), none, none, some (.tableswitch (344) (8) (15) #[48, 70, 142, 190, 257, 323, 330, 337], 48, 0, 0, 0), none, none, none, none, none, none, none, none, none, none, none, none, none, none, none, none, none, none, none, none, none, none, none, none, none, none, none, none, none, none, none, none, none, none, none, none, none, none, none, none, none, none, none, none, none, none, none, some (.aload_n 0, 1, 0, 0, 0), some (.aload_n 0, 1, 0, 0, 0), some (.aload_n 0, 1, 0, 0, 0), some (.getfield 23, 3, 6, 0, 296), none, none, some (.iload_n 1, 1, 0, 0, 0), some (.invokevirtual 79, 3, 0, 27, 932), none, none, some (.iload_n 2, 1, 0, 0, 0), some (.iconst 1, 1, 0, 0, 0), some (.iadd, 1, 0, 0, 0), some (.invokevirtual 53, 3, 0, 101, 928), none, none, some (.iconst 2, 1, 0, 0, 0), some (.invokevirtual 115, 3, 0, 116, 996), none, none, some (.iconst 2, 1, 0, 0, 0), some (.ireturn, 1, 0, 0, 0), some (.aload_n 0, 1, 0, 0, 0), some (.getfield 23, 3, 6, 0, 296), none, none, some (.iload_n 1, 1, 0, 0, 0), some (.invokevirtual 100, 3, 0, 20, 946), none, none, some (.invokestatic 118, 3, 1, 120, 1016), none, none, some (.istore_n 3, 1, 0, 0, 0), some (.aload_n 0, 1, 0, 0, 0), some (.aload_n 0, 1, 0, 0, 0), some (.aload_n 0, 1, 0, 0, 0), some (.getfield 23, 3, 6, 0, 296), none, none, some (.iload_n 1, 1, 0, 0, 0), some (.invokevirtual 79, 3, 0, 27, 932), none, none, some (.iload_n 2, 1, 0, 0, 0), some (.iconst 1, 1, 0, 0, 0), some (.iadd, 1, 0, 0, 0), some (.invokevirtual 53, 3, 0, 101, 928), none, none, some (.iload_n 3, 1, 0, 0, 0), some (.invokevirtual 115, 3, 0, 116, 996), none, none, some (.aload_n 0, 1, 0, 0, 0), some (.aload_n 0, 1, 0, 0, 0), some (.aload_n 0, 1, 0, 0, 0), some (.getfield 23, 3, 6, 0, 296), none, none, some (.iload_n 1, 1, 0, 0, 0), some (.invokevirtual 121, 3, 0, 31, 1019), none, none, some (.iload_n 2, 1, 0, 0, 0), some (.iconst 1, 1, 0, 0, 0), some (.iadd, 1, 0, 0, 0), some (.invokevirtual 53, 3, 0, 101, 928), none, none, some (.iload_n 3, 1, 0, 0, 0), some (.invokevirtual 115, 3, 0, 116, 996), none, none, some (.aload_n 0, 1, 0, 0, 0), some (.getfield 23, 3, 6, 0, 296), none, none, some (.iload_n 1, 1, 0, 0, 0), some (.invokevirtual 100, 3, 0, 20, 946), none, none, some (.invokestatic 124, 3, 1, 121, 1020), none, none, some (.ifCond .eq (7), 3, 0, 0, 0), none, none, some (.iconst 1, 1, 0, 0, 0), some (.goto (4), 3, 0, 0, 0), none, none, some (.iload_n 3, 1, 0, 0, 0), some (.ireturn, 1, 0, 0, 0), some (.aload_n 0, 1, 0, 0, 0), some (.getfield 27, 3, 6, 1, 297), none, none, some (.aload_n 0, 1, 0, 0, 0), some (.aload_n 0, 1, 0, 0, 0), some (.getfield 23, 3, 6, 0, 296), none, none, some (.iload_n 1, 1, 0, 0, 0), some (.invokevirtual 79, 3, 0, 27, 932), none, none, some (.iload_n 2, 1, 0, 0, 0), some (.iconst 1, 1, 0, 0, 0), some (.iadd, 1, 0, 0, 0), some (.invokevirtual 53, 3, 0, 101, 928), none, none, some (.invokevirtual 97, 3, 0, 104, 942), none, none, some (.istore 4, 2, 0, 0, 0), none, some (.aload_n 0, 1, 0, 0, 0), some (.aload_n 0, 1, 0, 0, 0), some (.aload_n 0, 1, 0, 0, 0), some (.getfield 23, 3, 6, 0, 296), none, none, some (.iload_n 1, 1, 0, 0, 0), some (.invokevirtual 121, 3, 0, 31, 1019), none, none, some (.iload_n 2, 1, 0, 0, 0), some (.iconst 1, 1, 0, 0, 0), some (.iadd, 1, 0, 0, 0), some (.invokevirtual 53, 3, 0, 101, 928), none, none, some (.iload 4, 2, 0, 0, 0), none, some (.invokevirtual 115, 3, 0, 116, 996), none, none, some (.iload 4, 2, 0, 0, 0), none, some (.ireturn, 1, 0, 0, 0), some (.aload_n 0, 1, 0, 0, 0), some (.aload_n 0, 1, 0, 0, 0), some (.getfield 23, 3, 6, 0, 296), none, none, some (.iload_n 1, 1, 0, 0, 0), some (.invokevirtual 79, 3, 0, 27, 932), none, none, some (.iload_n 2, 1, 0, 0, 0), some (.iconst 1, 1, 0, 0, 0), some (.iadd, 1, 0, 0, 0), some (.invokevirtual 53, 3, 0, 101, 928), none, none, some (.istore 5, 2, 0, 0, 0), none, some (.aload_n 0, 1, 0, 0, 0), some (.aload_n 0, 1, 0, 0, 0), some (.getfield 23, 3, 6, 0, 296), none, none, some (.iload_n 1, 1, 0, 0, 0), some (.invokevirtual 121, 3, 0, 31, 1019), none, none, some (.iload_n 2, 1, 0, 0, 0), some (.iconst 1, 1, 0, 0, 0), some (.iadd, 1, 0, 0, 0), some (.invokevirtual 53, 3, 0, 101, 928), none, none, some (.istore 6, 2, 0, 0, 0), none, some (.aload_n 0, 1, 0, 0, 0), some (.getfield 27, 3, 6, 1, 297), none, none, some (.aload_n 0, 1, 0, 0, 0), some (.getfield 40, 3, 6, 5, 301), none, none, some (.invokevirtual 94, 3, 0, 103, 938), none, none, some (.istore 7, 2, 0, 0, 0), none, some (.aload_n 0, 1, 0, 0, 0), some (.iload 5, 2, 0, 0, 0), none, some (.aload_n 0, 1, 0, 0, 0), some (.getfield 27, 3, 6, 1, 297), none, none, some (.iload 6, 2, 0, 0, 0), none, some (.iload 7, 2, 0, 0, 0), none, some (.invokevirtual 103, 3, 0, 105, 947), none, none, some (.invokevirtual 115, 3, 0, 116, 996), none, none, some (.iload 7, 2, 0, 0, 0), none, some (.ireturn, 1, 0, 0, 0), some (.aload_n 0, 1, 0, 0, 0), some (.getfield 27, 3, 6, 1, 297), none, none, some (.aload_n 0, 1, 0, 0, 0), some (.getfield 40, 3, 6, 5, 301), none, none, some (.invokevirtual 94, 3, 0, 103, 938), none, none, some (.istore 8, 2, 0, 0, 0), none, some (.aload_n 0, 1, 0, 0, 0), some (.aload_n 0, 1, 0, 0, 0), some (.getfield 23, 3, 6, 0, 296), none, none, some (.iload_n 1, 1, 0, 0, 0), some (.invokevirtual 100, 3, 0, 20, 946), none, none, some (.iload 8, 2, 0, 0, 0), none, some (.invokevirtual 112, 3, 0, 114, 987), none, none, some (.aload_n 0, 1, 0, 0, 0), some (.aload_n 0, 1, 0, 0, 0), some (.getfield 23, 3, 6, 0, 296), none, none, some (.iload_n 1, 1, 0, 0, 0), some (.invokevirtual 79, 3, 0, 27, 932), none, none, some (.iload_n 2, 1, 0, 0, 0), some (.iconst 1, 1, 0, 0, 0), some (.iadd, 1, 0, 0, 0), some (.invokevirtual 53, 3, 0, 101, 928), none, none, some (.istore 9, 2, 0, 0, 0), none, some (.aload_n 0, 1, 0, 0, 0), some (.dup, 1, 0, 0, 0), some (.getfield 36, 3, 6, 4, 300), none, none, some (.iconst 1, 1, 0, 0, 0), some (.isub, 1, 0, 0, 0), some (.putfield 36, 3, 6, 4, 300), none, none, some (.aload_n 0, 1, 0, 0, 0), some (.getfield 27, 3, 6, 1, 297), none, none, some (.iload 8, 2, 0, 0, 0), none, some (.iload 9, 2, 0, 0, 0), none, some (.invokevirtual 103, 3, 0, 105, 947), none, none, some (.ireturn, 1, 0, 0, 0), some (.aload_n 0, 1, 0, 0, 0), some (.iload_n 1, 1, 0, 0, 0), some (.iload_n 2, 1, 0, 0, 0), some (.invokevirtual 127, 3, 0, 122, 1023), none, none, some (.ireturn, 1, 0, 0, 0), some (.aload_n 0, 1, 0, 0, 0), some (.iload_n 1, 1, 0, 0, 0), some (.iload_n 2, 1, 0, 0, 0), some (.invokevirtual 130, 3, 0, 125, 1037), none, none, some (.ireturn, 1, 0, 0, 0), some (.aload_n 0, 1, 0, 0, 0), some (.iload_n 1, 1, 0, 0, 0), some (.iload_n 2, 1, 0, 0, 0), some (.invokevirtual 133, 3, 0, 126, 1041), none, none, some (.ireturn, 1, 0, 0, 0), some (.aload_n 0, 1, 0, 0, 0), some (.iload_n 1, 1, 0, 0, 0), some (.iload_n 2, 1, 0, 0, 0), some (.invokevirtual 136, 3, 0, 127, 1046), none, none, some (.ireturn, 1, 0, 0, 0)]
set_option maxRecDepth 100000 in
theorem cd115_ok : mChkAt mI115.1.cls mI115.2.1 0 cd115 = true := by decide +kernel
def cd116 : List (Option mEnt) := [some (.aload_n 0, 1, 0, 0, 0), some (.getfield 43, 3, 6, 6, 302), none, none, some (.ifCond .ne (21), 3, 0, 0, 0), none, none, some (.aload_n 0, 1, 0, 0, 0), some (.getfield 27, 3, 6, 1, 297), none, none, some (.iload_n 1, 1, 0, 0, 0), some (.iload_n 2, 1, 0, 0, 0), some (.iconst 0, 1, 0, 0, 0), some (.invokevirtual 68, 3, 0, 117, 1000), none, none, some (.ifCond .ne (8), 3, 0, 0, 0), none, none, some (.aload_n 0, 1, 0, 0, 0), some (.iconst 1, 1, 0, 0, 0), some (.putfield 43, 3, 6, 6, 302), none, none, some (.return_, 1, 0, 0, 0)]
set_option maxRecDepth 100000 in
theorem cd116_ok : mChkAt mI116.1.cls mI116.2.1 0 cd116 = true := by decide +kernel
def cd117 : List (Option mEnt) := [some (.aload_n 0, 1, 0, 0, 0), some (.iload_n 1, 1, 0, 0, 0), some (.invokevirtual 52, 3, 0, 110, 968), none, none, some (.istore 4, 2, 0, 0, 0), none, some (.aload_n 0, 1, 0, 0, 0), some (.iload_n 2, 1, 0, 0, 0), some (.invokevirtual 52, 3, 0, 110, 968), none, none, some (.istore 5, 2, 0, 0, 0), none, some (.iload 4, 2, 0, 0, 0), none, some (.iload 5, 2, 0, 0, 0), none, some (.if_icmp .ne (5), 3, 0, 0, 0), none, none, some (.iconst 1, 1, 0, 0, 0), some (.ireturn, 1, 0, 0, 0), some (.iload_n 3, 1, 0, 0, 0), some (.bipush (40), 2, 0, 0, 0), none, some (.if_icmp .gt (21), 3, 0, 0, 0), none, none, some (.aload_n 0, 1, 0, 0, 0), some (.iload 4, 2, 0, 0, 0), none, some (.invokevirtual 55, 3, 0, 108, 960), none, none, some (.ifCond .ne (12), 3, 0, 0, 0), none, none, some (.aload_n 0, 1, 0, 0, 0), some (.iload 5, 2, 0, 0, 0), none, some (.invokevirtual 55, 3, 0, 108, 960), none, none, some (.ifCond .eq (5), 3, 0, 0, 0), none, none, some (.iconst 0, 1, 0, 0, 0), some (.ireturn, 1, 0, 0, 0), some (.aload_n 0, 1, 0, 0, 0), some (.getfield 16, 3, 5, 0, 263), none, none, some (.iload 4, 2, 0, 0, 0), none, some (.invokevirtual 44, 3, 0, 14, 972), none, none, some (.bipush (63), 2, 0, 0, 0), none, some (.if_icmp .ne (12), 3, 0, 0, 0), none, none, some (.aload_n 0, 1, 0, 0, 0), some (.iload 4, 2, 0, 0, 0), none, some (.iload 5, 2, 0, 0, 0), none, some (.invokevirtual 59, 3, 0, 118, 1004), none, none, some (.ireturn, 1, 0, 0, 0), some (.aload_n 0, 1, 0, 0, 0), some (.getfield 16, 3, 5, 0, 263), none, none, some (.iload 5, 2, 0, 0, 0), none, some (.invokevirtual 44, 3, 0, 14, 972), none, none, some (.bipush (63), 2, 0, 0, 0), none, some (.if_icmp .ne (12), 3, 0, 0, 0), none, none, some (.aload_n 0, 1, 0, 0, 0), some (.iload 5, 2, 0, 0, 0), none, some (.iload 4, 2, 0, 0, 0), none, some (.invokevirtual 59, 3, 0, 118, 1004), none, none, some (.ireturn, 1, 0, 0, 0), some (.aload_n 0, 1, 0, 0, 0), some (.getfield 16, 3, 5, 0, 263), none, none, some (.iload 4, 2, 0, 0, 0), none, some (.invokevirtual 44, 3, 0, 14, 972), none, none, some (.aload_n 0, 1, 0, 0, 0), some (.getfield 16, 3, 5, 0, 263), none, none, some (.iload 5, 2, 0, 0, 0), none, some (.invokevirtual 44, 3, 0, 14, 972), none, none, some (.if_icmp .eq (5), 3, 0, 0, 0), none, none, some (.iconst 0, 1, 0, 0, 0), some (.ireturn, 1, 0, 0, 0), some (.aload_n 0, 1, 0, 0, 0), some (.getfield 16, 3, 5, 0, 263), none, none, some (.iload 4, 2, 0, 0, 0), none, some (.invokevirtual 44, 3, 0, 14, 972), none, none, some (.bipush (62), 2, 0, 0, 0), none, some (.if_icmp .ne (33), 3, 0, 0, 0), none, none, some (.aload_n 0, 1, 0, 0, 0), some (.aload_n 0, 1, 0, 0, 0), some (.getfield 20, 3, 5, 1, 264), none, none, some (.iload 4, 2, 0, 0, 0), none, some (.invokevirtual 44, 3, 0, 14, 972), none, none, some (.aload_n 0, 1, 0, 0, 0), some (.getfield 20, 3, 5, 1, 264), none, none, some (.iload 5, 2, 0, 0, 0), none, some (.invokevirtual 44, 3, 0, 14, 972), none, none, some (.iload_n 3, 1, 0, 0, 0), some (.iconst 1, 1, 0, 0, 0), some (.iadd, 1, 0, 0, 0), some (.invokevirtual 63, 3, 0, 117, 1015), none, none, some (.ifCond .ne (5), 3, 0, 0, 0), none, none, some (.iconst 0, 1, 0, 0, 0), some (.ireturn, 1, 0, 0, 0), some (.aload_n 0, 1, 0, 0, 0), some (.getfield 16, 3, 5, 0, 263), none, none, some (.iload 4, 2, 0, 0, 0), none, some (.invokevirtual 44, 3, 0, 14, 972), none, none, some (.bipush (62), 2, 0, 0, 0), none, some (.if_icmp .ne (31), 3, 0, 0, 0), none, none, some (.aload_n 0, 1, 0, 0, 0), some (.aload_n 0, 1, 0, 0, 0), some (.getfield 23, 3, 5, 2, 265), none, none, some (.iload 4, 2, 0, 0, 0), none, some (.invokevirtual 44, 3, 0, 14, 972), none, none, some (.aload_n 0, 1, 0, 0, 0), some (.getfield 23, 3, 5, 2, 265), none, none, some (.iload 5, 2, 0, 0, 0), none, some (.invokevirtual 44, 3, 0, 14, 972), none, none, some (.iload_n 3, 1, 0, 0, 0), some (.iconst 1, 1, 0, 0, 0), some (.iadd, 1, 0, 0, 0), some (.invokevirtual 63, 3, 0, 117, 1015), none, none, some (.goto (28), 3, 0, 0, 0), none, none, some (.aload_n 0, 1, 0, 0, 0), some (.aload_n 0, 1, 0, 0, 0), some (.getfield 20, 3, 5, 1, 264), none, none, some (.iload 4, 2, 0, 0, 0), none, some (.invokevirtual 44, 3, 0, 14, 972), none, none, some (.aload_n 0, 1, 0, 0, 0), some (.getfield 20, 3, 5, 1, 264), none, none, some (.iload 5, 2, 0, 0, 0), none, some (.invokevirtual 44, 3, 0, 14, 972), none, none, some (.iload_n 3, 1, 0, 0, 0), some (.iconst 1, 1, 0, 0, 0), some (.iadd, 1, 0, 0, 0), some (.invokevirtual 63, 3, 0, 117, 1015), none, none, some (.ireturn, 1, 0, 0, 0)]
set_option maxRecDepth 100000 in
theorem cd117_ok : mChkAt mI117.1.cls mI117.2.1 0 cd117 = true := by decide +kernel
def cd118 : List (Option mEnt) := [some (.aload_n 0, 1, 0, 0, 0), some (.iload_n 1, 1, 0, 0, 0), some (.iload_n 2, 1, 0, 0, 0), some (.iconst 0, 1, 0, 0, 0), some (.invokevirtual 67, 3, 0, 119, 1008), none, none, some (.ifCond .ne (5), 3, 0, 0, 0), none, none, some (.iconst 0, 1, 0, 0, 0), some (.ireturn, 1, 0, 0, 0), some (.aload_n 0, 1, 0, 0, 0), some (.getfield 20, 3, 5, 1, 264), none, none, some (.iload_n 1, 1, 0, 0, 0), some (.iload_n 2, 1, 0, 0, 0), some (.invokevirtual 40, 3, 0, 10, 923), none, none, some (.iconst 1, 1, 0, 0, 0), some (.ireturn, 1, 0, 0, 0)]
set_option maxRecDepth 100000 in
theorem cd118_ok : mChkAt mI118.1.cls mI118.2.1 0 cd118 = true := by decide +kernel
def cd119 : List (Option mEnt) := [some (.aload_n 0, 1, 0, 0, 0), some (.iload_n 2, 1, 0, 0, 0), some (.invokevirtual 52, 3, 0, 110, 968), none, none, some (.istore 4, 2, 0, 0, 0), none, some (.iload 4, 2, 0, 0, 0), none, some (.iload_n 1, 1, 0, 0, 0), some (.if_icmp .eq (9), 3, 0, 0, 0), none, none, some (.iload_n 3, 1, 0, 0, 0), some (.bipush (40), 2, 0, 0, 0), none, some (.if_icmp .le (5), 3, 0, 0, 0), none, none, some (.iconst 0, 1, 0, 0, 0), some (.ireturn, 1, 0, 0, 0), some (.aload_n 0, 1, 0, 0, 0), some (.getfield 16, 3, 5, 0, 263), none, none, some (.iload 4, 2, 0, 0, 0), none, some (.invokevirtual 44, 3, 0, 14, 972), none, none, some (.lookupswitch (129) #[(62, 52), (63, 98), (91, 34)], 34, 0, 0, 0), none, none, none, none, none, none, none, none, none, none, none, none, none, none, none, none, none, none, none, none, none, none, none, none, none, none, none, none, none, none, none, none, none, some (.aload_n 0, 1, 0, 0, 0), some (.iload_n 1, 1, 0, 0, 0), some (.aload_n 0, 1, 0, 0, 0), some (.getfield 20, 3, 5, 1, 264), none, none, some (.iload 4, 2, 0, 0, 0), none, some (.invokevirtual 44, 3, 0, 14, 972), none, none, some (.iload_n 3, 1, 0, 0, 0), some (.iconst 1, 1, 0, 0, 0), some (.iadd, 1, 0, 0, 0), some (.invokevirtual 67, 3, 0, 119, 1008), none, none, some (.ireturn, 1, 0, 0, 0), some (.aload_n 0, 1, 0, 0, 0), some (.iload_n 1, 1, 0, 0, 0), some (.aload_n 0, 1, 0, 0, 0), some (.getfield 20, 3, 5, 1, 264), none, none, some (.iload 4, 2, 0, 0, 0), none, some (.invokevirtual 44, 3, 0, 14, 972), none, none, some (.iload_n 3, 1, 0, 0, 0), some (.iconst 1, 1, 0, 0, 0), some (.iadd, 1, 0, 0, 0), some (.invokevirtual 67, 3, 0, 119, 1008), none, none, some (.ifCond .eq (27), 3, 0, 0, 0), none, none, some (.aload_n 0, 1, 0, 0, 0), some (.iload_n 1, 1, 0, 0, 0), some (.aload_n 0, 1, 0, 0, 0), some (.getfield 23, 3, 5, 2, 265), none, none, some (.iload 4, 2, 0, 0, 0), none, some (.invokevirtual 44, 3, 0, 14, 972), none, none, some (.iload_n 3, 1, 0, 0, 0), some (.iconst 1, 1, 0, 0, 0), some (.iadd, 1, 0, 0, 0), some (.invokevirtual 67, 3, 0, 119, 1008), none, none, some (.ifCond .eq (7), 3, 0, 0, 0), none, none, some (.iconst 1, 1, 0, 0, 0), some (.goto (4), 3, 0, 0, 0), none, none, some (.iconst 0, 1, 0, 0, 0), some (.ireturn, 1, 0, 0, 0), some (.aload_n 0, 1, 0, 0, 0), some (.getfield 23, 3, 5, 2, 265), none, none, some (.iload 4, 2, 0, 0, 0), none, some (.aload_n 0, 1, 0, 0, 0), some (.getfield 23, 3, 5, 2, 265), none, none, some (.iload 4, 2, 0, 0, 0), none, some (.invokevirtual 44, 3, 0, 14, 972), none, none, some (.aload_n 0, 1, 0, 0, 0), some (.getfield 23, 3, 5, 2, 265), none, none, some (.iload_n 1, 1, 0, 0, 0), some (.invokevirtual 44, 3, 0, 14, 972), none, none, some (.invokestatic 70, 3, 5, 0, 1012), none, none, some (.invokevirtual 40, 3, 0, 10, 923), none, none, some (.iconst 1, 1, 0, 0, 0), some (.ireturn, 1, 0, 0, 0), some (.iconst 1, 1, 0, 0, 0), some (.ireturn, 1, 0, 0, 0)]
set_option maxRecDepth 100000 in
theorem cd119_ok : mChkAt mI119.1.cls mI119.2.1 0 cd119 = true := by decide +kernel
def cd120 : List (Option mEnt) := [some (.iload_n 0, 1, 0, 0, 0), some (.sipush (128), 3, 0, 0, 0), none, none, some (.if_icmp .lt (7), 3, 0, 0, 0), none, none, some (.iconst 2, 1, 0, 0, 0), some (.goto (4), 3, 0, 0, 0), none, none, some (.iconst 0, 1, 0, 0, 0), some (.ireturn, 1, 0, 0, 0)]
set_option maxRecDepth 100000 in
theorem cd120_ok : mChkAt mI120.1.cls mI120.2.1 0 cd120 = true := by decide +kernel
def cd121 : List (Option mEnt) := [some (.iload_n 0, 1, 0, 0, 0), some (.bipush (61), 2, 0, 0, 0), none, some (.if_icmp .eq (16), 3, 0, 0, 0), none, none, some (.iload_n 0, 1, 0, 0, 0), some (.bipush (60), 2, 0, 0, 0), none, some (.if_icmp .eq (10), 3, 0, 0, 0), none, none, some (.iload_n 0, 1, 0, 0, 0), some (.sipush (188), 3, 0, 0, 0), none, none, some (.if_icmp .ne (7), 3, 0, 0, 0), none, none, some (.iconst 1, 1, 0, 0, 0), some (.goto (4), 3, 0, 0, 0), none, none, some (.iconst 0, 1, 0, 0, 0), some (.ireturn, 1, 0, 0, 0)]
set_option maxRecDepth 100000 in
theorem cd121_ok : mChkAt mI121.1.cls mI121.2.1 0 cd121 = true := by decide +kernel
def cd122 : List (Option mEnt) := [some (.aload_n 0, 1, 0, 0, 0), some (.dup, 1, 0, 0, 0), some (.getfield 40, 3, 6, 5, 301), none, none, some (.iconst 1, 1, 0, 0, 0), some (.iadd, 1, 0, 0, 0), some (.putfield 40, 3, 6, 5, 301), none, none, some (.aload_n 0, 1, 0, 0, 0), some (.aload_n 0, 1, 0, 0, 0), some (.getfield 23, 3, 6, 0, 296), none, none, some (.iload_n 1, 1, 0, 0, 0), some (.invokevirtual 79, 3, 0, 27, 932), none, none, some (.iload_n 2, 1, 0, 0, 0), some (.iconst 1, 1, 0, 0, 0), some (.iadd, 1, 0, 0, 0), some (.invokevirtual 53, 3, 0, 101, 928), none, none, some (.istore_n 3, 1, 0, 0, 0), some (.aload_n 0, 1, 0, 0, 0), some (.dup, 1, 0, 0, 0), some (.getfield 40, 3, 6, 5, 301), none, none, some (.iconst 1, 1, 0, 0, 0), some (.isub, 1, 0, 0, 0), some (.putfield 40, 3, 6, 5, 301), none, none, some (.aload_n 0, 1, 0, 0, 0), some (.iload_n 1, 1, 0, 0, 0), some (.iload_n 3, 1, 0, 0, 0), some (.iload_n 2, 1, 0, 0, 0), some (.invokevirtual 139, 3, 0, 123, 1027), none, none, some (.ireturn, 1, 0, 0, 0)]
set_option maxRecDepth 100000 in
theorem cd122_ok : mChkAt mI122.1.cls mI122.2.1 0 cd122 = true := by decide +kernel
def cd123 : List (Option mEnt) := [some (.aload_n 0, 1, 0, 0, 0), some (.getfield 43, 3, 6, 6, 302), none, none, some (.ifCond .ne (14), 3, 0, 0, 0), none, none, some (.aload_n 0, 1, 0, 0, 0), some (.getfield 27, 3, 6, 1, 297), none, none, some (.iload_n 2, 1, 0, 0, 0), some (.invokevirtual 64, 3, 0, 108, 1031), none, none, some (.ifCond .eq (10), 3, 0, 0, 0), none, none, some (.aload_n 0, 1, 0, 0, 0), some (.iconst 1, 1, 0, 0, 0), some (.putfield 43, 3, 6, 6, 302), none, none, some (.iconst (-1), 1, 0, 0, 0), some (.ireturn, 1, 0, 0, 0), some (.aload_n 0, 1, 0, 0, 0), some (.getfield 27, 3, 6, 1, 297), none, none, some (.iload_n 2, 1, 0, 0, 0), some (.aload_n 0, 1, 0, 0, 0), some (.getfield 40, 3, 6, 5, 301), none, none, some (.iconst 0, 1, 0, 0, 0), some (.invokevirtual 143, 3, 0, 124, 1032), none, none, some (.aload_n 0, 1, 0, 0, 0), some (.aload_n 0, 1, 0, 0, 0), some (.getfield 23, 3, 6, 0, 296), none, none, some (.iload_n 1, 1, 0, 0, 0), some (.invokevirtual 100, 3, 0, 20, 946), none, none, some (.iload_n 2, 1, 0, 0, 0), some (.invokevirtual 112, 3, 0, 114, 987), none, none, some (.aload_n 0, 1, 0, 0, 0), some (.aload_n 0, 1, 0, 0, 0), some (.getfield 23, 3, 6, 0, 296), none, none, some (.iload_n 1, 1, 0, 0, 0), some (.invokevirtual 121, 3, 0, 31, 1019), none, none, some (.iload_n 3, 1, 0, 0, 0), some (.iconst 1, 1, 0, 0, 0), some (.iadd, 1, 0, 0, 0), some (.invokevirtual 53, 3, 0, 101, 928), none, none, some (.istore 4, 2, 0, 0, 0), none, some (.aload_n 0, 1, 0, 0, 0), some (.dup, 1, 0, 0, 0), some (.getfield 36, 3, 6, 4, 300), none, none, some (.iconst 1, 1, 0, 0, 0), some (.isub, 1, 0, 0, 0), some (.putfield 36, 3, 6, 4, 300), none, none, some (.iload 4, 2, 0, 0, 0), none, some (.ireturn, 1, 0, 0, 0)]
set_option maxRecDepth 100000 in
theorem cd123_ok : mChkAt mI123.1.cls mI123.2.1 0 cd123 = true := by decide +kernel
def cd124 : List (Option mEnt) := [some (.aload_n 0, 1, 0, 0, 0), some (.iload_n 1, 1, 0, 0, 0), some (.invokevirtual 52, 3, 0, 110, 968), none, none, some (.istore 4, 2, 0, 0, 0), none, some (.iload_n 3, 1, 0, 0, 0), some (.bipush (40), 2, 0, 0, 0), none, some (.if_icmp .le (4), 3, 0, 0, 0), none, none, some (.return_, 1, 0, 0, 0), some (.aload_n 0, 1, 0, 0, 0), some (.getfield 16, 3, 5, 0, 263), none, none, some (.iload 4, 2, 0, 0, 0), none, some (.invokevirtual 44, 3, 0, 14, 972), none, none, some (.lookupswitch (118) #[(62, 53), (63, 90), (91, 33)], 33, 0, 0, 0), none, none, none, none, none, none, none, none, none, none, none, none, none, none, none, none, none, none, none, none, none, none, none, none, none, none, none, none, none, none, none, none, some (.aload_n 0, 1, 0, 0, 0), some (.aload_n 0, 1, 0, 0, 0), some (.getfield 20, 3, 5, 1, 264), none, none, some (.iload 4, 2, 0, 0, 0), none, some (.invokevirtual 44, 3, 0, 14, 972), none, none, some (.iload_n 2, 1, 0, 0, 0), some (.iload_n 3, 1, 0, 0, 0), some (.iconst 1, 1, 0, 0, 0), some (.iadd, 1, 0, 0, 0), some (.invokevirtual 75, 3, 0, 124, 1036), none, none, some (.goto (68), 3, 0, 0, 0), none, none, some (.aload_n 0, 1, 0, 0, 0), some (.aload_n 0, 1, 0, 0, 0), some (.getfield 20, 3, 5, 1, 264), none, none, some (.iload 4, 2, 0, 0, 0), none, some (.invokevirtual 44, 3, 0, 14, 972), none, none, some (.iload_n 2, 1, 0, 0, 0), some (.iload_n 3, 1, 0, 0, 0), some (.iconst 1, 1, 0, 0, 0), some (.iadd, 1, 0, 0, 0), some (.invokevirtual 75, 3, 0, 124, 1036), none, none, some (.aload_n 0, 1, 0, 0, 0), some (.aload_n 0, 1, 0, 0, 0), some (.getfield 23, 3, 5, 2, 265), none, none, some (.iload 4, 2, 0, 0, 0), none, some (.invokevirtual 44, 3, 0, 14, 972), none, none, some (.iload_n 2, 1, 0, 0, 0), some (.iload_n 3, 1, 0, 0, 0), some (.iconst 1, 1, 0, 0, 0), some (.iadd, 1, 0, 0, 0), some (.invokevirtual 75, 3, 0, 124, 1036), none, none, some (.goto (31), 3, 0, 0, 0), none, none, some (.aload_n 0, 1, 0, 0, 0), some (.getfield 23, 3, 5, 2, 265), none, none, some (.iload 4, 2, 0, 0, 0), none, some (.invokevirtual 44, 3, 0, 14, 972), none, none, some (.iload_n 2, 1, 0, 0, 0), some (.if_icmp .le (18), 3, 0, 0, 0), none, none, some (.aload_n 0, 1, 0, 0, 0), some (.getfield 23, 3, 5, 2, 265), none, none, some (.iload 4, 2, 0, 0, 0), none, some (.sipush (1000), 3, 0, 0, 0), none, none, some (.invokevirtual 40, 3, 0, 10, 923), none, none, some (.goto (3), 3, 0, 0, 0), none, none, some (.return_, 1, 0, 0, 0)]
set_option maxRecDepth 100000 in
theorem cd124_ok : mChkAt mI124.1.cls mI124.2.1 0 cd124 = true := by decide +kernel
def cd125 : List (Option mEnt) := [some (.aload_n 0, 1, 0, 0, 0), some (.dup, 1, 0, 0, 0), some (.getfield 40, 3, 6, 5, 301), none, none, some (.iconst 1, 1, 0, 0, 0), some (.iadd, 1, 0, 0, 0), some (.putfield 40, 3, 6, 5, 301), none, none, some (.aload_n 0, 1, 0, 0, 0), some (.getfield 27, 3, 6, 1, 297), none, none, some (.aload_n 0, 1, 0, 0, 0), some (.getfield 40, 3, 6, 5, 301), none, none, some (.invokevirtual 94, 3, 0, 103, 938), none, none, some (.istore_n 3, 1, 0, 0, 0), some (.aload_n 0, 1, 0, 0, 0), some (.aload_n 0, 1, 0, 0, 0), some (.getfield 23, 3, 6, 0, 296), none, none, some (.iload_n 1, 1, 0, 0, 0), some (.invokevirtual 100, 3, 0, 20, 946), none, none, some (.iload_n 3, 1, 0, 0, 0), some (.invokevirtual 112, 3, 0, 114, 987), none, none, some (.aload_n 0, 1, 0, 0, 0), some (.aload_n 0, 1, 0, 0, 0), some (.getfield 23, 3, 6, 0, 296), none, none, some (.iload_n 1, 1, 0, 0, 0), some (.invokevirtual 79, 3, 0, 27, 932), none, none, some (.iload_n 2, 1, 0, 0, 0), some (.iconst 1, 1, 0, 0, 0), some (.iadd, 1, 0, 0, 0), some (.invokevirtual 53, 3, 0, 101, 928), none, none, some (.istore 4, 2, 0, 0, 0), none, some (.aload_n 0, 1, 0, 0, 0), some (.iload_n 3, 1, 0, 0, 0), some (.iload 4, 2, 0, 0, 0), none, some (.invokevirtual 115, 3, 0, 116, 996), none, none, some (.aload_n 0, 1, 0, 0, 0), some (.dup, 1, 0, 0, 0), some (.getfield 36, 3, 6, 4, 300), none, none, some (.iconst 1, 1, 0, 0, 0), some (.isub, 1, 0, 0, 0), some (.putfield 36, 3, 6, 4, 300), none, none, some (.aload_n 0, 1, 0, 0, 0), some (.dup, 1, 0, 0, 0), some (.getfield 40, 3, 6, 5, 301), none, none, some (.iconst 1, 1, 0, 0, 0), some (.isub, 1, 0, 0, 0), some (.putfield 40, 3, 6, 5, 301), none, none, some (.aload_n 0, 1, 0, 0, 0), some (.iload_n 1, 1, 0, 0, 0), some (.iload 4, 2, 0, 0, 0), none, some (.iload_n 2, 1, 0, 0, 0), some (.invokevirtual 139, 3, 0, 123, 1027), none, none, some (.ireturn, 1, 0, 0, 0)]
set_option maxRecDepth 100000 in
theorem cd125_ok : mChkAt mI125.1.cls mI125.2.1 0 cd125 = true := by decide +kernel
def cd126 : List (Option mEnt) := [some (.aload_n 0, 1, 0, 0, 0), some (.aload_n 0, 1, 0, 0, 0), some (.aload_n 0, 1, 0, 0, 0), some (.getfield 23, 3, 6, 0, 296), none, none, some (.iload_n 1, 1, 0, 0, 0), some (.invokevirtual 79, 3, 0, 27, 932), none, none, some (.iload_n 2, 1, 0, 0, 0), some (.iconst 1, 1, 0, 0, 0), some (.iadd, 1, 0, 0, 0), some (.invokevirtual 53, 3, 0, 101, 928), none, none, some (.iconst 1, 1, 0, 0, 0), some (.invokevirtual 115, 3, 0, 116, 996), none, none, some (.aload_n 0, 1, 0, 0, 0), some (.aload_n 0, 1, 0, 0, 0), some (.getfield 23, 3, 6, 0, 296), none, none, some (.iload_n 1, 1, 0, 0, 0), some (.invokevirtual 121, 3, 0, 31, 1019), none, none, some (.iload_n 2, 1, 0, 0, 0), some (.iconst 1, 1, 0, 0, 0), some (.iadd, 1, 0, 0, 0), some (.invokevirtual 53, 3, 0, 101, 928), none, none, some (.istore_n 3, 1, 0, 0, 0), some (.aload_n 0, 1, 0, 0, 0), some (.aload_n 0, 1, 0, 0, 0), some (.aload_n 0, 1, 0, 0, 0), some (.getfield 23, 3, 6, 0, 296), none, none, some (.iload_n 1, 1, 0, 0, 0), some (.invokevirtual 147, 3, 0, 45, 1045), none, none, some (.iload_n 2, 1, 0, 0, 0), some (.iconst 1, 1, 0, 0, 0), some (.iadd, 1, 0, 0, 0), some (.invokevirtual 53, 3, 0, 101, 928), none, none, some (.iload_n 3, 1, 0, 0, 0), some (.invokevirtual 115, 3, 0, 116, 996), none, none, some (.iload_n 3, 1, 0, 0, 0), some (.ireturn, 1, 0, 0, 0)]
set_option maxRecDepth 100000 in
theorem cd126_ok : mChkAt mI126.1.cls mI126.2.1 0 cd126 = true := by decide +kernel
def cd127 : List (Option mEnt) := [some (.aload_n 0, 1, 0, 0, 0), some (.aload_n 0, 1, 0, 0, 0), some (.getfield 23, 3, 6, 0, 296), none, none, some (.iload_n 1, 1, 0, 0, 0), some (.invokevirtual 79, 3, 0, 27, 932), none, none, some (.iload_n 2, 1, 0, 0, 0), some (.iconst 1, 1, 0, 0, 0), some (.iadd, 1, 0, 0, 0), some (.invokevirtual 53, 3, 0, 101, 928), none, none, some (.istore_n 3, 1, 0, 0, 0), some (.aload_n 0, 1, 0, 0, 0), some (.getfield 27, 3, 6, 1, 297), none, none, some (.aload_n 0, 1, 0, 0, 0), some (.getfield 40, 3, 6, 5, 301), none, none, some (.invokevirtual 94, 3, 0, 103, 938), none, none, some (.istore 4, 2, 0, 0, 0), none, some (.aload_n 0, 1, 0, 0, 0), some (.getfield 23, 3, 6, 0, 296), none, none, some (.iload_n 1, 1, 0, 0, 0), some (.invokevirtual 121, 3, 0, 31, 1019), none, none, some (.istore 5, 2, 0, 0, 0), none, some (.iconst 0, 1, 0, 0, 0), some (.istore 6, 2, 0, 0, 0), none, some (.iload 6, 2, 0, 0, 0), none, some (.iconst 5, 1, 0, 0, 0), some (.if_icmp .ge (88), 3, 0, 0, 0), none, none, some (.iload 5, 2, 0, 0, 0), none, some (.iconst (-1), 1, 0, 0, 0), some (.if_icmp .eq (82), 3, 0, 0, 0), none, none, some (.aload_n 0, 1, 0, 0, 0), some (.getfield 43, 3, 6, 6, 302), none, none, some (.ifCond .ne (75), 3, 0, 0, 0), none, none, some (.aload_n 0, 1, 0, 0, 0), some (.getfield 36, 3, 6, 4, 300), none, none, some (.istore 7, 2, 0, 0, 0), none, some (.aload_n 0, 1, 0, 0, 0), some (.aload_n 0, 1, 0, 0, 0), some (.aload_n 0, 1, 0, 0, 0), some (.getfield 23, 3, 6, 0, 296), none, none, some (.iload 5, 2, 0, 0, 0), none, some (.invokevirtual 79, 3, 0, 27, 932), none, none, some (.iload_n 2, 1, 0, 0, 0), some (.iconst 1, 1, 0, 0, 0), some (.iadd, 1, 0, 0, 0), some (.invokevirtual 53, 3, 0, 101, 928), none, none, some (.iload_n 3, 1, 0, 0, 0), some (.invokevirtual 115, 3, 0, 116, 996), none, none, some (.aload_n 0, 1, 0, 0, 0), some (.aload_n 0, 1, 0, 0, 0), some (.aload_n 0, 1, 0, 0, 0), some (.getfield 23, 3, 6, 0, 296), none, none, some (.iload 5, 2, 0, 0, 0), none, some (.invokevirtual 121, 3, 0, 31, 1019), none, none, some (.iload_n 2, 1, 0, 0, 0), some (.iconst 1, 1, 0, 0, 0), some (.iadd, 1, 0, 0, 0), some (.invokevirtual 53, 3, 0, 101, 928), none, none, some (.iload 4, 2, 0, 0, 0), none, some (.invokevirtual 115, 3, 0, 116, 996), none, none, some (.aload_n 0, 1, 0, 0, 0), some (.iload 7, 2, 0, 0, 0), none, some (.putfield 36, 3, 6, 4, 300), none, none, some (.aload_n 0, 1, 0, 0, 0), some (.getfield 23, 3, 6, 0, 296), none, none, some (.iload 5, 2, 0, 0, 0), none, some (.invokevirtual 147, 3, 0, 45, 1045), none, none, some (.istore 5, 2, 0, 0, 0), none, some (.iinc 6 (1), 3, 0, 0, 0), none, none, some (.goto (-88), 3, 0, 0, 0), none, none, some (.iload 4, 2, 0, 0, 0), none, some (.ireturn, 1, 0, 0, 0)]
set_option maxRecDepth 100000 in
theorem cd127_ok : mChkAt mI127.1.cls mI127.2.1 0 cd127 = true := by decide +kernel
def cd128 : List (Option mEnt) := [some (.aload_n 0, 1, 0, 0, 0), some (.getfield 35, 3, 3, 6, 203), none, none, some (.iload_n 1, 1, 0, 0, 0), some (.iload_n 2, 1, 0, 0, 0), some (.invokevirtual 45, 3, 0, 10, 707), none, none, some (.return_, 1, 0, 0, 0)]
set_option maxRecDepth 100000 in
theorem cd128_ok : mChkAt mI128.1.cls mI128.2.1 0 cd128 = true := by decide +kernel
def cd129 : List (Option mEnt) := [some (.aload_n 0, 1, 0, 0, 0), some (.getfield 42, 3, 3, 7, 204), none, none, some (.ireturn, 1, 0, 0, 0)]
set_option maxRecDepth 100000 in
theorem cd129_ok : mChkAt mI129.1.cls mI129.2.1 0 cd129 = true := by decide +kernel
def cd130 : List (Option mEnt) := [some (.aload_n 0, 1, 0, 0, 0), some (.getfield 35, 3, 3, 6, 203), none, none, some (.iload_n 1, 1, 0, 0, 0), some (.invokevirtual 53, 3, 0, 14, 445), none, none, some (.ireturn, 1, 0, 0, 0)]
set_option maxRecDepth 100000 in
theorem cd130_ok : mChkAt mI130.1.cls mI130.2.1 0 cd130 = true := by decide +kernel
def cd131 : List (Option mEnt) := [some (.aload_n 0, 1, 0, 0, 0), some (.iconst 0, 1, 0, 0, 0), some (.putfield 79, 3, 5, 6, 269), none, none, some (.aload_n 0, 1, 0, 0, 0), some (.iconst 0, 1, 0, 0, 0), some (.putfield 97, 3, 5, 7, 270), none, none, some (.aload_n 0, 1, 0, 0, 0), some (.iload_n 1, 1, 0, 0, 0), some (.aload_n 2, 1, 0, 0, 0), some (.iconst 0, 1, 0, 0, 0), some (.invokevirtual 100, 3, 0, 132, 1084), none, none, some (.aload_n 0, 1, 0, 0, 0), some (.getfield 97, 3, 5, 7, 270), none, none, some (.ireturn, 1, 0, 0, 0)]
set_option maxRecDepth 100000 in
theorem cd131_ok : mChkAt mI131.1.cls mI131.2.1 0 cd131 = true := by decide +kernel
def cd132 : List (Option mEnt) := [some (.iload_n 3, 1, 0, 0, 0), some (.bipush (40), 2, 0, 0, 0), none, some (.if_icmp .le (4), 3, 0, 0, 0), none, none, some (.return_, 1, 0, 0, 0), some (.aload_n 0, 1, 0, 0, 0), some (.iload_n 1, 1, 0, 0, 0), some (.invokevirtual 52, 3, 0, 110, 968), none, none, some (.istore 4, 2, 0, 0, 0), none, some (.aload_n 0, 1, 0, 0, 0), some (.getfield 16, 3, 5, 0, 263), none, none, some (.iload 4, 2, 0, 0, 0), none, some (.invokevirtual 44, 3, 0, 14, 972), none, none, some (.lookupswitch (142) #[(62, 67), (63, 125), (91, 33)], 33, 0, 0, 0), none, none, none, none, none, none, none, none, none, none, none, none, none, none, none, none, none, none, none, none, none, none, none, none, none, none, none, none, none, none, none, none, some (.aload_n 0, 1, 0, 0, 0), some (.bipush (91), 2, 0, 0, 0), none, some (.aload_n 2, 1, 0, 0, 0), some (.invokevirtual 104, 3, 0, 133, 1088), none, none, some (.aload_n 0, 1, 0, 0, 0), some (.aload_n 0, 1, 0, 0, 0), some (.getfield 20, 3, 5, 1, 264), none, none, some (.iload 4, 2, 0, 0, 0), none, some (.invokevirtual 44, 3, 0, 14, 972), none, none, some (.aload_n 2, 1, 0, 0, 0), some (.iload_n 3, 1, 0, 0, 0), some (.iconst 1, 1, 0, 0, 0), some (.iadd, 1, 0, 0, 0), some (.invokevirtual 100, 3, 0, 132, 1084), none, none, some (.aload_n 0, 1, 0, 0, 0), some (.bipush (93), 2, 0, 0, 0), none, some (.aload_n 2, 1, 0, 0, 0), some (.invokevirtual 104, 3, 0, 133, 1088), none, none, some (.goto (92), 3, 0, 0, 0), none, none, some (.aload_n 0, 1, 0, 0, 0), some (.bipush (40), 2, 0, 0, 0), none, some (.aload_n 2, 1, 0, 0, 0), some (.invokevirtual 104, 3, 0, 133, 1088), none, none, some (.aload_n 0, 1, 0, 0, 0), some (.aload_n 0, 1, 0, 0, 0), some (.getfield 20, 3, 5, 1, 264), none, none, some (.iload 4, 2, 0, 0, 0), none, some (.invokevirtual 44, 3, 0, 14, 972), none, none, some (.aload_n 2, 1, 0, 0, 0), some (.iload_n 3, 1, 0, 0, 0), some (.iconst 1, 1, 0, 0, 0), some (.iadd, 1, 0, 0, 0), some (.invokevirtual 100, 3, 0, 132, 1084), none, none, some (.aload_n 0, 1, 0, 0, 0), some (.bipush (62), 2, 0, 0, 0), none, some (.aload_n 2, 1, 0, 0, 0), some (.invokevirtual 104, 3, 0, 133, 1088), none, none, some (.aload_n 0, 1, 0, 0, 0), some (.aload_n 0, 1, 0, 0, 0), some (.getfield 23, 3, 5, 2, 265), none, none, some (.iload 4, 2, 0, 0, 0), none, some (.invokevirtual 44, 3, 0, 14, 972), none, none, some (.aload_n 2, 1, 0, 0, 0), some (.iload_n 3, 1, 0, 0, 0), some (.iconst 1, 1, 0, 0, 0), some (.iadd, 1, 0, 0, 0), some (.invokevirtual 100, 3, 0, 132, 1084), none, none, some (.aload_n 0, 1, 0, 0, 0), some (.bipush (41), 2, 0, 0, 0), none, some (.aload_n 2, 1, 0, 0, 0), some (.invokevirtual 104, 3, 0, 133, 1088), none, none, some (.goto (34), 3, 0, 0, 0), none, none, some (.aload_n 0, 1, 0, 0, 0), some (.bipush (97), 2, 0, 0, 0), none, some (.aload_n 0, 1, 0, 0, 0), some (.iload 4, 2, 0, 0, 0), none, some (.invokevirtual 94, 3, 0, 113, 983), none, none, some (.iadd, 1, 0, 0, 0), some (.aload_n 2, 1, 0, 0, 0), some (.invokevirtual 104, 3, 0, 133, 1088), none, none, some (.goto (17), 3, 0, 0, 0), none, none, some (.aload_n 0, 1, 0, 0, 0), some (.aload_n 0, 1, 0, 0, 0), some (.getfield 16, 3, 5, 0, 263), none, none, some (.iload 4, 2, 0, 0, 0), none, some (.invokevirtual 44, 3, 0, 14, 972), none, none, some (.aload_n 2, 1, 0, 0, 0), some (.invokevirtual 104, 3, 0, 133, 1088), none, none, some (.return_, 1, 0, 0, 0)]
set_option maxRecDepth 100000 in
theorem cd132_ok : mChkAt mI132.1.cls mI132.2.1 0 cd132 = true := by decide +kernel
end
section
def cd133 : List (Option mEnt) := [some (.aload_n 2, 1, 0, 0, 0), some (.aload_n 0, 1, 0, 0, 0), some (.getfield 97, 3, 5, 7, 270), none, none, some (.iload_n 1, 1, 0, 0, 0), some (.invokevirtual 40, 3, 0, 10, 923), none, none, some (.aload_n 0, 1, 0, 0, 0), some (.dup, 1, 0, 0, 0), some (.getfield 97, 3, 5, 7, 270), none, none, some (.iconst 1, 1, 0, 0, 0), some (.iadd, 1, 0, 0, 0), some (.putfield 97, 3, 5, 7, 270), none, none, some (.return_, 1, 0, 0, 0)]
set_option maxRecDepth 100000 in
theorem cd133_ok : mChkAt mI133.1.cls mI133.2.1 0 cd133 = true := by decide +kernel
def cd134 : List (Option mEnt) := [some (.aload_n 0, 1, 0, 0, 0), some (.aload_n 1, 1, 0, 0, 0), some (.getfield 42, 3, 3, 7, 204), none, none, some (.putfield 42, 3, 3, 7, 204), none, none, some (.aload_n 0, 1, 0, 0, 0), some (.aload_n 1, 1, 0, 0, 0), some (.getfield 38, 3, 3, 8, 205), none, none, some (.putfield 38, 3, 3, 8, 205), none, none, some (.aload_n 0, 1, 0, 0, 0), some (.getfield 16, 3, 3, 0, 197), none, none, some (.aload_n 1, 1, 0, 0, 0), some (.getfield 16, 3, 3, 0, 197), none, none, some (.invokevirtual 57, 3, 0, 135, 1096), none, none, some (.aload_n 0, 1, 0, 0, 0), some (.getfield 20, 3, 3, 1, 198), none, none, some (.aload_n 1, 1, 0, 0, 0), some (.getfield 20, 3, 3, 1, 198), none, none, some (.invokevirtual 57, 3, 0, 135, 1096), none, none, some (.aload_n 0, 1, 0, 0, 0), some (.getfield 23, 3, 3, 2, 199), none, none, some (.aload_n 1, 1, 0, 0, 0), some (.getfield 23, 3, 3, 2, 199), none, none, some (.invokevirtual 57, 3, 0, 135, 1096), none, none, some (.aload_n 0, 1, 0, 0, 0), some (.getfield 26, 3, 3, 3, 200), none, none, some (.aload_n 1, 1, 0, 0, 0), some (.getfield 26, 3, 3, 3, 200), none, none, some (.invokevirtual 57, 3, 0, 135, 1096), none, none, some (.aload_n 0, 1, 0, 0, 0), some (.getfield 29, 3, 3, 4, 201), none, none, some (.aload_n 1, 1, 0, 0, 0), some (.getfield 29, 3, 3, 4, 201), none, none, some (.invokevirtual 57, 3, 0, 135, 1096), none, none, some (.aload_n 0, 1, 0, 0, 0), some (.getfield 32, 3, 3, 5, 202), none, none, some (.aload_n 1, 1, 0, 0, 0), some (.getfield 32, 3, 3, 5, 202), none, none, some (.invokevirtual 57, 3, 0, 135, 1096), none, none, some (.aload_n 0, 1, 0, 0, 0), some (.getfield 35, 3, 3, 6, 203), none, none, some (.aload_n 1, 1, 0, 0, 0), some (.getfield 35, 3, 3, 6, 203), none, none, some (.invokevirtual 57, 3, 0, 135, 1096), none, none, some (.return_, 1, 0, 0, 0)]
set_option maxRecDepth 100000 in
theorem cd134_ok : mChkAt mI134.1.cls mI134.2.1 0 cd134 = true := by decide +kernel
def cd135 : List (Option mEnt) := [some (.iconst 0, 1, 0, 0, 0), some (.istore_n 2, 1, 0, 0, 0), some (.iload_n 2, 1, 0, 0, 0), some (.aload_n 0, 1, 0, 0, 0), some (.getfield 9, 3, 2, 0, 177), none, none, some (.arraylength, 1, 0, 0, 0), some (.if_icmp .ge (20), 3, 0, 0, 0), none, none, some (.aload_n 0, 1, 0, 0, 0), some (.getfield 9, 3, 2, 0, 177), none, none, some (.iload_n 2, 1, 0, 0, 0), some (.aload_n 1, 1, 0, 0, 0), some (.iload_n 2, 1, 0, 0, 0), some (.invokevirtual 15, 3, 0, 14, 1100), none, none, some (.iastore, 1, 0, 0, 0), some (.iinc 2 (1), 3, 0, 0, 0), none, none, some (.goto (-23), 3, 0, 0, 0), none, none, some (.return_, 1, 0, 0, 0)]
set_option maxRecDepth 100000 in
theorem cd135_ok : mChkAt mI135.1.cls mI135.2.1 0 cd135 = true := by decide +kernel
def cd136 : List (Option mEnt) := [some (.aload_n 0, 1, 0, 0, 0), some (.iconst 0, 1, 0, 0, 0), some (.putfield 21, 3, 7, 2, 328), none, none, some (.aload_n 0, 1, 0, 0, 0), some (.aload_n 0, 1, 0, 0, 0), some (.getfield 17, 3, 7, 0, 326), none, none, some (.invokevirtual 25, 3, 0, 100, 1105), none, none, some (.putfield 31, 3, 7, 3, 329), none, none, some (.aload_n 0, 1, 0, 0, 0), some (.iconst 0, 1, 0, 0, 0), some (.putfield 34, 3, 7, 4, 330), none, none, some (.aload_n 0, 1, 0, 0, 0), some (.aconst_null, 1, 0, 0, 0), some (.putfield 37, 3, 7, 5, 331), none, none, some (.aload_n 0, 1, 0, 0, 0), some (.aconst_null, 1, 0, 0, 0), some (.putfield 41, 3, 7, 6, 332), none, none, some (.aload_n 0, 1, 0, 0, 0), some (.iconst 1, 1, 0, 0, 0), some (.putfield 45, 3, 7, 7, 333), none, none, some (.aload_n 0, 1, 0, 0, 0), some (.iconst 0, 1, 0, 0, 0), some (.putfield 48, 3, 7, 8, 334), none, none, some (.aload_n 0, 1, 0, 0, 0), some (.iconst 0, 1, 0, 0, 0), some (.putfield 51, 3, 7, 9, 335), none, none, some (.aload_n 0, 1, 0, 0, 0), some (.aconst_null, 1, 0, 0, 0), some (.putfield 54, 3, 7, 11, 337), none, none, some (.return_, 1, 0, 0, 0)]
set_option maxRecDepth 100000 in
theorem cd136_ok : mChkAt mI136.1.cls mI136.2.1 0 cd136 = true := by decide +kernel
def cd137 : List (Option mEnt) := [some (.aload_n 0, 1, 0, 0, 0), some (.getfield 125, 3, 0, 9, 374), none, none, some (.astore_n 2, 1, 0, 0, 0), some (.aload_n 2, 1, 0, 0, 0), some (.ifnonnull (13), 3, 0, 0, 0), none, none, some (.new 151, 3, 103, 0, 1115), none, none, some (.dup, 1, 0, 0, 0), some (.ldc 153, 2, 2, 0, 1124), none, some (.invokespecial 155, 3, 9, 0, 1125), none, none, some (.athrow, 1, 0, 0, 0), some (.iload_n 1, 1, 0, 0, 0), some (.tableswitch (74) (0) (2) #[28, 33, 57], 28, 0, 0, 0), none, none, none, none, none, none, none, none, none, none, none, none, none, none, none, none, none, none, none, none, none, none, none, none, none, none, none, some (.aload_n 2, 1, 0, 0, 0), some (.getfield 156, 3, 8, 0, 456), none, none, some (.ireturn, 1, 0, 0, 0), some (.aload_n 2, 1, 0, 0, 0), some (.getfield 156, 3, 8, 0, 456), none, none, some (.ifCond .eq (11), 3, 0, 0, 0), none, none, some (.aload_n 2, 1, 0, 0, 0), some (.getfield 156, 3, 8, 0, 456), none, none, some (.iconst 1, 1, 0, 0, 0), some (.if_icmp .ne (10), 3, 0, 0, 0), none, none, some (.aload_n 2, 1, 0, 0, 0), some (.getfield 161, 3, 8, 1, 458), none, none, some (.goto (4), 3, 0, 0, 0), none, none, some (.iconst 0, 1, 0, 0, 0), some (.ireturn, 1, 0, 0, 0), some (.aload_n 2, 1, 0, 0, 0), some (.getfield 156, 3, 8, 0, 456), none, none, some (.iconst 3, 1, 0, 0, 0), some (.if_icmp .ne (10), 3, 0, 0, 0), none, none, some (.aload_n 2, 1, 0, 0, 0), some (.getfield 161, 3, 8, 1, 458), none, none, some (.goto (4), 3, 0, 0, 0), none, none, some (.iconst 0, 1, 0, 0, 0), some (.ireturn, 1, 0, 0, 0), some (.new 164, 3, 104, 0, 1131), none, none, some (.dup, 1, 0, 0, 0), some (.ldc 166, 2, 2, 0, 1140), none, some (.invokespecial 168, 3, 9, 0, 1141), none, none, some (.athrow, 1, 0, 0, 0)]
set_option maxRecDepth 100000 in
theorem cd137_ok : mChkAt mI137.1.cls mI137.2.1 0 cd137 = true := by decide +kernel
def cd138 : List (Option mEnt) := [some (.aload_n 0, 1, 0, 0, 0), some (.getfield 125, 3, 0, 9, 374), none, none, some (.astore_n 1, 1, 0, 0, 0), some (.aload_n 1, 1, 0, 0, 0), some (.ifnonnull (13), 3, 0, 0, 0), none, none, some (.new 151, 3, 103, 0, 1115), none, none, some (.dup, 1, 0, 0, 0), some (.ldc 153, 2, 2, 0, 1124), none, some (.invokespecial 155, 3, 9, 0, 1125), none, none, some (.athrow, 1, 0, 0, 0), some (.aload_n 1, 1, 0, 0, 0), some (.getfield 156, 3, 8, 0, 456), none, none, some (.iconst 2, 1, 0, 0, 0), some (.if_icmp .ne (10), 3, 0, 0, 0), none, none, some (.aload_n 1, 1, 0, 0, 0), some (.getfield 169, 3, 8, 2, 461), none, none, some (.goto (4), 3, 0, 0, 0), none, none, some (.dconst 0, 1, 0, 0, 0), some (.dreturn, 1, 0, 0, 0)]
set_option maxRecDepth 100000 in
theorem cd138_ok : mChkAt mI138.1.cls mI138.2.1 0 cd138 = true := by decide +kernel
def cd139 : List (Option mEnt) := [some (.aload_n 0, 1, 0, 0, 0), some (.getfield 125, 3, 0, 9, 374), none, none, some (.astore_n 2, 1, 0, 0, 0), some (.aload_n 2, 1, 0, 0, 0), some (.ifnonnull (13), 3, 0, 0, 0), none, none, some (.new 151, 3, 103, 0, 1115), none, none, some (.dup, 1, 0, 0, 0), some (.ldc 153, 2, 2, 0, 1124), none, some (.invokespecial 155, 3, 9, 0, 1125), none, none, some (.athrow, 1, 0, 0, 0), some (.aload_n 2, 1, 0, 0, 0), some (.iload_n 1, 1, 0, 0, 0), some (.invokevirtual 173, 3, 0, 140, 1161), none, none, some (.astore_n 3, 1, 0, 0, 0), some (.aload_n 3, 1, 0, 0, 0), some (.ifnonnull (13), 3, 0, 0, 0), none, none, some (.new 164, 3, 104, 0, 1131), none, none, some (.dup, 1, 0, 0, 0), some (.ldc 177, 2, 2, 0, 1165), none, some (.invokespecial 168, 3, 9, 0, 1141), none, none, some (.athrow, 1, 0, 0, 0), some (.aload_n 0, 1, 0, 0, 0), some (.aload_n 3, 1, 0, 0, 0), some (.putfield 125, 3, 0, 9, 374), none, none, some (.return_, 1, 0, 0, 0)]
set_option maxRecDepth 100000 in
theorem cd139_ok : mChkAt mI139.1.cls mI139.2.1 0 cd139 = true := by decide +kernel
def cd140 : List (Option mEnt) := [some (.aload_n 0, 1, 0, 0, 0), some (.getfield 7, 3, 8, 0, 455), none, none, some (.iconst 3, 1, 0, 0, 0), some (.if_icmp .ne (15), 3, 0, 0, 0), none, none, some (.iload_n 1, 1, 0, 0, 0), some (.ifCond .lt (11), 3, 0, 0, 0), none, none, some (.iload_n 1, 1, 0, 0, 0), some (.aload_n 0, 1, 0, 0, 0), some (.getfield 13, 3, 8, 1, 457), none, none, some (.if_icmp .lt (5), 3, 0, 0, 0), none, none, some (.aconst_null, 1, 0, 0, 0), some (.areturn, 1, 0, 0, 0), some (.aload_n 0, 1, 0, 0, 0), some (.astore_n 2, 1, 0, 0, 0), some (.iconst 0, 1, 0, 0, 0), some (.istore_n 3, 1, 0, 0, 0), some (.iload_n 3, 1, 0, 0, 0), some (.iload_n 1, 1, 0, 0, 0), some (.if_icmp .ge (18), 3, 0, 0, 0), none, none, some (.aload_n 2, 1, 0, 0, 0), some (.ifnull (14), 3, 0, 0, 0), none, none, some (.aload_n 2, 1, 0, 0, 0), some (.getfield 27, 3, 8, 4, 465), none, none, some (.astore_n 2, 1, 0, 0, 0), some (.iinc 3 (1), 3, 0, 0, 0), none, none, some (.goto (-17), 3, 0, 0, 0), none, none, some (.aload_n 2, 1, 0, 0, 0), some (.ifnonnull (7), 3, 0, 0, 0), none, none, some (.aconst_null, 1, 0, 0, 0), some (.goto (7), 3, 0, 0, 0), none, none, some (.aload_n 2, 1, 0, 0, 0), some (.getfield 23, 3, 8, 3, 463), none, none, some (.areturn, 1, 0, 0, 0)]
set_option maxRecDepth 100000 in
theorem cd140_ok : mChkAt mI140.1.cls mI140.2.1 0 cd140 = true := by decide +kernel
def cd141 : List (Option mEnt) := [some (.aload_n 0, 1, 0, 0, 0), some (.getfield 125, 3, 0, 9, 374), none, none, some (.ifnonnull (13), 3, 0, 0, 0), none, none, some (.new 151, 3, 103, 0, 1115), none, none, some (.dup, 1, 0, 0, 0), some (.ldc 153, 2, 2, 0, 1124), none, some (.invokespecial 155, 3, 9, 0, 1125), none, none, some (.athrow, 1, 0, 0, 0), some (.aload_n 0, 1, 0, 0, 0), some (.aload_n 0, 1, 0, 0, 0), some (.getfield 56, 3, 0, 6, 371), none, none, some (.invokevirtual 138, 3, 0, 49, 622), none, none, some (.putfield 125, 3, 0, 9, 374), none, none, some (.return_, 1, 0, 0, 0)]
set_option maxRecDepth 100000 in
theorem cd141_ok : mChkAt mI141.1.cls mI141.2.1 0 cd141 = true := by decide +kernel
def cd142 : List (Option mEnt) := [some (.aload_n 0, 1, 0, 0, 0), some (.invokespecial 1, 3, 4, 0, 1178), none, none, some (.aload_n 0, 1, 0, 0, 0), some (.bipush (60), 2, 0, 0, 0), none, some (.newarray .char, 2, 0, 0, 0), none, some (.putfield 7, 3, 11, 1, 1180), none, none, some (.aload_n 0, 1, 0, 0, 0), some (.bipush (124), 2, 0, 0, 0), none, some (.newarray .int, 2, 0, 0, 0), none, some (.putfield 13, 3, 11, 4, 1183), none, none, some (.aload_n 0, 1, 0, 0, 0), some (.bipush (124), 2, 0, 0, 0), none, some (.newarray .int, 2, 0, 0, 0), none, some (.putfield 17, 3, 11, 5, 1184), none, none, some (.aload_n 0, 1, 0, 0, 0), some (.bipush (124), 2, 0, 0, 0), none, some (.newarray .int, 2, 0, 0, 0), none, some (.putfield 20, 3, 11, 6, 1185), none, none, some (.aload_n 0, 1, 0, 0, 0), some (.bipush (124), 2, 0, 0, 0), none, some (.newarray .int, 2, 0, 0, 0), none, some (.putfield 23, 3, 11, 8, 1187), none, none, some (.aload_n 0, 1, 0, 0, 0), some (.bipush (124), 2, 0, 0, 0), none, some (.newarray .int, 2, 0, 0, 0), none, some (.putfield 26, 3, 11, 9, 1188), none, none, some (.aload_n 0, 1, 0, 0, 0), some (.bipush (124), 2, 0, 0, 0), none, some (.newarray .int, 2, 0, 0, 0), none, some (.putfield 29, 3, 11, 10, 1189), none, none, some (.aload_n 0, 1, 0, 0, 0), some (.bipush (80), 2, 0, 0, 0), none, some (.newarray .int, 2, 0, 0, 0), none, some (.putfield 32, 3, 11, 12, 1191), none, none, some (.aload_n 0, 1, 0, 0, 0), some (.bipush (80), 2, 0, 0, 0), none, some (.newarray .int, 2, 0, 0, 0), none, some (.putfield 35, 3, 11, 13, 1192), none, none, some (.aload_n 0, 1, 0, 0, 0), some (.bipush (80), 2, 0, 0, 0), none, some (.newarray .int, 2, 0, 0, 0), none, some (.putfield 38, 3, 11, 15, 1194), none, none, some (.aload_n 0, 1, 0, 0, 0), some (.bipush (80), 2, 0, 0, 0), none, some (.newarray .int, 2, 0, 0, 0), none, some (.putfield 41, 3, 11, 16, 1195), none, none, some (.aload_n 0, 1, 0, 0, 0), some (.sipush (180), 3, 0, 0, 0), none, none, some (.newarray .int, 2, 0, 0, 0), none, some (.putfield 44, 3, 11, 17, 1196), none, none, some (.aload_n 0, 1, 0, 0, 0), some (.sipush (180), 3, 0, 0, 0), none, none, some (.newarray .int, 2, 0, 0, 0), none, some (.putfield 47, 3, 11, 18, 1197), none, none, some (.aload_n 0, 1, 0, 0, 0), some (.sipush (180), 3, 0, 0, 0), none, none, some (.newarray .int, 2, 0, 0, 0), none, some (.putfield 50, 3, 11, 19, 1198), none, none, some (.aload_n 0, 1, 0, 0, 0), some (.sipush (180), 3, 0, 0, 0), none, none, some (.newarray .int, 2, 0, 0, 0), none, some (.putfield 53, 3, 11, 20, 1199), none, none, some (.aload_n 0, 1, 0, 0, 0), some (.bipush (124), 2, 0, 0, 0), none, some (.newarray .int, 2, 0, 0, 0), none, some (.putfield 56, 3, 11, 25, 1204), none, none, some (.aload_n 0, 1, 0, 0, 0), some (.bipush (124), 2, 0, 0, 0), none, some (.newarray .int, 2, 0, 0, 0), none, some (.putfield 59, 3, 11, 26, 1205), none, none, some (.aload_n 0, 1, 0, 0, 0), some (.bipush (64), 2, 0, 0, 0), none, some (.newarray .int, 2, 0, 0, 0), none, some (.putfield 62, 3, 11, 27, 1206), none, none, some (.aload_n 0, 1, 0, 0, 0), some (.bipush (64), 2, 0, 0, 0), none, some (.newarray .int, 2, 0, 0, 0), none, some (.putfield 65, 3, 11, 28, 1207), none, none, some (.aload_n 0, 1, 0, 0, 0), some (.bipush (64), 2, 0, 0, 0), none, some (.newarray .boolean, 2, 0, 0, 0), none, some (.putfield 68, 3, 11, 29, 1208), none, none, some (.aload_n 0, 1, 0, 0, 0), some (.sipush (1300), 3, 0, 0, 0), none, none, some (.newarray .int, 2, 0, 0, 0), none, some (.putfield 72, 3, 11, 31, 1210), none, none, some (.aload_n 0, 1, 0, 0, 0), some (.sipush (1300), 3, 0, 0, 0), none, none, some (.newarray .int, 2, 0, 0, 0), none, some (.putfield 75, 3, 11, 32, 1211), none, none, some (.aload_n 0, 1, 0, 0, 0), some (.sipush (1300), 3, 0, 0, 0), none, none, some (.newarray .int, 2, 0, 0, 0), none, some (.putfield 78, 3, 11, 33, 1212), none, none, some (.aload_n 0, 1, 0, 0, 0), some (.sipush (1300), 3, 0, 0, 0), none, none, some (.newarray .int, 2, 0, 0, 0), none, some (.putfield 81, 3, 11, 34, 1213), none, none, some (.aload_n 0, 1, 0, 0, 0), some (.bipush (120), 2, 0, 0, 0), none, some (.newarray .int, 2, 0, 0, 0), none, some (.putfield 84, 3, 11, 36, 1215), none, none, some (.aload_n 0, 1, 0, 0, 0), some (.bipush (60), 2, 0, 0, 0), none, some (.newarray .int, 2, 0, 0, 0), none, some (.putfield 87, 3, 11, 40, 1219), none, none, some (.aload_n 0, 1, 0, 0, 0), some (.sipush (260), 3, 0, 0, 0), none, none, some (.newarray .int, 2, 0, 0, 0), none, some (.putfield 90, 3, 11, 42, 1221), none, none, some (.aload_n 0, 1, 0, 0, 0), some (.sipush (160), 3, 0, 0, 0), none, none, some (.newarray .int, 2, 0, 0, 0), none, some (.putfield 93, 3, 11, 46, 1225), none, none, some (.aload_n 0, 1, 0, 0, 0), some (.sipush (220), 3, 0, 0, 0), none, none, some (.newarray .int, 2, 0, 0, 0), none, some (.putfield 96, 3, 11, 47, 1226), none, none, some (.aload_n 0, 1, 0, 0, 0), some (.bipush (80), 2, 0, 0, 0), none, some (.newarray .char, 2, 0, 0, 0), none, some (.putfield 99, 3, 11, 48, 1227), none, none, some (.aload_n 0, 1, 0, 0, 0), some (.sipush (200), 3, 0, 0, 0), none, none, some (.newarray .long, 2, 0, 0, 0), none, some (.putfield 102, 3, 11, 50, 1229), none, none, some (.aload_n 0, 1, 0, 0, 0), some (.sipush (502), 3, 0, 0, 0), none, none, some (.newarray .int, 2, 0, 0, 0), none, some (.putfield 106, 3, 11, 52, 1231), none, none, some (.aload_n 0, 1, 0, 0, 0), some (.sipush (502), 3, 0, 0, 0), none, none, some (.newarray .int, 2, 0, 0, 0), none, some (.putfield 109, 3, 11, 53, 1232), none, none, some (.aload_n 0, 1, 0, 0, 0), some (.sipush (4300), 3, 0, 0, 0), none, none, some (.newarray .long, 2, 0, 0, 0), none, some (.putfield 112, 3, 11, 55, 1234), none, none, some (.aload_n 0, 1, 0, 0, 0), some (.sipush (4300), 3, 0, 0, 0), none, none, some (.newarray .int, 2, 0, 0, 0), none, some (.putfield 115, 3, 11, 56, 1235), none, none, some (.aload_n 0, 1, 0, 0, 0), some (.sipush (502), 3, 0, 0, 0), none, none, some (.newarray .long, 2, 0, 0, 0), none, some (.putfield 118, 3, 11, 59, 1238), none, none, some (.aload_n 0, 1, 0, 0, 0), some (.sipush (502), 3, 0, 0, 0), none, none, some (.newarray .long, 2, 0, 0, 0), none, some (.putfield 121, 3, 11, 60, 1239), none, none, some (.aload_n 0, 1, 0, 0, 0), some (.sipush (502), 3, 0, 0, 0), none, none, some (.newarray .double, 2, 0, 0, 0), none, some (.putfield 124, 3, 11, 62, 1241), none, none, some (.aload_n 0, 1, 0, 0, 0), some (.bipush (80), 2, 0, 0, 0), none, some (.newarray .long, 2, 0, 0, 0), none, some (.putfield 128, 3, 11, 71, 1250), none, none, some (.return_, 1, 0, 0, 0)]
set_option maxRecDepth 100000 in
theorem cd142_ok : mChkAt mI142.1.cls mI142.2.1 0 cd142 = true := by decide +kernel
def cd143 : List (Option mEnt) := [some (.aload_n 0, 1, 0, 0, 0), some (.getfield 131, 3, 11, 0, 1179), none, none, some (.ireturn, 1, 0, 0, 0)]
set_option maxRecDepth 100000 in
theorem cd143_ok : mChkAt mI143.1.cls mI143.2.1 0 cd143 = true := by decide +kernel
def cd144 : List (Option mEnt) := [some (.aload_n 0, 1, 0, 0, 0), some (.iconst 0, 1, 0, 0, 0), some (.putfield 131, 3, 11, 0, 1179), none, none, some (.iload_n 1, 1, 0, 0, 0), some (.bipush (32), 2, 0, 0, 0), none, some (.if_icmp .lt (18), 3, 0, 0, 0), none, none, some (.iload_n 1, 1, 0, 0, 0), some (.bipush (126), 2, 0, 0, 0), none, some (.if_icmp .gt (12), 3, 0, 0, 0), none, none, some (.aload_n 0, 1, 0, 0, 0), some (.getfield 135, 3, 11, 2, 1181), none, none, some (.bipush (60), 2, 0, 0, 0), none, some (.if_icmp .ne (5), 3, 0, 0, 0), none, none, some (.iconst 0, 1, 0, 0, 0), some (.ireturn, 1, 0, 0, 0), some (.aload_n 0, 1, 0, 0, 0), some (.getfield 7, 3, 11, 1, 1180), none, none, some (.aload_n 0, 1, 0, 0, 0), some (.getfield 135, 3, 11, 2, 1181), none, none, some (.iload_n 1, 1, 0, 0, 0), some (.castore, 1, 0, 0, 0), some (.aload_n 0, 1, 0, 0, 0), some (.dup, 1, 0, 0, 0), some (.getfield 135, 3, 11, 2, 1181), none, none, some (.iconst 1, 1, 0, 0, 0), some (.iadd, 1, 0, 0, 0), some (.putfield 135, 3, 11, 2, 1181), none, none, some (.iconst 1, 1, 0, 0, 0), some (.ireturn, 1, 0, 0, 0)]
set_option maxRecDepth 100000 in
theorem cd144_ok : mChkAt mI144.1.cls mI144.2.1 0 cd144 = true := by decide +kernel
def cd145 : List (Option mEnt) := [some (.aload_n 0, 1, 0, 0, 0), some (.iconst 0, 1, 0, 0, 0), some (.putfield 131, 3, 11, 0, 1179), none, none, some (.aload_n 0, 1, 0, 0, 0), some (.iconst 0, 1, 0, 0, 0), some (.putfield 135, 3, 11, 2, 1181), none, none, some (.return_, 1, 0, 0, 0)]
set_option maxRecDepth 100000 in
theorem cd145_ok : mChkAt mI145.1.cls mI145.2.1 0 cd145 = true := by decide +kernel
def cd146 : List (Option mEnt) := [some (.aload_n 0, 1, 0, 0, 0), some (.aload_n 0, 1, 0, 0, 0), some (.invokevirtual 439, 3, 0, 147, 1416), none, none, some (.ifCond .ne (7), 3, 0, 0, 0), none, none, some (.iconst 1, 1, 0, 0, 0), some (.goto (26), 3, 0, 0, 0), none, none, some (.aload_n 0, 1, 0, 0, 0), some (.invokevirtual 443, 3, 0, 173, 1518), none, none, some (.ifCond .ne (7), 3, 0, 0, 0), none, none, some (.iconst 2, 1, 0, 0, 0), some (.goto (15), 3, 0, 0, 0), none, none, some (.aload_n 0, 1, 0, 0, 0), some (.invokevirtual 446, 3, 0, 177, 1534), none, none, some (.ifCond .ne (7), 3, 0, 0, 0), none, none, some (.iconst 3, 1, 0, 0, 0), some (.goto (4), 3, 0, 0, 0), none, none, some (.iconst 0, 1, 0, 0, 0), some (.putfield 131, 3, 11, 0, 1179), none, none, some (.aload_n 0, 1, 0, 0, 0), some (.getfield 131, 3, 11, 0, 1179), none, none, some (.ifCond .le (5), 3, 0, 0, 0), none, none, some (.iconst 0, 1, 0, 0, 0), some (.ireturn, 1, 0, 0, 0), some (.aload_n 0, 1, 0, 0, 0), some (.invokevirtual 449, 3, 0, 195, 1606), none, none, some (.aload_n 0, 1, 0, 0, 0), some (.getfield 333, 3, 11, 49, 1228), none, none, some (.ireturn, 1, 0, 0, 0)]
set_option maxRecDepth 100000 in
theorem cd146_ok : mChkAt mI146.1.cls mI146.2.1 0 cd146 = true := by decide +kernel
def cd147 : List (Option mEnt) := [some (.aload_n 0, 1, 0, 0, 0), some (.iconst 0, 1, 0, 0, 0), some (.putfield 138, 3, 11, 3, 1182), none, none, some (.aload_n 0, 1, 0, 0, 0), some (.iconst 0, 1, 0, 0, 0), some (.putfield 162, 3, 11, 7, 1186), none, none, some (.aload_n 0, 1, 0, 0, 0), some (.iconst 0, 1, 0, 0, 0), some (.putfield 165, 3, 11, 14, 1193), none, none, some (.aload_n 0, 1, 0, 0, 0), some (.iconst 0, 1, 0, 0, 0), some (.putfield 168, 3, 11, 21, 1200), none, none, some (.aload_n 0, 1, 0, 0, 0), some (.iconst 0, 1, 0, 0, 0), some (.putfield 175, 3, 11, 22, 1201), none, none, some (.aload_n 0, 1, 0, 0, 0), some (.iconst 0, 1, 0, 0, 0), some (.putfield 152, 3, 11, 24, 1203), none, none, some (.aload_n 0, 1, 0, 0, 0), some (.iconst 0, 1, 0, 0, 0), some (.invokevirtual 171, 3, 0, 148, 1420), none, none, some (.aload_n 0, 1, 0, 0, 0), some (.getfield 168, 3, 11, 21, 1200), none, none, some (.ifCond .le (107), 3, 0, 0, 0), none, none, some (.aload_n 0, 1, 0, 0, 0), some (.getfield 152, 3, 11, 24, 1203), none, none, some (.ifCond .ne (100), 3, 0, 0, 0), none, none, some (.aload_n 0, 1, 0, 0, 0), some (.getfield 168, 3, 11, 21, 1200), none, none, some (.iconst 1, 1, 0, 0, 0), some (.isub, 1, 0, 0, 0), some (.istore_n 1, 1, 0, 0, 0), some (.aload_n 0, 1, 0, 0, 0), some (.getfield 44, 3, 11, 17, 1196), none, none, some (.iload_n 1, 1, 0, 0, 0), some (.iaload, 1, 0, 0, 0), some (.istore_n 2, 1, 0, 0, 0), some (.iload_n 2, 1, 0, 0, 0), some (.ifCond .ne (20), 3, 0, 0, 0), none, none, some (.aload_n 0, 1, 0, 0, 0), some (.getfield 47, 3, 11, 18, 1197), none, none, some (.iload_n 1, 1, 0, 0, 0), some (.iaload, 1, 0, 0, 0), some (.ifCond .ne (11), 3, 0, 0, 0), none, none, some (.aload_n 0, 1, 0, 0, 0), some (.iload_n 1, 1, 0, 0, 0), some (.invokevirtual 226, 3, 0, 149, 1424), none, none, some (.goto (62), 3, 0, 0, 0), none, none, some (.iload_n 2, 1, 0, 0, 0), some (.ifCond .ne (11), 3, 0, 0, 0), none, none, some (.aload_n 0, 1, 0, 0, 0), some (.iload_n 1, 1, 0, 0, 0), some (.invokevirtual 229, 3, 0, 159, 1463), none, none, some (.goto (50), 3, 0, 0, 0), none, none, some (.iload_n 2, 1, 0, 0, 0), some (.bipush (6), 2, 0, 0, 0), none, some (.if_icmp .ge (11), 3, 0, 0, 0), none, none, some (.aload_n 0, 1, 0, 0, 0), some (.iload_n 1, 1, 0, 0, 0), some (.invokevirtual 232, 3, 0, 163, 1480), none, none, some (.goto (36), 3, 0, 0, 0), none, none, some (.iload_n 2, 1, 0, 0, 0), some (.bipush (6), 2, 0, 0, 0), none, some (.if_icmp .ne (11), 3, 0, 0, 0), none, none, some (.aload_n 0, 1, 0, 0, 0), some (.iload_n 1, 1, 0, 0, 0), some (.invokevirtual 235, 3, 0, 167, 1494), none, none, some (.goto (22), 3, 0, 0, 0), none, none, some (.iload_n 2, 1, 0, 0, 0), some (.bipush (7), 2, 0, 0, 0), none, some (.if_icmp .ne (11), 3, 0, 0, 0), none, none, some (.aload_n 0, 1, 0, 0, 0), some (.iload_n 1, 1, 0, 0, 0), some (.invokevirtual 238, 3, 0, 169, 1502), none, none, some (.goto (8), 3, 0, 0, 0), none, none, some (.aload_n 0, 1, 0, 0, 0), some (.iload_n 1, 1, 0, 0, 0), some (.invokevirtual 241, 3, 0, 171, 1510), none, none, some (.goto (-108), 3, 0, 0, 0), none, none, some (.aload_n 0, 1, 0, 0, 0), some (.getfield 152, 3, 11, 24, 1203), none, none, some (.ifCond .ne (27), 3, 0, 0, 0), none, none, some (.aload_n 0, 1, 0, 0, 0), some (.invokevirtual 145, 3, 0, 151, 1432), none, none, some (.bipush (10), 2, 0, 0, 0), none, some (.if_icmp .ne (18), 3, 0, 0, 0), none, none, some (.aload_n 0, 1, 0, 0, 0), some (.getfield 138, 3, 11, 3, 1182), none, none, some (.aload_n 0, 1, 0, 0, 0), some (.getfield 135, 3, 11, 2, 1181), none, none, some (.if_icmp .lt (7), 3, 0, 0, 0), none, none, some (.iconst 1, 1, 0, 0, 0), some (.goto (4), 3, 0, 0, 0), none, none, some (.iconst 0, 1, 0, 0, 0), some (.ireturn, 1, 0, 0, 0)]
set_option maxRecDepth 100000 in
theorem cd147_ok : mChkAt mI147.1.cls mI147.2.1 0 cd147 = true := by decide +kernel
def cd148 : List (Option mEnt) := [some (.aload_n 0, 1, 0, 0, 0), some (.getfield 44, 3, 11, 17, 1196), none, none, some (.aload_n 0, 1, 0, 0, 0), some (.getfield 168, 3, 11, 21, 1200), none, none, some (.iload_n 1, 1, 0, 0, 0), some (.iastore, 1, 0, 0, 0), some (.aload_n 0, 1, 0, 0, 0), some (.getfield 47, 3, 11, 18, 1197), none, none, some (.aload_n 0, 1, 0, 0, 0), some (.getfield 168, 3, 11, 21, 1200), none, none, some (.iconst 0, 1, 0, 0, 0), some (.iastore, 1, 0, 0, 0), some (.aload_n 0, 1, 0, 0, 0), some (.getfield 50, 3, 11, 19, 1198), none, none, some (.aload_n 0, 1, 0, 0, 0), some (.getfield 168, 3, 11, 21, 1200), none, none, some (.iconst 0, 1, 0, 0, 0), some (.iastore, 1, 0, 0, 0), some (.aload_n 0, 1, 0, 0, 0), some (.getfield 53, 3, 11, 20, 1199), none, none, some (.aload_n 0, 1, 0, 0, 0), some (.getfield 168, 3, 11, 21, 1200), none, none, some (.iconst 0, 1, 0, 0, 0), some (.iastore, 1, 0, 0, 0), some (.aload_n 0, 1, 0, 0, 0), some (.dup, 1, 0, 0, 0), some (.getfield 168, 3, 11, 21, 1200), none, none, some (.iconst 1, 1, 0, 0, 0), some (.iadd, 1, 0, 0, 0), some (.putfield 168, 3, 11, 21, 1200), none, none, some (.return_, 1, 0, 0, 0)]
set_option maxRecDepth 100000 in
theorem cd148_ok : mChkAt mI148.1.cls mI148.2.1 0 cd148 = true := by decide +kernel
def cd149 : List (Option mEnt) := [some (.aload_n 0, 1, 0, 0, 0), some (.invokevirtual 178, 3, 0, 150, 1428), none, none, some (.aload_n 0, 1, 0, 0, 0), some (.invokevirtual 145, 3, 0, 151, 1432), none, none, some (.istore_n 2, 1, 0, 0, 0), some (.iload_n 2, 1, 0, 0, 0), some (.bipush (92), 2, 0, 0, 0), none, some (.if_icmp .eq (27), 3, 0, 0, 0), none, none, some (.iload_n 2, 1, 0, 0, 0), some (.bipush (33), 2, 0, 0, 0), none, some (.if_icmp .eq (21), 3, 0, 0, 0), none, none, some (.iload_n 2, 1, 0, 0, 0), some (.bipush (64), 2, 0, 0, 0), none, some (.if_icmp .eq (15), 3, 0, 0, 0), none, none, some (.iload_n 2, 1, 0, 0, 0), some (.bipush (63), 2, 0, 0, 0), none, some (.if_icmp .eq (9), 3, 0, 0, 0), none, none, some (.iload_n 2, 1, 0, 0, 0), some (.bipush (35), 2, 0, 0, 0), none, some (.if_icmp .ne (7), 3, 0, 0, 0), none, none, some (.iconst 1, 1, 0, 0, 0), some (.goto (4), 3, 0, 0, 0), none, none, some (.iconst 0, 1, 0, 0, 0), some (.istore_n 3, 1, 0, 0, 0), some (.iload_n 3, 1, 0, 0, 0), some (.ifCond .ne (11), 3, 0, 0, 0), none, none, some (.aload_n 0, 1, 0, 0, 0), some (.bipush (12), 2, 0, 0, 0), none, some (.iconst 1, 1, 0, 0, 0), some (.invokevirtual 181, 3, 0, 153, 1440), none, none, some (.return_, 1, 0, 0, 0), some (.aload_n 0, 1, 0, 0, 0), some (.dup, 1, 0, 0, 0), some (.getfield 138, 3, 11, 3, 1182), none, none, some (.iconst 1, 1, 0, 0, 0), some (.iadd, 1, 0, 0, 0), some (.putfield 138, 3, 11, 3, 1182), none, none, some (.iload_n 2, 1, 0, 0, 0), some (.bipush (63), 2, 0, 0, 0), none, some (.if_icmp .eq (9), 3, 0, 0, 0), none, none, some (.iload_n 2, 1, 0, 0, 0), some (.bipush (35), 2, 0, 0, 0), none, some (.if_icmp .ne (21), 3, 0, 0, 0), none, none, some (.aload_n 0, 1, 0, 0, 0), some (.iload_n 2, 1, 0, 0, 0), some (.bipush (63), 2, 0, 0, 0), none, some (.if_icmp .ne (7), 3, 0, 0, 0), none, none, some (.iconst 5, 1, 0, 0, 0), some (.goto (5), 3, 0, 0, 0), none, none, some (.bipush (8), 2, 0, 0, 0), none, some (.iconst 0, 1, 0, 0, 0), some (.invokevirtual 181, 3, 0, 153, 1440), none, none, some (.return_, 1, 0, 0, 0), some (.aload_n 0, 1, 0, 0, 0), some (.invokevirtual 185, 3, 0, 154, 1444), none, none, some (.istore 4, 2, 0, 0, 0), none, some (.aload_n 0, 1, 0, 0, 0), some (.iload_n 2, 1, 0, 0, 0), some (.bipush (92), 2, 0, 0, 0), none, some (.if_icmp .ne (8), 3, 0, 0, 0), none, none, some (.bipush (46), 2, 0, 0, 0), none, some (.goto (5), 3, 0, 0, 0), none, none, some (.bipush (61), 2, 0, 0, 0), none, some (.invokevirtual 189, 3, 0, 156, 1451), none, none, some (.aload_n 0, 1, 0, 0, 0), some (.getfield 50, 3, 11, 19, 1198), none, none, some (.iload_n 1, 1, 0, 0, 0), some (.iload 4, 2, 0, 0, 0), none, some (.iastore, 1, 0, 0, 0), some (.iload_n 2, 1, 0, 0, 0), some (.bipush (64), 2, 0, 0, 0), none, some (.if_icmp .ne (37), 3, 0, 0, 0), none, none, some (.aload_n 0, 1, 0, 0, 0), some (.aload_n 0, 1, 0, 0, 0), some (.getfield 152, 3, 11, 24, 1203), none, none, some (.ifCond .ne (12), 3, 0, 0, 0), none, none, some (.aload_n 0, 1, 0, 0, 0), some (.invokevirtual 145, 3, 0, 151, 1432), none, none, some (.bipush (92), 2, 0, 0, 0), none, some (.if_icmp .eq (7), 3, 0, 0, 0), none, none, some (.iconst 1, 1, 0, 0, 0), some (.goto (4), 3, 0, 0, 0), none, none, some (.iconst 0, 1, 0, 0, 0), some (.putfield 152, 3, 11, 24, 1203), none, none, some (.aload_n 0, 1, 0, 0, 0), some (.bipush (19), 2, 0, 0, 0), none, some (.iconst 0, 1, 0, 0, 0), some (.iload 4, 2, 0, 0, 0), none, some (.invokevirtual 193, 3, 0, 158, 1459), none, none, some (.iload_n 2, 1, 0, 0, 0), some (.bipush (92), 2, 0, 0, 0), none, some (.if_icmp .ne (24), 3, 0, 0, 0), none, none, some (.aload_n 0, 1, 0, 0, 0), some (.bipush (6), 2, 0, 0, 0), none, some (.iconst 0, 1, 0, 0, 0), some (.iload 4, 2, 0, 0, 0), none, some (.invokevirtual 193, 3, 0, 158, 1459), none, none, some (.aload_n 0, 1, 0, 0, 0), some (.getfield 50, 3, 11, 19, 1198), none, none, some (.iload_n 1, 1, 0, 0, 0), some (.aload_n 0, 1, 0, 0, 0), some (.getfield 162, 3, 11, 7, 1186), none, none, some (.iconst 1, 1, 0, 0, 0), some (.isub, 1, 0, 0, 0), some (.iastore, 1, 0, 0, 0), some (.aload_n 0, 1, 0, 0, 0), some (.iload_n 2, 1, 0, 0, 0), some (.bipush (92), 2, 0, 0, 0), none, some (.if_icmp .ne (7), 3, 0, 0, 0), none, none, some (.iconst 1, 1, 0, 0, 0), some (.goto (14), 3, 0, 0, 0), none, none, some (.iload_n 2, 1, 0, 0, 0), some (.bipush (33), 2, 0, 0, 0), none, some (.if_icmp .ne (7), 3, 0, 0, 0), none, none, some (.iconst 2, 1, 0, 0, 0), some (.goto (4), 3, 0, 0, 0), none, none, some (.iconst 3, 1, 0, 0, 0), some (.iconst 0, 1, 0, 0, 0), some (.invokevirtual 181, 3, 0, 153, 1440), none, none, some (.return_, 1, 0, 0, 0)]
set_option maxRecDepth 100000 in
theorem cd149_ok : mChkAt mI149.1.cls mI149.2.1 0 cd149 = true := by decide +kernel
def cd150 : List (Option mEnt) := [some (.aload_n 0, 1, 0, 0, 0), some (.dup, 1, 0, 0, 0), some (.getfield 175, 3, 11, 22, 1201), none, none, some (.iconst 1, 1, 0, 0, 0), some (.iadd, 1, 0, 0, 0), some (.putfield 175, 3, 11, 22, 1201), none, none, some (.aload_n 0, 1, 0, 0, 0), some (.aload_n 0, 1, 0, 0, 0), some (.getfield 152, 3, 11, 24, 1203), none, none, some (.ifCond .ne (12), 3, 0, 0, 0), none, none, some (.aload_n 0, 1, 0, 0, 0), some (.getfield 175, 3, 11, 22, 1201), none, none, some (.bipush (16), 2, 0, 0, 0), none, some (.if_icmp .le (7), 3, 0, 0, 0), none, none, some (.iconst 1, 1, 0, 0, 0), some (.goto (4), 3, 0, 0, 0), none, none, some (.iconst 0, 1, 0, 0, 0), some (.putfield 152, 3, 11, 24, 1203), none, none, some (.return_, 1, 0, 0, 0)]
set_option maxRecDepth 100000 in
theorem cd150_ok : mChkAt mI150.1.cls mI150.2.1 0 cd150 = true := by decide +kernel
def cd151 : List (Option mEnt) := [some (.aload_n 0, 1, 0, 0, 0), some (.invokevirtual 141, 3, 0, 152, 1436), none, none, some (.bipush (32), 2, 0, 0, 0), none, some (.if_icmp .ne (16), 3, 0, 0, 0), none, none, some (.aload_n 0, 1, 0, 0, 0), some (.dup, 1, 0, 0, 0), some (.getfield 138, 3, 11, 3, 1182), none, none, some (.iconst 1, 1, 0, 0, 0), some (.iadd, 1, 0, 0, 0), some (.putfield 138, 3, 11, 3, 1182), none, none, some (.goto (-19), 3, 0, 0, 0), none, none, some (.aload_n 0, 1, 0, 0, 0), some (.invokevirtual 141, 3, 0, 152, 1436), none, none, some (.ireturn, 1, 0, 0, 0)]
set_option maxRecDepth 100000 in
theorem cd151_ok : mChkAt mI151.1.cls mI151.2.1 0 cd151 = true := by decide +kernel
def cd152 : List (Option mEnt) := [some (.aload_n 0, 1, 0, 0, 0), some (.getfield 138, 3, 11, 3, 1182), none, none, some (.aload_n 0, 1, 0, 0, 0), some (.getfield 135, 3, 11, 2, 1181), none, none, some (.if_icmp .ge (15), 3, 0, 0, 0), none, none, some (.aload_n 0, 1, 0, 0, 0), some (.getfield 7, 3, 11, 1, 1180), none, none, some (.aload_n 0, 1, 0, 0, 0), some (.getfield 138, 3, 11, 3, 1182), none, none, some (.caload, 1, 0, 0, 0), some (.goto (5), 3, 0, 0, 0), none, none, some (.bipush (10), 2, 0, 0, 0), none, some (.ireturn, 1, 0, 0, 0)]
set_option maxRecDepth 100000 in
theorem cd152_ok : mChkAt mI152.1.cls mI152.2.1 0 cd152 = true := by decide +kernel
def cd153 : List (Option mEnt) := [some (.aload_n 0, 1, 0, 0, 0), some (.getfield 47, 3, 11, 18, 1197), none, none, some (.aload_n 0, 1, 0, 0, 0), some (.getfield 168, 3, 11, 21, 1200), none, none, some (.iconst 1, 1, 0, 0, 0), some (.isub, 1, 0, 0, 0), some (.iload_n 1, 1, 0, 0, 0), some (.iastore, 1, 0, 0, 0), some (.aload_n 0, 1, 0, 0, 0), some (.iload_n 2, 1, 0, 0, 0), some (.invokevirtual 171, 3, 0, 148, 1420), none, none, some (.return_, 1, 0, 0, 0)]
set_option maxRecDepth 100000 in
theorem cd153_ok : mChkAt mI153.1.cls mI153.2.1 0 cd153 = true := by decide +kernel
def cd154 : List (Option mEnt) := [some (.aload_n 0, 1, 0, 0, 0), some (.invokevirtual 145, 3, 0, 151, 1432), none, none, some (.istore_n 1, 1, 0, 0, 0), some (.aload_n 0, 1, 0, 0, 0), some (.aload_n 0, 1, 0, 0, 0), some (.getfield 152, 3, 11, 24, 1203), none, none, some (.ifCond .ne (10), 3, 0, 0, 0), none, none, some (.iload_n 1, 1, 0, 0, 0), some (.invokestatic 159, 3, 1, 155, 1448), none, none, some (.ifCond .ne (7), 3, 0, 0, 0), none, none, some (.iconst 1, 1, 0, 0, 0), some (.goto (4), 3, 0, 0, 0), none, none, some (.iconst 0, 1, 0, 0, 0), some (.putfield 152, 3, 11, 24, 1203), none, none, some (.aload_n 0, 1, 0, 0, 0), some (.dup, 1, 0, 0, 0), some (.getfield 138, 3, 11, 3, 1182), none, none, some (.iconst 1, 1, 0, 0, 0), some (.iadd, 1, 0, 0, 0), some (.putfield 138, 3, 11, 3, 1182), none, none, some (.iload_n 1, 1, 0, 0, 0), some (.ireturn, 1, 0, 0, 0)]
set_option maxRecDepth 100000 in
theorem cd154_ok : mChkAt mI154.1.cls mI154.2.1 0 cd154 = true := by decide +kernel
def cd155 : List (Option mEnt) := [some (.iload_n 0, 1, 0, 0, 0), some (.bipush (97), 2, 0, 0, 0), none, some (.if_icmp .lt (13), 3, 0, 0, 0), none, none, some (.iload_n 0, 1, 0, 0, 0), some (.bipush (122), 2, 0, 0, 0), none, some (.if_icmp .gt (7), 3, 0, 0, 0), none, none, some (.iconst 1, 1, 0, 0, 0), some (.goto (4), 3, 0, 0, 0), none, none, some (.iconst 0, 1, 0, 0, 0), some (.ireturn, 1, 0, 0, 0)]
set_option maxRecDepth 100000 in
theorem cd155_ok : mChkAt mI155.1.cls mI155.2.1 0 cd155 = true := by decide +kernel
def cd156 : List (Option mEnt) := [some (.aload_n 0, 1, 0, 0, 0), some (.aload_n 0, 1, 0, 0, 0), some (.iload_n 1, 1, 0, 0, 0), some (.invokevirtual 148, 3, 0, 157, 1455), none, none, some (.ifCond .eq (10), 3, 0, 0, 0), none, none, some (.aload_n 0, 1, 0, 0, 0), some (.getfield 152, 3, 11, 24, 1203), none, none, some (.ifCond .eq (7), 3, 0, 0, 0), none, none, some (.iconst 1, 1, 0, 0, 0), some (.goto (4), 3, 0, 0, 0), none, none, some (.iconst 0, 1, 0, 0, 0), some (.putfield 152, 3, 11, 24, 1203), none, none, some (.return_, 1, 0, 0, 0)]
set_option maxRecDepth 100000 in
theorem cd156_ok : mChkAt mI156.1.cls mI156.2.1 0 cd156 = true := by decide +kernel
def cd157 : List (Option mEnt) := [some (.aload_n 0, 1, 0, 0, 0), some (.invokevirtual 145, 3, 0, 151, 1432), none, none, some (.iload_n 1, 1, 0, 0, 0), some (.if_icmp .ne (7), 3, 0, 0, 0), none, none, some (.iconst 1, 1, 0, 0, 0), some (.goto (4), 3, 0, 0, 0), none, none, some (.iconst 0, 1, 0, 0, 0), some (.istore_n 2, 1, 0, 0, 0), some (.aload_n 0, 1, 0, 0, 0), some (.iload_n 2, 1, 0, 0, 0), some (.ifCond .eq (12), 3, 0, 0, 0), none, none, some (.aload_n 0, 1, 0, 0, 0), some (.getfield 138, 3, 11, 3, 1182), none, none, some (.iconst 1, 1, 0, 0, 0), some (.iadd, 1, 0, 0, 0), some (.goto (7), 3, 0, 0, 0), none, none, some (.aload_n 0, 1, 0, 0, 0), some (.getfield 138, 3, 11, 3, 1182), none, none, some (.putfield 138, 3, 11, 3, 1182), none, none, some (.iload_n 2, 1, 0, 0, 0), some (.ireturn, 1, 0, 0, 0)]
set_option maxRecDepth 100000 in
theorem cd157_ok : mChkAt mI157.1.cls mI157.2.1 0 cd157 = true := by decide +kernel
def cd158 : List (Option mEnt) := [some (.aload_n 0, 1, 0, 0, 0), some (.getfield 13, 3, 11, 4, 1183), none, none, some (.aload_n 0, 1, 0, 0, 0), some (.getfield 162, 3, 11, 7, 1186), none, none, some (.iload_n 1, 1, 0, 0, 0), some (.iastore, 1, 0, 0, 0), some (.aload_n 0, 1, 0, 0, 0), some (.getfield 17, 3, 11, 5, 1184), none, none, some (.aload_n 0, 1, 0, 0, 0), some (.getfield 162, 3, 11, 7, 1186), none, none, some (.iload_n 2, 1, 0, 0, 0), some (.iastore, 1, 0, 0, 0), some (.aload_n 0, 1, 0, 0, 0), some (.getfield 20, 3, 11, 6, 1185), none, none, some (.aload_n 0, 1, 0, 0, 0), some (.getfield 162, 3, 11, 7, 1186), none, none, some (.iload_n 3, 1, 0, 0, 0), some (.iastore, 1, 0, 0, 0), some (.aload_n 0, 1, 0, 0, 0), some (.dup, 1, 0, 0, 0), some (.getfield 162, 3, 11, 7, 1186), none, none, some (.iconst 1, 1, 0, 0, 0), some (.iadd, 1, 0, 0, 0), some (.putfield 162, 3, 11, 7, 1186), none, none, some (.return_, 1, 0, 0, 0)]
set_option maxRecDepth 100000 in
theorem cd158_ok : mChkAt mI158.1.cls mI158.2.1 0 cd158 = true := by decide +kernel
def cd159 : List (Option mEnt) := [some (.aload_n 0, 1, 0, 0, 0), some (.getfield 47, 3, 11, 18, 1197), none, none, some (.iload_n 1, 1, 0, 0, 0), some (.iaload, 1, 0, 0, 0), some (.istore_n 2, 1, 0, 0, 0), some (.iload_n 2, 1, 0, 0, 0), some (.iconst 2, 1, 0, 0, 0), some (.if_icmp .eq (8), 3, 0, 0, 0), none, none, some (.iload_n 2, 1, 0, 0, 0), some (.iconst 3, 1, 0, 0, 0), some (.if_icmp .ne (8), 3, 0, 0, 0), none, none, some (.bipush (59), 2, 0, 0, 0), none, some (.goto (43), 3, 0, 0, 0), none, none, some (.iload_n 2, 1, 0, 0, 0), some (.iconst 5, 1, 0, 0, 0), some (.if_icmp .eq (9), 3, 0, 0, 0), none, none, some (.iload_n 2, 1, 0, 0, 0), some (.bipush (10), 2, 0, 0, 0), none, some (.if_icmp .ne (8), 3, 0, 0, 0), none, none, some (.bipush (58), 2, 0, 0, 0), none, some (.goto (27), 3, 0, 0, 0), none, none, some (.iload_n 2, 1, 0, 0, 0), some (.bipush (6), 2, 0, 0, 0), none, some (.if_icmp .ne (8), 3, 0, 0, 0), none, none, some (.bipush (124), 2, 0, 0, 0), none, some (.goto (16), 3, 0, 0, 0), none, none, some (.iload_n 2, 1, 0, 0, 0), some (.bipush (8), 2, 0, 0, 0), none, some (.if_icmp .ne (8), 3, 0, 0, 0), none, none, some (.bipush (123), 2, 0, 0, 0), none, some (.goto (5), 3, 0, 0, 0), none, none, some (.bipush (32), 2, 0, 0, 0), none, some (.istore_n 3, 1, 0, 0, 0), some (.iload_n 3, 1, 0, 0, 0), some (.bipush (32), 2, 0, 0, 0), none, some (.if_icmp .eq (8), 3, 0, 0, 0), none, none, some (.aload_n 0, 1, 0, 0, 0), some (.iload_n 3, 1, 0, 0, 0), some (.invokevirtual 189, 3, 0, 156, 1451), none, none, some (.iload_n 2, 1, 0, 0, 0), some (.bipush (11), 2, 0, 0, 0), none, some (.if_icmp .ne (9), 3, 0, 0, 0), none, none, some (.aload_n 0, 1, 0, 0, 0), some (.iload_n 1, 1, 0, 0, 0), some (.invokevirtual 207, 3, 0, 160, 1467), none, none, some (.return_, 1, 0, 0, 0), some (.iload_n 2, 1, 0, 0, 0), some (.bipush (7), 2, 0, 0, 0), none, some (.if_icmp .ne (18), 3, 0, 0, 0), none, none, some (.aload_n 0, 1, 0, 0, 0), some (.getfield 17, 3, 11, 5, 1184), none, none, some (.aload_n 0, 1, 0, 0, 0), some (.getfield 50, 3, 11, 19, 1198), none, none, some (.iload_n 1, 1, 0, 0, 0), some (.iaload, 1, 0, 0, 0), some (.aload_n 0, 1, 0, 0, 0), some (.getfield 162, 3, 11, 7, 1186), none, none, some (.iastore, 1, 0, 0, 0), some (.iload_n 2, 1, 0, 0, 0), some (.bipush (9), 2, 0, 0, 0), none, some (.if_icmp .ge (59), 3, 0, 0, 0), none, none, some (.aload_n 0, 1, 0, 0, 0), some (.iload_n 2, 1, 0, 0, 0), some (.iconst 1, 1, 0, 0, 0), some (.if_icmp .ne (8), 3, 0, 0, 0), none, none, some (.bipush (7), 2, 0, 0, 0), none, some (.goto (29), 3, 0, 0, 0), none, none, some (.iload_n 2, 1, 0, 0, 0), some (.bipush (7), 2, 0, 0, 0), none, some (.if_icmp .ge (10), 3, 0, 0, 0), none, none, some (.bipush (8), 2, 0, 0, 0), none, some (.iload_n 2, 1, 0, 0, 0), some (.iadd, 1, 0, 0, 0), some (.goto (16), 3, 0, 0, 0), none, none, some (.iload_n 2, 1, 0, 0, 0), some (.bipush (7), 2, 0, 0, 0), none, some (.if_icmp .ne (8), 3, 0, 0, 0), none, none, some (.bipush (18), 2, 0, 0, 0), none, some (.goto (5), 3, 0, 0, 0), none, none, some (.bipush (15), 2, 0, 0, 0), none, some (.iload_n 2, 1, 0, 0, 0), some (.iconst 4, 1, 0, 0, 0), some (.if_icmp .ne (7), 3, 0, 0, 0), none, none, some (.iconst 1, 1, 0, 0, 0), some (.goto (4), 3, 0, 0, 0), none, none, some (.iconst 0, 1, 0, 0, 0), some (.aload_n 0, 1, 0, 0, 0), some (.getfield 50, 3, 11, 19, 1198), none, none, some (.iload_n 1, 1, 0, 0, 0), some (.iaload, 1, 0, 0, 0), some (.invokevirtual 193, 3, 0, 158, 1459), none, none, some (.iload_n 2, 1, 0, 0, 0), some (.iconst 1, 1, 0, 0, 0), some (.if_icmp .eq (9), 3, 0, 0, 0), none, none, some (.iload_n 2, 1, 0, 0, 0), some (.bipush (6), 2, 0, 0, 0), none, some (.if_icmp .ne (18), 3, 0, 0, 0), none, none, some (.aload_n 0, 1, 0, 0, 0), some (.getfield 17, 3, 11, 5, 1184), none, none, some (.aload_n 0, 1, 0, 0, 0), some (.getfield 50, 3, 11, 19, 1198), none, none, some (.iload_n 1, 1, 0, 0, 0), some (.iaload, 1, 0, 0, 0), some (.aload_n 0, 1, 0, 0, 0), some (.getfield 162, 3, 11, 7, 1186), none, none, some (.iastore, 1, 0, 0, 0), some (.iload_n 2, 1, 0, 0, 0), some (.iconst 5, 1, 0, 0, 0), some (.if_icmp .eq (9), 3, 0, 0, 0), none, none, some (.iload_n 2, 1, 0, 0, 0), some (.bipush (6), 2, 0, 0, 0), none, some (.if_icmp .ne (15), 3, 0, 0, 0), none, none, some (.aload_n 0, 1, 0, 0, 0), some (.getfield 50, 3, 11, 19, 1198), none, none, some (.iload_n 1, 1, 0, 0, 0), some (.aload_n 0, 1, 0, 0, 0), some (.getfield 162, 3, 11, 7, 1186), none, none, some (.iconst 1, 1, 0, 0, 0), some (.isub, 1, 0, 0, 0), some (.iastore, 1, 0, 0, 0), some (.iload_n 2, 1, 0, 0, 0), some (.bipush (10), 2, 0, 0, 0), none, some (.if_icmp .ne (18), 3, 0, 0, 0), none, none, some (.aload_n 0, 1, 0, 0, 0), some (.getfield 20, 3, 11, 6, 1185), none, none, some (.aload_n 0, 1, 0, 0, 0), some (.getfield 50, 3, 11, 19, 1198), none, none, some (.iload_n 1, 1, 0, 0, 0), some (.iaload, 1, 0, 0, 0), some (.aload_n 0, 1, 0, 0, 0), some (.getfield 165, 3, 11, 14, 1193), none, none, some (.iastore, 1, 0, 0, 0), some (.iload_n 2, 1, 0, 0, 0), some (.bipush (8), 2, 0, 0, 0), none, some (.if_icmp .ne (11), 3, 0, 0, 0), none, none, some (.aload_n 0, 1, 0, 0, 0), some (.iload_n 1, 1, 0, 0, 0), some (.invokevirtual 201, 3, 0, 161, 1472), none, none, some (.goto (49), 3, 0, 0, 0), none, none, some (.iload_n 2, 1, 0, 0, 0), some (.iconst 1, 1, 0, 0, 0), some (.if_icmp .eq (20), 3, 0, 0, 0), none, none, some (.iload_n 2, 1, 0, 0, 0), some (.iconst 4, 1, 0, 0, 0), some (.if_icmp .eq (15), 3, 0, 0, 0), none, none, some (.iload_n 2, 1, 0, 0, 0), some (.bipush (7), 2, 0, 0, 0), none, some (.if_icmp .eq (9), 3, 0, 0, 0), none, none, some (.iload_n 2, 1, 0, 0, 0), some (.bipush (12), 2, 0, 0, 0), none, some (.if_icmp .ne (10), 3, 0, 0, 0), none, none, some (.aload_n 0, 1, 0, 0, 0), some (.invokevirtual 204, 3, 0, 162, 1476), none, none, some (.goto (20), 3, 0, 0, 0), none, none, some (.aload_n 0, 1, 0, 0, 0), some (.iload_n 2, 1, 0, 0, 0), some (.iconst 4, 1, 0, 0, 0), some (.if_icmp .ge (7), 3, 0, 0, 0), none, none, some (.iconst 4, 1, 0, 0, 0), some (.goto (6), 3, 0, 0, 0), none, none, some (.iload_n 2, 1, 0, 0, 0), some (.iconst 1, 1, 0, 0, 0), some (.iadd, 1, 0, 0, 0), some (.iconst 0, 1, 0, 0, 0), some (.invokevirtual 181, 3, 0, 153, 1440), none, none, some (.return_, 1, 0, 0, 0)]
set_option maxRecDepth 100000 in
theorem cd159_ok : mChkAt mI159.1.cls mI159.2.1 0 cd159 = true := by decide +kernel
def cd160 : List (Option mEnt) := [some (.iconst 0, 1, 0, 0, 0), some (.istore_n 2, 1, 0, 0, 0), some (.aload_n 0, 1, 0, 0, 0), some (.getfield 17, 3, 11, 5, 1184), none, none, some (.aload_n 0, 1, 0, 0, 0), some (.getfield 50, 3, 11, 19, 1198), none, none, some (.iload_n 1, 1, 0, 0, 0), some (.iaload, 1, 0, 0, 0), some (.iaload, 1, 0, 0, 0), some (.istore_n 3, 1, 0, 0, 0), some (.iload_n 3, 1, 0, 0, 0), some (.aload_n 0, 1, 0, 0, 0), some (.getfield 20, 3, 11, 6, 1185), none, none, some (.aload_n 0, 1, 0, 0, 0), some (.getfield 50, 3, 11, 19, 1198), none, none, some (.iload_n 1, 1, 0, 0, 0), some (.iaload, 1, 0, 0, 0), some (.iaload, 1, 0, 0, 0), some (.if_icmp .ge (36), 3, 0, 0, 0), none, none, some (.iload_n 2, 1, 0, 0, 0), some (.aload_n 0, 1, 0, 0, 0), some (.getfield 32, 3, 11, 12, 1191), none, none, some (.iload_n 3, 1, 0, 0, 0), some (.iaload, 1, 0, 0, 0), some (.iconst 1, 1, 0, 0, 0), some (.if_icmp .ne (16), 3, 0, 0, 0), none, none, some (.aload_n 0, 1, 0, 0, 0), some (.getfield 35, 3, 11, 13, 1192), none, none, some (.iload_n 3, 1, 0, 0, 0), some (.iaload, 1, 0, 0, 0), some (.ifCond .le (7), 3, 0, 0, 0), none, none, some (.iconst 1, 1, 0, 0, 0), some (.goto (4), 3, 0, 0, 0), none, none, some (.iconst 0, 1, 0, 0, 0), some (.iadd, 1, 0, 0, 0), some (.istore_n 2, 1, 0, 0, 0), some (.iinc 3 (1), 3, 0, 0, 0), none, none, some (.goto (-45), 3, 0, 0, 0), none, none, some (.aload_n 0, 1, 0, 0, 0), some (.bipush (12), 2, 0, 0, 0), none, some (.iload_n 2, 1, 0, 0, 0), some (.iconst 0, 1, 0, 0, 0), some (.invokevirtual 193, 3, 0, 158, 1459), none, none, some (.aload_n 0, 1, 0, 0, 0), some (.bipush (14), 2, 0, 0, 0), none, some (.aload_n 0, 1, 0, 0, 0), some (.getfield 53, 3, 11, 20, 1199), none, none, some (.iload_n 1, 1, 0, 0, 0), some (.iaload, 1, 0, 0, 0), some (.ldc 200, 2, 0, 65535, 1471), none, some (.iand, 1, 0, 0, 0), some (.iconst 0, 1, 0, 0, 0), some (.invokevirtual 193, 3, 0, 158, 1459), none, none, some (.aload_n 0, 1, 0, 0, 0), some (.getfield 162, 3, 11, 7, 1186), none, none, some (.iconst 1, 1, 0, 0, 0), some (.isub, 1, 0, 0, 0), some (.istore_n 3, 1, 0, 0, 0), some (.aload_n 0, 1, 0, 0, 0), some (.getfield 56, 3, 11, 25, 1204), none, none, some (.aload_n 0, 1, 0, 0, 0), some (.getfield 50, 3, 11, 19, 1198), none, none, some (.iload_n 1, 1, 0, 0, 0), some (.iaload, 1, 0, 0, 0), some (.aload_n 0, 1, 0, 0, 0), some (.getfield 162, 3, 11, 7, 1186), none, none, some (.iastore, 1, 0, 0, 0), some (.aload_n 0, 1, 0, 0, 0), some (.getfield 53, 3, 11, 20, 1199), none, none, some (.iload_n 1, 1, 0, 0, 0), some (.aload_n 0, 1, 0, 0, 0), some (.getfield 53, 3, 11, 20, 1199), none, none, some (.iload_n 1, 1, 0, 0, 0), some (.iaload, 1, 0, 0, 0), some (.bipush (16), 2, 0, 0, 0), none, some (.ishr, 1, 0, 0, 0), some (.iconst 1, 1, 0, 0, 0), some (.iadd, 1, 0, 0, 0), some (.bipush (16), 2, 0, 0, 0), none, some (.ishl, 1, 0, 0, 0), some (.iload_n 3, 1, 0, 0, 0), some (.ior, 1, 0, 0, 0), some (.iastore, 1, 0, 0, 0), some (.aload_n 0, 1, 0, 0, 0), some (.bipush (124), 2, 0, 0, 0), none, some (.invokevirtual 148, 3, 0, 157, 1455), none, none, some (.ifCond .eq (9), 3, 0, 0, 0), none, none, some (.aload_n 0, 1, 0, 0, 0), some (.iload_n 1, 1, 0, 0, 0), some (.invokevirtual 201, 3, 0, 161, 1472), none, none, some (.return_, 1, 0, 0, 0), some (.aload_n 0, 1, 0, 0, 0), some (.bipush (125), 2, 0, 0, 0), none, some (.invokevirtual 189, 3, 0, 156, 1451), none, none, some (.aload_n 0, 1, 0, 0, 0), some (.bipush (17), 2, 0, 0, 0), none, some (.iconst 0, 1, 0, 0, 0), some (.iconst 0, 1, 0, 0, 0), some (.invokevirtual 193, 3, 0, 158, 1459), none, none, some (.aload_n 0, 1, 0, 0, 0), some (.getfield 53, 3, 11, 20, 1199), none, none, some (.iload_n 1, 1, 0, 0, 0), some (.iaload, 1, 0, 0, 0), some (.ldc 200, 2, 0, 65535, 1471), none, some (.iand, 1, 0, 0, 0), some (.istore 4, 2, 0, 0, 0), none, some (.iload 4, 2, 0, 0, 0), none, some (.ifCond .le (30), 3, 0, 0, 0), none, none, some (.aload_n 0, 1, 0, 0, 0), some (.getfield 17, 3, 11, 5, 1184), none, none, some (.iload 4, 2, 0, 0, 0), none, some (.iaload, 1, 0, 0, 0), some (.istore 5, 2, 0, 0, 0), none, some (.aload_n 0, 1, 0, 0, 0), some (.getfield 17, 3, 11, 5, 1184), none, none, some (.iload 4, 2, 0, 0, 0), none, some (.aload_n 0, 1, 0, 0, 0), some (.getfield 162, 3, 11, 7, 1186), none, none, some (.iastore, 1, 0, 0, 0), some (.iload 5, 2, 0, 0, 0), none, some (.istore 4, 2, 0, 0, 0), none, some (.goto (-29), 3, 0, 0, 0), none, none, some (.aload_n 0, 1, 0, 0, 0), some (.invokevirtual 204, 3, 0, 162, 1476), none, none, some (.return_, 1, 0, 0, 0)]
set_option maxRecDepth 100000 in
theorem cd160_ok : mChkAt mI160.1.cls mI160.2.1 0 cd160 = true := by decide +kernel
def cd161 : List (Option mEnt) := [some (.aload_n 0, 1, 0, 0, 0), some (.aload_n 0, 1, 0, 0, 0), some (.getfield 152, 3, 11, 24, 1203), none, none, some (.ifCond .ne (16), 3, 0, 0, 0), none, none, some (.aload_n 0, 1, 0, 0, 0), some (.getfield 53, 3, 11, 20, 1199), none, none, some (.iload_n 1, 1, 0, 0, 0), some (.iaload, 1, 0, 0, 0), some (.bipush (16), 2, 0, 0, 0), none, some (.ishr, 1, 0, 0, 0), some (.iconst 5, 1, 0, 0, 0), some (.if_icmp .ne (7), 3, 0, 0, 0), none, none, some (.iconst 1, 1, 0, 0, 0), some (.goto (4), 3, 0, 0, 0), none, none, some (.iconst 0, 1, 0, 0, 0), some (.putfield 152, 3, 11, 24, 1203), none, none, some (.aload_n 0, 1, 0, 0, 0), some (.iconst 0, 1, 0, 0, 0), some (.putfield 197, 3, 11, 23, 1202), none, none, some (.aload_n 0, 1, 0, 0, 0), some (.bipush (16), 2, 0, 0, 0), none, some (.aload_n 0, 1, 0, 0, 0), some (.getfield 165, 3, 11, 14, 1193), none, none, some (.iconst 0, 1, 0, 0, 0), some (.invokevirtual 193, 3, 0, 158, 1459), none, none, some (.aload_n 0, 1, 0, 0, 0), some (.getfield 50, 3, 11, 19, 1198), none, none, some (.iload_n 1, 1, 0, 0, 0), some (.aload_n 0, 1, 0, 0, 0), some (.getfield 162, 3, 11, 7, 1186), none, none, some (.iconst 1, 1, 0, 0, 0), some (.isub, 1, 0, 0, 0), some (.iastore, 1, 0, 0, 0), some (.aload_n 0, 1, 0, 0, 0), some (.bipush (10), 2, 0, 0, 0), none, some (.bipush (7), 2, 0, 0, 0), none, some (.invokevirtual 181, 3, 0, 153, 1440), none, none, some (.return_, 1, 0, 0, 0)]
set_option maxRecDepth 100000 in
theorem cd161_ok : mChkAt mI161.1.cls mI161.2.1 0 cd161 = true := by decide +kernel
def cd162 : List (Option mEnt) := [some (.aload_n 0, 1, 0, 0, 0), some (.dup, 1, 0, 0, 0), some (.getfield 175, 3, 11, 22, 1201), none, none, some (.iconst 1, 1, 0, 0, 0), some (.isub, 1, 0, 0, 0), some (.putfield 175, 3, 11, 22, 1201), none, none, some (.aload_n 0, 1, 0, 0, 0), some (.dup, 1, 0, 0, 0), some (.getfield 168, 3, 11, 21, 1200), none, none, some (.iconst 1, 1, 0, 0, 0), some (.isub, 1, 0, 0, 0), some (.putfield 168, 3, 11, 21, 1200), none, none, some (.return_, 1, 0, 0, 0)]
set_option maxRecDepth 100000 in
theorem cd162_ok : mChkAt mI162.1.cls mI162.2.1 0 cd162 = true := by decide +kernel
def cd163 : List (Option mEnt) := [some (.aload_n 0, 1, 0, 0, 0), some (.getfield 44, 3, 11, 17, 1196), none, none, some (.iload_n 1, 1, 0, 0, 0), some (.iaload, 1, 0, 0, 0), some (.istore_n 2, 1, 0, 0, 0), some (.aload_n 0, 1, 0, 0, 0), some (.getfield 47, 3, 11, 18, 1197), none, none, some (.iload_n 1, 1, 0, 0, 0), some (.iaload, 1, 0, 0, 0), some (.ifCond .ne (12), 3, 0, 0, 0), none, none, some (.aload_n 0, 1, 0, 0, 0), some (.iconst 1, 1, 0, 0, 0), some (.iload_n 2, 1, 0, 0, 0), some (.iconst 1, 1, 0, 0, 0), some (.iadd, 1, 0, 0, 0), some (.invokevirtual 181, 3, 0, 153, 1440), none, none, some (.return_, 1, 0, 0, 0), some (.aload_n 0, 1, 0, 0, 0), some (.getfield 47, 3, 11, 18, 1197), none, none, some (.iload_n 1, 1, 0, 0, 0), some (.iaload, 1, 0, 0, 0), some (.iconst 2, 1, 0, 0, 0), some (.if_icmp .ne (26), 3, 0, 0, 0), none, none, some (.aload_n 0, 1, 0, 0, 0), some (.iload_n 2, 1, 0, 0, 0), some (.iconst 5, 1, 0, 0, 0), some (.if_icmp .ne (8), 3, 0, 0, 0), none, none, some (.bipush (8), 2, 0, 0, 0), none, some (.goto (5), 3, 0, 0, 0), none, none, some (.bipush (9), 2, 0, 0, 0), none, some (.aload_n 0, 1, 0, 0, 0), some (.getfield 50, 3, 11, 19, 1198), none, none, some (.iload_n 1, 1, 0, 0, 0), some (.iaload, 1, 0, 0, 0), some (.iconst 0, 1, 0, 0, 0), some (.invokevirtual 193, 3, 0, 158, 1459), none, none, some (.aload_n 0, 1, 0, 0, 0), some (.getfield 47, 3, 11, 18, 1197), none, none, some (.iload_n 1, 1, 0, 0, 0), some (.iaload, 1, 0, 0, 0), some (.iconst 2, 1, 0, 0, 0), some (.if_icmp .ne (19), 3, 0, 0, 0), none, none, some (.iload_n 2, 1, 0, 0, 0), some (.iconst 3, 1, 0, 0, 0), some (.if_icmp .ge (14), 3, 0, 0, 0), none, none, some (.aload_n 0, 1, 0, 0, 0), some (.dup, 1, 0, 0, 0), some (.getfield 168, 3, 11, 21, 1200), none, none, some (.iconst 1, 1, 0, 0, 0), some (.isub, 1, 0, 0, 0), some (.putfield 168, 3, 11, 21, 1200), none, none, some (.return_, 1, 0, 0, 0), some (.iconst 0, 1, 0, 0, 0), some (.istore_n 3, 1, 0, 0, 0), some (.iload_n 2, 1, 0, 0, 0), some (.iconst 1, 1, 0, 0, 0), some (.if_icmp .ne (22), 3, 0, 0, 0), none, none, some (.aload_n 0, 1, 0, 0, 0), some (.bipush (44), 2, 0, 0, 0), none, some (.invokevirtual 148, 3, 0, 157, 1455), none, none, some (.ifCond .eq (8), 3, 0, 0, 0), none, none, some (.bipush (44), 2, 0, 0, 0), none, some (.goto (4), 3, 0, 0, 0), none, none, some (.iconst 0, 1, 0, 0, 0), some (.istore_n 3, 1, 0, 0, 0), some (.goto (35), 3, 0, 0, 0), none, none, some (.iload_n 2, 1, 0, 0, 0), some (.iconst 5, 1, 0, 0, 0), some (.if_icmp .ne (22), 3, 0, 0, 0), none, none, some (.aload_n 0, 1, 0, 0, 0), some (.invokevirtual 145, 3, 0, 151, 1432), none, none, some (.invokestatic 210, 3, 1, 164, 1484), none, none, some (.ifCond .eq (7), 3, 0, 0, 0), none, none, some (.iconst 1, 1, 0, 0, 0), some (.goto (4), 3, 0, 0, 0), none, none, some (.iconst 0, 1, 0, 0, 0), some (.istore_n 3, 1, 0, 0, 0), some (.goto (11), 3, 0, 0, 0), none, none, some (.aload_n 0, 1, 0, 0, 0), some (.iload_n 2, 1, 0, 0, 0), some (.iconst 2, 1, 0, 0, 0), some (.isub, 1, 0, 0, 0), some (.invokevirtual 223, 3, 0, 166, 1490), none, none, some (.istore_n 3, 1, 0, 0, 0), some (.aload_n 0, 1, 0, 0, 0), some (.getfield 50, 3, 11, 19, 1198), none, none, some (.iload_n 1, 1, 0, 0, 0), some (.iload_n 3, 1, 0, 0, 0), some (.iastore, 1, 0, 0, 0), some (.iload_n 3, 1, 0, 0, 0), some (.ifCond .ne (16), 3, 0, 0, 0), none, none, some (.aload_n 0, 1, 0, 0, 0), some (.dup, 1, 0, 0, 0), some (.getfield 168, 3, 11, 21, 1200), none, none, some (.iconst 1, 1, 0, 0, 0), some (.isub, 1, 0, 0, 0), some (.putfield 168, 3, 11, 21, 1200), none, none, some (.goto (20), 3, 0, 0, 0), none, none, some (.aload_n 0, 1, 0, 0, 0), some (.iconst 2, 1, 0, 0, 0), some (.iload_n 2, 1, 0, 0, 0), some (.iconst 1, 1, 0, 0, 0), some (.if_icmp .ne (7), 3, 0, 0, 0), none, none, some (.iconst 1, 1, 0, 0, 0), some (.goto (6), 3, 0, 0, 0), none, none, some (.iload_n 2, 1, 0, 0, 0), some (.iconst 1, 1, 0, 0, 0), some (.iadd, 1, 0, 0, 0), some (.invokevirtual 181, 3, 0, 153, 1440), none, none, some (.return_, 1, 0, 0, 0)]
set_option maxRecDepth 100000 in
theorem cd163_ok : mChkAt mI163.1.cls mI163.2.1 0 cd163 = true := by decide +kernel
end
section
def cd164 : List (Option mEnt) := [some (.iload_n 0, 1, 0, 0, 0), some (.invokestatic 156, 3, 1, 165, 1487), none, none, some (.ifCond .ne (52), 3, 0, 0, 0), none, none, some (.iload_n 0, 1, 0, 0, 0), some (.invokestatic 159, 3, 1, 155, 1448), none, none, some (.ifCond .ne (45), 3, 0, 0, 0), none, none, some (.iload_n 0, 1, 0, 0, 0), some (.bipush (84), 2, 0, 0, 0), none, some (.if_icmp .eq (39), 3, 0, 0, 0), none, none, some (.iload_n 0, 1, 0, 0, 0), some (.bipush (70), 2, 0, 0, 0), none, some (.if_icmp .eq (33), 3, 0, 0, 0), none, none, some (.iload_n 0, 1, 0, 0, 0), some (.bipush (82), 2, 0, 0, 0), none, some (.if_icmp .eq (27), 3, 0, 0, 0), none, none, some (.iload_n 0, 1, 0, 0, 0), some (.bipush (73), 2, 0, 0, 0), none, some (.if_icmp .eq (21), 3, 0, 0, 0), none, none, some (.iload_n 0, 1, 0, 0, 0), some (.bipush (126), 2, 0, 0, 0), none, some (.if_icmp .eq (15), 3, 0, 0, 0), none, none, some (.iload_n 0, 1, 0, 0, 0), some (.bipush (91), 2, 0, 0, 0), none, some (.if_icmp .eq (9), 3, 0, 0, 0), none, none, some (.iload_n 0, 1, 0, 0, 0), some (.bipush (40), 2, 0, 0, 0), none, some (.if_icmp .ne (7), 3, 0, 0, 0), none, none, some (.iconst 1, 1, 0, 0, 0), some (.goto (4), 3, 0, 0, 0), none, none, some (.iconst 0, 1, 0, 0, 0), some (.ireturn, 1, 0, 0, 0)]
set_option maxRecDepth 100000 in
theorem cd164_ok : mChkAt mI164.1.cls mI164.2.1 0 cd164 = true := by decide +kernel
def cd165 : List (Option mEnt) := [some (.iload_n 0, 1, 0, 0, 0), some (.bipush (48), 2, 0, 0, 0), none, some (.if_icmp .lt (13), 3, 0, 0, 0), none, none, some (.iload_n 0, 1, 0, 0, 0), some (.bipush (57), 2, 0, 0, 0), none, some (.if_icmp .gt (7), 3, 0, 0, 0), none, none, some (.iconst 1, 1, 0, 0, 0), some (.goto (4), 3, 0, 0, 0), none, none, some (.iconst 0, 1, 0, 0, 0), some (.ireturn, 1, 0, 0, 0)]
set_option maxRecDepth 100000 in
theorem cd165_ok : mChkAt mI165.1.cls mI165.2.1 0 cd165 = true := by decide +kernel
def cd166 : List (Option mEnt) := [some (.aload_n 0, 1, 0, 0, 0), some (.invokevirtual 145, 3, 0, 151, 1432), none, none, some (.istore_n 2, 1, 0, 0, 0), some (.iload_n 1, 1, 0, 0, 0), some (.ifCond .ne (23), 3, 0, 0, 0), none, none, some (.iload_n 2, 1, 0, 0, 0), some (.bipush (60), 2, 0, 0, 0), none, some (.if_icmp .eq (9), 3, 0, 0, 0), none, none, some (.iload_n 2, 1, 0, 0, 0), some (.bipush (61), 2, 0, 0, 0), none, some (.if_icmp .ne (7), 3, 0, 0, 0), none, none, some (.iconst 1, 1, 0, 0, 0), some (.goto (49), 3, 0, 0, 0), none, none, some (.iconst 0, 1, 0, 0, 0), some (.goto (45), 3, 0, 0, 0), none, none, some (.iload_n 1, 1, 0, 0, 0), some (.iconst 1, 1, 0, 0, 0), some (.if_icmp .ne (23), 3, 0, 0, 0), none, none, some (.iload_n 2, 1, 0, 0, 0), some (.bipush (43), 2, 0, 0, 0), none, some (.if_icmp .eq (9), 3, 0, 0, 0), none, none, some (.iload_n 2, 1, 0, 0, 0), some (.bipush (45), 2, 0, 0, 0), none, some (.if_icmp .ne (7), 3, 0, 0, 0), none, none, some (.iconst 1, 1, 0, 0, 0), some (.goto (24), 3, 0, 0, 0), none, none, some (.iconst 0, 1, 0, 0, 0), some (.goto (20), 3, 0, 0, 0), none, none, some (.iload_n 2, 1, 0, 0, 0), some (.bipush (42), 2, 0, 0, 0), none, some (.if_icmp .eq (9), 3, 0, 0, 0), none, none, some (.iload_n 2, 1, 0, 0, 0), some (.bipush (47), 2, 0, 0, 0), none, some (.if_icmp .ne (7), 3, 0, 0, 0), none, none, some (.iconst 1, 1, 0, 0, 0), some (.goto (4), 3, 0, 0, 0), none, none, some (.iconst 0, 1, 0, 0, 0), some (.istore_n 3, 1, 0, 0, 0), some (.iload_n 3, 1, 0, 0, 0), some (.ifCond .ne (5), 3, 0, 0, 0), none, none, some (.iconst 0, 1, 0, 0, 0), some (.ireturn, 1, 0, 0, 0), some (.aload_n 0, 1, 0, 0, 0), some (.dup, 1, 0, 0, 0), some (.getfield 138, 3, 11, 3, 1182), none, none, some (.iconst 1, 1, 0, 0, 0), some (.iadd, 1, 0, 0, 0), some (.putfield 138, 3, 11, 3, 1182), none, none, some (.iload_n 2, 1, 0, 0, 0), some (.bipush (61), 2, 0, 0, 0), none, some (.if_icmp .eq (28), 3, 0, 0, 0), none, none, some (.aload_n 0, 1, 0, 0, 0), some (.invokevirtual 141, 3, 0, 152, 1436), none, none, some (.bipush (46), 2, 0, 0, 0), none, some (.if_icmp .ne (19), 3, 0, 0, 0), none, none, some (.aload_n 0, 1, 0, 0, 0), some (.dup, 1, 0, 0, 0), some (.getfield 138, 3, 11, 3, 1182), none, none, some (.iconst 1, 1, 0, 0, 0), some (.iadd, 1, 0, 0, 0), some (.putfield 138, 3, 11, 3, 1182), none, none, some (.iload_n 2, 1, 0, 0, 0), some (.sipush (128), 3, 0, 0, 0), none, none, some (.iadd, 1, 0, 0, 0), some (.ireturn, 1, 0, 0, 0), some (.iload_n 2, 1, 0, 0, 0), some (.ireturn, 1, 0, 0, 0)]
set_option maxRecDepth 100000 in
theorem cd166_ok : mChkAt mI166.1.cls mI166.2.1 0 cd166 = true := by decide +kernel
def cd167 : List (Option mEnt) := [some (.aload_n 0, 1, 0, 0, 0), some (.invokevirtual 145, 3, 0, 151, 1432), none, none, some (.istore_n 2, 1, 0, 0, 0), some (.aload_n 0, 1, 0, 0, 0), some (.getfield 47, 3, 11, 18, 1197), none, none, some (.iload_n 1, 1, 0, 0, 0), some (.iaload, 1, 0, 0, 0), some (.ifCond .le (42), 3, 0, 0, 0), none, none, some (.aload_n 0, 1, 0, 0, 0), some (.getfield 47, 3, 11, 18, 1197), none, none, some (.iload_n 1, 1, 0, 0, 0), some (.iaload, 1, 0, 0, 0), some (.iconst 1, 1, 0, 0, 0), some (.if_icmp .ne (15), 3, 0, 0, 0), none, none, some (.aload_n 0, 1, 0, 0, 0), some (.bipush (9), 2, 0, 0, 0), none, some (.bipush (126), 2, 0, 0, 0), none, some (.iconst 0, 1, 0, 0, 0), some (.invokevirtual 193, 3, 0, 158, 1459), none, none, some (.goto (9), 3, 0, 0, 0), none, none, some (.aload_n 0, 1, 0, 0, 0), some (.bipush (41), 2, 0, 0, 0), none, some (.invokevirtual 189, 3, 0, 156, 1451), none, none, some (.aload_n 0, 1, 0, 0, 0), some (.dup, 1, 0, 0, 0), some (.getfield 168, 3, 11, 21, 1200), none, none, some (.iconst 1, 1, 0, 0, 0), some (.isub, 1, 0, 0, 0), some (.putfield 168, 3, 11, 21, 1200), none, none, some (.return_, 1, 0, 0, 0), some (.aload_n 0, 1, 0, 0, 0), some (.aload_n 0, 1, 0, 0, 0), some (.getfield 152, 3, 11, 24, 1203), none, none, some (.ifCond .ne (10), 3, 0, 0, 0), none, none, some (.iload_n 2, 1, 0, 0, 0), some (.invokestatic 210, 3, 1, 164, 1484), none, none, some (.ifCond .ne (7), 3, 0, 0, 0), none, none, some (.iconst 1, 1, 0, 0, 0), some (.goto (4), 3, 0, 0, 0), none, none, some (.iconst 0, 1, 0, 0, 0), some (.putfield 152, 3, 11, 24, 1203), none, none, some (.iload_n 2, 1, 0, 0, 0), some (.invokestatic 156, 3, 1, 165, 1487), none, none, some (.ifCond .eq (104), 3, 0, 0, 0), none, none, some (.aload_n 0, 1, 0, 0, 0), some (.iconst 4, 1, 0, 0, 0), some (.invokevirtual 213, 3, 0, 168, 1498), none, none, some (.istore_n 3, 1, 0, 0, 0), some (.aload_n 0, 1, 0, 0, 0), some (.invokevirtual 141, 3, 0, 152, 1436), none, none, some (.bipush (46), 2, 0, 0, 0), none, some (.if_icmp .eq (13), 3, 0, 0, 0), none, none, some (.aload_n 0, 1, 0, 0, 0), some (.iconst 0, 1, 0, 0, 0), some (.iload_n 3, 1, 0, 0, 0), some (.iconst 0, 1, 0, 0, 0), some (.invokevirtual 193, 3, 0, 158, 1459), none, none, some (.goto (68), 3, 0, 0, 0), none, none, some (.aload_n 0, 1, 0, 0, 0), some (.dup, 1, 0, 0, 0), some (.getfield 138, 3, 11, 3, 1182), none, none, some (.iconst 1, 1, 0, 0, 0), some (.iadd, 1, 0, 0, 0), some (.putfield 138, 3, 11, 3, 1182), none, none, some (.aload_n 0, 1, 0, 0, 0), some (.getfield 138, 3, 11, 3, 1182), none, none, some (.istore 4, 2, 0, 0, 0), none, some (.aload_n 0, 1, 0, 0, 0), some (.iconst 3, 1, 0, 0, 0), some (.invokevirtual 213, 3, 0, 168, 1498), none, none, some (.istore 5, 2, 0, 0, 0), none, some (.aload_n 0, 1, 0, 0, 0), some (.getfield 138, 3, 11, 3, 1182), none, none, some (.iload 4, 2, 0, 0, 0), none, some (.isub, 1, 0, 0, 0), some (.istore 6, 2, 0, 0, 0), none, some (.iload 6, 2, 0, 0, 0), none, some (.iconst 3, 1, 0, 0, 0), some (.if_icmp .ge (16), 3, 0, 0, 0), none, none, some (.bipush (10), 2, 0, 0, 0), none, some (.iload 5, 2, 0, 0, 0), none, some (.imul, 1, 0, 0, 0), some (.istore 5, 2, 0, 0, 0), none, some (.iinc 6 (1), 3, 0, 0, 0), none, none, some (.goto (-16), 3, 0, 0, 0), none, none, some (.aload_n 0, 1, 0, 0, 0), some (.iconst 2, 1, 0, 0, 0), some (.sipush (1000), 3, 0, 0, 0), none, none, some (.iload_n 3, 1, 0, 0, 0), some (.imul, 1, 0, 0, 0), some (.iload 5, 2, 0, 0, 0), none, some (.iadd, 1, 0, 0, 0), some (.iconst 0, 1, 0, 0, 0), some (.invokevirtual 193, 3, 0, 158, 1459), none, none, some (.aload_n 0, 1, 0, 0, 0), some (.dup, 1, 0, 0, 0), some (.getfield 168, 3, 11, 21, 1200), none, none, some (.iconst 1, 1, 0, 0, 0), some (.isub, 1, 0, 0, 0), some (.putfield 168, 3, 11, 21, 1200), none, none, some (.return_, 1, 0, 0, 0), some (.aload_n 0, 1, 0, 0, 0), some (.dup, 1, 0, 0, 0), some (.getfield 138, 3, 11, 3, 1182), none, none, some (.iconst 1, 1, 0, 0, 0), some (.iadd, 1, 0, 0, 0), some (.putfield 138, 3, 11, 3, 1182), none, none, some (.iload_n 2, 1, 0, 0, 0), some (.bipush (126), 2, 0, 0, 0), none, some (.if_icmp .eq (9), 3, 0, 0, 0), none, none, some (.iload_n 2, 1, 0, 0, 0), some (.bipush (40), 2, 0, 0, 0), none, some (.if_icmp .ne (31), 3, 0, 0, 0), none, none, some (.aload_n 0, 1, 0, 0, 0), some (.iload_n 2, 1, 0, 0, 0), some (.bipush (126), 2, 0, 0, 0), none, some (.if_icmp .ne (7), 3, 0, 0, 0), none, none, some (.iconst 1, 1, 0, 0, 0), some (.goto (4), 3, 0, 0, 0), none, none, some (.iconst 2, 1, 0, 0, 0), some (.iload_n 2, 1, 0, 0, 0), some (.bipush (126), 2, 0, 0, 0), none, some (.if_icmp .ne (8), 3, 0, 0, 0), none, none, some (.bipush (6), 2, 0, 0, 0), none, some (.goto (4), 3, 0, 0, 0), none, none, some (.iconst 0, 1, 0, 0, 0), some (.invokevirtual 181, 3, 0, 153, 1440), none, none, some (.return_, 1, 0, 0, 0), some (.iload_n 2, 1, 0, 0, 0), some (.bipush (91), 2, 0, 0, 0), none, some (.if_icmp .ne (38), 3, 0, 0, 0), none, none, some (.aload_n 0, 1, 0, 0, 0), some (.aload_n 0, 1, 0, 0, 0), some (.getfield 152, 3, 11, 24, 1203), none, none, some (.ifCond .ne (12), 3, 0, 0, 0), none, none, some (.aload_n 0, 1, 0, 0, 0), some (.invokevirtual 141, 3, 0, 152, 1436), none, none, some (.bipush (93), 2, 0, 0, 0), none, some (.if_icmp .eq (7), 3, 0, 0, 0), none, none, some (.iconst 1, 1, 0, 0, 0), some (.goto (4), 3, 0, 0, 0), none, none, some (.iconst 0, 1, 0, 0, 0), some (.putfield 152, 3, 11, 24, 1203), none, none, some (.aload_n 0, 1, 0, 0, 0), some (.dup, 1, 0, 0, 0), some (.getfield 138, 3, 11, 3, 1182), none, none, some (.iconst 1, 1, 0, 0, 0), some (.iadd, 1, 0, 0, 0), some (.putfield 138, 3, 11, 3, 1182), none, none, some (.iload_n 2, 1, 0, 0, 0), some (.bipush (84), 2, 0, 0, 0), none, some (.if_icmp .eq (9), 3, 0, 0, 0), none, none, some (.iload_n 2, 1, 0, 0, 0), some (.bipush (70), 2, 0, 0, 0), none, some (.if_icmp .ne (7), 3, 0, 0, 0), none, none, some (.iconst 1, 1, 0, 0, 0), some (.goto (30), 3, 0, 0, 0), none, none, some (.iload_n 2, 1, 0, 0, 0), some (.bipush (91), 2, 0, 0, 0), none, some (.if_icmp .ne (7), 3, 0, 0, 0), none, none, some (.iconst 3, 1, 0, 0, 0), some (.goto (20), 3, 0, 0, 0), none, none, some (.iload_n 2, 1, 0, 0, 0), some (.bipush (82), 2, 0, 0, 0), none, some (.if_icmp .eq (9), 3, 0, 0, 0), none, none, some (.iload_n 2, 1, 0, 0, 0), some (.bipush (73), 2, 0, 0, 0), none, some (.if_icmp .ne (7), 3, 0, 0, 0), none, none, some (.iconst 4, 1, 0, 0, 0), some (.goto (4), 3, 0, 0, 0), none, none, some (.iconst 5, 1, 0, 0, 0), some (.istore_n 3, 1, 0, 0, 0), some (.aload_n 0, 1, 0, 0, 0), some (.iload_n 3, 1, 0, 0, 0), some (.iload_n 3, 1, 0, 0, 0), some (.iconst 1, 1, 0, 0, 0), some (.if_icmp .ne (17), 3, 0, 0, 0), none, none, some (.iload_n 2, 1, 0, 0, 0), some (.bipush (84), 2, 0, 0, 0), none, some (.if_icmp .ne (7), 3, 0, 0, 0), none, none, some (.iconst 1, 1, 0, 0, 0), some (.goto (17), 3, 0, 0, 0), none, none, some (.iconst 0, 1, 0, 0, 0), some (.goto (13), 3, 0, 0, 0), none, none, some (.iload_n 3, 1, 0, 0, 0), some (.iconst 4, 1, 0, 0, 0), some (.if_icmp .ne (7), 3, 0, 0, 0), none, none, some (.iload_n 2, 1, 0, 0, 0), some (.goto (4), 3, 0, 0, 0), none, none, some (.iconst 0, 1, 0, 0, 0), some (.iload_n 3, 1, 0, 0, 0), some (.iconst 5, 1, 0, 0, 0), some (.if_icmp .ne (7), 3, 0, 0, 0), none, none, some (.iload_n 2, 1, 0, 0, 0), some (.goto (4), 3, 0, 0, 0), none, none, some (.iconst 0, 1, 0, 0, 0), some (.invokevirtual 193, 3, 0, 158, 1459), none, none, some (.aload_n 0, 1, 0, 0, 0), some (.dup, 1, 0, 0, 0), some (.getfield 168, 3, 11, 21, 1200), none, none, some (.iconst 1, 1, 0, 0, 0), some (.isub, 1, 0, 0, 0), some (.putfield 168, 3, 11, 21, 1200), none, none, some (.return_, 1, 0, 0, 0)]
set_option maxRecDepth 100000 in
theorem cd167_ok : mChkAt mI167.1.cls mI167.2.1 0 cd167 = true := by decide +kernel
def cd168 : List (Option mEnt) := [some (.iconst 0, 1, 0, 0, 0), some (.istore_n 2, 1, 0, 0, 0), some (.iconst 0, 1, 0, 0, 0), some (.istore_n 3, 1, 0, 0, 0), some (.aload_n 0, 1, 0, 0, 0), some (.invokevirtual 141, 3, 0, 152, 1436), none, none, some (.invokestatic 156, 3, 1, 165, 1487), none, none, some (.ifCond .eq (37), 3, 0, 0, 0), none, none, some (.iload_n 3, 1, 0, 0, 0), some (.iload_n 1, 1, 0, 0, 0), some (.if_icmp .gt (32), 3, 0, 0, 0), none, none, some (.bipush (10), 2, 0, 0, 0), none, some (.iload_n 2, 1, 0, 0, 0), some (.imul, 1, 0, 0, 0), some (.aload_n 0, 1, 0, 0, 0), some (.invokevirtual 141, 3, 0, 152, 1436), none, none, some (.iadd, 1, 0, 0, 0), some (.bipush (48), 2, 0, 0, 0), none, some (.isub, 1, 0, 0, 0), some (.istore_n 2, 1, 0, 0, 0), some (.aload_n 0, 1, 0, 0, 0), some (.dup, 1, 0, 0, 0), some (.getfield 138, 3, 11, 3, 1182), none, none, some (.iconst 1, 1, 0, 0, 0), some (.iadd, 1, 0, 0, 0), some (.putfield 138, 3, 11, 3, 1182), none, none, some (.iinc 3 (1), 3, 0, 0, 0), none, none, some (.goto (-41), 3, 0, 0, 0), none, none, some (.aload_n 0, 1, 0, 0, 0), some (.aload_n 0, 1, 0, 0, 0), some (.getfield 152, 3, 11, 24, 1203), none, none, some (.ifCond .ne (12), 3, 0, 0, 0), none, none, some (.iload_n 3, 1, 0, 0, 0), some (.ifCond .eq (8), 3, 0, 0, 0), none, none, some (.iload_n 3, 1, 0, 0, 0), some (.iload_n 1, 1, 0, 0, 0), some (.if_icmp .le (7), 3, 0, 0, 0), none, none, some (.iconst 1, 1, 0, 0, 0), some (.goto (4), 3, 0, 0, 0), none, none, some (.iconst 0, 1, 0, 0, 0), some (.putfield 152, 3, 11, 24, 1203), none, none, some (.iload_n 2, 1, 0, 0, 0), some (.ireturn, 1, 0, 0, 0)]
set_option maxRecDepth 100000 in
theorem cd168_ok : mChkAt mI168.1.cls mI168.2.1 0 cd168 = true := by decide +kernel
def cd169 : List (Option mEnt) := [some (.aload_n 0, 1, 0, 0, 0), some (.getfield 47, 3, 11, 18, 1197), none, none, some (.iload_n 1, 1, 0, 0, 0), some (.iaload, 1, 0, 0, 0), some (.ifCond .ne (27), 3, 0, 0, 0), none, none, some (.aload_n 0, 1, 0, 0, 0), some (.invokevirtual 178, 3, 0, 150, 1428), none, none, some (.aload_n 0, 1, 0, 0, 0), some (.getfield 50, 3, 11, 19, 1198), none, none, some (.iload_n 1, 1, 0, 0, 0), some (.aload_n 0, 1, 0, 0, 0), some (.getfield 165, 3, 11, 14, 1193), none, none, some (.iastore, 1, 0, 0, 0), some (.aload_n 0, 1, 0, 0, 0), some (.iconst 1, 1, 0, 0, 0), some (.bipush (8), 2, 0, 0, 0), none, some (.invokevirtual 181, 3, 0, 153, 1440), none, none, some (.goto (46), 3, 0, 0, 0), none, none, some (.aload_n 0, 1, 0, 0, 0), some (.getfield 47, 3, 11, 18, 1197), none, none, some (.iload_n 1, 1, 0, 0, 0), some (.iaload, 1, 0, 0, 0), some (.iconst 1, 1, 0, 0, 0), some (.if_icmp .ne (32), 3, 0, 0, 0), none, none, some (.aload_n 0, 1, 0, 0, 0), some (.bipush (44), 2, 0, 0, 0), none, some (.invokevirtual 148, 3, 0, 157, 1455), none, none, some (.ifCond .eq (23), 3, 0, 0, 0), none, none, some (.aload_n 0, 1, 0, 0, 0), some (.aload_n 0, 1, 0, 0, 0), some (.getfield 50, 3, 11, 19, 1198), none, none, some (.iload_n 1, 1, 0, 0, 0), some (.iaload, 1, 0, 0, 0), some (.invokevirtual 220, 3, 0, 170, 1506), none, none, some (.aload_n 0, 1, 0, 0, 0), some (.iconst 2, 1, 0, 0, 0), some (.bipush (7), 2, 0, 0, 0), none, some (.invokevirtual 181, 3, 0, 153, 1440), none, none, some (.goto (7), 3, 0, 0, 0), none, none, some (.aload_n 0, 1, 0, 0, 0), some (.invokevirtual 204, 3, 0, 162, 1476), none, none, some (.return_, 1, 0, 0, 0)]
set_option maxRecDepth 100000 in
theorem cd169_ok : mChkAt mI169.1.cls mI169.2.1 0 cd169 = true := by decide +kernel
def cd170 : List (Option mEnt) := [some (.aload_n 0, 1, 0, 0, 0), some (.getfield 165, 3, 11, 14, 1193), none, none, some (.istore_n 2, 1, 0, 0, 0), some (.iload_n 2, 1, 0, 0, 0), some (.iload_n 1, 1, 0, 0, 0), some (.if_icmp .le (37), 3, 0, 0, 0), none, none, some (.aload_n 0, 1, 0, 0, 0), some (.getfield 32, 3, 11, 12, 1191), none, none, some (.iload_n 2, 1, 0, 0, 0), some (.aload_n 0, 1, 0, 0, 0), some (.getfield 32, 3, 11, 12, 1191), none, none, some (.iload_n 2, 1, 0, 0, 0), some (.iconst 1, 1, 0, 0, 0), some (.isub, 1, 0, 0, 0), some (.iaload, 1, 0, 0, 0), some (.iastore, 1, 0, 0, 0), some (.aload_n 0, 1, 0, 0, 0), some (.getfield 35, 3, 11, 13, 1192), none, none, some (.iload_n 2, 1, 0, 0, 0), some (.aload_n 0, 1, 0, 0, 0), some (.getfield 35, 3, 11, 13, 1192), none, none, some (.iload_n 2, 1, 0, 0, 0), some (.iconst 1, 1, 0, 0, 0), some (.isub, 1, 0, 0, 0), some (.iaload, 1, 0, 0, 0), some (.iastore, 1, 0, 0, 0), some (.iinc 2 (-1), 3, 0, 0, 0), none, none, some (.goto (-36), 3, 0, 0, 0), none, none, some (.aload_n 0, 1, 0, 0, 0), some (.getfield 32, 3, 11, 12, 1191), none, none, some (.iload_n 1, 1, 0, 0, 0), some (.iconst 0, 1, 0, 0, 0), some (.iastore, 1, 0, 0, 0), some (.aload_n 0, 1, 0, 0, 0), some (.getfield 35, 3, 11, 13, 1192), none, none, some (.iload_n 1, 1, 0, 0, 0), some (.iconst 0, 1, 0, 0, 0), some (.iastore, 1, 0, 0, 0), some (.aload_n 0, 1, 0, 0, 0), some (.dup, 1, 0, 0, 0), some (.getfield 165, 3, 11, 14, 1193), none, none, some (.iconst 1, 1, 0, 0, 0), some (.iadd, 1, 0, 0, 0), some (.putfield 165, 3, 11, 14, 1193), none, none, some (.return_, 1, 0, 0, 0)]
set_option maxRecDepth 100000 in
theorem cd170_ok : mChkAt mI170.1.cls mI170.2.1 0 cd170 = true := by decide +kernel
def cd171 : List (Option mEnt) := [some (.aload_n 0, 1, 0, 0, 0), some (.getfield 47, 3, 11, 18, 1197), none, none, some (.iload_n 1, 1, 0, 0, 0), some (.iaload, 1, 0, 0, 0), some (.ifCond .le (20), 3, 0, 0, 0), none, none, some (.aload_n 0, 1, 0, 0, 0), some (.bipush (41), 2, 0, 0, 0), none, some (.invokevirtual 189, 3, 0, 156, 1451), none, none, some (.aload_n 0, 1, 0, 0, 0), some (.dup, 1, 0, 0, 0), some (.getfield 168, 3, 11, 21, 1200), none, none, some (.iconst 1, 1, 0, 0, 0), some (.isub, 1, 0, 0, 0), some (.putfield 168, 3, 11, 21, 1200), none, none, some (.return_, 1, 0, 0, 0), some (.aload_n 0, 1, 0, 0, 0), some (.invokevirtual 145, 3, 0, 151, 1432), none, none, some (.istore_n 2, 1, 0, 0, 0), some (.iload_n 2, 1, 0, 0, 0), some (.invokestatic 156, 3, 1, 165, 1487), none, none, some (.ifCond .eq (24), 3, 0, 0, 0), none, none, some (.aload_n 0, 1, 0, 0, 0), some (.iconst 2, 1, 0, 0, 0), some (.aload_n 0, 1, 0, 0, 0), some (.iconst 4, 1, 0, 0, 0), some (.invokevirtual 213, 3, 0, 168, 1498), none, none, some (.invokevirtual 217, 3, 0, 172, 1514), none, none, some (.aload_n 0, 1, 0, 0, 0), some (.dup, 1, 0, 0, 0), some (.getfield 168, 3, 11, 21, 1200), none, none, some (.iconst 1, 1, 0, 0, 0), some (.isub, 1, 0, 0, 0), some (.putfield 168, 3, 11, 21, 1200), none, none, some (.return_, 1, 0, 0, 0), some (.aload_n 0, 1, 0, 0, 0), some (.dup, 1, 0, 0, 0), some (.getfield 138, 3, 11, 3, 1182), none, none, some (.iconst 1, 1, 0, 0, 0), some (.iadd, 1, 0, 0, 0), some (.putfield 138, 3, 11, 3, 1182), none, none, some (.iload_n 2, 1, 0, 0, 0), some (.bipush (40), 2, 0, 0, 0), none, some (.if_icmp .ne (11), 3, 0, 0, 0), none, none, some (.aload_n 0, 1, 0, 0, 0), some (.iconst 1, 1, 0, 0, 0), some (.bipush (7), 2, 0, 0, 0), none, some (.invokevirtual 181, 3, 0, 153, 1440), none, none, some (.return_, 1, 0, 0, 0), some (.iload_n 2, 1, 0, 0, 0), some (.bipush (91), 2, 0, 0, 0), none, some (.if_icmp .ne (47), 3, 0, 0, 0), none, none, some (.aload_n 0, 1, 0, 0, 0), some (.aload_n 0, 1, 0, 0, 0), some (.getfield 152, 3, 11, 24, 1203), none, none, some (.ifCond .ne (12), 3, 0, 0, 0), none, none, some (.aload_n 0, 1, 0, 0, 0), some (.invokevirtual 141, 3, 0, 152, 1436), none, none, some (.bipush (93), 2, 0, 0, 0), none, some (.if_icmp .eq (7), 3, 0, 0, 0), none, none, some (.iconst 1, 1, 0, 0, 0), some (.goto (4), 3, 0, 0, 0), none, none, some (.iconst 0, 1, 0, 0, 0), some (.putfield 152, 3, 11, 24, 1203), none, none, some (.aload_n 0, 1, 0, 0, 0), some (.dup, 1, 0, 0, 0), some (.getfield 138, 3, 11, 3, 1182), none, none, some (.iconst 1, 1, 0, 0, 0), some (.iadd, 1, 0, 0, 0), some (.putfield 138, 3, 11, 3, 1182), none, none, some (.aload_n 0, 1, 0, 0, 0), some (.iconst 4, 1, 0, 0, 0), some (.iconst 0, 1, 0, 0, 0), some (.invokevirtual 217, 3, 0, 172, 1514), none, none, some (.goto (117), 3, 0, 0, 0), none, none, some (.iload_n 2, 1, 0, 0, 0), some (.bipush (84), 2, 0, 0, 0), none, some (.if_icmp .eq (9), 3, 0, 0, 0), none, none, some (.iload_n 2, 1, 0, 0, 0), some (.bipush (70), 2, 0, 0, 0), none, some (.if_icmp .ne (22), 3, 0, 0, 0), none, none, some (.aload_n 0, 1, 0, 0, 0), some (.iconst 3, 1, 0, 0, 0), some (.iload_n 2, 1, 0, 0, 0), some (.bipush (84), 2, 0, 0, 0), none, some (.if_icmp .ne (7), 3, 0, 0, 0), none, none, some (.iconst 1, 1, 0, 0, 0), some (.goto (4), 3, 0, 0, 0), none, none, some (.iconst 0, 1, 0, 0, 0), some (.invokevirtual 217, 3, 0, 172, 1514), none, none, some (.goto (86), 3, 0, 0, 0), none, none, some (.iload_n 2, 1, 0, 0, 0), some (.invokestatic 159, 3, 1, 155, 1448), none, none, some (.istore_n 3, 1, 0, 0, 0), some (.aload_n 0, 1, 0, 0, 0), some (.aload_n 0, 1, 0, 0, 0), some (.getfield 152, 3, 11, 24, 1203), none, none, some (.ifCond .ne (28), 3, 0, 0, 0), none, none, some (.iload_n 2, 1, 0, 0, 0), some (.bipush (95), 2, 0, 0, 0), none, some (.if_icmp .eq (26), 3, 0, 0, 0), none, none, some (.iload_n 3, 1, 0, 0, 0), some (.ifCond .eq (18), 3, 0, 0, 0), none, none, some (.aload_n 0, 1, 0, 0, 0), some (.getfield 197, 3, 11, 23, 1202), none, none, some (.iload_n 2, 1, 0, 0, 0), some (.bipush (97), 2, 0, 0, 0), none, some (.isub, 1, 0, 0, 0), some (.ishr, 1, 0, 0, 0), some (.iconst 1, 1, 0, 0, 0), some (.iand, 1, 0, 0, 0), some (.iconst 1, 1, 0, 0, 0), some (.if_icmp .ne (7), 3, 0, 0, 0), none, none, some (.iconst 1, 1, 0, 0, 0), some (.goto (4), 3, 0, 0, 0), none, none, some (.iconst 0, 1, 0, 0, 0), some (.putfield 152, 3, 11, 24, 1203), none, none, some (.aload_n 0, 1, 0, 0, 0), some (.dup, 1, 0, 0, 0), some (.getfield 197, 3, 11, 23, 1202), none, none, some (.iload_n 3, 1, 0, 0, 0), some (.ifCond .eq (12), 3, 0, 0, 0), none, none, some (.iconst 1, 1, 0, 0, 0), some (.iload_n 2, 1, 0, 0, 0), some (.bipush (97), 2, 0, 0, 0), none, some (.isub, 1, 0, 0, 0), some (.ishl, 1, 0, 0, 0), some (.goto (4), 3, 0, 0, 0), none, none, some (.iconst 0, 1, 0, 0, 0), some (.ior, 1, 0, 0, 0), some (.putfield 197, 3, 11, 23, 1202), none, none, some (.aload_n 0, 1, 0, 0, 0), some (.iconst 1, 1, 0, 0, 0), some (.iload_n 3, 1, 0, 0, 0), some (.ifCond .eq (7), 3, 0, 0, 0), none, none, some (.iload_n 2, 1, 0, 0, 0), some (.goto (4), 3, 0, 0, 0), none, none, some (.iconst 0, 1, 0, 0, 0), some (.invokevirtual 217, 3, 0, 172, 1514), none, none, some (.aload_n 0, 1, 0, 0, 0), some (.dup, 1, 0, 0, 0), some (.getfield 168, 3, 11, 21, 1200), none, none, some (.iconst 1, 1, 0, 0, 0), some (.isub, 1, 0, 0, 0), some (.putfield 168, 3, 11, 21, 1200), none, none, some (.return_, 1, 0, 0, 0)]
set_option maxRecDepth 100000 in
theorem cd171_ok : mChkAt mI171.1.cls mI171.2.1 0 cd171 = true := by decide +kernel
def cd172 : List (Option mEnt) := [some (.aload_n 0, 1, 0, 0, 0), some (.getfield 32, 3, 11, 12, 1191), none, none, some (.aload_n 0, 1, 0, 0, 0), some (.getfield 165, 3, 11, 14, 1193), none, none, some (.iload_n 1, 1, 0, 0, 0), some (.iastore, 1, 0, 0, 0), some (.aload_n 0, 1, 0, 0, 0), some (.getfield 35, 3, 11, 13, 1192), none, none, some (.aload_n 0, 1, 0, 0, 0), some (.getfield 165, 3, 11, 14, 1193), none, none, some (.iload_n 2, 1, 0, 0, 0), some (.iastore, 1, 0, 0, 0), some (.aload_n 0, 1, 0, 0, 0), some (.dup, 1, 0, 0, 0), some (.getfield 165, 3, 11, 14, 1193), none, none, some (.iconst 1, 1, 0, 0, 0), some (.iadd, 1, 0, 0, 0), some (.putfield 165, 3, 11, 14, 1193), none, none, some (.return_, 1, 0, 0, 0)]
set_option maxRecDepth 100000 in
theorem cd172_ok : mChkAt mI172.1.cls mI172.2.1 0 cd172 = true := by decide +kernel
def cd173 : List (Option mEnt) := [some (.aload_n 0, 1, 0, 0, 0), some (.iconst 0, 1, 0, 0, 0), some (.putfield 244, 3, 11, 30, 1209), none, none, some (.iconst 0, 1, 0, 0, 0), some (.istore_n 1, 1, 0, 0, 0), some (.iload_n 1, 1, 0, 0, 0), some (.aload_n 0, 1, 0, 0, 0), some (.getfield 162, 3, 11, 7, 1186), none, none, some (.if_icmp .ge (76), 3, 0, 0, 0), none, none, some (.aload_n 0, 1, 0, 0, 0), some (.getfield 13, 3, 11, 4, 1183), none, none, some (.iload_n 1, 1, 0, 0, 0), some (.iaload, 1, 0, 0, 0), some (.iconst 5, 1, 0, 0, 0), some (.if_icmp .ne (55), 3, 0, 0, 0), none, none, some (.aload_n 0, 1, 0, 0, 0), some (.getfield 244, 3, 11, 30, 1209), none, none, some (.iconst 1, 1, 0, 0, 0), some (.isub, 1, 0, 0, 0), some (.istore_n 2, 1, 0, 0, 0), some (.iload_n 2, 1, 0, 0, 0), some (.ifCond .lt (24), 3, 0, 0, 0), none, none, some (.aload_n 0, 1, 0, 0, 0), some (.getfield 62, 3, 11, 27, 1206), none, none, some (.iload_n 2, 1, 0, 0, 0), some (.iaload, 1, 0, 0, 0), some (.aload_n 0, 1, 0, 0, 0), some (.getfield 20, 3, 11, 6, 1185), none, none, some (.iload_n 1, 1, 0, 0, 0), some (.iaload, 1, 0, 0, 0), some (.if_icmp .eq (9), 3, 0, 0, 0), none, none, some (.iinc 2 (-1), 3, 0, 0, 0), none, none, some (.goto (-22), 3, 0, 0, 0), none, none, some (.iload_n 2, 1, 0, 0, 0), some (.ifCond .ge (5), 3, 0, 0, 0), none, none, some (.iconst 0, 1, 0, 0, 0), some (.ireturn, 1, 0, 0, 0), some (.aload_n 0, 1, 0, 0, 0), some (.getfield 17, 3, 11, 5, 1184), none, none, some (.iload_n 1, 1, 0, 0, 0), some (.aload_n 0, 1, 0, 0, 0), some (.getfield 244, 3, 11, 30, 1209), none, none, some (.iconst 1, 1, 0, 0, 0), some (.isub, 1, 0, 0, 0), some (.iload_n 2, 1, 0, 0, 0), some (.isub, 1, 0, 0, 0), some (.iastore, 1, 0, 0, 0), some (.aload_n 0, 1, 0, 0, 0), some (.iload_n 1, 1, 0, 0, 0), some (.invokevirtual 253, 3, 0, 174, 1522), none, none, some (.iinc 1 (1), 3, 0, 0, 0), none, none, some (.goto (-78), 3, 0, 0, 0), none, none, some (.iconst 1, 1, 0, 0, 0), some (.ireturn, 1, 0, 0, 0)]
set_option maxRecDepth 100000 in
theorem cd173_ok : mChkAt mI173.1.cls mI173.2.1 0 cd173 = true := by decide +kernel
def cd174 : List (Option mEnt) := [some (.aload_n 0, 1, 0, 0, 0), some (.getfield 13, 3, 11, 4, 1183), none, none, some (.iload_n 1, 1, 0, 0, 0), some (.iaload, 1, 0, 0, 0), some (.istore_n 2, 1, 0, 0, 0), some (.iload_n 2, 1, 0, 0, 0), some (.bipush (6), 2, 0, 0, 0), none, some (.if_icmp .eq (15), 3, 0, 0, 0), none, none, some (.iload_n 2, 1, 0, 0, 0), some (.bipush (10), 2, 0, 0, 0), none, some (.if_icmp .eq (9), 3, 0, 0, 0), none, none, some (.iload_n 2, 1, 0, 0, 0), some (.bipush (19), 2, 0, 0, 0), none, some (.if_icmp .ne (14), 3, 0, 0, 0), none, none, some (.aload_n 0, 1, 0, 0, 0), some (.aload_n 0, 1, 0, 0, 0), some (.getfield 20, 3, 11, 6, 1185), none, none, some (.iload_n 1, 1, 0, 0, 0), some (.iaload, 1, 0, 0, 0), some (.iconst 0, 1, 0, 0, 0), some (.invokevirtual 247, 3, 0, 175, 1526), none, none, some (.iload_n 2, 1, 0, 0, 0), some (.bipush (16), 2, 0, 0, 0), none, some (.if_icmp .ne (8), 3, 0, 0, 0), none, none, some (.aload_n 0, 1, 0, 0, 0), some (.iload_n 1, 1, 0, 0, 0), some (.invokevirtual 250, 3, 0, 176, 1530), none, none, some (.aload_n 0, 1, 0, 0, 0), some (.dup, 1, 0, 0, 0), some (.getfield 244, 3, 11, 30, 1209), none, none, some (.iload_n 2, 1, 0, 0, 0), some (.bipush (7), 2, 0, 0, 0), none, some (.if_icmp .ne (7), 3, 0, 0, 0), none, none, some (.iconst 1, 1, 0, 0, 0), some (.goto (19), 3, 0, 0, 0), none, none, some (.iload_n 2, 1, 0, 0, 0), some (.bipush (12), 2, 0, 0, 0), none, some (.if_icmp .ne (12), 3, 0, 0, 0), none, none, some (.aload_n 0, 1, 0, 0, 0), some (.getfield 17, 3, 11, 5, 1184), none, none, some (.iload_n 1, 1, 0, 0, 0), some (.iaload, 1, 0, 0, 0), some (.goto (4), 3, 0, 0, 0), none, none, some (.iconst 0, 1, 0, 0, 0), some (.isub, 1, 0, 0, 0), some (.putfield 244, 3, 11, 30, 1209), none, none, some (.return_, 1, 0, 0, 0)]
set_option maxRecDepth 100000 in
theorem cd174_ok : mChkAt mI174.1.cls mI174.2.1 0 cd174 = true := by decide +kernel
def cd175 : List (Option mEnt) := [some (.aload_n 0, 1, 0, 0, 0), some (.getfield 62, 3, 11, 27, 1206), none, none, some (.aload_n 0, 1, 0, 0, 0), some (.getfield 244, 3, 11, 30, 1209), none, none, some (.iload_n 1, 1, 0, 0, 0), some (.iastore, 1, 0, 0, 0), some (.aload_n 0, 1, 0, 0, 0), some (.getfield 65, 3, 11, 28, 1207), none, none, some (.aload_n 0, 1, 0, 0, 0), some (.getfield 244, 3, 11, 30, 1209), none, none, some (.iload_n 2, 1, 0, 0, 0), some (.iastore, 1, 0, 0, 0), some (.aload_n 0, 1, 0, 0, 0), some (.getfield 68, 3, 11, 29, 1208), none, none, some (.aload_n 0, 1, 0, 0, 0), some (.getfield 244, 3, 11, 30, 1209), none, none, some (.iconst 0, 1, 0, 0, 0), some (.bastore, 1, 0, 0, 0), some (.aload_n 0, 1, 0, 0, 0), some (.dup, 1, 0, 0, 0), some (.getfield 244, 3, 11, 30, 1209), none, none, some (.iconst 1, 1, 0, 0, 0), some (.iadd, 1, 0, 0, 0), some (.putfield 244, 3, 11, 30, 1209), none, none, some (.return_, 1, 0, 0, 0)]
set_option maxRecDepth 100000 in
theorem cd175_ok : mChkAt mI175.1.cls mI175.2.1 0 cd175 = true := by decide +kernel
def cd176 : List (Option mEnt) := [some (.aload_n 0, 1, 0, 0, 0), some (.getfield 17, 3, 11, 5, 1184), none, none, some (.iload_n 1, 1, 0, 0, 0), some (.iaload, 1, 0, 0, 0), some (.istore_n 2, 1, 0, 0, 0), some (.iload_n 2, 1, 0, 0, 0), some (.aload_n 0, 1, 0, 0, 0), some (.getfield 20, 3, 11, 6, 1185), none, none, some (.iload_n 1, 1, 0, 0, 0), some (.iaload, 1, 0, 0, 0), some (.if_icmp .ge (39), 3, 0, 0, 0), none, none, some (.aload_n 0, 1, 0, 0, 0), some (.getfield 32, 3, 11, 12, 1191), none, none, some (.iload_n 2, 1, 0, 0, 0), some (.iaload, 1, 0, 0, 0), some (.iconst 1, 1, 0, 0, 0), some (.if_icmp .ne (23), 3, 0, 0, 0), none, none, some (.aload_n 0, 1, 0, 0, 0), some (.getfield 35, 3, 11, 13, 1192), none, none, some (.iload_n 2, 1, 0, 0, 0), some (.iaload, 1, 0, 0, 0), some (.ifCond .le (14), 3, 0, 0, 0), none, none, some (.aload_n 0, 1, 0, 0, 0), some (.aload_n 0, 1, 0, 0, 0), some (.getfield 35, 3, 11, 13, 1192), none, none, some (.iload_n 2, 1, 0, 0, 0), some (.iaload, 1, 0, 0, 0), some (.iconst 0, 1, 0, 0, 0), some (.invokevirtual 247, 3, 0, 175, 1526), none, none, some (.iinc 2 (1), 3, 0, 0, 0), none, none, some (.goto (-43), 3, 0, 0, 0), none, none, some (.return_, 1, 0, 0, 0)]
set_option maxRecDepth 100000 in
theorem cd176_ok : mChkAt mI176.1.cls mI176.2.1 0 cd176 = true := by decide +kernel
def cd177 : List (Option mEnt) := [some (.aload_n 0, 1, 0, 0, 0), some (.iconst 0, 1, 0, 0, 0), some (.putfield 256, 3, 11, 35, 1214), none, none, some (.aload_n 0, 1, 0, 0, 0), some (.iconst 1, 1, 0, 0, 0), some (.iconst 0, 1, 0, 0, 0), some (.iconst 0, 1, 0, 0, 0), some (.invokevirtual 259, 3, 0, 178, 1538), none, none, some (.istore_n 1, 1, 0, 0, 0), some (.aload_n 0, 1, 0, 0, 0), some (.iconst 2, 1, 0, 0, 0), some (.iconst 0, 1, 0, 0, 0), some (.iconst 0, 1, 0, 0, 0), some (.invokevirtual 259, 3, 0, 178, 1538), none, none, some (.istore_n 2, 1, 0, 0, 0), some (.aload_n 0, 1, 0, 0, 0), some (.iconst 3, 1, 0, 0, 0), some (.iconst 0, 1, 0, 0, 0), some (.iconst 0, 1, 0, 0, 0), some (.invokevirtual 259, 3, 0, 178, 1538), none, none, some (.istore_n 3, 1, 0, 0, 0), some (.aload_n 0, 1, 0, 0, 0), some (.iconst 0, 1, 0, 0, 0), some (.putfield 244, 3, 11, 30, 1209), none, none, some (.aload_n 0, 1, 0, 0, 0), some (.iconst 0, 1, 0, 0, 0), some (.putfield 282, 3, 11, 37, 1216), none, none, some (.aload_n 0, 1, 0, 0, 0), some (.iconst 0, 1, 0, 0, 0), some (.putfield 324, 3, 11, 41, 1220), none, none, some (.aload_n 0, 1, 0, 0, 0), some (.iconst 0, 1, 0, 0, 0), some (.putfield 285, 3, 11, 43, 1222), none, none, some (.aload_n 0, 1, 0, 0, 0), some (.iconst 0, 1, 0, 0, 0), some (.putfield 275, 3, 11, 44, 1223), none, none, some (.iconst 0, 1, 0, 0, 0), some (.istore 4, 2, 0, 0, 0), none, some (.iload 4, 2, 0, 0, 0), none, some (.aload_n 0, 1, 0, 0, 0), some (.getfield 162, 3, 11, 7, 1186), none, none, some (.if_icmp .ge (72), 3, 0, 0, 0), none, none, some (.aload_n 0, 1, 0, 0, 0), some (.getfield 275, 3, 11, 44, 1223), none, none, some (.ifCond .ne (65), 3, 0, 0, 0), none, none, some (.aload_n 0, 1, 0, 0, 0), some (.iload 4, 2, 0, 0, 0), none, some (.invokevirtual 330, 3, 0, 179, 1542), none, none, some (.iconst 0, 1, 0, 0, 0), some (.istore 5, 2, 0, 0, 0), none, some (.iload 5, 2, 0, 0, 0), none, some (.aload_n 0, 1, 0, 0, 0), some (.getfield 285, 3, 11, 43, 1222), none, none, some (.if_icmp .ge (41), 3, 0, 0, 0), none, none, some (.aload_n 0, 1, 0, 0, 0), some (.aload_n 0, 1, 0, 0, 0), some (.getfield 275, 3, 11, 44, 1223), none, none, some (.ifCond .ne (19), 3, 0, 0, 0), none, none, some (.aload_n 0, 1, 0, 0, 0), some (.aload_n 0, 1, 0, 0, 0), some (.getfield 90, 3, 11, 42, 1221), none, none, some (.iload 5, 2, 0, 0, 0), none, some (.iaload, 1, 0, 0, 0), some (.invokevirtual 272, 3, 0, 183, 1558), none, none, some (.bipush (80), 2, 0, 0, 0), none, some (.if_icmp .le (7), 3, 0, 0, 0), none, none, some (.iconst 1, 1, 0, 0, 0), some (.goto (4), 3, 0, 0, 0), none, none, some (.iconst 0, 1, 0, 0, 0), some (.putfield 275, 3, 11, 44, 1223), none, none, some (.iinc 5 (1), 3, 0, 0, 0), none, none, some (.goto (-44), 3, 0, 0, 0), none, none, some (.iinc 4 (1), 3, 0, 0, 0), none, none, some (.goto (-75), 3, 0, 0, 0), none, none, some (.aload_n 0, 1, 0, 0, 0), some (.getfield 275, 3, 11, 44, 1223), none, none, some (.ifCond .ne (7), 3, 0, 0, 0), none, none, some (.iconst 1, 1, 0, 0, 0), some (.goto (4), 3, 0, 0, 0), none, none, some (.iconst 0, 1, 0, 0, 0), some (.ireturn, 1, 0, 0, 0)]
set_option maxRecDepth 100000 in
theorem cd177_ok : mChkAt mI177.1.cls mI177.2.1 0 cd177 = true := by decide +kernel
def cd178 : List (Option mEnt) := [some (.aload_n 0, 1, 0, 0, 0), some (.getfield 72, 3, 11, 31, 1210), none, none, some (.aload_n 0, 1, 0, 0, 0), some (.getfield 256, 3, 11, 35, 1214), none, none, some (.iload_n 1, 1, 0, 0, 0), some (.iastore, 1, 0, 0, 0), some (.aload_n 0, 1, 0, 0, 0), some (.getfield 75, 3, 11, 32, 1211), none, none, some (.aload_n 0, 1, 0, 0, 0), some (.getfield 256, 3, 11, 35, 1214), none, none, some (.iload_n 2, 1, 0, 0, 0), some (.iastore, 1, 0, 0, 0), some (.aload_n 0, 1, 0, 0, 0), some (.getfield 78, 3, 11, 33, 1212), none, none, some (.aload_n 0, 1, 0, 0, 0), some (.getfield 256, 3, 11, 35, 1214), none, none, some (.iload_n 3, 1, 0, 0, 0), some (.iastore, 1, 0, 0, 0), some (.aload_n 0, 1, 0, 0, 0), some (.getfield 81, 3, 11, 34, 1213), none, none, some (.aload_n 0, 1, 0, 0, 0), some (.getfield 256, 3, 11, 35, 1214), none, none, some (.iconst (-1), 1, 0, 0, 0), some (.iastore, 1, 0, 0, 0), some (.aload_n 0, 1, 0, 0, 0), some (.dup, 1, 0, 0, 0), some (.getfield 256, 3, 11, 35, 1214), none, none, some (.iconst 1, 1, 0, 0, 0), some (.iadd, 1, 0, 0, 0), some (.putfield 256, 3, 11, 35, 1214), none, none, some (.aload_n 0, 1, 0, 0, 0), some (.getfield 256, 3, 11, 35, 1214), none, none, some (.iconst 1, 1, 0, 0, 0), some (.isub, 1, 0, 0, 0), some (.ireturn, 1, 0, 0, 0)]
set_option maxRecDepth 100000 in
theorem cd178_ok : mChkAt mI178.1.cls mI178.2.1 0 cd178 = true := by decide +kernel
def cd179 : List (Option mEnt) := [some (.aload_n 0, 1, 0, 0, 0), some (.getfield 13, 3, 11, 4, 1183), none, none, some (.iload_n 1, 1, 0, 0, 0), some (.iaload, 1, 0, 0, 0), some (.istore_n 2, 1, 0, 0, 0), some (.aload_n 0, 1, 0, 0, 0), some (.getfield 17, 3, 11, 5, 1184), none, none, some (.iload_n 1, 1, 0, 0, 0), some (.iaload, 1, 0, 0, 0), some (.istore_n 3, 1, 0, 0, 0), some (.aload_n 0, 1, 0, 0, 0), some (.getfield 244, 3, 11, 30, 1209), none, none, some (.iconst 1, 1, 0, 0, 0), some (.isub, 1, 0, 0, 0), some (.iload_n 3, 1, 0, 0, 0), some (.isub, 1, 0, 0, 0), some (.istore 4, 2, 0, 0, 0), none, some (.iload_n 2, 1, 0, 0, 0), some (.iconst 3, 1, 0, 0, 0), some (.if_icmp .ge (11), 3, 0, 0, 0), none, none, some (.aload_n 0, 1, 0, 0, 0), some (.iload_n 2, 1, 0, 0, 0), some (.invokevirtual 303, 3, 0, 180, 1546), none, none, some (.goto (179), 3, 0, 0, 0), none, none, some (.iload_n 2, 1, 0, 0, 0), some (.iconst 3, 1, 0, 0, 0), some (.if_icmp .ne (20), 3, 0, 0, 0), none, none, some (.aload_n 0, 1, 0, 0, 0), some (.aload_n 0, 1, 0, 0, 0), some (.iconst 4, 1, 0, 0, 0), some (.aload_n 0, 1, 0, 0, 0), some (.invokevirtual 288, 3, 0, 181, 1550), none, none, some (.iconst 0, 1, 0, 0, 0), some (.invokevirtual 259, 3, 0, 178, 1538), none, none, some (.invokevirtual 303, 3, 0, 180, 1546), none, none, some (.goto (157), 3, 0, 0, 0), none, none, some (.iload_n 2, 1, 0, 0, 0), some (.iconst 4, 1, 0, 0, 0), some (.if_icmp .ne (37), 3, 0, 0, 0), none, none, some (.aload_n 0, 1, 0, 0, 0), some (.aload_n 0, 1, 0, 0, 0), some (.iconst 5, 1, 0, 0, 0), some (.iload_n 3, 1, 0, 0, 0), some (.bipush (82), 2, 0, 0, 0), none, some (.if_icmp .ne (7), 3, 0, 0, 0), none, none, some (.iconst 0, 1, 0, 0, 0), some (.goto (4), 3, 0, 0, 0), none, none, some (.iconst 2, 1, 0, 0, 0), some (.iload_n 3, 1, 0, 0, 0), some (.bipush (82), 2, 0, 0, 0), none, some (.if_icmp .ne (7), 3, 0, 0, 0), none, none, some (.iconst 2, 1, 0, 0, 0), some (.goto (4), 3, 0, 0, 0), none, none, some (.iconst 0, 1, 0, 0, 0), some (.invokevirtual 259, 3, 0, 178, 1538), none, none, some (.invokevirtual 303, 3, 0, 180, 1546), none, none, some (.goto (118), 3, 0, 0, 0), none, none, some (.iload_n 2, 1, 0, 0, 0), some (.iconst 5, 1, 0, 0, 0), some (.if_icmp .ne (41), 3, 0, 0, 0), none, none, some (.aload_n 0, 1, 0, 0, 0), some (.aload_n 0, 1, 0, 0, 0), some (.getfield 68, 3, 11, 29, 1208), none, none, some (.iload 4, 2, 0, 0, 0), none, some (.baload, 1, 0, 0, 0), some (.ifCond .eq (17), 3, 0, 0, 0), none, none, some (.aload_n 0, 1, 0, 0, 0), some (.aload_n 0, 1, 0, 0, 0), some (.getfield 65, 3, 11, 28, 1207), none, none, some (.iload 4, 2, 0, 0, 0), none, some (.iaload, 1, 0, 0, 0), some (.invokevirtual 309, 3, 0, 182, 1554), none, none, some (.goto (10), 3, 0, 0, 0), none, none, some (.aload_n 0, 1, 0, 0, 0), some (.getfield 65, 3, 11, 28, 1207), none, none, some (.iload 4, 2, 0, 0, 0), none, some (.iaload, 1, 0, 0, 0), some (.invokevirtual 303, 3, 0, 180, 1546), none, none, some (.goto (75), 3, 0, 0, 0), none, none, some (.iload_n 2, 1, 0, 0, 0), some (.bipush (7), 2, 0, 0, 0), none, some (.if_icmp .ne (30), 3, 0, 0, 0), none, none, some (.aload_n 0, 1, 0, 0, 0), some (.aload_n 0, 1, 0, 0, 0), some (.iconst 5, 1, 0, 0, 0), some (.aload_n 0, 1, 0, 0, 0), some (.getfield 65, 3, 11, 28, 1207), none, none, some (.aload_n 0, 1, 0, 0, 0), some (.getfield 244, 3, 11, 30, 1209), none, none, some (.iconst 1, 1, 0, 0, 0), some (.isub, 1, 0, 0, 0), some (.iaload, 1, 0, 0, 0), some (.aload_n 0, 1, 0, 0, 0), some (.invokevirtual 297, 3, 0, 186, 1570), none, none, some (.invokevirtual 259, 3, 0, 178, 1538), none, none, some (.invokevirtual 303, 3, 0, 180, 1546), none, none, some (.goto (42), 3, 0, 0, 0), none, none, some (.iload_n 2, 1, 0, 0, 0), some (.bipush (8), 2, 0, 0, 0), none, some (.if_icmp .ne (10), 3, 0, 0, 0), none, none, some (.aload_n 0, 1, 0, 0, 0), some (.invokevirtual 312, 3, 0, 187, 1574), none, none, some (.goto (29), 3, 0, 0, 0), none, none, some (.iload_n 2, 1, 0, 0, 0), some (.bipush (9), 2, 0, 0, 0), none, some (.if_icmp .ne (11), 3, 0, 0, 0), none, none, some (.aload_n 0, 1, 0, 0, 0), some (.iload_n 3, 1, 0, 0, 0), some (.invokevirtual 315, 3, 0, 190, 1586), none, none, some (.goto (15), 3, 0, 0, 0), none, none, some (.iload_n 2, 1, 0, 0, 0), some (.bipush (12), 2, 0, 0, 0), none, some (.if_icmp .eq (9), 3, 0, 0, 0), none, none, some (.aload_n 0, 1, 0, 0, 0), some (.iload_n 1, 1, 0, 0, 0), some (.iload_n 2, 1, 0, 0, 0), some (.invokevirtual 318, 3, 0, 192, 1594), none, none, some (.aload_n 0, 1, 0, 0, 0), some (.dup, 1, 0, 0, 0), some (.getfield 244, 3, 11, 30, 1209), none, none, some (.iload_n 2, 1, 0, 0, 0), some (.bipush (7), 2, 0, 0, 0), none, some (.if_icmp .ne (7), 3, 0, 0, 0), none, none, some (.iconst 1, 1, 0, 0, 0), some (.goto (14), 3, 0, 0, 0), none, none, some (.iload_n 2, 1, 0, 0, 0), some (.bipush (12), 2, 0, 0, 0), none, some (.if_icmp .ne (7), 3, 0, 0, 0), none, none, some (.iload_n 3, 1, 0, 0, 0), some (.goto (4), 3, 0, 0, 0), none, none, some (.iconst 0, 1, 0, 0, 0), some (.isub, 1, 0, 0, 0), some (.putfield 244, 3, 11, 30, 1209), none, none, some (.return_, 1, 0, 0, 0)]
set_option maxRecDepth 100000 in
theorem cd179_ok : mChkAt mI179.1.cls mI179.2.1 0 cd179 = true := by decide +kernel
def cd180 : List (Option mEnt) := [some (.aload_n 0, 1, 0, 0, 0), some (.getfield 84, 3, 11, 36, 1215), none, none, some (.aload_n 0, 1, 0, 0, 0), some (.getfield 282, 3, 11, 37, 1216), none, none, some (.iload_n 1, 1, 0, 0, 0), some (.iastore, 1, 0, 0, 0), some (.aload_n 0, 1, 0, 0, 0), some (.dup, 1, 0, 0, 0), some (.getfield 282, 3, 11, 37, 1216), none, none, some (.iconst 1, 1, 0, 0, 0), some (.iadd, 1, 0, 0, 0), some (.putfield 282, 3, 11, 37, 1216), none, none, some (.aload_n 0, 1, 0, 0, 0), some (.getfield 90, 3, 11, 42, 1221), none, none, some (.aload_n 0, 1, 0, 0, 0), some (.getfield 285, 3, 11, 43, 1222), none, none, some (.iload_n 1, 1, 0, 0, 0), some (.iastore, 1, 0, 0, 0), some (.aload_n 0, 1, 0, 0, 0), some (.dup, 1, 0, 0, 0), some (.getfield 285, 3, 11, 43, 1222), none, none, some (.iconst 1, 1, 0, 0, 0), some (.iadd, 1, 0, 0, 0), some (.putfield 285, 3, 11, 43, 1222), none, none, some (.return_, 1, 0, 0, 0)]
set_option maxRecDepth 100000 in
theorem cd180_ok : mChkAt mI180.1.cls mI180.2.1 0 cd180 = true := by decide +kernel
def cd181 : List (Option mEnt) := [some (.aload_n 0, 1, 0, 0, 0), some (.iconst 0, 1, 0, 0, 0), some (.iconst (-1), 1, 0, 0, 0), some (.iconst 0, 1, 0, 0, 0), some (.invokevirtual 259, 3, 0, 178, 1538), none, none, some (.ireturn, 1, 0, 0, 0)]
set_option maxRecDepth 100000 in
theorem cd181_ok : mChkAt mI181.1.cls mI181.2.1 0 cd181 = true := by decide +kernel
def cd182 : List (Option mEnt) := [some (.aload_n 0, 1, 0, 0, 0), some (.aload_n 0, 1, 0, 0, 0), some (.getfield 275, 3, 11, 44, 1223), none, none, some (.ifCond .ne (13), 3, 0, 0, 0), none, none, some (.aload_n 0, 1, 0, 0, 0), some (.iload_n 1, 1, 0, 0, 0), some (.invokevirtual 272, 3, 0, 183, 1558), none, none, some (.bipush (80), 2, 0, 0, 0), none, some (.if_icmp .le (7), 3, 0, 0, 0), none, none, some (.iconst 1, 1, 0, 0, 0), some (.goto (4), 3, 0, 0, 0), none, none, some (.iconst 0, 1, 0, 0, 0), some (.putfield 275, 3, 11, 44, 1223), none, none, some (.aload_n 0, 1, 0, 0, 0), some (.getfield 275, 3, 11, 44, 1223), none, none, some (.ifCond .eq (5), 3, 0, 0, 0), none, none, some (.iload_n 1, 1, 0, 0, 0), some (.ireturn, 1, 0, 0, 0), some (.aload_n 0, 1, 0, 0, 0), some (.iconst 0, 1, 0, 0, 0), some (.putfield 291, 3, 11, 39, 1218), none, none, some (.aload_n 0, 1, 0, 0, 0), some (.iload_n 1, 1, 0, 0, 0), some (.invokevirtual 294, 3, 0, 185, 1566), none, none, some (.istore_n 2, 1, 0, 0, 0), some (.iconst 0, 1, 0, 0, 0), some (.istore_n 3, 1, 0, 0, 0), some (.iload_n 3, 1, 0, 0, 0), some (.aload_n 0, 1, 0, 0, 0), some (.getfield 291, 3, 11, 39, 1218), none, none, some (.if_icmp .ge (84), 3, 0, 0, 0), none, none, some (.aload_n 0, 1, 0, 0, 0), some (.getfield 96, 3, 11, 47, 1226), none, none, some (.iload_n 3, 1, 0, 0, 0), some (.iaload, 1, 0, 0, 0), some (.istore 4, 2, 0, 0, 0), none, some (.aload_n 0, 1, 0, 0, 0), some (.getfield 81, 3, 11, 34, 1213), none, none, some (.iload 4, 2, 0, 0, 0), none, some (.iaload, 1, 0, 0, 0), some (.istore 5, 2, 0, 0, 0), none, some (.aload_n 0, 1, 0, 0, 0), some (.getfield 72, 3, 11, 31, 1210), none, none, some (.iload 4, 2, 0, 0, 0), none, some (.iaload, 1, 0, 0, 0), some (.iconst 3, 1, 0, 0, 0), some (.if_icmp .le (21), 3, 0, 0, 0), none, none, some (.aload_n 0, 1, 0, 0, 0), some (.getfield 75, 3, 11, 32, 1211), none, none, some (.iload 5, 2, 0, 0, 0), none, some (.aload_n 0, 1, 0, 0, 0), some (.aload_n 0, 1, 0, 0, 0), some (.getfield 75, 3, 11, 32, 1211), none, none, some (.iload 4, 2, 0, 0, 0), none, some (.iaload, 1, 0, 0, 0), some (.invokevirtual 294, 3, 0, 185, 1566), none, none, some (.iastore, 1, 0, 0, 0), some (.aload_n 0, 1, 0, 0, 0), some (.getfield 72, 3, 11, 31, 1210), none, none, some (.iload 4, 2, 0, 0, 0), none, some (.iaload, 1, 0, 0, 0), some (.iconst 5, 1, 0, 0, 0), some (.if_icmp .ne (21), 3, 0, 0, 0), none, none, some (.aload_n 0, 1, 0, 0, 0), some (.getfield 78, 3, 11, 33, 1212), none, none, some (.iload 5, 2, 0, 0, 0), none, some (.aload_n 0, 1, 0, 0, 0), some (.aload_n 0, 1, 0, 0, 0), some (.getfield 78, 3, 11, 33, 1212), none, none, some (.iload 4, 2, 0, 0, 0), none, some (.iaload, 1, 0, 0, 0), some (.invokevirtual 294, 3, 0, 185, 1566), none, none, some (.iastore, 1, 0, 0, 0), some (.iinc 3 (1), 3, 0, 0, 0), none, none, some (.goto (-86), 3, 0, 0, 0), none, none, some (.iconst 0, 1, 0, 0, 0), some (.istore_n 3, 1, 0, 0, 0), some (.iload_n 3, 1, 0, 0, 0), some (.aload_n 0, 1, 0, 0, 0), some (.getfield 291, 3, 11, 39, 1218), none, none, some (.if_icmp .ge (21), 3, 0, 0, 0), none, none, some (.aload_n 0, 1, 0, 0, 0), some (.getfield 81, 3, 11, 34, 1213), none, none, some (.aload_n 0, 1, 0, 0, 0), some (.getfield 96, 3, 11, 47, 1226), none, none, some (.iload_n 3, 1, 0, 0, 0), some (.iaload, 1, 0, 0, 0), some (.iconst (-1), 1, 0, 0, 0), some (.iastore, 1, 0, 0, 0), some (.iinc 3 (1), 3, 0, 0, 0), none, none, some (.goto (-23), 3, 0, 0, 0), none, none, some (.iload_n 2, 1, 0, 0, 0), some (.ireturn, 1, 0, 0, 0)]
set_option maxRecDepth 100000 in
theorem cd182_ok : mChkAt mI182.1.cls mI182.2.1 0 cd182 = true := by decide +kernel
def cd183 : List (Option mEnt) := [some (.iconst 0, 1, 0, 0, 0), some (.istore_n 2, 1, 0, 0, 0), some (.iconst 1, 1, 0, 0, 0), some (.istore_n 3, 1, 0, 0, 0), some (.aload_n 0, 1, 0, 0, 0), some (.iconst 0, 1, 0, 0, 0), some (.putfield 263, 3, 11, 45, 1224), none, none, some (.aload_n 0, 1, 0, 0, 0), some (.getfield 93, 3, 11, 46, 1225), none, none, some (.iconst 0, 1, 0, 0, 0), some (.iload_n 1, 1, 0, 0, 0), some (.iastore, 1, 0, 0, 0), some (.iload_n 3, 1, 0, 0, 0), some (.ifCond .le (141), 3, 0, 0, 0), none, none, some (.iload_n 2, 1, 0, 0, 0), some (.bipush (81), 2, 0, 0, 0), none, some (.if_icmp .ge (135), 3, 0, 0, 0), none, none, some (.iinc 3 (-1), 3, 0, 0, 0), none, none, some (.aload_n 0, 1, 0, 0, 0), some (.aload_n 0, 1, 0, 0, 0), some (.getfield 93, 3, 11, 46, 1225), none, none, some (.iload_n 3, 1, 0, 0, 0), some (.iaload, 1, 0, 0, 0), some (.invokevirtual 266, 3, 0, 184, 1562), none, none, some (.istore 4, 2, 0, 0, 0), none, some (.aload_n 0, 1, 0, 0, 0), some (.aload_n 0, 1, 0, 0, 0), some (.getfield 263, 3, 11, 45, 1224), none, none, some (.ifCond .ne (12), 3, 0, 0, 0), none, none, some (.iload 4, 2, 0, 0, 0), none, some (.aload_n 0, 1, 0, 0, 0), some (.getfield 269, 3, 11, 38, 1217), none, none, some (.if_icmp .ne (7), 3, 0, 0, 0), none, none, some (.iconst 1, 1, 0, 0, 0), some (.goto (4), 3, 0, 0, 0), none, none, some (.iconst 0, 1, 0, 0, 0), some (.putfield 263, 3, 11, 45, 1224), none, none, some (.iload_n 2, 1, 0, 0, 0), some (.aload_n 0, 1, 0, 0, 0), some (.getfield 72, 3, 11, 31, 1210), none, none, some (.iload 4, 2, 0, 0, 0), none, some (.iaload, 1, 0, 0, 0), some (.iconst 4, 1, 0, 0, 0), some (.if_icmp .ne (7), 3, 0, 0, 0), none, none, some (.iconst 2, 1, 0, 0, 0), some (.goto (19), 3, 0, 0, 0), none, none, some (.aload_n 0, 1, 0, 0, 0), some (.getfield 72, 3, 11, 31, 1210), none, none, some (.iload 4, 2, 0, 0, 0), none, some (.iaload, 1, 0, 0, 0), some (.iconst 5, 1, 0, 0, 0), some (.if_icmp .ne (7), 3, 0, 0, 0), none, none, some (.iconst 3, 1, 0, 0, 0), some (.goto (4), 3, 0, 0, 0), none, none, some (.iconst 1, 1, 0, 0, 0), some (.iadd, 1, 0, 0, 0), some (.istore_n 2, 1, 0, 0, 0), some (.aload_n 0, 1, 0, 0, 0), some (.getfield 93, 3, 11, 46, 1225), none, none, some (.iload_n 3, 1, 0, 0, 0), some (.aload_n 0, 1, 0, 0, 0), some (.getfield 75, 3, 11, 32, 1211), none, none, some (.iload 4, 2, 0, 0, 0), none, some (.iaload, 1, 0, 0, 0), some (.iastore, 1, 0, 0, 0), some (.aload_n 0, 1, 0, 0, 0), some (.getfield 93, 3, 11, 46, 1225), none, none, some (.iload_n 3, 1, 0, 0, 0), some (.iconst 1, 1, 0, 0, 0), some (.iadd, 1, 0, 0, 0), some (.aload_n 0, 1, 0, 0, 0), some (.getfield 78, 3, 11, 33, 1212), none, none, some (.iload 4, 2, 0, 0, 0), none, some (.iaload, 1, 0, 0, 0), some (.iastore, 1, 0, 0, 0), some (.iload_n 3, 1, 0, 0, 0), some (.aload_n 0, 1, 0, 0, 0), some (.getfield 72, 3, 11, 31, 1210), none, none, some (.iload 4, 2, 0, 0, 0), none, some (.iaload, 1, 0, 0, 0), some (.iconst 3, 1, 0, 0, 0), some (.if_icmp .le (15), 3, 0, 0, 0), none, none, some (.aload_n 0, 1, 0, 0, 0), some (.getfield 72, 3, 11, 31, 1210), none, none, some (.iload 4, 2, 0, 0, 0), none, some (.iaload, 1, 0, 0, 0), some (.iconst 3, 1, 0, 0, 0), some (.isub, 1, 0, 0, 0), some (.goto (4), 3, 0, 0, 0), none, none, some (.iconst 0, 1, 0, 0, 0), some (.iadd, 1, 0, 0, 0), some (.istore_n 3, 1, 0, 0, 0), some (.goto (-139), 3, 0, 0, 0), none, none, some (.iload_n 2, 1, 0, 0, 0), some (.ireturn, 1, 0, 0, 0)]
set_option maxRecDepth 100000 in
theorem cd183_ok : mChkAt mI183.1.cls mI183.2.1 0 cd183 = true := by decide +kernel
def cd184 : List (Option mEnt) := [some (.iload_n 1, 1, 0, 0, 0), some (.istore_n 2, 1, 0, 0, 0), some (.aload_n 0, 1, 0, 0, 0), some (.getfield 72, 3, 11, 31, 1210), none, none, some (.iload_n 2, 1, 0, 0, 0), some (.iaload, 1, 0, 0, 0), some (.ifCond .ne (22), 3, 0, 0, 0), none, none, some (.aload_n 0, 1, 0, 0, 0), some (.getfield 75, 3, 11, 32, 1211), none, none, some (.iload_n 2, 1, 0, 0, 0), some (.iaload, 1, 0, 0, 0), some (.ifCond .lt (13), 3, 0, 0, 0), none, none, some (.aload_n 0, 1, 0, 0, 0), some (.getfield 75, 3, 11, 32, 1211), none, none, some (.iload_n 2, 1, 0, 0, 0), some (.iaload, 1, 0, 0, 0), some (.istore_n 2, 1, 0, 0, 0), some (.goto (-25), 3, 0, 0, 0), none, none, some (.iload_n 2, 1, 0, 0, 0), some (.ireturn, 1, 0, 0, 0)]
set_option maxRecDepth 100000 in
theorem cd184_ok : mChkAt mI184.1.cls mI184.2.1 0 cd184 = true := by decide +kernel
def cd185 : List (Option mEnt) := [some (.aload_n 0, 1, 0, 0, 0), some (.iload_n 1, 1, 0, 0, 0), some (.invokevirtual 266, 3, 0, 184, 1562), none, none, some (.istore_n 2, 1, 0, 0, 0), some (.aload_n 0, 1, 0, 0, 0), some (.getfield 72, 3, 11, 31, 1210), none, none, some (.iload_n 2, 1, 0, 0, 0), some (.iaload, 1, 0, 0, 0), some (.ifCond .le (13), 3, 0, 0, 0), none, none, some (.aload_n 0, 1, 0, 0, 0), some (.getfield 72, 3, 11, 31, 1210), none, none, some (.iload_n 2, 1, 0, 0, 0), some (.iaload, 1, 0, 0, 0), some (.iconst 4, 1, 0, 0, 0), some (.if_icmp .lt (21), 3, 0, 0, 0), none, none, some (.aload_n 0, 1, 0, 0, 0), some (.getfield 72, 3, 11, 31, 1210), none, none, some (.iload_n 2, 1, 0, 0, 0), some (.iaload, 1, 0, 0, 0), some (.ifCond .ne (14), 3, 0, 0, 0), none, none, some (.aload_n 0, 1, 0, 0, 0), some (.getfield 78, 3, 11, 33, 1212), none, none, some (.iload_n 2, 1, 0, 0, 0), some (.iaload, 1, 0, 0, 0), some (.ifCond .ne (5), 3, 0, 0, 0), none, none, some (.iload_n 2, 1, 0, 0, 0), some (.ireturn, 1, 0, 0, 0), some (.aload_n 0, 1, 0, 0, 0), some (.getfield 81, 3, 11, 34, 1213), none, none, some (.iload_n 2, 1, 0, 0, 0), some (.iaload, 1, 0, 0, 0), some (.ifCond .ge (67), 3, 0, 0, 0), none, none, some (.aload_n 0, 1, 0, 0, 0), some (.getfield 81, 3, 11, 34, 1213), none, none, some (.iload_n 2, 1, 0, 0, 0), some (.aload_n 0, 1, 0, 0, 0), some (.getfield 72, 3, 11, 31, 1210), none, none, some (.iload_n 2, 1, 0, 0, 0), some (.iaload, 1, 0, 0, 0), some (.ifCond .ne (10), 3, 0, 0, 0), none, none, some (.aload_n 0, 1, 0, 0, 0), some (.invokevirtual 288, 3, 0, 181, 1550), none, none, some (.goto (25), 3, 0, 0, 0), none, none, some (.aload_n 0, 1, 0, 0, 0), some (.aload_n 0, 1, 0, 0, 0), some (.getfield 72, 3, 11, 31, 1210), none, none, some (.iload_n 2, 1, 0, 0, 0), some (.iaload, 1, 0, 0, 0), some (.aload_n 0, 1, 0, 0, 0), some (.getfield 75, 3, 11, 32, 1211), none, none, some (.iload_n 2, 1, 0, 0, 0), some (.iaload, 1, 0, 0, 0), some (.aload_n 0, 1, 0, 0, 0), some (.getfield 78, 3, 11, 33, 1212), none, none, some (.iload_n 2, 1, 0, 0, 0), some (.iaload, 1, 0, 0, 0), some (.invokevirtual 259, 3, 0, 178, 1538), none, none, some (.iastore, 1, 0, 0, 0), some (.aload_n 0, 1, 0, 0, 0), some (.getfield 96, 3, 11, 47, 1226), none, none, some (.aload_n 0, 1, 0, 0, 0), some (.getfield 291, 3, 11, 39, 1218), none, none, some (.iload_n 2, 1, 0, 0, 0), some (.iastore, 1, 0, 0, 0), some (.aload_n 0, 1, 0, 0, 0), some (.dup, 1, 0, 0, 0), some (.getfield 291, 3, 11, 39, 1218), none, none, some (.iconst 1, 1, 0, 0, 0), some (.iadd, 1, 0, 0, 0), some (.putfield 291, 3, 11, 39, 1218), none, none, some (.aload_n 0, 1, 0, 0, 0), some (.getfield 81, 3, 11, 34, 1213), none, none, some (.iload_n 2, 1, 0, 0, 0), some (.iaload, 1, 0, 0, 0), some (.ireturn, 1, 0, 0, 0)]
set_option maxRecDepth 100000 in
theorem cd185_ok : mChkAt mI185.1.cls mI185.2.1 0 cd185 = true := by decide +kernel
end
section
def cd186 : List (Option mEnt) := [some (.aload_n 0, 1, 0, 0, 0), some (.dup, 1, 0, 0, 0), some (.getfield 282, 3, 11, 37, 1216), none, none, some (.iconst 1, 1, 0, 0, 0), some (.isub, 1, 0, 0, 0), some (.putfield 282, 3, 11, 37, 1216), none, none, some (.aload_n 0, 1, 0, 0, 0), some (.getfield 84, 3, 11, 36, 1215), none, none, some (.aload_n 0, 1, 0, 0, 0), some (.getfield 282, 3, 11, 37, 1216), none, none, some (.iaload, 1, 0, 0, 0), some (.ireturn, 1, 0, 0, 0)]
set_option maxRecDepth 100000 in
theorem cd186_ok : mChkAt mI186.1.cls mI186.2.1 0 cd186 = true := by decide +kernel
def cd187 : List (Option mEnt) := [some (.aload_n 0, 1, 0, 0, 0), some (.invokevirtual 297, 3, 0, 186, 1570), none, none, some (.istore_n 1, 1, 0, 0, 0), some (.aload_n 0, 1, 0, 0, 0), some (.invokevirtual 288, 3, 0, 181, 1550), none, none, some (.istore_n 2, 1, 0, 0, 0), some (.aload_n 0, 1, 0, 0, 0), some (.aload_n 0, 1, 0, 0, 0), some (.invokevirtual 297, 3, 0, 186, 1570), none, none, some (.aload_n 0, 1, 0, 0, 0), some (.iconst 5, 1, 0, 0, 0), some (.iload_n 1, 1, 0, 0, 0), some (.iload_n 2, 1, 0, 0, 0), some (.invokevirtual 259, 3, 0, 178, 1538), none, none, some (.invokevirtual 300, 3, 0, 188, 1578), none, none, some (.aload_n 0, 1, 0, 0, 0), some (.iload_n 2, 1, 0, 0, 0), some (.invokevirtual 303, 3, 0, 180, 1546), none, none, some (.return_, 1, 0, 0, 0)]
set_option maxRecDepth 100000 in
theorem cd187_ok : mChkAt mI187.1.cls mI187.2.1 0 cd187 = true := by decide +kernel
def cd188 : List (Option mEnt) := [some (.iconst 2, 1, 0, 0, 0), some (.istore_n 3, 1, 0, 0, 0), some (.aload_n 0, 1, 0, 0, 0), some (.getfield 96, 3, 11, 47, 1226), none, none, some (.iconst 0, 1, 0, 0, 0), some (.iload_n 1, 1, 0, 0, 0), some (.iastore, 1, 0, 0, 0), some (.aload_n 0, 1, 0, 0, 0), some (.getfield 96, 3, 11, 47, 1226), none, none, some (.iconst 1, 1, 0, 0, 0), some (.iload_n 2, 1, 0, 0, 0), some (.iastore, 1, 0, 0, 0), some (.iload_n 3, 1, 0, 0, 0), some (.ifCond .le (312), 3, 0, 0, 0), none, none, some (.aload_n 0, 1, 0, 0, 0), some (.getfield 275, 3, 11, 44, 1223), none, none, some (.ifCond .ne (305), 3, 0, 0, 0), none, none, some (.iinc 3 (-2), 3, 0, 0, 0), none, none, some (.aload_n 0, 1, 0, 0, 0), some (.aload_n 0, 1, 0, 0, 0), some (.getfield 96, 3, 11, 47, 1226), none, none, some (.iload_n 3, 1, 0, 0, 0), some (.iaload, 1, 0, 0, 0), some (.invokevirtual 266, 3, 0, 184, 1562), none, none, some (.istore 4, 2, 0, 0, 0), none, some (.aload_n 0, 1, 0, 0, 0), some (.aload_n 0, 1, 0, 0, 0), some (.getfield 96, 3, 11, 47, 1226), none, none, some (.iload_n 3, 1, 0, 0, 0), some (.iconst 1, 1, 0, 0, 0), some (.iadd, 1, 0, 0, 0), some (.iaload, 1, 0, 0, 0), some (.invokevirtual 266, 3, 0, 184, 1562), none, none, some (.istore 5, 2, 0, 0, 0), none, some (.iload 4, 2, 0, 0, 0), none, some (.iload 5, 2, 0, 0, 0), none, some (.if_icmp .eq (266), 3, 0, 0, 0), none, none, some (.aload_n 0, 1, 0, 0, 0), some (.aload_n 0, 1, 0, 0, 0), some (.iload 4, 2, 0, 0, 0), none, some (.invokevirtual 272, 3, 0, 183, 1558), none, none, some (.bipush (80), 2, 0, 0, 0), none, some (.if_icmp .gt (14), 3, 0, 0, 0), none, none, some (.aload_n 0, 1, 0, 0, 0), some (.iload 5, 2, 0, 0, 0), none, some (.invokevirtual 272, 3, 0, 183, 1558), none, none, some (.bipush (80), 2, 0, 0, 0), none, some (.if_icmp .le (7), 3, 0, 0, 0), none, none, some (.iconst 1, 1, 0, 0, 0), some (.goto (4), 3, 0, 0, 0), none, none, some (.iconst 0, 1, 0, 0, 0), some (.putfield 275, 3, 11, 44, 1223), none, none, some (.aload_n 0, 1, 0, 0, 0), some (.getfield 72, 3, 11, 31, 1210), none, none, some (.iload 4, 2, 0, 0, 0), none, some (.iaload, 1, 0, 0, 0), some (.ifCond .eq (13), 3, 0, 0, 0), none, none, some (.aload_n 0, 1, 0, 0, 0), some (.getfield 72, 3, 11, 31, 1210), none, none, some (.iload 5, 2, 0, 0, 0), none, some (.iaload, 1, 0, 0, 0), some (.ifCond .ne (94), 3, 0, 0, 0), none, none, some (.aload_n 0, 1, 0, 0, 0), some (.getfield 72, 3, 11, 31, 1210), none, none, some (.iload 4, 2, 0, 0, 0), none, some (.iaload, 1, 0, 0, 0), some (.ifCond .ne (8), 3, 0, 0, 0), none, none, some (.iload 4, 2, 0, 0, 0), none, some (.goto (5), 3, 0, 0, 0), none, none, some (.iload 5, 2, 0, 0, 0), none, some (.istore 6, 2, 0, 0, 0), none, some (.iload 6, 2, 0, 0, 0), none, some (.iload 4, 2, 0, 0, 0), none, some (.if_icmp .ne (8), 3, 0, 0, 0), none, none, some (.iload 5, 2, 0, 0, 0), none, some (.goto (5), 3, 0, 0, 0), none, none, some (.iload 4, 2, 0, 0, 0), none, some (.istore 7, 2, 0, 0, 0), none, some (.aload_n 0, 1, 0, 0, 0), some (.aload_n 0, 1, 0, 0, 0), some (.getfield 275, 3, 11, 44, 1223), none, none, some (.ifCond .ne (14), 3, 0, 0, 0), none, none, some (.aload_n 0, 1, 0, 0, 0), some (.iload 6, 2, 0, 0, 0), none, some (.iload 7, 2, 0, 0, 0), none, some (.invokevirtual 278, 3, 0, 189, 1582), none, none, some (.ifCond .eq (7), 3, 0, 0, 0), none, none, some (.iconst 1, 1, 0, 0, 0), some (.goto (4), 3, 0, 0, 0), none, none, some (.iconst 0, 1, 0, 0, 0), some (.putfield 275, 3, 11, 44, 1223), none, none, some (.aload_n 0, 1, 0, 0, 0), some (.getfield 75, 3, 11, 32, 1211), none, none, some (.iload 6, 2, 0, 0, 0), none, some (.aload_n 0, 1, 0, 0, 0), some (.getfield 275, 3, 11, 44, 1223), none, none, some (.ifCond .eq (13), 3, 0, 0, 0), none, none, some (.aload_n 0, 1, 0, 0, 0), some (.getfield 75, 3, 11, 32, 1211), none, none, some (.iload 6, 2, 0, 0, 0), none, some (.iaload, 1, 0, 0, 0), some (.goto (5), 3, 0, 0, 0), none, none, some (.iload 7, 2, 0, 0, 0), none, some (.iastore, 1, 0, 0, 0), some (.goto (124), 3, 0, 0, 0), none, none, some (.aload_n 0, 1, 0, 0, 0), some (.aload_n 0, 1, 0, 0, 0), some (.getfield 275, 3, 11, 44, 1223), none, none, some (.ifCond .ne (20), 3, 0, 0, 0), none, none, some (.aload_n 0, 1, 0, 0, 0), some (.getfield 72, 3, 11, 31, 1210), none, none, some (.iload 4, 2, 0, 0, 0), none, some (.iaload, 1, 0, 0, 0), some (.aload_n 0, 1, 0, 0, 0), some (.getfield 72, 3, 11, 31, 1210), none, none, some (.iload 5, 2, 0, 0, 0), none, some (.iaload, 1, 0, 0, 0), some (.if_icmp .eq (7), 3, 0, 0, 0), none, none, some (.iconst 1, 1, 0, 0, 0), some (.goto (4), 3, 0, 0, 0), none, none, some (.iconst 0, 1, 0, 0, 0), some (.putfield 275, 3, 11, 44, 1223), none, none, some (.aload_n 0, 1, 0, 0, 0), some (.getfield 96, 3, 11, 47, 1226), none, none, some (.iload_n 3, 1, 0, 0, 0), some (.aload_n 0, 1, 0, 0, 0), some (.getfield 75, 3, 11, 32, 1211), none, none, some (.iload 4, 2, 0, 0, 0), none, some (.iaload, 1, 0, 0, 0), some (.iastore, 1, 0, 0, 0), some (.aload_n 0, 1, 0, 0, 0), some (.getfield 96, 3, 11, 47, 1226), none, none, some (.iload_n 3, 1, 0, 0, 0), some (.iconst 1, 1, 0, 0, 0), some (.iadd, 1, 0, 0, 0), some (.aload_n 0, 1, 0, 0, 0), some (.getfield 75, 3, 11, 32, 1211), none, none, some (.iload 5, 2, 0, 0, 0), none, some (.iaload, 1, 0, 0, 0), some (.iastore, 1, 0, 0, 0), some (.aload_n 0, 1, 0, 0, 0), some (.getfield 96, 3, 11, 47, 1226), none, none, some (.iload_n 3, 1, 0, 0, 0), some (.iconst 2, 1, 0, 0, 0), some (.iadd, 1, 0, 0, 0), some (.aload_n 0, 1, 0, 0, 0), some (.getfield 78, 3, 11, 33, 1212), none, none, some (.iload 4, 2, 0, 0, 0), none, some (.iaload, 1, 0, 0, 0), some (.iastore, 1, 0, 0, 0), some (.aload_n 0, 1, 0, 0, 0), some (.getfield 96, 3, 11, 47, 1226), none, none, some (.iload_n 3, 1, 0, 0, 0), some (.iconst 3, 1, 0, 0, 0), some (.iadd, 1, 0, 0, 0), some (.aload_n 0, 1, 0, 0, 0), some (.getfield 78, 3, 11, 33, 1212), none, none, some (.iload 5, 2, 0, 0, 0), none, some (.iaload, 1, 0, 0, 0), some (.iastore, 1, 0, 0, 0), some (.iload_n 3, 1, 0, 0, 0), some (.aload_n 0, 1, 0, 0, 0), some (.getfield 72, 3, 11, 31, 1210), none, none, some (.iload 4, 2, 0, 0, 0), none, some (.iaload, 1, 0, 0, 0), some (.iconst 3, 1, 0, 0, 0), some (.if_icmp .le (18), 3, 0, 0, 0), none, none, some (.iconst 2, 1, 0, 0, 0), some (.aload_n 0, 1, 0, 0, 0), some (.getfield 72, 3, 11, 31, 1210), none, none, some (.iload 4, 2, 0, 0, 0), none, some (.iaload, 1, 0, 0, 0), some (.imul, 1, 0, 0, 0), some (.bipush (6), 2, 0, 0, 0), none, some (.isub, 1, 0, 0, 0), some (.goto (4), 3, 0, 0, 0), none, none, some (.iconst 0, 1, 0, 0, 0), some (.iadd, 1, 0, 0, 0), some (.istore_n 3, 1, 0, 0, 0), some (.goto (-310), 3, 0, 0, 0), none, none, some (.return_, 1, 0, 0, 0)]
set_option maxRecDepth 100000 in
theorem cd188_ok : mChkAt mI188.1.cls mI188.2.1 0 cd188 = true := by decide +kernel
def cd189 : List (Option mEnt) := [some (.aload_n 0, 1, 0, 0, 0), some (.iload_n 1, 1, 0, 0, 0), some (.putfield 269, 3, 11, 38, 1217), none, none, some (.aload_n 0, 1, 0, 0, 0), some (.iload_n 2, 1, 0, 0, 0), some (.invokevirtual 272, 3, 0, 183, 1558), none, none, some (.ifCond .lt (10), 3, 0, 0, 0), none, none, some (.aload_n 0, 1, 0, 0, 0), some (.getfield 263, 3, 11, 45, 1224), none, none, some (.ifCond .eq (7), 3, 0, 0, 0), none, none, some (.iconst 1, 1, 0, 0, 0), some (.goto (4), 3, 0, 0, 0), none, none, some (.iconst 0, 1, 0, 0, 0), some (.ireturn, 1, 0, 0, 0)]
set_option maxRecDepth 100000 in
theorem cd189_ok : mChkAt mI189.1.cls mI189.2.1 0 cd189 = true := by decide +kernel
def cd190 : List (Option mEnt) := [some (.aload_n 0, 1, 0, 0, 0), some (.invokevirtual 297, 3, 0, 186, 1570), none, none, some (.istore_n 2, 1, 0, 0, 0), some (.iload_n 1, 1, 0, 0, 0), some (.bipush (44), 2, 0, 0, 0), none, some (.if_icmp .ne (26), 3, 0, 0, 0), none, none, some (.aload_n 0, 1, 0, 0, 0), some (.iconst 4, 1, 0, 0, 0), some (.aload_n 0, 1, 0, 0, 0), some (.invokevirtual 297, 3, 0, 186, 1570), none, none, some (.iconst 0, 1, 0, 0, 0), some (.invokevirtual 259, 3, 0, 178, 1538), none, none, some (.istore_n 3, 1, 0, 0, 0), some (.aload_n 0, 1, 0, 0, 0), some (.iload_n 2, 1, 0, 0, 0), some (.iload_n 3, 1, 0, 0, 0), some (.invokevirtual 300, 3, 0, 188, 1578), none, none, some (.aload_n 0, 1, 0, 0, 0), some (.iload_n 3, 1, 0, 0, 0), some (.invokevirtual 303, 3, 0, 180, 1546), none, none, some (.return_, 1, 0, 0, 0), some (.aload_n 0, 1, 0, 0, 0), some (.iload_n 2, 1, 0, 0, 0), some (.aload_n 0, 1, 0, 0, 0), some (.iload_n 1, 1, 0, 0, 0), some (.invokevirtual 306, 3, 0, 191, 1590), none, none, some (.invokevirtual 300, 3, 0, 188, 1578), none, none, some (.iload_n 1, 1, 0, 0, 0), some (.bipush (126), 2, 0, 0, 0), none, some (.if_icmp .eq (16), 3, 0, 0, 0), none, none, some (.aload_n 0, 1, 0, 0, 0), some (.aload_n 0, 1, 0, 0, 0), some (.invokevirtual 297, 3, 0, 186, 1570), none, none, some (.aload_n 0, 1, 0, 0, 0), some (.iload_n 1, 1, 0, 0, 0), some (.invokevirtual 306, 3, 0, 191, 1590), none, none, some (.invokevirtual 300, 3, 0, 188, 1578), none, none, some (.aload_n 0, 1, 0, 0, 0), some (.iload_n 1, 1, 0, 0, 0), some (.bipush (61), 2, 0, 0, 0), none, some (.if_icmp .eq (13), 3, 0, 0, 0), none, none, some (.iload_n 1, 1, 0, 0, 0), some (.sipush (128), 3, 0, 0, 0), none, none, some (.irem, 1, 0, 0, 0), some (.bipush (60), 2, 0, 0, 0), none, some (.if_icmp .ne (7), 3, 0, 0, 0), none, none, some (.iconst 1, 1, 0, 0, 0), some (.goto (8), 3, 0, 0, 0), none, none, some (.aload_n 0, 1, 0, 0, 0), some (.iload_n 1, 1, 0, 0, 0), some (.invokevirtual 306, 3, 0, 191, 1590), none, none, some (.invokevirtual 303, 3, 0, 180, 1546), none, none, some (.return_, 1, 0, 0, 0)]
set_option maxRecDepth 100000 in
theorem cd190_ok : mChkAt mI190.1.cls mI190.2.1 0 cd190 = true := by decide +kernel
def cd191 : List (Option mEnt) := [some (.iload_n 1, 1, 0, 0, 0), some (.bipush (126), 2, 0, 0, 0), none, some (.if_icmp .eq (10), 3, 0, 0, 0), none, none, some (.iload_n 1, 1, 0, 0, 0), some (.sipush (128), 3, 0, 0, 0), none, none, some (.if_icmp .le (7), 3, 0, 0, 0), none, none, some (.iconst 2, 1, 0, 0, 0), some (.goto (4), 3, 0, 0, 0), none, none, some (.iconst 0, 1, 0, 0, 0), some (.ireturn, 1, 0, 0, 0)]
set_option maxRecDepth 100000 in
theorem cd191_ok : mChkAt mI191.1.cls mI191.2.1 0 cd191 = true := by decide +kernel
def cd192 : List (Option mEnt) := [some (.iload_n 2, 1, 0, 0, 0), some (.bipush (6), 2, 0, 0, 0), none, some (.if_icmp .eq (9), 3, 0, 0, 0), none, none, some (.iload_n 2, 1, 0, 0, 0), some (.bipush (19), 2, 0, 0, 0), none, some (.if_icmp .ne (20), 3, 0, 0, 0), none, none, some (.aload_n 0, 1, 0, 0, 0), some (.aload_n 0, 1, 0, 0, 0), some (.getfield 20, 3, 11, 6, 1185), none, none, some (.iload_n 1, 1, 0, 0, 0), some (.iaload, 1, 0, 0, 0), some (.aload_n 0, 1, 0, 0, 0), some (.invokevirtual 288, 3, 0, 181, 1550), none, none, some (.invokevirtual 247, 3, 0, 175, 1526), none, none, some (.goto (262), 3, 0, 0, 0), none, none, some (.iload_n 2, 1, 0, 0, 0), some (.bipush (10), 2, 0, 0, 0), none, some (.if_icmp .ne (39), 3, 0, 0, 0), none, none, some (.aload_n 0, 1, 0, 0, 0), some (.invokevirtual 297, 3, 0, 186, 1570), none, none, some (.istore_n 3, 1, 0, 0, 0), some (.aload_n 0, 1, 0, 0, 0), some (.iload_n 3, 1, 0, 0, 0), some (.invokevirtual 321, 3, 0, 193, 1598), none, none, some (.aload_n 0, 1, 0, 0, 0), some (.aload_n 0, 1, 0, 0, 0), some (.getfield 20, 3, 11, 6, 1185), none, none, some (.iload_n 1, 1, 0, 0, 0), some (.iaload, 1, 0, 0, 0), some (.iload_n 3, 1, 0, 0, 0), some (.invokevirtual 247, 3, 0, 175, 1526), none, none, some (.aload_n 0, 1, 0, 0, 0), some (.getfield 68, 3, 11, 29, 1208), none, none, some (.aload_n 0, 1, 0, 0, 0), some (.getfield 244, 3, 11, 30, 1209), none, none, some (.iconst 1, 1, 0, 0, 0), some (.isub, 1, 0, 0, 0), some (.iconst 1, 1, 0, 0, 0), some (.bastore, 1, 0, 0, 0), some (.goto (220), 3, 0, 0, 0), none, none, some (.iload_n 2, 1, 0, 0, 0), some (.bipush (11), 2, 0, 0, 0), none, some (.if_icmp .ne (44), 3, 0, 0, 0), none, none, some (.aload_n 0, 1, 0, 0, 0), some (.getfield 65, 3, 11, 28, 1207), none, none, some (.aload_n 0, 1, 0, 0, 0), some (.getfield 244, 3, 11, 30, 1209), none, none, some (.iconst 1, 1, 0, 0, 0), some (.isub, 1, 0, 0, 0), some (.iaload, 1, 0, 0, 0), some (.istore_n 3, 1, 0, 0, 0), some (.aload_n 0, 1, 0, 0, 0), some (.iload_n 3, 1, 0, 0, 0), some (.aload_n 0, 1, 0, 0, 0), some (.invokevirtual 297, 3, 0, 186, 1570), none, none, some (.invokevirtual 300, 3, 0, 188, 1578), none, none, some (.aload_n 0, 1, 0, 0, 0), some (.getfield 68, 3, 11, 29, 1208), none, none, some (.aload_n 0, 1, 0, 0, 0), some (.getfield 244, 3, 11, 30, 1209), none, none, some (.iconst 1, 1, 0, 0, 0), some (.isub, 1, 0, 0, 0), some (.iconst 1, 1, 0, 0, 0), some (.bastore, 1, 0, 0, 0), some (.aload_n 0, 1, 0, 0, 0), some (.iload_n 3, 1, 0, 0, 0), some (.invokevirtual 321, 3, 0, 193, 1598), none, none, some (.goto (173), 3, 0, 0, 0), none, none, some (.iload_n 2, 1, 0, 0, 0), some (.bipush (13), 2, 0, 0, 0), none, some (.if_icmp .eq (9), 3, 0, 0, 0), none, none, some (.iload_n 2, 1, 0, 0, 0), some (.bipush (15), 2, 0, 0, 0), none, some (.if_icmp .ne (58), 3, 0, 0, 0), none, none, some (.aload_n 0, 1, 0, 0, 0), some (.invokevirtual 297, 3, 0, 186, 1570), none, none, some (.istore_n 3, 1, 0, 0, 0), some (.iload_n 2, 1, 0, 0, 0), some (.bipush (13), 2, 0, 0, 0), none, some (.if_icmp .ne (9), 3, 0, 0, 0), none, none, some (.aload_n 0, 1, 0, 0, 0), some (.iload_n 3, 1, 0, 0, 0), some (.iconst 1, 1, 0, 0, 0), some (.invokevirtual 300, 3, 0, 188, 1578), none, none, some (.aload_n 0, 1, 0, 0, 0), some (.getfield 87, 3, 11, 40, 1219), none, none, some (.aload_n 0, 1, 0, 0, 0), some (.getfield 324, 3, 11, 41, 1220), none, none, some (.iload_n 3, 1, 0, 0, 0), some (.iastore, 1, 0, 0, 0), some (.aload_n 0, 1, 0, 0, 0), some (.getfield 87, 3, 11, 40, 1219), none, none, some (.aload_n 0, 1, 0, 0, 0), some (.getfield 324, 3, 11, 41, 1220), none, none, some (.iconst 1, 1, 0, 0, 0), some (.iadd, 1, 0, 0, 0), some (.aload_n 0, 1, 0, 0, 0), some (.invokevirtual 288, 3, 0, 181, 1550), none, none, some (.iastore, 1, 0, 0, 0), some (.aload_n 0, 1, 0, 0, 0), some (.dup, 1, 0, 0, 0), some (.getfield 324, 3, 11, 41, 1220), none, none, some (.iconst 2, 1, 0, 0, 0), some (.iadd, 1, 0, 0, 0), some (.putfield 324, 3, 11, 41, 1220), none, none, some (.goto (106), 3, 0, 0, 0), none, none, some (.iload_n 2, 1, 0, 0, 0), some (.bipush (16), 2, 0, 0, 0), none, some (.if_icmp .ne (22), 3, 0, 0, 0), none, none, some (.aload_n 0, 1, 0, 0, 0), some (.iload_n 1, 1, 0, 0, 0), some (.aload_n 0, 1, 0, 0, 0), some (.getfield 87, 3, 11, 40, 1219), none, none, some (.aload_n 0, 1, 0, 0, 0), some (.getfield 324, 3, 11, 41, 1220), none, none, some (.iconst 2, 1, 0, 0, 0), some (.isub, 1, 0, 0, 0), some (.iaload, 1, 0, 0, 0), some (.invokevirtual 327, 3, 0, 194, 1602), none, none, some (.goto (81), 3, 0, 0, 0), none, none, some (.iload_n 2, 1, 0, 0, 0), some (.bipush (14), 2, 0, 0, 0), none, some (.if_icmp .ne (25), 3, 0, 0, 0), none, none, some (.aload_n 0, 1, 0, 0, 0), some (.aload_n 0, 1, 0, 0, 0), some (.getfield 87, 3, 11, 40, 1219), none, none, some (.aload_n 0, 1, 0, 0, 0), some (.getfield 324, 3, 11, 41, 1220), none, none, some (.iconst 1, 1, 0, 0, 0), some (.isub, 1, 0, 0, 0), some (.iaload, 1, 0, 0, 0), some (.aload_n 0, 1, 0, 0, 0), some (.invokevirtual 297, 3, 0, 186, 1570), none, none, some (.invokevirtual 300, 3, 0, 188, 1578), none, none, some (.goto (53), 3, 0, 0, 0), none, none, some (.iload_n 2, 1, 0, 0, 0), some (.bipush (18), 2, 0, 0, 0), none, some (.if_icmp .ne (22), 3, 0, 0, 0), none, none, some (.aload_n 0, 1, 0, 0, 0), some (.aload_n 0, 1, 0, 0, 0), some (.getfield 87, 3, 11, 40, 1219), none, none, some (.aload_n 0, 1, 0, 0, 0), some (.getfield 324, 3, 11, 41, 1220), none, none, some (.iconst 1, 1, 0, 0, 0), some (.isub, 1, 0, 0, 0), some (.iaload, 1, 0, 0, 0), some (.aload_n 0, 1, 0, 0, 0), some (.invokevirtual 297, 3, 0, 186, 1570), none, none, some (.invokevirtual 300, 3, 0, 188, 1578), none, none, some (.aload_n 0, 1, 0, 0, 0), some (.aload_n 0, 1, 0, 0, 0), some (.getfield 87, 3, 11, 40, 1219), none, none, some (.aload_n 0, 1, 0, 0, 0), some (.getfield 324, 3, 11, 41, 1220), none, none, some (.iconst 1, 1, 0, 0, 0), some (.isub, 1, 0, 0, 0), some (.iaload, 1, 0, 0, 0), some (.invokevirtual 303, 3, 0, 180, 1546), none, none, some (.aload_n 0, 1, 0, 0, 0), some (.dup, 1, 0, 0, 0), some (.getfield 324, 3, 11, 41, 1220), none, none, some (.iconst 2, 1, 0, 0, 0), some (.isub, 1, 0, 0, 0), some (.putfield 324, 3, 11, 41, 1220), none, none, some (.return_, 1, 0, 0, 0)]
set_option maxRecDepth 100000 in
theorem cd192_ok : mChkAt mI192.1.cls mI192.2.1 0 cd192 = true := by decide +kernel
def cd193 : List (Option mEnt) := [some (.aload_n 0, 1, 0, 0, 0), some (.aload_n 0, 1, 0, 0, 0), some (.getfield 275, 3, 11, 44, 1223), none, none, some (.ifCond .ne (13), 3, 0, 0, 0), none, none, some (.aload_n 0, 1, 0, 0, 0), some (.iload_n 1, 1, 0, 0, 0), some (.invokevirtual 272, 3, 0, 183, 1558), none, none, some (.bipush (80), 2, 0, 0, 0), none, some (.if_icmp .le (7), 3, 0, 0, 0), none, none, some (.iconst 1, 1, 0, 0, 0), some (.goto (4), 3, 0, 0, 0), none, none, some (.iconst 0, 1, 0, 0, 0), some (.putfield 275, 3, 11, 44, 1223), none, none, some (.iconst 0, 1, 0, 0, 0), some (.istore_n 2, 1, 0, 0, 0), some (.iload_n 2, 1, 0, 0, 0), some (.aload_n 0, 1, 0, 0, 0), some (.getfield 244, 3, 11, 30, 1209), none, none, some (.if_icmp .ge (49), 3, 0, 0, 0), none, none, some (.aload_n 0, 1, 0, 0, 0), some (.aload_n 0, 1, 0, 0, 0), some (.getfield 275, 3, 11, 44, 1223), none, none, some (.ifCond .ne (27), 3, 0, 0, 0), none, none, some (.aload_n 0, 1, 0, 0, 0), some (.getfield 68, 3, 11, 29, 1208), none, none, some (.iload_n 2, 1, 0, 0, 0), some (.baload, 1, 0, 0, 0), some (.ifCond .ne (22), 3, 0, 0, 0), none, none, some (.aload_n 0, 1, 0, 0, 0), some (.aload_n 0, 1, 0, 0, 0), some (.getfield 65, 3, 11, 28, 1207), none, none, some (.iload_n 2, 1, 0, 0, 0), some (.iaload, 1, 0, 0, 0), some (.invokevirtual 272, 3, 0, 183, 1558), none, none, some (.bipush (80), 2, 0, 0, 0), none, some (.if_icmp .le (7), 3, 0, 0, 0), none, none, some (.iconst 1, 1, 0, 0, 0), some (.goto (4), 3, 0, 0, 0), none, none, some (.iconst 0, 1, 0, 0, 0), some (.putfield 275, 3, 11, 44, 1223), none, none, some (.iinc 2 (1), 3, 0, 0, 0), none, none, some (.goto (-51), 3, 0, 0, 0), none, none, some (.iconst 0, 1, 0, 0, 0), some (.istore_n 2, 1, 0, 0, 0), some (.iload_n 2, 1, 0, 0, 0), some (.aload_n 0, 1, 0, 0, 0), some (.getfield 256, 3, 11, 35, 1214), none, none, some (.if_icmp .ge (122), 3, 0, 0, 0), none, none, some (.aload_n 0, 1, 0, 0, 0), some (.getfield 275, 3, 11, 44, 1223), none, none, some (.ifCond .ne (115), 3, 0, 0, 0), none, none, some (.aload_n 0, 1, 0, 0, 0), some (.getfield 72, 3, 11, 31, 1210), none, none, some (.iload_n 2, 1, 0, 0, 0), some (.iaload, 1, 0, 0, 0), some (.ifCond .ne (25), 3, 0, 0, 0), none, none, some (.aload_n 0, 1, 0, 0, 0), some (.getfield 75, 3, 11, 32, 1211), none, none, some (.iload_n 2, 1, 0, 0, 0), some (.iaload, 1, 0, 0, 0), some (.ifCond .ge (16), 3, 0, 0, 0), none, none, some (.aload_n 0, 1, 0, 0, 0), some (.iload_n 2, 1, 0, 0, 0), some (.iload_n 1, 1, 0, 0, 0), some (.invokevirtual 278, 3, 0, 189, 1582), none, none, some (.ifCond .eq (7), 3, 0, 0, 0), none, none, some (.iconst 1, 1, 0, 0, 0), some (.goto (4), 3, 0, 0, 0), none, none, some (.iconst 0, 1, 0, 0, 0), some (.istore_n 3, 1, 0, 0, 0), some (.iconst 0, 1, 0, 0, 0), some (.istore 4, 2, 0, 0, 0), none, some (.iload 4, 2, 0, 0, 0), none, some (.aload_n 0, 1, 0, 0, 0), some (.getfield 244, 3, 11, 30, 1209), none, none, some (.if_icmp .ge (44), 3, 0, 0, 0), none, none, some (.iload_n 3, 1, 0, 0, 0), some (.ifCond .eq (40), 3, 0, 0, 0), none, none, some (.aload_n 0, 1, 0, 0, 0), some (.getfield 68, 3, 11, 29, 1208), none, none, some (.iload 4, 2, 0, 0, 0), none, some (.baload, 1, 0, 0, 0), some (.ifCond .ne (18), 3, 0, 0, 0), none, none, some (.aload_n 0, 1, 0, 0, 0), some (.iload_n 2, 1, 0, 0, 0), some (.aload_n 0, 1, 0, 0, 0), some (.getfield 65, 3, 11, 28, 1207), none, none, some (.iload 4, 2, 0, 0, 0), none, some (.iaload, 1, 0, 0, 0), some (.invokevirtual 278, 3, 0, 189, 1582), none, none, some (.ifCond .ne (7), 3, 0, 0, 0), none, none, some (.iconst 1, 1, 0, 0, 0), some (.goto (4), 3, 0, 0, 0), none, none, some (.iconst 0, 1, 0, 0, 0), some (.istore_n 3, 1, 0, 0, 0), some (.iinc 4 (1), 3, 0, 0, 0), none, none, some (.goto (-47), 3, 0, 0, 0), none, none, some (.aload_n 0, 1, 0, 0, 0), some (.getfield 78, 3, 11, 33, 1212), none, none, some (.iload_n 2, 1, 0, 0, 0), some (.iload_n 3, 1, 0, 0, 0), some (.ifCond .eq (7), 3, 0, 0, 0), none, none, some (.iconst 1, 1, 0, 0, 0), some (.goto (9), 3, 0, 0, 0), none, none, some (.aload_n 0, 1, 0, 0, 0), some (.getfield 78, 3, 11, 33, 1212), none, none, some (.iload_n 2, 1, 0, 0, 0), some (.iaload, 1, 0, 0, 0), some (.iastore, 1, 0, 0, 0), some (.iinc 2 (1), 3, 0, 0, 0), none, none, some (.goto (-124), 3, 0, 0, 0), none, none, some (.return_, 1, 0, 0, 0)]
set_option maxRecDepth 100000 in
theorem cd193_ok : mChkAt mI193.1.cls mI193.2.1 0 cd193 = true := by decide +kernel
def cd194 : List (Option mEnt) := [some (.aload_n 0, 1, 0, 0, 0), some (.getfield 282, 3, 11, 37, 1216), none, none, some (.iconst 1, 1, 0, 0, 0), some (.iadd, 1, 0, 0, 0), some (.istore_n 3, 1, 0, 0, 0), some (.aload_n 0, 1, 0, 0, 0), some (.getfield 84, 3, 11, 36, 1215), none, none, some (.aload_n 0, 1, 0, 0, 0), some (.getfield 282, 3, 11, 37, 1216), none, none, some (.iload_n 2, 1, 0, 0, 0), some (.iastore, 1, 0, 0, 0), some (.aload_n 0, 1, 0, 0, 0), some (.getfield 17, 3, 11, 5, 1184), none, none, some (.iload_n 1, 1, 0, 0, 0), some (.iaload, 1, 0, 0, 0), some (.istore 4, 2, 0, 0, 0), none, some (.iload 4, 2, 0, 0, 0), none, some (.aload_n 0, 1, 0, 0, 0), some (.getfield 20, 3, 11, 6, 1185), none, none, some (.iload_n 1, 1, 0, 0, 0), some (.iaload, 1, 0, 0, 0), some (.if_icmp .ge (189), 3, 0, 0, 0), none, none, some (.aload_n 0, 1, 0, 0, 0), some (.getfield 275, 3, 11, 44, 1223), none, none, some (.ifCond .ne (182), 3, 0, 0, 0), none, none, some (.iinc 3 (-1), 3, 0, 0, 0), none, none, some (.aload_n 0, 1, 0, 0, 0), some (.getfield 84, 3, 11, 36, 1215), none, none, some (.iload_n 3, 1, 0, 0, 0), some (.iaload, 1, 0, 0, 0), some (.istore 5, 2, 0, 0, 0), none, some (.aload_n 0, 1, 0, 0, 0), some (.getfield 90, 3, 11, 42, 1221), none, none, some (.aload_n 0, 1, 0, 0, 0), some (.getfield 285, 3, 11, 43, 1222), none, none, some (.iload 5, 2, 0, 0, 0), none, some (.iastore, 1, 0, 0, 0), some (.aload_n 0, 1, 0, 0, 0), some (.dup, 1, 0, 0, 0), some (.getfield 285, 3, 11, 43, 1222), none, none, some (.iconst 1, 1, 0, 0, 0), some (.iadd, 1, 0, 0, 0), some (.putfield 285, 3, 11, 43, 1222), none, none, some (.aload_n 0, 1, 0, 0, 0), some (.getfield 32, 3, 11, 12, 1191), none, none, some (.iload 4, 2, 0, 0, 0), none, some (.iaload, 1, 0, 0, 0), some (.ifCond .ne (51), 3, 0, 0, 0), none, none, some (.aload_n 0, 1, 0, 0, 0), some (.invokevirtual 288, 3, 0, 181, 1550), none, none, some (.istore 6, 2, 0, 0, 0), none, some (.aload_n 0, 1, 0, 0, 0), some (.iconst 4, 1, 0, 0, 0), some (.iload 6, 2, 0, 0, 0), none, some (.iconst 0, 1, 0, 0, 0), some (.invokevirtual 259, 3, 0, 178, 1538), none, none, some (.istore 7, 2, 0, 0, 0), none, some (.aload_n 0, 1, 0, 0, 0), some (.iload 5, 2, 0, 0, 0), none, some (.iload 7, 2, 0, 0, 0), none, some (.invokevirtual 300, 3, 0, 188, 1578), none, none, some (.aload_n 0, 1, 0, 0, 0), some (.getfield 84, 3, 11, 36, 1215), none, none, some (.iload_n 3, 1, 0, 0, 0), some (.iload 7, 2, 0, 0, 0), none, some (.iastore, 1, 0, 0, 0), some (.aload_n 0, 1, 0, 0, 0), some (.getfield 84, 3, 11, 36, 1215), none, none, some (.iload_n 3, 1, 0, 0, 0), some (.iconst 1, 1, 0, 0, 0), some (.iadd, 1, 0, 0, 0), some (.iload 6, 2, 0, 0, 0), none, some (.iastore, 1, 0, 0, 0), some (.iinc 3 (2), 3, 0, 0, 0), none, none, some (.goto (86), 3, 0, 0, 0), none, none, some (.aload_n 0, 1, 0, 0, 0), some (.getfield 32, 3, 11, 12, 1191), none, none, some (.iload 4, 2, 0, 0, 0), none, some (.iaload, 1, 0, 0, 0), some (.iconst 1, 1, 0, 0, 0), some (.if_icmp .ne (29), 3, 0, 0, 0), none, none, some (.aload_n 0, 1, 0, 0, 0), some (.getfield 35, 3, 11, 13, 1192), none, none, some (.iload 4, 2, 0, 0, 0), none, some (.iaload, 1, 0, 0, 0), some (.ifCond .le (65), 3, 0, 0, 0), none, none, some (.aload_n 0, 1, 0, 0, 0), some (.aload_n 0, 1, 0, 0, 0), some (.getfield 35, 3, 11, 13, 1192), none, none, some (.iload 4, 2, 0, 0, 0), none, some (.iaload, 1, 0, 0, 0), some (.iload 5, 2, 0, 0, 0), none, some (.invokevirtual 247, 3, 0, 175, 1526), none, none, some (.goto (49), 3, 0, 0, 0), none, none, some (.aload_n 0, 1, 0, 0, 0), some (.iload 5, 2, 0, 0, 0), none, some (.aload_n 0, 1, 0, 0, 0), some (.getfield 32, 3, 11, 12, 1191), none, none, some (.iload 4, 2, 0, 0, 0), none, some (.iaload, 1, 0, 0, 0), some (.iconst 2, 1, 0, 0, 0), some (.if_icmp .ne (7), 3, 0, 0, 0), none, none, some (.iconst 0, 1, 0, 0, 0), some (.goto (28), 3, 0, 0, 0), none, none, some (.aload_n 0, 1, 0, 0, 0), some (.getfield 32, 3, 11, 12, 1191), none, none, some (.iload 4, 2, 0, 0, 0), none, some (.iaload, 1, 0, 0, 0), some (.iconst 3, 1, 0, 0, 0), some (.if_icmp .ne (7), 3, 0, 0, 0), none, none, some (.iconst 1, 1, 0, 0, 0), some (.goto (13), 3, 0, 0, 0), none, none, some (.aload_n 0, 1, 0, 0, 0), some (.iconst 4, 1, 0, 0, 0), some (.aload_n 0, 1, 0, 0, 0), some (.invokevirtual 288, 3, 0, 181, 1550), none, none, some (.iconst 0, 1, 0, 0, 0), some (.invokevirtual 259, 3, 0, 178, 1538), none, none, some (.invokevirtual 300, 3, 0, 188, 1578), none, none, some (.iinc 4 (1), 3, 0, 0, 0), none, none, some (.goto (-194), 3, 0, 0, 0), none, none, some (.return_, 1, 0, 0, 0)]
set_option maxRecDepth 100000 in
theorem cd194_ok : mChkAt mI194.1.cls mI194.2.1 0 cd194 = true := by decide +kernel
def cd195 : List (Option mEnt) := [some (.aload_n 0, 1, 0, 0, 0), some (.aload_n 0, 1, 0, 0, 0), some (.getfield 162, 3, 11, 7, 1186), none, none, some (.putfield 430, 3, 11, 11, 1190), none, none, some (.iconst 0, 1, 0, 0, 0), some (.istore_n 1, 1, 0, 0, 0), some (.iload_n 1, 1, 0, 0, 0), some (.aload_n 0, 1, 0, 0, 0), some (.getfield 162, 3, 11, 7, 1186), none, none, some (.if_icmp .ge (57), 3, 0, 0, 0), none, none, some (.aload_n 0, 1, 0, 0, 0), some (.getfield 23, 3, 11, 8, 1187), none, none, some (.iload_n 1, 1, 0, 0, 0), some (.aload_n 0, 1, 0, 0, 0), some (.getfield 13, 3, 11, 4, 1183), none, none, some (.iload_n 1, 1, 0, 0, 0), some (.iaload, 1, 0, 0, 0), some (.iastore, 1, 0, 0, 0), some (.aload_n 0, 1, 0, 0, 0), some (.getfield 26, 3, 11, 9, 1188), none, none, some (.iload_n 1, 1, 0, 0, 0), some (.aload_n 0, 1, 0, 0, 0), some (.getfield 17, 3, 11, 5, 1184), none, none, some (.iload_n 1, 1, 0, 0, 0), some (.iaload, 1, 0, 0, 0), some (.iastore, 1, 0, 0, 0), some (.aload_n 0, 1, 0, 0, 0), some (.getfield 29, 3, 11, 10, 1189), none, none, some (.iload_n 1, 1, 0, 0, 0), some (.aload_n 0, 1, 0, 0, 0), some (.getfield 20, 3, 11, 6, 1185), none, none, some (.iload_n 1, 1, 0, 0, 0), some (.iaload, 1, 0, 0, 0), some (.iastore, 1, 0, 0, 0), some (.aload_n 0, 1, 0, 0, 0), some (.getfield 59, 3, 11, 26, 1205), none, none, some (.iload_n 1, 1, 0, 0, 0), some (.aload_n 0, 1, 0, 0, 0), some (.getfield 56, 3, 11, 25, 1204), none, none, some (.iload_n 1, 1, 0, 0, 0), some (.iaload, 1, 0, 0, 0), some (.iastore, 1, 0, 0, 0), some (.iinc 1 (1), 3, 0, 0, 0), none, none, some (.goto (-59), 3, 0, 0, 0), none, none, some (.iconst 0, 1, 0, 0, 0), some (.istore_n 1, 1, 0, 0, 0), some (.iload_n 1, 1, 0, 0, 0), some (.aload_n 0, 1, 0, 0, 0), some (.getfield 165, 3, 11, 14, 1193), none, none, some (.if_icmp .ge (33), 3, 0, 0, 0), none, none, some (.aload_n 0, 1, 0, 0, 0), some (.getfield 38, 3, 11, 15, 1194), none, none, some (.iload_n 1, 1, 0, 0, 0), some (.aload_n 0, 1, 0, 0, 0), some (.getfield 32, 3, 11, 12, 1191), none, none, some (.iload_n 1, 1, 0, 0, 0), some (.iaload, 1, 0, 0, 0), some (.iastore, 1, 0, 0, 0), some (.aload_n 0, 1, 0, 0, 0), some (.getfield 41, 3, 11, 16, 1195), none, none, some (.iload_n 1, 1, 0, 0, 0), some (.aload_n 0, 1, 0, 0, 0), some (.getfield 35, 3, 11, 13, 1192), none, none, some (.iload_n 1, 1, 0, 0, 0), some (.iaload, 1, 0, 0, 0), some (.iastore, 1, 0, 0, 0), some (.iinc 1 (1), 3, 0, 0, 0), none, none, some (.goto (-35), 3, 0, 0, 0), none, none, some (.aload_n 0, 1, 0, 0, 0), some (.aload_n 0, 1, 0, 0, 0), some (.getfield 84, 3, 11, 36, 1215), none, none, some (.iconst 0, 1, 0, 0, 0), some (.iaload, 1, 0, 0, 0), some (.invokevirtual 433, 3, 0, 196, 1610), none, none, some (.aload_n 0, 1, 0, 0, 0), some (.iconst 0, 1, 0, 0, 0), some (.putfield 135, 3, 11, 2, 1181), none, none, some (.aload_n 0, 1, 0, 0, 0), some (.iconst 0, 1, 0, 0, 0), some (.putfield 342, 3, 11, 51, 1230), none, none, some (.aload_n 0, 1, 0, 0, 0), some (.iconst 0, 1, 0, 0, 0), some (.putfield 381, 3, 11, 54, 1233), none, none, some (.aload_n 0, 1, 0, 0, 0), some (.iconst 0, 1, 0, 0, 0), some (.putfield 367, 3, 11, 57, 1236), none, none, some (.aload_n 0, 1, 0, 0, 0), some (.iconst 0, 1, 0, 0, 0), some (.putfield 370, 3, 11, 58, 1237), none, none, some (.aload_n 0, 1, 0, 0, 0), some (.iconst 0, 1, 0, 0, 0), some (.putfield 391, 3, 11, 61, 1240), none, none, some (.aload_n 0, 1, 0, 0, 0), some (.iconst 0, 1, 0, 0, 0), some (.putfield 364, 3, 11, 63, 1242), none, none, some (.aload_n 0, 1, 0, 0, 0), some (.iconst 0, 1, 0, 0, 0), some (.putfield 384, 3, 11, 64, 1243), none, none, some (.aload_n 0, 1, 0, 0, 0), some (.iconst 1, 1, 0, 0, 0), some (.putfield 336, 3, 11, 65, 1244), none, none, some (.aload_n 0, 1, 0, 0, 0), some (.iconst 0, 1, 0, 0, 0), some (.putfield 339, 3, 11, 66, 1245), none, none, some (.aload_n 0, 1, 0, 0, 0), some (.iconst 0, 1, 0, 0, 0), some (.putfield 436, 3, 11, 67, 1246), none, none, some (.return_, 1, 0, 0, 0)]
set_option maxRecDepth 100000 in
theorem cd195_ok : mChkAt mI195.1.cls mI195.2.1 0 cd195 = true := by decide +kernel
def cd196 : List (Option mEnt) := [some (.iconst 1, 1, 0, 0, 0), some (.istore_n 2, 1, 0, 0, 0), some (.iconst 0, 1, 0, 0, 0), some (.istore_n 3, 1, 0, 0, 0), some (.aload_n 0, 1, 0, 0, 0), some (.iconst 0, 1, 0, 0, 0), some (.putfield 333, 3, 11, 49, 1228), none, none, some (.aload_n 0, 1, 0, 0, 0), some (.getfield 93, 3, 11, 46, 1225), none, none, some (.iconst 0, 1, 0, 0, 0), some (.iload_n 1, 1, 0, 0, 0), some (.iastore, 1, 0, 0, 0), some (.iload_n 2, 1, 0, 0, 0), some (.ifCond .le (275), 3, 0, 0, 0), none, none, some (.iinc 2 (-1), 3, 0, 0, 0), none, none, some (.aload_n 0, 1, 0, 0, 0), some (.getfield 93, 3, 11, 46, 1225), none, none, some (.iload_n 2, 1, 0, 0, 0), some (.iaload, 1, 0, 0, 0), some (.istore 4, 2, 0, 0, 0), none, some (.iload 4, 2, 0, 0, 0), none, some (.ifCond .lt (42), 3, 0, 0, 0), none, none, some (.aload_n 0, 1, 0, 0, 0), some (.iload 4, 2, 0, 0, 0), none, some (.invokevirtual 266, 3, 0, 184, 1562), none, none, some (.istore 4, 2, 0, 0, 0), none, some (.aload_n 0, 1, 0, 0, 0), some (.getfield 72, 3, 11, 31, 1210), none, none, some (.iload 4, 2, 0, 0, 0), none, some (.iaload, 1, 0, 0, 0), some (.ifCond .ne (24), 3, 0, 0, 0), none, none, some (.aload_n 0, 1, 0, 0, 0), some (.getfield 81, 3, 11, 34, 1213), none, none, some (.iload 4, 2, 0, 0, 0), none, some (.iaload, 1, 0, 0, 0), some (.ifCond .ge (14), 3, 0, 0, 0), none, none, some (.aload_n 0, 1, 0, 0, 0), some (.getfield 81, 3, 11, 34, 1213), none, none, some (.iload 4, 2, 0, 0, 0), none, some (.iload_n 3, 1, 0, 0, 0), some (.iastore, 1, 0, 0, 0), some (.iinc 3 (1), 3, 0, 0, 0), none, none, some (.iload 4, 2, 0, 0, 0), none, some (.ifCond .lt (14), 3, 0, 0, 0), none, none, some (.aload_n 0, 1, 0, 0, 0), some (.getfield 72, 3, 11, 31, 1210), none, none, some (.iload 4, 2, 0, 0, 0), none, some (.iaload, 1, 0, 0, 0), some (.iconst 4, 1, 0, 0, 0), some (.if_icmp .ge (95), 3, 0, 0, 0), none, none, some (.aload_n 0, 1, 0, 0, 0), some (.getfield 99, 3, 11, 48, 1227), none, none, some (.aload_n 0, 1, 0, 0, 0), some (.getfield 333, 3, 11, 49, 1228), none, none, some (.iload 4, 2, 0, 0, 0), none, some (.ifCond .ge (9), 3, 0, 0, 0), none, none, some (.iload 4, 2, 0, 0, 0), none, some (.ineg, 1, 0, 0, 0), some (.goto (61), 3, 0, 0, 0), none, none, some (.aload_n 0, 1, 0, 0, 0), some (.getfield 72, 3, 11, 31, 1210), none, none, some (.iload 4, 2, 0, 0, 0), none, some (.iaload, 1, 0, 0, 0), some (.iconst 1, 1, 0, 0, 0), some (.if_icmp .ne (8), 3, 0, 0, 0), none, none, some (.bipush (105), 2, 0, 0, 0), none, some (.goto (45), 3, 0, 0, 0), none, none, some (.aload_n 0, 1, 0, 0, 0), some (.getfield 72, 3, 11, 31, 1210), none, none, some (.iload 4, 2, 0, 0, 0), none, some (.iaload, 1, 0, 0, 0), some (.iconst 2, 1, 0, 0, 0), some (.if_icmp .ne (8), 3, 0, 0, 0), none, none, some (.bipush (98), 2, 0, 0, 0), none, some (.goto (29), 3, 0, 0, 0), none, none, some (.aload_n 0, 1, 0, 0, 0), some (.getfield 72, 3, 11, 31, 1210), none, none, some (.iload 4, 2, 0, 0, 0), none, some (.iaload, 1, 0, 0, 0), some (.iconst 3, 1, 0, 0, 0), some (.if_icmp .ne (8), 3, 0, 0, 0), none, none, some (.bipush (114), 2, 0, 0, 0), none, some (.goto (13), 3, 0, 0, 0), none, none, some (.bipush (97), 2, 0, 0, 0), none, some (.aload_n 0, 1, 0, 0, 0), some (.getfield 81, 3, 11, 34, 1213), none, none, some (.iload 4, 2, 0, 0, 0), none, some (.iaload, 1, 0, 0, 0), some (.iadd, 1, 0, 0, 0), some (.i2c, 1, 0, 0, 0), some (.castore, 1, 0, 0, 0), some (.aload_n 0, 1, 0, 0, 0), some (.dup, 1, 0, 0, 0), some (.getfield 333, 3, 11, 49, 1228), none, none, some (.iconst 1, 1, 0, 0, 0), some (.iadd, 1, 0, 0, 0), some (.putfield 333, 3, 11, 49, 1228), none, none, some (.goto (109), 3, 0, 0, 0), none, none, some (.aload_n 0, 1, 0, 0, 0), some (.getfield 72, 3, 11, 31, 1210), none, none, some (.iload 4, 2, 0, 0, 0), none, some (.iaload, 1, 0, 0, 0), some (.iconst 4, 1, 0, 0, 0), some (.if_icmp .ne (7), 3, 0, 0, 0), none, none, some (.iconst 1, 1, 0, 0, 0), some (.goto (4), 3, 0, 0, 0), none, none, some (.iconst 0, 1, 0, 0, 0), some (.istore 5, 2, 0, 0, 0), none, some (.aload_n 0, 1, 0, 0, 0), some (.getfield 93, 3, 11, 46, 1225), none, none, some (.iload_n 2, 1, 0, 0, 0), some (.iload 5, 2, 0, 0, 0), none, some (.ifCond .eq (8), 3, 0, 0, 0), none, none, some (.bipush (-93), 2, 0, 0, 0), none, some (.goto (5), 3, 0, 0, 0), none, none, some (.bipush (-41), 2, 0, 0, 0), none, some (.iastore, 1, 0, 0, 0), some (.iinc 2 (1), 3, 0, 0, 0), none, none, some (.iload 5, 2, 0, 0, 0), none, some (.ifCond .ne (29), 3, 0, 0, 0), none, none, some (.aload_n 0, 1, 0, 0, 0), some (.getfield 93, 3, 11, 46, 1225), none, none, some (.iload_n 2, 1, 0, 0, 0), some (.aload_n 0, 1, 0, 0, 0), some (.getfield 78, 3, 11, 33, 1212), none, none, some (.iload 4, 2, 0, 0, 0), none, some (.iaload, 1, 0, 0, 0), some (.iastore, 1, 0, 0, 0), some (.aload_n 0, 1, 0, 0, 0), some (.getfield 93, 3, 11, 46, 1225), none, none, some (.iload_n 2, 1, 0, 0, 0), some (.iconst 1, 1, 0, 0, 0), some (.iadd, 1, 0, 0, 0), some (.bipush (-62), 2, 0, 0, 0), none, some (.iastore, 1, 0, 0, 0), some (.iinc 2 (2), 3, 0, 0, 0), none, none, some (.aload_n 0, 1, 0, 0, 0), some (.getfield 93, 3, 11, 46, 1225), none, none, some (.iload_n 2, 1, 0, 0, 0), some (.aload_n 0, 1, 0, 0, 0), some (.getfield 75, 3, 11, 32, 1211), none, none, some (.iload 4, 2, 0, 0, 0), none, some (.iaload, 1, 0, 0, 0), some (.iastore, 1, 0, 0, 0), some (.aload_n 0, 1, 0, 0, 0), some (.getfield 93, 3, 11, 46, 1225), none, none, some (.iload_n 2, 1, 0, 0, 0), some (.iconst 1, 1, 0, 0, 0), some (.iadd, 1, 0, 0, 0), some (.iload 5, 2, 0, 0, 0), none, some (.ifCond .eq (8), 3, 0, 0, 0), none, none, some (.bipush (-91), 2, 0, 0, 0), none, some (.goto (5), 3, 0, 0, 0), none, none, some (.bipush (-40), 2, 0, 0, 0), none, some (.iastore, 1, 0, 0, 0), some (.iinc 2 (2), 3, 0, 0, 0), none, none, some (.goto (-273), 3, 0, 0, 0), none, none, some (.return_, 1, 0, 0, 0)]
set_option maxRecDepth 100000 in
theorem cd196_ok : mChkAt mI196.1.cls mI196.2.1 0 cd196 = true := by decide +kernel
def cd197 : List (Option mEnt) := [some (.aload_n 0, 1, 0, 0, 0), some (.iconst 0, 1, 0, 0, 0), some (.putfield 131, 3, 11, 0, 1179), none, none, some (.iload_n 1, 1, 0, 0, 0), some (.ifCond .lt (11), 3, 0, 0, 0), none, none, some (.iload_n 1, 1, 0, 0, 0), some (.aload_n 0, 1, 0, 0, 0), some (.getfield 333, 3, 11, 49, 1228), none, none, some (.if_icmp .lt (7), 3, 0, 0, 0), none, none, some (.iconst (-1), 1, 0, 0, 0), some (.goto (9), 3, 0, 0, 0), none, none, some (.aload_n 0, 1, 0, 0, 0), some (.getfield 99, 3, 11, 48, 1227), none, none, some (.iload_n 1, 1, 0, 0, 0), some (.caload, 1, 0, 0, 0), some (.ireturn, 1, 0, 0, 0)]
set_option maxRecDepth 100000 in
theorem cd197_ok : mChkAt mI197.1.cls mI197.2.1 0 cd197 = true := by decide +kernel
def cd198 : List (Option mEnt) := [some (.aload_n 0, 1, 0, 0, 0), some (.iconst 0, 1, 0, 0, 0), some (.putfield 131, 3, 11, 0, 1179), none, none, some (.iload_n 1, 1, 0, 0, 0), some (.ifCond .lt (17), 3, 0, 0, 0), none, none, some (.iload_n 1, 1, 0, 0, 0), some (.bipush (100), 2, 0, 0, 0), none, some (.if_icmp .gt (11), 3, 0, 0, 0), none, none, some (.aload_n 0, 1, 0, 0, 0), some (.getfield 336, 3, 11, 65, 1244), none, none, some (.iconst 1, 1, 0, 0, 0), some (.if_icmp .eq (5), 3, 0, 0, 0), none, none, some (.iconst (-1), 1, 0, 0, 0), some (.ireturn, 1, 0, 0, 0), some (.iconst 0, 1, 0, 0, 0), some (.istore_n 2, 1, 0, 0, 0), some (.aload_n 0, 1, 0, 0, 0), some (.getfield 336, 3, 11, 65, 1244), none, none, some (.iconst 1, 1, 0, 0, 0), some (.if_icmp .ne (121), 3, 0, 0, 0), none, none, some (.iload_n 2, 1, 0, 0, 0), some (.iload_n 1, 1, 0, 0, 0), some (.if_icmp .lt (10), 3, 0, 0, 0), none, none, some (.aload_n 0, 1, 0, 0, 0), some (.invokevirtual 456, 3, 0, 199, 1622), none, none, some (.ifCond .ne (109), 3, 0, 0, 0), none, none, some (.aload_n 0, 1, 0, 0, 0), some (.getfield 384, 3, 11, 64, 1243), none, none, some (.aload_n 0, 1, 0, 0, 0), some (.getfield 430, 3, 11, 11, 1190), none, none, some (.if_icmp .ne (26), 3, 0, 0, 0), none, none, some (.aload_n 0, 1, 0, 0, 0), some (.iconst 2, 1, 0, 0, 0), some (.putfield 336, 3, 11, 65, 1244), none, none, some (.aload_n 0, 1, 0, 0, 0), some (.aload_n 0, 1, 0, 0, 0), some (.getfield 102, 3, 11, 50, 1229), none, none, some (.iconst 0, 1, 0, 0, 0), some (.laload, 1, 0, 0, 0), some (.putfield 459, 3, 11, 69, 1248), none, none, some (.aload_n 0, 1, 0, 0, 0), some (.iconst 0, 1, 0, 0, 0), some (.putfield 463, 3, 11, 70, 1249), none, none, some (.goto (-51), 3, 0, 0, 0), none, none, some (.aload_n 0, 1, 0, 0, 0), some (.invokevirtual 456, 3, 0, 199, 1622), none, none, some (.ifCond .ne (10), 3, 0, 0, 0), none, none, some (.aload_n 0, 1, 0, 0, 0), some (.invokevirtual 466, 3, 0, 201, 1629), none, none, some (.goto (-65), 3, 0, 0, 0), none, none, some (.aload_n 0, 1, 0, 0, 0), some (.getfield 436, 3, 11, 67, 1246), none, none, some (.sipush (500), 3, 0, 0, 0), none, none, some (.if_icmp .eq (13), 3, 0, 0, 0), none, none, some (.aload_n 0, 1, 0, 0, 0), some (.getfield 469, 3, 11, 68, 1247), none, none, some (.sipush (1000), 3, 0, 0, 0), none, none, some (.if_icmp .ne (11), 3, 0, 0, 0), none, none, some (.aload_n 0, 1, 0, 0, 0), some (.iconst 4, 1, 0, 0, 0), some (.invokevirtual 345, 3, 0, 203, 1637), none, none, some (.goto (-93), 3, 0, 0, 0), none, none, some (.iinc 2 (1), 3, 0, 0, 0), none, none, some (.aload_n 0, 1, 0, 0, 0), some (.dup, 1, 0, 0, 0), some (.getfield 436, 3, 11, 67, 1246), none, none, some (.iconst 1, 1, 0, 0, 0), some (.iadd, 1, 0, 0, 0), some (.putfield 436, 3, 11, 67, 1246), none, none, some (.aload_n 0, 1, 0, 0, 0), some (.dup, 1, 0, 0, 0), some (.getfield 469, 3, 11, 68, 1247), none, none, some (.iconst 1, 1, 0, 0, 0), some (.iadd, 1, 0, 0, 0), some (.putfield 469, 3, 11, 68, 1247), none, none, some (.aload_n 0, 1, 0, 0, 0), some (.invokevirtual 466, 3, 0, 201, 1629), none, none, some (.goto (-123), 3, 0, 0, 0), none, none, some (.iload_n 2, 1, 0, 0, 0), some (.ireturn, 1, 0, 0, 0)]
set_option maxRecDepth 100000 in
theorem cd198_ok : mChkAt mI198.1.cls mI198.2.1 0 cd198 = true := by decide +kernel
def cd199 : List (Option mEnt) := [some (.aload_n 0, 1, 0, 0, 0), some (.getfield 384, 3, 11, 64, 1243), none, none, some (.aload_n 0, 1, 0, 0, 0), some (.getfield 430, 3, 11, 11, 1190), none, none, some (.if_icmp .ge (22), 3, 0, 0, 0), none, none, some (.aload_n 0, 1, 0, 0, 0), some (.getfield 23, 3, 11, 8, 1187), none, none, some (.aload_n 0, 1, 0, 0, 0), some (.getfield 384, 3, 11, 64, 1243), none, none, some (.iaload, 1, 0, 0, 0), some (.invokestatic 452, 3, 1, 200, 1626), none, none, some (.ifCond .eq (7), 3, 0, 0, 0), none, none, some (.iconst 1, 1, 0, 0, 0), some (.goto (4), 3, 0, 0, 0), none, none, some (.iconst 0, 1, 0, 0, 0), some (.ireturn, 1, 0, 0, 0)]
set_option maxRecDepth 100000 in
theorem cd199_ok : mChkAt mI199.1.cls mI199.2.1 0 cd199 = true := by decide +kernel
def cd200 : List (Option mEnt) := [some (.iload_n 0, 1, 0, 0, 0), some (.bipush (8), 2, 0, 0, 0), none, some (.if_icmp .eq (33), 3, 0, 0, 0), none, none, some (.iload_n 0, 1, 0, 0, 0), some (.bipush (9), 2, 0, 0, 0), none, some (.if_icmp .eq (27), 3, 0, 0, 0), none, none, some (.iload_n 0, 1, 0, 0, 0), some (.bipush (10), 2, 0, 0, 0), none, some (.if_icmp .eq (21), 3, 0, 0, 0), none, none, some (.iload_n 0, 1, 0, 0, 0), some (.bipush (11), 2, 0, 0, 0), none, some (.if_icmp .eq (15), 3, 0, 0, 0), none, none, some (.iload_n 0, 1, 0, 0, 0), some (.bipush (13), 2, 0, 0, 0), none, some (.if_icmp .eq (9), 3, 0, 0, 0), none, none, some (.iload_n 0, 1, 0, 0, 0), some (.bipush (15), 2, 0, 0, 0), none, some (.if_icmp .ne (7), 3, 0, 0, 0), none, none, some (.iconst 1, 1, 0, 0, 0), some (.goto (4), 3, 0, 0, 0), none, none, some (.iconst 0, 1, 0, 0, 0), some (.ireturn, 1, 0, 0, 0)]
set_option maxRecDepth 100000 in
theorem cd200_ok : mChkAt mI200.1.cls mI200.2.1 0 cd200 = true := by decide +kernel
def cd201 : List (Option mEnt) := [some (.aload_n 0, 1, 0, 0, 0), some (.getfield 384, 3, 11, 64, 1243), none, none, some (.istore_n 1, 1, 0, 0, 0), some (.aload_n 0, 1, 0, 0, 0), some (.getfield 26, 3, 11, 9, 1188), none, none, some (.iload_n 1, 1, 0, 0, 0), some (.iaload, 1, 0, 0, 0), some (.istore_n 2, 1, 0, 0, 0), some (.aload_n 0, 1, 0, 0, 0), some (.getfield 23, 3, 11, 8, 1187), none, none, some (.iload_n 1, 1, 0, 0, 0), some (.iaload, 1, 0, 0, 0), some (.istore_n 3, 1, 0, 0, 0), some (.aload_n 0, 1, 0, 0, 0), some (.dup, 1, 0, 0, 0), some (.getfield 384, 3, 11, 64, 1243), none, none, some (.iconst 1, 1, 0, 0, 0), some (.iadd, 1, 0, 0, 0), some (.putfield 384, 3, 11, 64, 1243), none, none, some (.iload_n 3, 1, 0, 0, 0), some (.iconst 2, 1, 0, 0, 0), some (.if_icmp .ge (12), 3, 0, 0, 0), none, none, some (.aload_n 0, 1, 0, 0, 0), some (.iconst 0, 1, 0, 0, 0), some (.iload_n 2, 1, 0, 0, 0), some (.invokevirtual 352, 3, 0, 202, 1633), none, none, some (.goto (191), 3, 0, 0, 0), none, none, some (.iload_n 3, 1, 0, 0, 0), some (.iconst 2, 1, 0, 0, 0), some (.if_icmp .ne (12), 3, 0, 0, 0), none, none, some (.aload_n 0, 1, 0, 0, 0), some (.iconst 1, 1, 0, 0, 0), some (.iload_n 2, 1, 0, 0, 0), some (.invokevirtual 352, 3, 0, 202, 1633), none, none, some (.goto (177), 3, 0, 0, 0), none, none, some (.iload_n 3, 1, 0, 0, 0), some (.iconst 3, 1, 0, 0, 0), some (.if_icmp .ne (12), 3, 0, 0, 0), none, none, some (.aload_n 0, 1, 0, 0, 0), some (.iconst 3, 1, 0, 0, 0), some (.iconst 0, 1, 0, 0, 0), some (.invokevirtual 352, 3, 0, 202, 1633), none, none, some (.goto (163), 3, 0, 0, 0), none, none, some (.iload_n 3, 1, 0, 0, 0), some (.iconst 4, 1, 0, 0, 0), some (.if_icmp .ne (12), 3, 0, 0, 0), none, none, some (.aload_n 0, 1, 0, 0, 0), some (.iconst 5, 1, 0, 0, 0), some (.iload_n 2, 1, 0, 0, 0), some (.invokevirtual 352, 3, 0, 202, 1633), none, none, some (.goto (149), 3, 0, 0, 0), none, none, some (.iload_n 3, 1, 0, 0, 0), some (.iconst 5, 1, 0, 0, 0), some (.if_icmp .ne (20), 3, 0, 0, 0), none, none, some (.aload_n 0, 1, 0, 0, 0), some (.aload_n 0, 1, 0, 0, 0), some (.getfield 112, 3, 11, 55, 1234), none, none, some (.aload_n 0, 1, 0, 0, 0), some (.iload_n 2, 1, 0, 0, 0), some (.invokevirtual 405, 3, 0, 204, 1642), none, none, some (.laload, 1, 0, 0, 0), some (.invokevirtual 408, 3, 0, 205, 1646), none, none, some (.goto (127), 3, 0, 0, 0), none, none, some (.iload_n 3, 1, 0, 0, 0), some (.bipush (6), 2, 0, 0, 0), none, some (.if_icmp .ne (25), 3, 0, 0, 0), none, none, some (.aload_n 0, 1, 0, 0, 0), some (.bipush (6), 2, 0, 0, 0), none, some (.sipush (8192), 3, 0, 0, 0), none, none, some (.aload_n 0, 1, 0, 0, 0), some (.getfield 384, 3, 11, 64, 1243), none, none, some (.imul, 1, 0, 0, 0), some (.aload_n 0, 1, 0, 0, 0), some (.getfield 370, 3, 11, 58, 1237), none, none, some (.iadd, 1, 0, 0, 0), some (.invokevirtual 352, 3, 0, 202, 1633), none, none, some (.goto (99), 3, 0, 0, 0), none, none, some (.iload_n 3, 1, 0, 0, 0), some (.bipush (8), 2, 0, 0, 0), none, some (.if_icmp .ne (10), 3, 0, 0, 0), none, none, some (.aload_n 0, 1, 0, 0, 0), some (.invokevirtual 412, 3, 0, 206, 1651), none, none, some (.goto (86), 3, 0, 0, 0), none, none, some (.iload_n 3, 1, 0, 0, 0), some (.bipush (9), 2, 0, 0, 0), none, some (.if_icmp .ne (11), 3, 0, 0, 0), none, none, some (.aload_n 0, 1, 0, 0, 0), some (.iload_n 2, 1, 0, 0, 0), some (.invokevirtual 415, 3, 0, 212, 1674), none, none, some (.goto (72), 3, 0, 0, 0), none, none, some (.iload_n 3, 1, 0, 0, 0), some (.bipush (10), 2, 0, 0, 0), none, some (.if_icmp .eq (9), 3, 0, 0, 0), none, none, some (.iload_n 3, 1, 0, 0, 0), some (.bipush (11), 2, 0, 0, 0), none, some (.if_icmp .ne (21), 3, 0, 0, 0), none, none, some (.aload_n 0, 1, 0, 0, 0), some (.iload_n 3, 1, 0, 0, 0), some (.bipush (11), 2, 0, 0, 0), none, some (.if_icmp .ne (7), 3, 0, 0, 0), none, none, some (.iconst 1, 1, 0, 0, 0), some (.goto (4), 3, 0, 0, 0), none, none, some (.iconst 0, 1, 0, 0, 0), some (.invokevirtual 418, 3, 0, 215, 1688), none, none, some (.goto (42), 3, 0, 0, 0), none, none, some (.iload_n 3, 1, 0, 0, 0), some (.bipush (12), 2, 0, 0, 0), none, some (.if_icmp .ne (15), 3, 0, 0, 0), none, none, some (.aload_n 0, 1, 0, 0, 0), some (.aload_n 0, 1, 0, 0, 0), some (.iload_n 2, 1, 0, 0, 0), some (.invokevirtual 405, 3, 0, 204, 1642), none, none, some (.putfield 370, 3, 11, 58, 1237), none, none, some (.goto (24), 3, 0, 0, 0), none, none, some (.iload_n 3, 1, 0, 0, 0), some (.bipush (17), 2, 0, 0, 0), none, some (.if_icmp .ne (11), 3, 0, 0, 0), none, none, some (.aload_n 0, 1, 0, 0, 0), some (.iconst 2, 1, 0, 0, 0), some (.invokevirtual 345, 3, 0, 203, 1637), none, none, some (.goto (10), 3, 0, 0, 0), none, none, some (.aload_n 0, 1, 0, 0, 0), some (.iload_n 1, 1, 0, 0, 0), some (.iload_n 2, 1, 0, 0, 0), some (.iload_n 3, 1, 0, 0, 0), some (.invokevirtual 422, 3, 0, 216, 1693), none, none, some (.iload_n 3, 1, 0, 0, 0), some (.bipush (6), 2, 0, 0, 0), none, some (.if_icmp .eq (9), 3, 0, 0, 0), none, none, some (.iload_n 3, 1, 0, 0, 0), some (.bipush (14), 2, 0, 0, 0), none, some (.if_icmp .ne (8), 3, 0, 0, 0), none, none, some (.aload_n 0, 1, 0, 0, 0), some (.iload_n 2, 1, 0, 0, 0), some (.putfield 384, 3, 11, 64, 1243), none, none, some (.return_, 1, 0, 0, 0)]
set_option maxRecDepth 100000 in
theorem cd201_ok : mChkAt mI201.1.cls mI201.2.1 0 cd201 = true := by decide +kernel
def cd202 : List (Option mEnt) := [some (.aload_n 0, 1, 0, 0, 0), some (.getfield 342, 3, 11, 51, 1230), none, none, some (.sipush (200), 3, 0, 0, 0), none, none, some (.if_icmp .ne (9), 3, 0, 0, 0), none, none, some (.aload_n 0, 1, 0, 0, 0), some (.iconst 5, 1, 0, 0, 0), some (.invokevirtual 345, 3, 0, 203, 1637), none, none, some (.return_, 1, 0, 0, 0), some (.aload_n 0, 1, 0, 0, 0), some (.getfield 102, 3, 11, 50, 1229), none, none, some (.aload_n 0, 1, 0, 0, 0), some (.getfield 342, 3, 11, 51, 1230), none, none, some (.ldc2_w 348, 3, 0, 8, 1641), none, none, some (.iload_n 2, 1, 0, 0, 0), some (.i2l, 1, 0, 0, 0), some (.lmul, 1, 0, 0, 0), some (.iload_n 1, 1, 0, 0, 0), some (.i2l, 1, 0, 0, 0), some (.ladd, 1, 0, 0, 0), some (.lastore, 1, 0, 0, 0), some (.aload_n 0, 1, 0, 0, 0), some (.dup, 1, 0, 0, 0), some (.getfield 342, 3, 11, 51, 1230), none, none, some (.iconst 1, 1, 0, 0, 0), some (.iadd, 1, 0, 0, 0), some (.putfield 342, 3, 11, 51, 1230), none, none, some (.return_, 1, 0, 0, 0)]
set_option maxRecDepth 100000 in
theorem cd202_ok : mChkAt mI202.1.cls mI202.2.1 0 cd202 = true := by decide +kernel
def cd203 : List (Option mEnt) := [some (.aload_n 0, 1, 0, 0, 0), some (.iconst 3, 1, 0, 0, 0), some (.putfield 336, 3, 11, 65, 1244), none, none, some (.aload_n 0, 1, 0, 0, 0), some (.iload_n 1, 1, 0, 0, 0), some (.putfield 339, 3, 11, 66, 1245), none, none, some (.return_, 1, 0, 0, 0)]
set_option maxRecDepth 100000 in
theorem cd203_ok : mChkAt mI203.1.cls mI203.2.1 0 cd203 = true := by decide +kernel
def cd204 : List (Option mEnt) := [some (.aload_n 0, 1, 0, 0, 0), some (.getfield 370, 3, 11, 58, 1237), none, none, some (.istore_n 2, 1, 0, 0, 0), some (.iconst 0, 1, 0, 0, 0), some (.istore_n 3, 1, 0, 0, 0), some (.iload_n 3, 1, 0, 0, 0), some (.iload_n 1, 1, 0, 0, 0), some (.if_icmp .ge (16), 3, 0, 0, 0), none, none, some (.aload_n 0, 1, 0, 0, 0), some (.getfield 115, 3, 11, 56, 1235), none, none, some (.iload_n 2, 1, 0, 0, 0), some (.iaload, 1, 0, 0, 0), some (.istore_n 2, 1, 0, 0, 0), some (.iinc 3 (1), 3, 0, 0, 0), none, none, some (.goto (-15), 3, 0, 0, 0), none, none, some (.iload_n 2, 1, 0, 0, 0), some (.ireturn, 1, 0, 0, 0)]
set_option maxRecDepth 100000 in
theorem cd204_ok : mChkAt mI204.1.cls mI204.2.1 0 cd204 = true := by decide +kernel
def cd205 : List (Option mEnt) := [some (.aload_n 0, 1, 0, 0, 0), some (.lload_n 1, 1, 0, 0, 0), some (.ldc2_w 350, 3, 0, 7, 1650), none, none, some (.land, 1, 0, 0, 0), some (.l2i, 1, 0, 0, 0), some (.lload_n 1, 1, 0, 0, 0), some (.iconst 3, 1, 0, 0, 0), some (.lshr, 1, 0, 0, 0), some (.l2i, 1, 0, 0, 0), some (.invokevirtual 352, 3, 0, 202, 1633), none, none, some (.return_, 1, 0, 0, 0)]
set_option maxRecDepth 100000 in
theorem cd205_ok : mChkAt mI205.1.cls mI205.2.1 0 cd205 = true := by decide +kernel
def cd206 : List (Option mEnt) := [some (.aload_n 0, 1, 0, 0, 0), some (.getfield 102, 3, 11, 50, 1229), none, none, some (.aload_n 0, 1, 0, 0, 0), some (.getfield 342, 3, 11, 51, 1230), none, none, some (.iconst 1, 1, 0, 0, 0), some (.isub, 1, 0, 0, 0), some (.laload, 1, 0, 0, 0), some (.lstore_n 1, 1, 0, 0, 0), some (.aload_n 0, 1, 0, 0, 0), some (.getfield 102, 3, 11, 50, 1229), none, none, some (.aload_n 0, 1, 0, 0, 0), some (.getfield 342, 3, 11, 51, 1230), none, none, some (.iconst 2, 1, 0, 0, 0), some (.isub, 1, 0, 0, 0), some (.laload, 1, 0, 0, 0), some (.lstore_n 3, 1, 0, 0, 0), some (.aload_n 0, 1, 0, 0, 0), some (.dup, 1, 0, 0, 0), some (.getfield 342, 3, 11, 51, 1230), none, none, some (.iconst 2, 1, 0, 0, 0), some (.isub, 1, 0, 0, 0), some (.putfield 342, 3, 11, 51, 1230), none, none, some (.lload_n 3, 1, 0, 0, 0), some (.invokestatic 355, 3, 1, 207, 1655), none, none, some (.iconst 5, 1, 0, 0, 0), some (.if_icmp .ne (36), 3, 0, 0, 0), none, none, some (.lload_n 3, 1, 0, 0, 0), some (.invokestatic 359, 3, 1, 208, 1658), none, none, some (.bipush (82), 2, 0, 0, 0), none, some (.if_icmp .ne (15), 3, 0, 0, 0), none, none, some (.aload_n 0, 1, 0, 0, 0), some (.lload_n 1, 1, 0, 0, 0), some (.invokestatic 359, 3, 1, 208, 1658), none, none, some (.i2d, 1, 0, 0, 0), some (.invokevirtual 373, 3, 0, 209, 1661), none, none, some (.goto (14), 3, 0, 0, 0), none, none, some (.aload_n 0, 1, 0, 0, 0), some (.iconst 0, 1, 0, 0, 0), some (.aload_n 0, 1, 0, 0, 0), some (.lload_n 1, 1, 0, 0, 0), some (.invokevirtual 377, 3, 0, 210, 1665), none, none, some (.d2i, 1, 0, 0, 0), some (.invokevirtual 352, 3, 0, 202, 1633), none, none, some (.return_, 1, 0, 0, 0), some (.aload_n 0, 1, 0, 0, 0), some (.getfield 106, 3, 11, 52, 1231), none, none, some (.aload_n 0, 1, 0, 0, 0), some (.getfield 381, 3, 11, 54, 1233), none, none, some (.aload_n 0, 1, 0, 0, 0), some (.getfield 384, 3, 11, 64, 1243), none, none, some (.iastore, 1, 0, 0, 0), some (.aload_n 0, 1, 0, 0, 0), some (.getfield 109, 3, 11, 53, 1232), none, none, some (.aload_n 0, 1, 0, 0, 0), some (.getfield 381, 3, 11, 54, 1233), none, none, some (.aload_n 0, 1, 0, 0, 0), some (.getfield 370, 3, 11, 58, 1237), none, none, some (.iastore, 1, 0, 0, 0), some (.aload_n 0, 1, 0, 0, 0), some (.dup, 1, 0, 0, 0), some (.getfield 381, 3, 11, 54, 1233), none, none, some (.iconst 1, 1, 0, 0, 0), some (.iadd, 1, 0, 0, 0), some (.putfield 381, 3, 11, 54, 1233), none, none, some (.aload_n 0, 1, 0, 0, 0), some (.lload_n 1, 1, 0, 0, 0), some (.lload_n 3, 1, 0, 0, 0), some (.invokestatic 359, 3, 1, 208, 1658), none, none, some (.sipush (8192), 3, 0, 0, 0), none, none, some (.irem, 1, 0, 0, 0), some (.invokevirtual 387, 3, 0, 211, 1670), none, none, some (.aload_n 0, 1, 0, 0, 0), some (.lload_n 3, 1, 0, 0, 0), some (.invokestatic 359, 3, 1, 208, 1658), none, none, some (.sipush (8192), 3, 0, 0, 0), none, none, some (.idiv, 1, 0, 0, 0), some (.putfield 384, 3, 11, 64, 1243), none, none, some (.return_, 1, 0, 0, 0)]
set_option maxRecDepth 100000 in
theorem cd206_ok : mChkAt mI206.1.cls mI206.2.1 0 cd206 = true := by decide +kernel
end
section
def cd207 : List (Option mEnt) := [some (.lload_n 0, 1, 0, 0, 0), some (.ldc2_w 350, 3, 0, 7, 1650), none, none, some (.land, 1, 0, 0, 0), some (.l2i, 1, 0, 0, 0), some (.ireturn, 1, 0, 0, 0)]
set_option maxRecDepth 100000 in
theorem cd207_ok : mChkAt mI207.1.cls mI207.2.1 0 cd207 = true := by decide +kernel
def cd208 : List (Option mEnt) := [some (.lload_n 0, 1, 0, 0, 0), some (.iconst 3, 1, 0, 0, 0), some (.lshr, 1, 0, 0, 0), some (.l2i, 1, 0, 0, 0), some (.ireturn, 1, 0, 0, 0)]
set_option maxRecDepth 100000 in
theorem cd208_ok : mChkAt mI208.1.cls mI208.2.1 0 cd208 = true := by decide +kernel
def cd209 : List (Option mEnt) := [some (.aload_n 0, 1, 0, 0, 0), some (.getfield 124, 3, 11, 62, 1241), none, none, some (.aload_n 0, 1, 0, 0, 0), some (.getfield 364, 3, 11, 63, 1242), none, none, some (.dload_n 1, 1, 0, 0, 0), some (.dastore, 1, 0, 0, 0), some (.aload_n 0, 1, 0, 0, 0), some (.dup, 1, 0, 0, 0), some (.getfield 364, 3, 11, 63, 1242), none, none, some (.iconst 1, 1, 0, 0, 0), some (.iadd, 1, 0, 0, 0), some (.putfield 364, 3, 11, 63, 1242), none, none, some (.aload_n 0, 1, 0, 0, 0), some (.iconst 2, 1, 0, 0, 0), some (.aload_n 0, 1, 0, 0, 0), some (.getfield 364, 3, 11, 63, 1242), none, none, some (.iconst 1, 1, 0, 0, 0), some (.isub, 1, 0, 0, 0), some (.invokevirtual 352, 3, 0, 202, 1633), none, none, some (.return_, 1, 0, 0, 0)]
set_option maxRecDepth 100000 in
theorem cd209_ok : mChkAt mI209.1.cls mI209.2.1 0 cd209 = true := by decide +kernel
def cd210 : List (Option mEnt) := [some (.lload_n 1, 1, 0, 0, 0), some (.invokestatic 355, 3, 1, 207, 1655), none, none, some (.iconst 1, 1, 0, 0, 0), some (.if_icmp .ne (15), 3, 0, 0, 0), none, none, some (.lload_n 1, 1, 0, 0, 0), some (.invokestatic 359, 3, 1, 208, 1658), none, none, some (.i2d, 1, 0, 0, 0), some (.ldc2_w 362, 3, 1, 4652007308841189376, 1669), none, none, some (.ddiv, 1, 0, 0, 0), some (.goto (24), 3, 0, 0, 0), none, none, some (.lload_n 1, 1, 0, 0, 0), some (.invokestatic 355, 3, 1, 207, 1655), none, none, some (.iconst 2, 1, 0, 0, 0), some (.if_icmp .ne (15), 3, 0, 0, 0), none, none, some (.aload_n 0, 1, 0, 0, 0), some (.getfield 124, 3, 11, 62, 1241), none, none, some (.lload_n 1, 1, 0, 0, 0), some (.invokestatic 359, 3, 1, 208, 1658), none, none, some (.daload, 1, 0, 0, 0), some (.goto (4), 3, 0, 0, 0), none, none, some (.dconst 0, 1, 0, 0, 0), some (.dreturn, 1, 0, 0, 0)]
set_option maxRecDepth 100000 in
theorem cd210_ok : mChkAt mI210.1.cls mI210.2.1 0 cd210 = true := by decide +kernel
def cd211 : List (Option mEnt) := [some (.aload_n 0, 1, 0, 0, 0), some (.dup, 1, 0, 0, 0), some (.getfield 367, 3, 11, 57, 1236), none, none, some (.iconst 1, 1, 0, 0, 0), some (.iadd, 1, 0, 0, 0), some (.putfield 367, 3, 11, 57, 1236), none, none, some (.aload_n 0, 1, 0, 0, 0), some (.getfield 112, 3, 11, 55, 1234), none, none, some (.aload_n 0, 1, 0, 0, 0), some (.getfield 367, 3, 11, 57, 1236), none, none, some (.lload_n 1, 1, 0, 0, 0), some (.lastore, 1, 0, 0, 0), some (.aload_n 0, 1, 0, 0, 0), some (.getfield 115, 3, 11, 56, 1235), none, none, some (.aload_n 0, 1, 0, 0, 0), some (.getfield 367, 3, 11, 57, 1236), none, none, some (.iload_n 3, 1, 0, 0, 0), some (.iastore, 1, 0, 0, 0), some (.aload_n 0, 1, 0, 0, 0), some (.aload_n 0, 1, 0, 0, 0), some (.getfield 367, 3, 11, 57, 1236), none, none, some (.putfield 370, 3, 11, 58, 1237), none, none, some (.return_, 1, 0, 0, 0)]
set_option maxRecDepth 100000 in
theorem cd211_ok : mChkAt mI211.1.cls mI211.2.1 0 cd211 = true := by decide +kernel
def cd212 : List (Option mEnt) := [some (.aload_n 0, 1, 0, 0, 0), some (.getfield 102, 3, 11, 50, 1229), none, none, some (.aload_n 0, 1, 0, 0, 0), some (.getfield 342, 3, 11, 51, 1230), none, none, some (.iconst 1, 1, 0, 0, 0), some (.isub, 1, 0, 0, 0), some (.laload, 1, 0, 0, 0), some (.lstore_n 2, 1, 0, 0, 0), some (.aload_n 0, 1, 0, 0, 0), some (.dup, 1, 0, 0, 0), some (.getfield 342, 3, 11, 51, 1230), none, none, some (.iconst 1, 1, 0, 0, 0), some (.isub, 1, 0, 0, 0), some (.putfield 342, 3, 11, 51, 1230), none, none, some (.iload_n 1, 1, 0, 0, 0), some (.bipush (126), 2, 0, 0, 0), none, some (.if_icmp .ne (14), 3, 0, 0, 0), none, none, some (.aload_n 0, 1, 0, 0, 0), some (.aload_n 0, 1, 0, 0, 0), some (.lload_n 2, 1, 0, 0, 0), some (.invokevirtual 377, 3, 0, 210, 1665), none, none, some (.dneg, 1, 0, 0, 0), some (.invokevirtual 373, 3, 0, 209, 1661), none, none, some (.return_, 1, 0, 0, 0), some (.aload_n 0, 1, 0, 0, 0), some (.getfield 102, 3, 11, 50, 1229), none, none, some (.aload_n 0, 1, 0, 0, 0), some (.getfield 342, 3, 11, 51, 1230), none, none, some (.iconst 1, 1, 0, 0, 0), some (.isub, 1, 0, 0, 0), some (.laload, 1, 0, 0, 0), some (.lstore 4, 2, 0, 0, 0), none, some (.aload_n 0, 1, 0, 0, 0), some (.dup, 1, 0, 0, 0), some (.getfield 342, 3, 11, 51, 1230), none, none, some (.iconst 1, 1, 0, 0, 0), some (.isub, 1, 0, 0, 0), some (.putfield 342, 3, 11, 51, 1230), none, none, some (.iload_n 1, 1, 0, 0, 0), some (.bipush (44), 2, 0, 0, 0), none, some (.if_icmp .ne (48), 3, 0, 0, 0), none, none, some (.aload_n 0, 1, 0, 0, 0), some (.getfield 118, 3, 11, 59, 1238), none, none, some (.aload_n 0, 1, 0, 0, 0), some (.getfield 391, 3, 11, 61, 1240), none, none, some (.lload 4, 2, 0, 0, 0), none, some (.lastore, 1, 0, 0, 0), some (.aload_n 0, 1, 0, 0, 0), some (.getfield 121, 3, 11, 60, 1239), none, none, some (.aload_n 0, 1, 0, 0, 0), some (.getfield 391, 3, 11, 61, 1240), none, none, some (.lload_n 2, 1, 0, 0, 0), some (.lastore, 1, 0, 0, 0), some (.aload_n 0, 1, 0, 0, 0), some (.dup, 1, 0, 0, 0), some (.getfield 391, 3, 11, 61, 1240), none, none, some (.iconst 1, 1, 0, 0, 0), some (.iadd, 1, 0, 0, 0), some (.putfield 391, 3, 11, 61, 1240), none, none, some (.aload_n 0, 1, 0, 0, 0), some (.iconst 4, 1, 0, 0, 0), some (.aload_n 0, 1, 0, 0, 0), some (.getfield 391, 3, 11, 61, 1240), none, none, some (.iconst 1, 1, 0, 0, 0), some (.isub, 1, 0, 0, 0), some (.invokevirtual 352, 3, 0, 202, 1633), none, none, some (.goto (47), 3, 0, 0, 0), none, none, some (.iload_n 1, 1, 0, 0, 0), some (.sipush (128), 3, 0, 0, 0), none, none, some (.if_icmp .le (26), 3, 0, 0, 0), none, none, some (.aload_n 0, 1, 0, 0, 0), some (.iload_n 1, 1, 0, 0, 0), some (.sipush (128), 3, 0, 0, 0), none, none, some (.isub, 1, 0, 0, 0), some (.aload_n 0, 1, 0, 0, 0), some (.lload 4, 2, 0, 0, 0), none, some (.invokevirtual 377, 3, 0, 210, 1665), none, none, some (.aload_n 0, 1, 0, 0, 0), some (.lload_n 2, 1, 0, 0, 0), some (.invokevirtual 377, 3, 0, 210, 1665), none, none, some (.invokevirtual 394, 3, 0, 213, 1678), none, none, some (.goto (17), 3, 0, 0, 0), none, none, some (.aload_n 0, 1, 0, 0, 0), some (.iload_n 1, 1, 0, 0, 0), some (.lload 4, 2, 0, 0, 0), none, some (.invokestatic 359, 3, 1, 208, 1658), none, none, some (.lload_n 2, 1, 0, 0, 0), some (.invokestatic 359, 3, 1, 208, 1658), none, none, some (.invokevirtual 398, 3, 0, 214, 1684), none, none, some (.return_, 1, 0, 0, 0)]
set_option maxRecDepth 100000 in
theorem cd212_ok : mChkAt mI212.1.cls mI212.2.1 0 cd212 = true := by decide +kernel
def cd213 : List (Option mEnt) := [some (.iload_n 1, 1, 0, 0, 0), some (.bipush (60), 2, 0, 0, 0), none, some (.if_icmp .ne (21), 3, 0, 0, 0), none, none, some (.aload_n 0, 1, 0, 0, 0), some (.iconst 0, 1, 0, 0, 0), some (.dload_n 2, 1, 0, 0, 0), some (.dload 4, 2, 0, 0, 0), none, some (.dcmp .g, 1, 0, 0, 0), some (.ifCond .ge (7), 3, 0, 0, 0), none, none, some (.iconst 1, 1, 0, 0, 0), some (.goto (4), 3, 0, 0, 0), none, none, some (.iconst 0, 1, 0, 0, 0), some (.invokevirtual 352, 3, 0, 202, 1633), none, none, some (.return_, 1, 0, 0, 0), some (.iload_n 1, 1, 0, 0, 0), some (.bipush (47), 2, 0, 0, 0), none, some (.if_icmp .ne (16), 3, 0, 0, 0), none, none, some (.dload 4, 2, 0, 0, 0), none, some (.dconst 0, 1, 0, 0, 0), some (.dcmp .l, 1, 0, 0, 0), some (.ifCond .ne (9), 3, 0, 0, 0), none, none, some (.aload_n 0, 1, 0, 0, 0), some (.iconst 1, 1, 0, 0, 0), some (.invokevirtual 345, 3, 0, 203, 1637), none, none, some (.return_, 1, 0, 0, 0), some (.iload_n 1, 1, 0, 0, 0), some (.bipush (43), 2, 0, 0, 0), none, some (.if_icmp .ne (10), 3, 0, 0, 0), none, none, some (.dload_n 2, 1, 0, 0, 0), some (.dload 4, 2, 0, 0, 0), none, some (.dadd, 1, 0, 0, 0), some (.goto (33), 3, 0, 0, 0), none, none, some (.iload_n 1, 1, 0, 0, 0), some (.bipush (45), 2, 0, 0, 0), none, some (.if_icmp .ne (10), 3, 0, 0, 0), none, none, some (.dload_n 2, 1, 0, 0, 0), some (.dload 4, 2, 0, 0, 0), none, some (.dsub, 1, 0, 0, 0), some (.goto (20), 3, 0, 0, 0), none, none, some (.iload_n 1, 1, 0, 0, 0), some (.bipush (42), 2, 0, 0, 0), none, some (.if_icmp .ne (10), 3, 0, 0, 0), none, none, some (.dload_n 2, 1, 0, 0, 0), some (.dload 4, 2, 0, 0, 0), none, some (.dmul, 1, 0, 0, 0), some (.goto (7), 3, 0, 0, 0), none, none, some (.dload_n 2, 1, 0, 0, 0), some (.dload 4, 2, 0, 0, 0), none, some (.ddiv, 1, 0, 0, 0), some (.dstore 6, 2, 0, 0, 0), none, some (.dload 6, 2, 0, 0, 0), none, some (.ldc2_w 401, 3, 1, 4741671816366391296, 1682), none, none, some (.dcmp .l, 1, 0, 0, 0), some (.ifCond .gt (12), 3, 0, 0, 0), none, none, some (.dload 6, 2, 0, 0, 0), none, some (.ldc2_w 403, 3, 1, 13965043853221167104, 1683), none, none, some (.dcmp .g, 1, 0, 0, 0), some (.ifCond .ge (11), 3, 0, 0, 0), none, none, some (.aload_n 0, 1, 0, 0, 0), some (.iconst 3, 1, 0, 0, 0), some (.invokevirtual 345, 3, 0, 203, 1637), none, none, some (.goto (9), 3, 0, 0, 0), none, none, some (.aload_n 0, 1, 0, 0, 0), some (.dload 6, 2, 0, 0, 0), none, some (.invokevirtual 373, 3, 0, 209, 1661), none, none, some (.return_, 1, 0, 0, 0)]
set_option maxRecDepth 100000 in
theorem cd213_ok : mChkAt mI213.1.cls mI213.2.1 0 cd213 = true := by decide +kernel
def cd214 : List (Option mEnt) := [some (.iload_n 1, 1, 0, 0, 0), some (.bipush (47), 2, 0, 0, 0), none, some (.if_icmp .ne (13), 3, 0, 0, 0), none, none, some (.iload_n 3, 1, 0, 0, 0), some (.ifCond .ne (9), 3, 0, 0, 0), none, none, some (.aload_n 0, 1, 0, 0, 0), some (.iconst 1, 1, 0, 0, 0), some (.invokevirtual 345, 3, 0, 203, 1637), none, none, some (.return_, 1, 0, 0, 0), some (.aload_n 0, 1, 0, 0, 0), some (.iconst 0, 1, 0, 0, 0), some (.iload_n 1, 1, 0, 0, 0), some (.bipush (43), 2, 0, 0, 0), none, some (.if_icmp .ne (9), 3, 0, 0, 0), none, none, some (.iload_n 2, 1, 0, 0, 0), some (.iload_n 3, 1, 0, 0, 0), some (.iadd, 1, 0, 0, 0), some (.goto (63), 3, 0, 0, 0), none, none, some (.iload_n 1, 1, 0, 0, 0), some (.bipush (45), 2, 0, 0, 0), none, some (.if_icmp .ne (9), 3, 0, 0, 0), none, none, some (.iload_n 2, 1, 0, 0, 0), some (.iload_n 3, 1, 0, 0, 0), some (.isub, 1, 0, 0, 0), some (.goto (51), 3, 0, 0, 0), none, none, some (.iload_n 1, 1, 0, 0, 0), some (.bipush (42), 2, 0, 0, 0), none, some (.if_icmp .ne (9), 3, 0, 0, 0), none, none, some (.iload_n 2, 1, 0, 0, 0), some (.iload_n 3, 1, 0, 0, 0), some (.imul, 1, 0, 0, 0), some (.goto (39), 3, 0, 0, 0), none, none, some (.iload_n 1, 1, 0, 0, 0), some (.bipush (47), 2, 0, 0, 0), none, some (.if_icmp .ne (9), 3, 0, 0, 0), none, none, some (.iload_n 2, 1, 0, 0, 0), some (.iload_n 3, 1, 0, 0, 0), some (.idiv, 1, 0, 0, 0), some (.goto (27), 3, 0, 0, 0), none, none, some (.iload_n 1, 1, 0, 0, 0), some (.bipush (60), 2, 0, 0, 0), none, some (.if_icmp .ne (11), 3, 0, 0, 0), none, none, some (.iload_n 2, 1, 0, 0, 0), some (.iload_n 3, 1, 0, 0, 0), some (.if_icmp .ge (15), 3, 0, 0, 0), none, none, some (.goto (8), 3, 0, 0, 0), none, none, some (.iload_n 2, 1, 0, 0, 0), some (.iload_n 3, 1, 0, 0, 0), some (.if_icmp .ne (7), 3, 0, 0, 0), none, none, some (.iconst 1, 1, 0, 0, 0), some (.goto (4), 3, 0, 0, 0), none, none, some (.iconst 0, 1, 0, 0, 0), some (.invokevirtual 352, 3, 0, 202, 1633), none, none, some (.return_, 1, 0, 0, 0)]
set_option maxRecDepth 100000 in
theorem cd214_ok : mChkAt mI214.1.cls mI214.2.1 0 cd214 = true := by decide +kernel
def cd215 : List (Option mEnt) := [some (.aload_n 0, 1, 0, 0, 0), some (.dup, 1, 0, 0, 0), some (.getfield 342, 3, 11, 51, 1230), none, none, some (.iconst 1, 1, 0, 0, 0), some (.isub, 1, 0, 0, 0), some (.putfield 342, 3, 11, 51, 1230), none, none, some (.aload_n 0, 1, 0, 0, 0), some (.getfield 102, 3, 11, 50, 1229), none, none, some (.aload_n 0, 1, 0, 0, 0), some (.getfield 342, 3, 11, 51, 1230), none, none, some (.laload, 1, 0, 0, 0), some (.lstore_n 2, 1, 0, 0, 0), some (.aload_n 0, 1, 0, 0, 0), some (.lload_n 2, 1, 0, 0, 0), some (.aload_n 0, 1, 0, 0, 0), some (.getfield 370, 3, 11, 58, 1237), none, none, some (.invokevirtual 387, 3, 0, 211, 1670), none, none, some (.iload_n 1, 1, 0, 0, 0), some (.ifCond .eq (38), 3, 0, 0, 0), none, none, some (.aload_n 0, 1, 0, 0, 0), some (.getfield 112, 3, 11, 55, 1234), none, none, some (.aload_n 0, 1, 0, 0, 0), some (.getfield 367, 3, 11, 57, 1236), none, none, some (.ldc2_w 348, 3, 0, 8, 1641), none, none, some (.lload_n 2, 1, 0, 0, 0), some (.invokestatic 359, 3, 1, 208, 1658), none, none, some (.sipush (8192), 3, 0, 0, 0), none, none, some (.idiv, 1, 0, 0, 0), some (.sipush (8192), 3, 0, 0, 0), none, none, some (.imul, 1, 0, 0, 0), some (.aload_n 0, 1, 0, 0, 0), some (.getfield 367, 3, 11, 57, 1236), none, none, some (.iadd, 1, 0, 0, 0), some (.i2l, 1, 0, 0, 0), some (.lmul, 1, 0, 0, 0), some (.ldc2_w 425, 3, 0, 6, 1692), none, none, some (.ladd, 1, 0, 0, 0), some (.lastore, 1, 0, 0, 0), some (.return_, 1, 0, 0, 0)]
set_option maxRecDepth 100000 in
theorem cd215_ok : mChkAt mI215.1.cls mI215.2.1 0 cd215 = true := by decide +kernel
def cd216 : List (Option mEnt) := [some (.iload_n 3, 1, 0, 0, 0), some (.bipush (7), 2, 0, 0, 0), none, some (.if_icmp .ne (42), 3, 0, 0, 0), none, none, some (.aload_n 0, 1, 0, 0, 0), some (.dup, 1, 0, 0, 0), some (.getfield 381, 3, 11, 54, 1233), none, none, some (.iconst 1, 1, 0, 0, 0), some (.isub, 1, 0, 0, 0), some (.putfield 381, 3, 11, 54, 1233), none, none, some (.aload_n 0, 1, 0, 0, 0), some (.aload_n 0, 1, 0, 0, 0), some (.getfield 106, 3, 11, 52, 1231), none, none, some (.aload_n 0, 1, 0, 0, 0), some (.getfield 381, 3, 11, 54, 1233), none, none, some (.iaload, 1, 0, 0, 0), some (.putfield 384, 3, 11, 64, 1243), none, none, some (.aload_n 0, 1, 0, 0, 0), some (.aload_n 0, 1, 0, 0, 0), some (.getfield 109, 3, 11, 53, 1232), none, none, some (.aload_n 0, 1, 0, 0, 0), some (.getfield 381, 3, 11, 54, 1233), none, none, some (.iaload, 1, 0, 0, 0), some (.putfield 370, 3, 11, 58, 1237), none, none, some (.goto (109), 3, 0, 0, 0), none, none, some (.iload_n 3, 1, 0, 0, 0), some (.bipush (13), 2, 0, 0, 0), none, some (.if_icmp .ne (43), 3, 0, 0, 0), none, none, some (.aload_n 0, 1, 0, 0, 0), some (.dup, 1, 0, 0, 0), some (.getfield 342, 3, 11, 51, 1230), none, none, some (.iconst 1, 1, 0, 0, 0), some (.isub, 1, 0, 0, 0), some (.putfield 342, 3, 11, 51, 1230), none, none, some (.aload_n 0, 1, 0, 0, 0), some (.aload_n 0, 1, 0, 0, 0), some (.getfield 102, 3, 11, 50, 1229), none, none, some (.aload_n 0, 1, 0, 0, 0), some (.getfield 342, 3, 11, 51, 1230), none, none, some (.laload, 1, 0, 0, 0), some (.invokestatic 359, 3, 1, 208, 1658), none, none, some (.ifCond .ne (7), 3, 0, 0, 0), none, none, some (.iload_n 2, 1, 0, 0, 0), some (.goto (7), 3, 0, 0, 0), none, none, some (.aload_n 0, 1, 0, 0, 0), some (.getfield 384, 3, 11, 64, 1243), none, none, some (.putfield 384, 3, 11, 64, 1243), none, none, some (.goto (63), 3, 0, 0, 0), none, none, some (.iload_n 3, 1, 0, 0, 0), some (.bipush (16), 2, 0, 0, 0), none, some (.if_icmp .ne (57), 3, 0, 0, 0), none, none, some (.aload_n 0, 1, 0, 0, 0), some (.iload_n 2, 1, 0, 0, 0), some (.aload_n 0, 1, 0, 0, 0), some (.getfield 29, 3, 11, 10, 1189), none, none, some (.iload_n 1, 1, 0, 0, 0), some (.iaload, 1, 0, 0, 0), some (.invokevirtual 427, 3, 0, 217, 1697), none, none, some (.istore 4, 2, 0, 0, 0), none, some (.aload_n 0, 1, 0, 0, 0), some (.dup, 1, 0, 0, 0), some (.getfield 342, 3, 11, 51, 1230), none, none, some (.iload 4, 2, 0, 0, 0), none, some (.ifCond .eq (7), 3, 0, 0, 0), none, none, some (.iconst 1, 1, 0, 0, 0), some (.goto (4), 3, 0, 0, 0), none, none, some (.iconst 0, 1, 0, 0, 0), some (.isub, 1, 0, 0, 0), some (.putfield 342, 3, 11, 51, 1230), none, none, some (.aload_n 0, 1, 0, 0, 0), some (.iload 4, 2, 0, 0, 0), none, some (.ifCond .eq (10), 3, 0, 0, 0), none, none, some (.aload_n 0, 1, 0, 0, 0), some (.getfield 384, 3, 11, 64, 1243), none, none, some (.goto (9), 3, 0, 0, 0), none, none, some (.aload_n 0, 1, 0, 0, 0), some (.getfield 59, 3, 11, 26, 1205), none, none, some (.iload_n 1, 1, 0, 0, 0), some (.iaload, 1, 0, 0, 0), some (.putfield 384, 3, 11, 64, 1243), none, none, some (.return_, 1, 0, 0, 0)]
set_option maxRecDepth 100000 in
theorem cd216_ok : mChkAt mI216.1.cls mI216.2.1 0 cd216 = true := by decide +kernel
def cd217 : List (Option mEnt) := [some (.aload_n 0, 1, 0, 0, 0), some (.getfield 367, 3, 11, 57, 1236), none, none, some (.istore_n 3, 1, 0, 0, 0), some (.aload_n 0, 1, 0, 0, 0), some (.getfield 370, 3, 11, 58, 1237), none, none, some (.istore 4, 2, 0, 0, 0), none, some (.iconst 1, 1, 0, 0, 0), some (.istore 5, 2, 0, 0, 0), none, some (.aload_n 0, 1, 0, 0, 0), some (.getfield 128, 3, 11, 71, 1250), none, none, some (.iconst 0, 1, 0, 0, 0), some (.aload_n 0, 1, 0, 0, 0), some (.getfield 102, 3, 11, 50, 1229), none, none, some (.aload_n 0, 1, 0, 0, 0), some (.getfield 342, 3, 11, 51, 1230), none, none, some (.iconst 1, 1, 0, 0, 0), some (.isub, 1, 0, 0, 0), some (.laload, 1, 0, 0, 0), some (.lastore, 1, 0, 0, 0), some (.iload_n 1, 1, 0, 0, 0), some (.istore 6, 2, 0, 0, 0), none, some (.iload 6, 2, 0, 0, 0), none, some (.iload_n 2, 1, 0, 0, 0), some (.if_icmp .ge (213), 3, 0, 0, 0), none, none, some (.iinc 5 (-1), 3, 0, 0, 0), none, none, some (.aload_n 0, 1, 0, 0, 0), some (.getfield 128, 3, 11, 71, 1250), none, none, some (.iload 5, 2, 0, 0, 0), none, some (.laload, 1, 0, 0, 0), some (.lstore 7, 2, 0, 0, 0), none, some (.aload_n 0, 1, 0, 0, 0), some (.getfield 38, 3, 11, 15, 1194), none, none, some (.iload 6, 2, 0, 0, 0), none, some (.iaload, 1, 0, 0, 0), some (.ifCond .ne (20), 3, 0, 0, 0), none, none, some (.lload 7, 2, 0, 0, 0), none, some (.invokestatic 355, 3, 1, 207, 1655), none, none, some (.iconst 4, 1, 0, 0, 0), some (.if_icmp .ne (7), 3, 0, 0, 0), none, none, some (.iconst 1, 1, 0, 0, 0), some (.goto (69), 3, 0, 0, 0), none, none, some (.iconst 0, 1, 0, 0, 0), some (.goto (65), 3, 0, 0, 0), none, none, some (.aload_n 0, 1, 0, 0, 0), some (.getfield 38, 3, 11, 15, 1194), none, none, some (.iload 6, 2, 0, 0, 0), none, some (.iaload, 1, 0, 0, 0), some (.iconst 1, 1, 0, 0, 0), some (.if_icmp .eq (49), 3, 0, 0, 0), none, none, some (.aload_n 0, 1, 0, 0, 0), some (.getfield 38, 3, 11, 15, 1194), none, none, some (.iload 6, 2, 0, 0, 0), none, some (.iaload, 1, 0, 0, 0), some (.iconst 4, 1, 0, 0, 0), some (.if_icmp .ne (15), 3, 0, 0, 0), none, none, some (.lload 7, 2, 0, 0, 0), none, some (.invokestatic 355, 3, 1, 207, 1655), none, none, some (.iconst 3, 1, 0, 0, 0), some (.if_icmp .ne (33), 3, 0, 0, 0), none, none, some (.goto (26), 3, 0, 0, 0), none, none, some (.lload 7, 2, 0, 0, 0), none, some (.invokestatic 355, 3, 1, 207, 1655), none, none, some (.ifCond .ne (22), 3, 0, 0, 0), none, none, some (.lload 7, 2, 0, 0, 0), none, some (.invokestatic 359, 3, 1, 208, 1658), none, none, some (.aload_n 0, 1, 0, 0, 0), some (.getfield 41, 3, 11, 16, 1195), none, none, some (.iload 6, 2, 0, 0, 0), none, some (.iaload, 1, 0, 0, 0), some (.if_icmp .ne (7), 3, 0, 0, 0), none, none, some (.iconst 1, 1, 0, 0, 0), some (.goto (4), 3, 0, 0, 0), none, none, some (.iconst 0, 1, 0, 0, 0), some (.istore 9, 2, 0, 0, 0), none, some (.iload 9, 2, 0, 0, 0), none, some (.ifCond .ne (16), 3, 0, 0, 0), none, none, some (.aload_n 0, 1, 0, 0, 0), some (.iload_n 3, 1, 0, 0, 0), some (.putfield 367, 3, 11, 57, 1236), none, none, some (.aload_n 0, 1, 0, 0, 0), some (.iload 4, 2, 0, 0, 0), none, some (.putfield 370, 3, 11, 58, 1237), none, none, some (.iconst 0, 1, 0, 0, 0), some (.ireturn, 1, 0, 0, 0), some (.aload_n 0, 1, 0, 0, 0), some (.getfield 38, 3, 11, 15, 1194), none, none, some (.iload 6, 2, 0, 0, 0), none, some (.iaload, 1, 0, 0, 0), some (.ifCond .ne (45), 3, 0, 0, 0), none, none, some (.aload_n 0, 1, 0, 0, 0), some (.getfield 128, 3, 11, 71, 1250), none, none, some (.iload 5, 2, 0, 0, 0), none, some (.aload_n 0, 1, 0, 0, 0), some (.getfield 121, 3, 11, 60, 1239), none, none, some (.lload 7, 2, 0, 0, 0), none, some (.invokestatic 359, 3, 1, 208, 1658), none, none, some (.laload, 1, 0, 0, 0), some (.lastore, 1, 0, 0, 0), some (.aload_n 0, 1, 0, 0, 0), some (.getfield 128, 3, 11, 71, 1250), none, none, some (.iload 5, 2, 0, 0, 0), none, some (.iconst 1, 1, 0, 0, 0), some (.iadd, 1, 0, 0, 0), some (.aload_n 0, 1, 0, 0, 0), some (.getfield 118, 3, 11, 59, 1238), none, none, some (.lload 7, 2, 0, 0, 0), none, some (.invokestatic 359, 3, 1, 208, 1658), none, none, some (.laload, 1, 0, 0, 0), some (.lastore, 1, 0, 0, 0), some (.iinc 5 (2), 3, 0, 0, 0), none, none, some (.goto (34), 3, 0, 0, 0), none, none, some (.aload_n 0, 1, 0, 0, 0), some (.getfield 38, 3, 11, 15, 1194), none, none, some (.iload 6, 2, 0, 0, 0), none, some (.iaload, 1, 0, 0, 0), some (.iconst 1, 1, 0, 0, 0), some (.if_icmp .ne (23), 3, 0, 0, 0), none, none, some (.aload_n 0, 1, 0, 0, 0), some (.getfield 41, 3, 11, 16, 1195), none, none, some (.iload 6, 2, 0, 0, 0), none, some (.iaload, 1, 0, 0, 0), some (.ifCond .le (13), 3, 0, 0, 0), none, none, some (.aload_n 0, 1, 0, 0, 0), some (.lload 7, 2, 0, 0, 0), none, some (.aload_n 0, 1, 0, 0, 0), some (.getfield 370, 3, 11, 58, 1237), none, none, some (.invokevirtual 387, 3, 0, 211, 1670), none, none, some (.iinc 6 (1), 3, 0, 0, 0), none, none, some (.goto (-213), 3, 0, 0, 0), none, none, some (.iconst 1, 1, 0, 0, 0), some (.ireturn, 1, 0, 0, 0)]
set_option maxRecDepth 100000 in
theorem cd217_ok : mChkAt mI217.1.cls mI217.2.1 0 cd217 = true := by decide +kernel
def cd218 : List (Option mEnt) := [some (.aload_n 0, 1, 0, 0, 0), some (.iconst 0, 1, 0, 0, 0), some (.putfield 131, 3, 11, 0, 1179), none, none, some (.iload_n 1, 1, 0, 0, 0), some (.ifCond .ne (10), 3, 0, 0, 0), none, none, some (.aload_n 0, 1, 0, 0, 0), some (.getfield 336, 3, 11, 65, 1244), none, none, some (.goto (40), 3, 0, 0, 0), none, none, some (.iload_n 1, 1, 0, 0, 0), some (.iconst 1, 1, 0, 0, 0), some (.if_icmp .ne (10), 3, 0, 0, 0), none, none, some (.aload_n 0, 1, 0, 0, 0), some (.getfield 339, 3, 11, 66, 1245), none, none, some (.goto (28), 3, 0, 0, 0), none, none, some (.iload_n 1, 1, 0, 0, 0), some (.iconst 2, 1, 0, 0, 0), some (.if_icmp .ne (10), 3, 0, 0, 0), none, none, some (.aload_n 0, 1, 0, 0, 0), some (.getfield 436, 3, 11, 67, 1246), none, none, some (.goto (16), 3, 0, 0, 0), none, none, some (.iload_n 1, 1, 0, 0, 0), some (.iconst 3, 1, 0, 0, 0), some (.if_icmp .ne (10), 3, 0, 0, 0), none, none, some (.aload_n 0, 1, 0, 0, 0), some (.getfield 469, 3, 11, 68, 1247), none, none, some (.goto (4), 3, 0, 0, 0), none, none, some (.iconst (-1), 1, 0, 0, 0), some (.ireturn, 1, 0, 0, 0)]
set_option maxRecDepth 100000 in
theorem cd218_ok : mChkAt mI218.1.cls mI218.2.1 0 cd218 = true := by decide +kernel
def cd219 : List (Option mEnt) := [some (.aload_n 0, 1, 0, 0, 0), some (.aload_n 0, 1, 0, 0, 0), some (.getfield 336, 3, 11, 65, 1244), none, none, some (.iconst 2, 1, 0, 0, 0), some (.if_icmp .eq (7), 3, 0, 0, 0), none, none, some (.iconst 1, 1, 0, 0, 0), some (.goto (17), 3, 0, 0, 0), none, none, some (.iload_n 1, 1, 0, 0, 0), some (.ifCond .lt (8), 3, 0, 0, 0), none, none, some (.iload_n 1, 1, 0, 0, 0), some (.iconst 2, 1, 0, 0, 0), some (.if_icmp .le (7), 3, 0, 0, 0), none, none, some (.iconst 2, 1, 0, 0, 0), some (.goto (4), 3, 0, 0, 0), none, none, some (.iconst 0, 1, 0, 0, 0), some (.putfield 131, 3, 11, 0, 1179), none, none, some (.aload_n 0, 1, 0, 0, 0), some (.getfield 131, 3, 11, 0, 1179), none, none, some (.ifCond .le (5), 3, 0, 0, 0), none, none, some (.iconst 0, 1, 0, 0, 0), some (.ireturn, 1, 0, 0, 0), some (.aload_n 0, 1, 0, 0, 0), some (.getfield 459, 3, 11, 69, 1248), none, none, some (.invokestatic 355, 3, 1, 207, 1655), none, none, some (.istore_n 2, 1, 0, 0, 0), some (.iload_n 1, 1, 0, 0, 0), some (.ifCond .le (35), 3, 0, 0, 0), none, none, some (.iload_n 1, 1, 0, 0, 0), some (.iconst 2, 1, 0, 0, 0), some (.if_icmp .ne (14), 3, 0, 0, 0), none, none, some (.aload_n 0, 1, 0, 0, 0), some (.aload_n 0, 1, 0, 0, 0), some (.getfield 459, 3, 11, 69, 1248), none, none, some (.invokevirtual 472, 3, 0, 220, 1709), none, none, some (.goto (18), 3, 0, 0, 0), none, none, some (.iload_n 2, 1, 0, 0, 0), some (.ifCond .ne (13), 3, 0, 0, 0), none, none, some (.aload_n 0, 1, 0, 0, 0), some (.getfield 459, 3, 11, 69, 1248), none, none, some (.invokestatic 359, 3, 1, 208, 1658), none, none, some (.goto (4), 3, 0, 0, 0), none, none, some (.iconst 0, 1, 0, 0, 0), some (.ireturn, 1, 0, 0, 0), some (.iload_n 2, 1, 0, 0, 0), some (.ifCond .ne (25), 3, 0, 0, 0), none, none, some (.aload_n 0, 1, 0, 0, 0), some (.getfield 99, 3, 11, 48, 1227), none, none, some (.aload_n 0, 1, 0, 0, 0), some (.getfield 463, 3, 11, 70, 1249), none, none, some (.caload, 1, 0, 0, 0), some (.bipush (98), 2, 0, 0, 0), none, some (.if_icmp .ne (7), 3, 0, 0, 0), none, none, some (.iconst 1, 1, 0, 0, 0), some (.goto (26), 3, 0, 0, 0), none, none, some (.iconst 0, 1, 0, 0, 0), some (.goto (22), 3, 0, 0, 0), none, none, some (.iload_n 2, 1, 0, 0, 0), some (.iconst 3, 1, 0, 0, 0), some (.if_icmp .ge (7), 3, 0, 0, 0), none, none, some (.iconst 2, 1, 0, 0, 0), some (.goto (13), 3, 0, 0, 0), none, none, some (.iload_n 2, 1, 0, 0, 0), some (.iconst 5, 1, 0, 0, 0), some (.if_icmp .ge (7), 3, 0, 0, 0), none, none, some (.iconst 3, 1, 0, 0, 0), some (.goto (4), 3, 0, 0, 0), none, none, some (.iconst 4, 1, 0, 0, 0), some (.ireturn, 1, 0, 0, 0)]
set_option maxRecDepth 100000 in
theorem cd219_ok : mChkAt mI219.1.cls mI219.2.1 0 cd219 = true := by decide +kernel
def cd220 : List (Option mEnt) := [some (.iconst 0, 1, 0, 0, 0), some (.istore_n 3, 1, 0, 0, 0), some (.lload_n 1, 1, 0, 0, 0), some (.lstore 4, 2, 0, 0, 0), none, some (.lload 4, 2, 0, 0, 0), none, some (.invokestatic 355, 3, 1, 207, 1655), none, none, some (.iconst 4, 1, 0, 0, 0), some (.if_icmp .ne (21), 3, 0, 0, 0), none, none, some (.aload_n 0, 1, 0, 0, 0), some (.getfield 121, 3, 11, 60, 1239), none, none, some (.lload 4, 2, 0, 0, 0), none, some (.invokestatic 359, 3, 1, 208, 1658), none, none, some (.laload, 1, 0, 0, 0), some (.lstore 4, 2, 0, 0, 0), none, some (.iinc 3 (1), 3, 0, 0, 0), none, none, some (.goto (-24), 3, 0, 0, 0), none, none, some (.iload_n 3, 1, 0, 0, 0), some (.ireturn, 1, 0, 0, 0)]
set_option maxRecDepth 100000 in
theorem cd220_ok : mChkAt mI220.1.cls mI220.2.1 0 cd220 = true := by decide +kernel
def cd221 : List (Option mEnt) := [some (.aload_n 0, 1, 0, 0, 0), some (.aload_n 0, 1, 0, 0, 0), some (.getfield 336, 3, 11, 65, 1244), none, none, some (.iconst 2, 1, 0, 0, 0), some (.if_icmp .eq (7), 3, 0, 0, 0), none, none, some (.iconst 1, 1, 0, 0, 0), some (.goto (4), 3, 0, 0, 0), none, none, some (.iconst 0, 1, 0, 0, 0), some (.putfield 131, 3, 11, 0, 1179), none, none, some (.aload_n 0, 1, 0, 0, 0), some (.getfield 131, 3, 11, 0, 1179), none, none, some (.ifCond .ne (14), 3, 0, 0, 0), none, none, some (.aload_n 0, 1, 0, 0, 0), some (.aload_n 0, 1, 0, 0, 0), some (.getfield 459, 3, 11, 69, 1248), none, none, some (.invokevirtual 377, 3, 0, 210, 1665), none, none, some (.goto (4), 3, 0, 0, 0), none, none, some (.dconst 0, 1, 0, 0, 0), some (.dreturn, 1, 0, 0, 0)]
set_option maxRecDepth 100000 in
theorem cd221_ok : mChkAt mI221.1.cls mI221.2.1 0 cd221 = true := by decide +kernel
def cd222 : List (Option mEnt) := [some (.aload_n 0, 1, 0, 0, 0), some (.aload_n 0, 1, 0, 0, 0), some (.getfield 336, 3, 11, 65, 1244), none, none, some (.iconst 2, 1, 0, 0, 0), some (.if_icmp .eq (7), 3, 0, 0, 0), none, none, some (.iconst 1, 1, 0, 0, 0), some (.goto (24), 3, 0, 0, 0), none, none, some (.iload_n 1, 1, 0, 0, 0), some (.ifCond .lt (15), 3, 0, 0, 0), none, none, some (.iload_n 1, 1, 0, 0, 0), some (.aload_n 0, 1, 0, 0, 0), some (.aload_n 0, 1, 0, 0, 0), some (.getfield 459, 3, 11, 69, 1248), none, none, some (.invokevirtual 472, 3, 0, 220, 1709), none, none, some (.if_icmp .lt (7), 3, 0, 0, 0), none, none, some (.iconst 2, 1, 0, 0, 0), some (.goto (4), 3, 0, 0, 0), none, none, some (.iconst 0, 1, 0, 0, 0), some (.putfield 131, 3, 11, 0, 1179), none, none, some (.aload_n 0, 1, 0, 0, 0), some (.getfield 131, 3, 11, 0, 1179), none, none, some (.ifCond .le (4), 3, 0, 0, 0), none, none, some (.return_, 1, 0, 0, 0), some (.aload_n 0, 1, 0, 0, 0), some (.getfield 459, 3, 11, 69, 1248), none, none, some (.lstore_n 2, 1, 0, 0, 0), some (.iconst 0, 1, 0, 0, 0), some (.istore 4, 2, 0, 0, 0), none, some (.iload 4, 2, 0, 0, 0), none, some (.iload_n 1, 1, 0, 0, 0), some (.if_icmp .ge (19), 3, 0, 0, 0), none, none, some (.aload_n 0, 1, 0, 0, 0), some (.getfield 121, 3, 11, 60, 1239), none, none, some (.lload_n 2, 1, 0, 0, 0), some (.invokestatic 359, 3, 1, 208, 1658), none, none, some (.laload, 1, 0, 0, 0), some (.lstore_n 2, 1, 0, 0, 0), some (.iinc 4 (1), 3, 0, 0, 0), none, none, some (.goto (-19), 3, 0, 0, 0), none, none, some (.aload_n 0, 1, 0, 0, 0), some (.aload_n 0, 1, 0, 0, 0), some (.getfield 118, 3, 11, 59, 1238), none, none, some (.lload_n 2, 1, 0, 0, 0), some (.invokestatic 359, 3, 1, 208, 1658), none, none, some (.laload, 1, 0, 0, 0), some (.putfield 459, 3, 11, 69, 1248), none, none, some (.aload_n 0, 1, 0, 0, 0), some (.dup, 1, 0, 0, 0), some (.getfield 463, 3, 11, 70, 1249), none, none, some (.iconst 1, 1, 0, 0, 0), some (.iadd, 1, 0, 0, 0), some (.putfield 463, 3, 11, 70, 1249), none, none, some (.return_, 1, 0, 0, 0)]
set_option maxRecDepth 100000 in
theorem cd222_ok : mChkAt mI222.1.cls mI222.2.1 0 cd222 = true := by decide +kernel
def cd223 : List (Option mEnt) := [some (.aload_n 0, 1, 0, 0, 0), some (.aload_n 0, 1, 0, 0, 0), some (.getfield 336, 3, 11, 65, 1244), none, none, some (.iconst 2, 1, 0, 0, 0), some (.if_icmp .eq (7), 3, 0, 0, 0), none, none, some (.iconst 1, 1, 0, 0, 0), some (.goto (4), 3, 0, 0, 0), none, none, some (.iconst 0, 1, 0, 0, 0), some (.putfield 131, 3, 11, 0, 1179), none, none, some (.aload_n 0, 1, 0, 0, 0), some (.getfield 131, 3, 11, 0, 1179), none, none, some (.ifCond .ne (18), 3, 0, 0, 0), none, none, some (.aload_n 0, 1, 0, 0, 0), some (.aload_n 0, 1, 0, 0, 0), some (.getfield 102, 3, 11, 50, 1229), none, none, some (.iconst 0, 1, 0, 0, 0), some (.laload, 1, 0, 0, 0), some (.putfield 459, 3, 11, 69, 1248), none, none, some (.aload_n 0, 1, 0, 0, 0), some (.iconst 0, 1, 0, 0, 0), some (.putfield 463, 3, 11, 70, 1249), none, none, some (.return_, 1, 0, 0, 0)]
set_option maxRecDepth 100000 in
theorem cd223_ok : mChkAt mI223.1.cls mI223.2.1 0 cd223 = true := by decide +kernel
def cd224 : List (Option mEnt) := [some (.aload_n 1, 1, 0, 0, 0), some (.iconst 0, 1, 0, 0, 0), some (.aload_n 0, 1, 0, 0, 0), some (.invokevirtual 7, 3, 0, 54, 648), none, none, some (.i2l, 1, 0, 0, 0), some (.lastore, 1, 0, 0, 0), some (.goto (12), 3, 0, 0, 0), none, none, some (.astore_n 2, 1, 0, 0, 0), some (.iconst 1, 1, 0, 0, 0), some (.ireturn, 1, 0, 0, 0), some (.astore_n 2, 1, 0, 0, 0), some (.iconst 2, 1, 0, 0, 0), some (.ireturn, 1, 0, 0, 0), some (.astore_n 2, 1, 0, 0, 0), some (.iconst 3, 1, 0, 0, 0), some (.ireturn, 1, 0, 0, 0), some (.iconst 0, 1, 0, 0, 0), some (.ireturn, 1, 0, 0, 0)]
set_option maxRecDepth 100000 in
theorem cd224_ok : mChkAt mI224.1.cls mI224.2.1 0 cd224 = true := by decide +kernel
def cd225 : List (Option mEnt) := [some (.aload_n 2, 1, 0, 0, 0), some (.iconst 0, 1, 0, 0, 0), some (.aload_n 0, 1, 0, 0, 0), some (.iload_n 1, 1, 0, 0, 0), some (.invokevirtual 19, 3, 0, 137, 1111), none, none, some (.i2l, 1, 0, 0, 0), some (.lastore, 1, 0, 0, 0), some (.goto (9), 3, 0, 0, 0), none, none, some (.astore_n 3, 1, 0, 0, 0), some (.iconst 1, 1, 0, 0, 0), some (.ireturn, 1, 0, 0, 0), some (.astore_n 3, 1, 0, 0, 0), some (.iconst 2, 1, 0, 0, 0), some (.ireturn, 1, 0, 0, 0), some (.iconst 0, 1, 0, 0, 0), some (.ireturn, 1, 0, 0, 0)]
set_option maxRecDepth 100000 in
theorem cd225_ok : mChkAt mI225.1.cls mI225.2.1 0 cd225 = true := by decide +kernel
def cd226 : List (Option mEnt) := [some (.aload_n 1, 1, 0, 0, 0), some (.iconst 0, 1, 0, 0, 0), some (.aload_n 0, 1, 0, 0, 0), some (.invokevirtual 27, 3, 0, 138, 1150), none, none, some (.dastore, 1, 0, 0, 0), some (.goto (6), 3, 0, 0, 0), none, none, some (.astore_n 2, 1, 0, 0, 0), some (.iconst 1, 1, 0, 0, 0), some (.ireturn, 1, 0, 0, 0), some (.iconst 0, 1, 0, 0, 0), some (.ireturn, 1, 0, 0, 0)]
set_option maxRecDepth 100000 in
theorem cd226_ok : mChkAt mI226.1.cls mI226.2.1 0 cd226 = true := by decide +kernel
def cd227 : List (Option mEnt) := [some (.aload_n 0, 1, 0, 0, 0), some (.iload_n 1, 1, 0, 0, 0), some (.invokevirtual 31, 3, 0, 139, 1157), none, none, some (.goto (9), 3, 0, 0, 0), none, none, some (.astore_n 2, 1, 0, 0, 0), some (.iconst 1, 1, 0, 0, 0), some (.ireturn, 1, 0, 0, 0), some (.astore_n 2, 1, 0, 0, 0), some (.iconst 2, 1, 0, 0, 0), some (.ireturn, 1, 0, 0, 0), some (.iconst 0, 1, 0, 0, 0), some (.ireturn, 1, 0, 0, 0)]
set_option maxRecDepth 100000 in
theorem cd227_ok : mChkAt mI227.1.cls mI227.2.1 0 cd227 = true := by decide +kernel
def cd228 : List (Option mEnt) := [some (.aload_n 0, 1, 0, 0, 0), some (.invokevirtual 35, 3, 0, 141, 1169), none, none, some (.goto (6), 3, 0, 0, 0), none, none, some (.astore_n 1, 1, 0, 0, 0), some (.iconst 1, 1, 0, 0, 0), some (.ireturn, 1, 0, 0, 0), some (.iconst 0, 1, 0, 0, 0), some (.ireturn, 1, 0, 0, 0)]
set_option maxRecDepth 100000 in
theorem cd228_ok : mChkAt mI228.1.cls mI228.2.1 0 cd228 = true := by decide +kernel
def cd229 : List (Option mEnt) := [some (.new 8, 3, 0, 0, 157), none, none, some (.dup, 1, 0, 0, 0), some (.invokespecial 38, 3, 2, 0, 159), none, none, some (.astore_n 1, 1, 0, 0, 0), some (.new 39, 3, 11, 0, 1173), none, none, some (.dup, 1, 0, 0, 0), some (.invokespecial 41, 3, 2, 142, 1175), none, none, some (.astore_n 2, 1, 0, 0, 0), some (.iconst 1, 1, 0, 0, 0), some (.newarray .long, 2, 0, 0, 0), none, some (.astore_n 3, 1, 0, 0, 0), some (.iconst 1, 1, 0, 0, 0), some (.newarray .double, 2, 0, 0, 0), none, some (.astore 4, 2, 0, 0, 0), none, some (.iconst 0, 1, 0, 0, 0), some (.istore 5, 2, 0, 0, 0), none, some (.iload 5, 2, 0, 0, 0), none, some (.aload_n 0, 1, 0, 0, 0), some (.arraylength, 1, 0, 0, 0), some (.iconst 2, 1, 0, 0, 0), some (.isub, 1, 0, 0, 0), some (.if_icmp .gt (410), 3, 0, 0, 0), none, none, some (.aload_n 0, 1, 0, 0, 0), some (.iload 5, 2, 0, 0, 0), none, some (.iaload, 1, 0, 0, 0), some (.bipush (15), 2, 0, 0, 0), none, some (.iand, 1, 0, 0, 0), some (.tableswitch (394) (0) (9) #[56, 83, 94, 138, 163, 188, 213, 269, 334, 370], 56, 0, 0, 0), none, none, none, none, none, none, none, none, none, none, none, none, none, none, none, none, none, none, none, none, none, none, none, none, none, none, none, none, none, none, none, none, none, none, none, none, none, none, none, none, none, none, none, none, none, none, none, none, none, none, none, none, none, none, none, some (.aload_n 1, 1, 0, 0, 0), some (.aload_n 0, 1, 0, 0, 0), some (.iload 5, 2, 0, 0, 0), none, some (.iconst 1, 1, 0, 0, 0), some (.iadd, 1, 0, 0, 0), some (.iaload, 1, 0, 0, 0), some (.i2c, 1, 0, 0, 0), some (.invokevirtual 42, 3, 0, 8, 396), none, none, some (.aload_n 2, 1, 0, 0, 0), some (.aload_n 0, 1, 0, 0, 0), some (.iload 5, 2, 0, 0, 0), none, some (.iconst 1, 1, 0, 0, 0), some (.iadd, 1, 0, 0, 0), some (.iaload, 1, 0, 0, 0), some (.i2c, 1, 0, 0, 0), some (.invokevirtual 46, 3, 0, 144, 1404), none, none, some (.if_icmp .eq (316), 3, 0, 0, 0), none, none, some (.iconst 0, 1, 0, 0, 0), some (.ireturn, 1, 0, 0, 0), some (.aload_n 1, 1, 0, 0, 0), some (.invokevirtual 47, 3, 0, 11, 408), none, none, some (.aload_n 2, 1, 0, 0, 0), some (.invokevirtual 50, 3, 0, 145, 1408), none, none, some (.goto (303), 3, 0, 0, 0), none, none, some (.aload_n 1, 1, 0, 0, 0), some (.aload_n 3, 1, 0, 0, 0), some (.invokestatic 51, 3, 1, 224, 642), none, none, some (.istore 6, 2, 0, 0, 0), none, some (.aload_n 2, 1, 0, 0, 0), some (.invokevirtual 56, 3, 0, 146, 1412), none, none, some (.istore 7, 2, 0, 0, 0), none, some (.aload_n 2, 1, 0, 0, 0), some (.invokevirtual 57, 3, 0, 143, 1400), none, none, some (.iload 6, 2, 0, 0, 0), none, some (.if_icmp .eq (5), 3, 0, 0, 0), none, none, some (.iconst 0, 1, 0, 0, 0), some (.ireturn, 1, 0, 0, 0), some (.iload 6, 2, 0, 0, 0), none, some (.ifCond .ne (15), 3, 0, 0, 0), none, none, some (.aload_n 3, 1, 0, 0, 0), some (.iconst 0, 1, 0, 0, 0), some (.laload, 1, 0, 0, 0), some (.iload 7, 2, 0, 0, 0), none, some (.i2l, 1, 0, 0, 0), some (.lcmp, 1, 0, 0, 0), some (.ifCond .eq (5), 3, 0, 0, 0), none, none, some (.iconst 0, 1, 0, 0, 0), some (.ireturn, 1, 0, 0, 0), some (.goto (259), 3, 0, 0, 0), none, none, some (.aload_n 1, 1, 0, 0, 0), some (.aload_n 0, 1, 0, 0, 0), some (.iload 5, 2, 0, 0, 0), none, some (.iconst 1, 1, 0, 0, 0), some (.iadd, 1, 0, 0, 0), some (.iaload, 1, 0, 0, 0), some (.invokevirtual 60, 3, 0, 13, 416), none, none, some (.aload_n 2, 1, 0, 0, 0), some (.aload_n 0, 1, 0, 0, 0), some (.iload 5, 2, 0, 0, 0), none, some (.iconst 1, 1, 0, 0, 0), some (.iadd, 1, 0, 0, 0), some (.iaload, 1, 0, 0, 0), some (.invokevirtual 63, 3, 0, 197, 1614), none, none, some (.if_icmp .eq (236), 3, 0, 0, 0), none, none, some (.iconst 0, 1, 0, 0, 0), some (.ireturn, 1, 0, 0, 0), some (.aload_n 1, 1, 0, 0, 0), some (.aload_n 0, 1, 0, 0, 0), some (.iload 5, 2, 0, 0, 0), none, some (.iconst 1, 1, 0, 0, 0), some (.iadd, 1, 0, 0, 0), some (.iaload, 1, 0, 0, 0), some (.invokevirtual 64, 3, 0, 15, 424), none, none, some (.aload_n 2, 1, 0, 0, 0), some (.aload_n 0, 1, 0, 0, 0), some (.iload 5, 2, 0, 0, 0), none, some (.iconst 1, 1, 0, 0, 0), some (.iadd, 1, 0, 0, 0), some (.iaload, 1, 0, 0, 0), some (.invokevirtual 67, 3, 0, 198, 1618), none, none, some (.if_icmp .eq (211), 3, 0, 0, 0), none, none, some (.iconst 0, 1, 0, 0, 0), some (.ireturn, 1, 0, 0, 0), some (.aload_n 1, 1, 0, 0, 0), some (.aload_n 0, 1, 0, 0, 0), some (.iload 5, 2, 0, 0, 0), none, some (.iconst 1, 1, 0, 0, 0), some (.iadd, 1, 0, 0, 0), some (.iaload, 1, 0, 0, 0), some (.invokevirtual 68, 3, 0, 50, 626), none, none, some (.aload_n 2, 1, 0, 0, 0), some (.aload_n 0, 1, 0, 0, 0), some (.iload 5, 2, 0, 0, 0), none, some (.iconst 1, 1, 0, 0, 0), some (.iadd, 1, 0, 0, 0), some (.iaload, 1, 0, 0, 0), some (.invokevirtual 71, 3, 0, 218, 1701), none, none, some (.if_icmp .eq (186), 3, 0, 0, 0), none, none, some (.iconst 0, 1, 0, 0, 0), some (.ireturn, 1, 0, 0, 0), some (.aload_n 1, 1, 0, 0, 0), some (.aload_n 0, 1, 0, 0, 0), some (.iload 5, 2, 0, 0, 0), none, some (.iconst 1, 1, 0, 0, 0), some (.iadd, 1, 0, 0, 0), some (.iaload, 1, 0, 0, 0), some (.aload_n 3, 1, 0, 0, 0), some (.invokestatic 72, 3, 1, 225, 1106), none, none, some (.istore 6, 2, 0, 0, 0), none, some (.aload_n 2, 1, 0, 0, 0), some (.aload_n 0, 1, 0, 0, 0), some (.iload 5, 2, 0, 0, 0), none, some (.iconst 1, 1, 0, 0, 0), some (.iadd, 1, 0, 0, 0), some (.iaload, 1, 0, 0, 0), some (.invokevirtual 75, 3, 0, 219, 1705), none, none, some (.istore 7, 2, 0, 0, 0), none, some (.aload_n 2, 1, 0, 0, 0), some (.invokevirtual 57, 3, 0, 143, 1400), none, none, some (.iload 6, 2, 0, 0, 0), none, some (.if_icmp .eq (5), 3, 0, 0, 0), none, none, some (.iconst 0, 1, 0, 0, 0), some (.ireturn, 1, 0, 0, 0), some (.iload 6, 2, 0, 0, 0), none, some (.ifCond .ne (15), 3, 0, 0, 0), none, none, some (.aload_n 3, 1, 0, 0, 0), some (.iconst 0, 1, 0, 0, 0), some (.laload, 1, 0, 0, 0), some (.iload 7, 2, 0, 0, 0), none, some (.i2l, 1, 0, 0, 0), some (.lcmp, 1, 0, 0, 0), some (.ifCond .eq (5), 3, 0, 0, 0), none, none, some (.iconst 0, 1, 0, 0, 0), some (.ireturn, 1, 0, 0, 0), some (.goto (128), 3, 0, 0, 0), none, none, some (.aload_n 1, 1, 0, 0, 0), some (.aload 4, 2, 0, 0, 0), none, some (.invokestatic 76, 3, 1, 226, 1147), none, none, some (.istore 6, 2, 0, 0, 0), none, some (.aload_n 2, 1, 0, 0, 0), some (.invokevirtual 79, 3, 0, 221, 1713), none, none, some (.dstore 7, 2, 0, 0, 0), none, some (.aload_n 2, 1, 0, 0, 0), some (.invokevirtual 57, 3, 0, 143, 1400), none, none, some (.iload 6, 2, 0, 0, 0), none, some (.if_icmp .eq (5), 3, 0, 0, 0), none, none, some (.iconst 0, 1, 0, 0, 0), some (.ireturn, 1, 0, 0, 0), some (.iload 6, 2, 0, 0, 0), none, some (.ifCond .ne (35), 3, 0, 0, 0), none, none, some (.aload 4, 2, 0, 0, 0), none, some (.iconst 0, 1, 0, 0, 0), some (.daload, 1, 0, 0, 0), some (.dload 7, 2, 0, 0, 0), none, some (.dcmp .l, 1, 0, 0, 0), some (.ifCond .eq (25), 3, 0, 0, 0), none, none, some (.aload 4, 2, 0, 0, 0), none, some (.iconst 0, 1, 0, 0, 0), some (.daload, 1, 0, 0, 0), some (.aload 4, 2, 0, 0, 0), none, some (.iconst 0, 1, 0, 0, 0), some (.daload, 1, 0, 0, 0), some (.dcmp .l, 1, 0, 0, 0), some (.ifCond .eq (11), 3, 0, 0, 0), none, none, some (.dload 7, 2, 0, 0, 0), none, some (.dload 7, 2, 0, 0, 0), none, some (.dcmp .l, 1, 0, 0, 0), some (.ifCond .ne (5), 3, 0, 0, 0), none, none, some (.iconst 0, 1, 0, 0, 0), some (.ireturn, 1, 0, 0, 0), some (.goto (63), 3, 0, 0, 0), none, none, some (.aload_n 1, 1, 0, 0, 0), some (.aload_n 0, 1, 0, 0, 0), some (.iload 5, 2, 0, 0, 0), none, some (.iconst 1, 1, 0, 0, 0), some (.iadd, 1, 0, 0, 0), some (.iaload, 1, 0, 0, 0), some (.invokestatic 80, 3, 1, 227, 1154), none, none, some (.istore 6, 2, 0, 0, 0), none, some (.aload_n 2, 1, 0, 0, 0), some (.aload_n 0, 1, 0, 0, 0), some (.iload 5, 2, 0, 0, 0), none, some (.iconst 1, 1, 0, 0, 0), some (.iadd, 1, 0, 0, 0), some (.iaload, 1, 0, 0, 0), some (.invokevirtual 83, 3, 0, 222, 1717), none, none, some (.aload_n 2, 1, 0, 0, 0), some (.invokevirtual 57, 3, 0, 143, 1400), none, none, some (.iload 6, 2, 0, 0, 0), none, some (.if_icmp .eq (5), 3, 0, 0, 0), none, none, some (.iconst 0, 1, 0, 0, 0), some (.ireturn, 1, 0, 0, 0), some (.goto (27), 3, 0, 0, 0), none, none, some (.aload_n 1, 1, 0, 0, 0), some (.invokestatic 84, 3, 1, 228, 1166), none, none, some (.istore 6, 2, 0, 0, 0), none, some (.aload_n 2, 1, 0, 0, 0), some (.invokevirtual 87, 3, 0, 223, 1721), none, none, some (.aload_n 2, 1, 0, 0, 0), some (.invokevirtual 57, 3, 0, 143, 1400), none, none, some (.iload 6, 2, 0, 0, 0), none, some (.if_icmp .eq (5), 3, 0, 0, 0), none, none, some (.iconst 0, 1, 0, 0, 0), some (.ireturn, 1, 0, 0, 0), some (.goto (3), 3, 0, 0, 0), none, none, some (.iinc 5 (2), 3, 0, 0, 0), none, none, some (.goto (-413), 3, 0, 0, 0), none, none, some (.iconst 1, 1, 0, 0, 0), some (.ireturn, 1, 0, 0, 0)]
set_option maxRecDepth 100000 in
theorem cd229_ok : mChkAt mI229.1.cls mI229.2.1 0 cd229 = true := by decide +kernel
end
section
def cdT : List (List (Option mEnt)) := [cd0, cd1, cd2, cd3, cd4, cd5, cd6, cd7, cd8, cd9, cd10, cd11, cd12, cd13, cd14, cd15, cd16, cd17, cd18, cd19, cd20, cd21, cd22, cd23, cd24, cd25, cd26, cd27, cd28, cd29, cd30, cd31, cd32, cd33, cd34, cd35, cd36, cd37, cd38, cd39, cd40, cd41, cd42, cd43, cd44, cd45, cd46, cd47, cd48, cd49, cd50, cd51, cd52, cd53, cd54, cd55, cd56, cd57, cd58, cd59, cd60, cd61, cd62, cd63, cd64, cd65, cd66, cd67, cd68, cd69, cd70, cd71, cd72, cd73, cd74, cd75, cd76, cd77, cd78, cd79, cd80, cd81, cd82, cd83, cd84, cd85, cd86, cd87, cd88, cd89, cd90, cd91, cd92, cd93, cd94, cd95, cd96, cd97, cd98, cd99, cd100, cd101, cd102, cd103, cd104, cd105, cd106, cd107, cd108, cd109, cd110, cd111, cd112, cd113, cd114, cd115, cd116, cd117, cd118, cd119, cd120, cd121, cd122, cd123, cd124, cd125, cd126, cd127, cd128, cd129, cd130, cd131, cd132, cd133, cd134, cd135, cd136, cd137, cd138, cd139, cd140, cd141, cd142, cd143, cd144, cd145, cd146, cd147, cd148, cd149, cd150, cd151, cd152, cd153, cd154, cd155, cd156, cd157, cd158, cd159, cd160, cd161, cd162, cd163, cd164, cd165, cd166, cd167, cd168, cd169, cd170, cd171, cd172, cd173, cd174, cd175, cd176, cd177, cd178, cd179, cd180, cd181, cd182, cd183, cd184, cd185, cd186, cd187, cd188, cd189, cd190, cd191, cd192, cd193, cd194, cd195, cd196, cd197, cd198, cd199, cd200, cd201, cd202, cd203, cd204, cd205, cd206, cd207, cd208, cd209, cd210, cd211, cd212, cd213, cd214, cd215, cd216, cd217, cd218, cd219, cd220, cd221, cd222, cd223, cd224, cd225, cd226, cd227, cd228, cd229]
def mHT : List (Nat × List (Nat × Nat × Nat × Nat)) := [(224, [(0, 8, 11, 0), (0, 8, 14, 1), (0, 8, 17, 2)]), (225, [(0, 9, 12, 3), (0, 9, 15, 4)]), (226, [(0, 7, 10, 3)]), (227, [(0, 5, 8, 3), (0, 5, 11, 4)]), (228, [(0, 4, 7, 3)])]
def mAll : List (mMI × List (Option mEnt)) := [(mI0, cd0), (mI1, cd1), (mI2, cd2), (mI3, cd3), (mI4, cd4), (mI5, cd5), (mI6, cd6), (mI7, cd7), (mI8, cd8), (mI9, cd9), (mI10, cd10), (mI11, cd11), (mI12, cd12), (mI13, cd13), (mI14, cd14), (mI15, cd15), (mI16, cd16), (mI17, cd17), (mI18, cd18), (mI19, cd19), (mI20, cd20), (mI21, cd21), (mI22, cd22), (mI23, cd23), (mI24, cd24), (mI25, cd25), (mI26, cd26), (mI27, cd27), (mI28, cd28), (mI29, cd29), (mI30, cd30), (mI31, cd31), (mI32, cd32), (mI33, cd33), (mI34, cd34), (mI35, cd35), (mI36, cd36), (mI37, cd37), (mI38, cd38), (mI39, cd39), (mI40, cd40), (mI41, cd41), (mI42, cd42), (mI43, cd43), (mI44, cd44), (mI45, cd45), (mI46, cd46), (mI47, cd47), (mI48, cd48), (mI49, cd49), (mI50, cd50), (mI51, cd51), (mI52, cd52), (mI53, cd53), (mI54, cd54), (mI55, cd55), (mI56, cd56), (mI57, cd57), (mI58, cd58), (mI59, cd59), (mI60, cd60), (mI61, cd61), (mI62, cd62), (mI63, cd63), (mI64, cd64), (mI65, cd65), (mI66, cd66), (mI67, cd67), (mI68, cd68), (mI69, cd69), (mI70, cd70), (mI71, cd71), (mI72, cd72), (mI73, cd73), (mI74, cd74), (mI75, cd75), (mI76, cd76), (mI77, cd77), (mI78, cd78), (mI79, cd79), (mI80, cd80), (mI81, cd81), (mI82, cd82), (mI83, cd83), (mI84, cd84), (mI85, cd85), (mI86, cd86), (mI87, cd87), (mI88, cd88), (mI89, cd89), (mI90, cd90), (mI91, cd91), (mI92, cd92), (mI93, cd93), (mI94, cd94), (mI95, cd95), (mI96, cd96), (mI97, cd97), (mI98, cd98), (mI99, cd99), (mI100, cd100), (mI101, cd101), (mI102, cd102), (mI103, cd103), (mI104, cd104), (mI105, cd105), (mI106, cd106), (mI107, cd107), (mI108, cd108), (mI109, cd109), (mI110, cd110), (mI111, cd111), (mI112, cd112), (mI113, cd113), (mI114, cd114), (mI115, cd115), (mI116, cd116), (mI117, cd117), (mI118, cd118), (mI119, cd119), (mI120, cd120), (mI121, cd121), (mI122, cd122), (mI123, cd123), (mI124, cd124), (mI125, cd125), (mI126, cd126), (mI127, cd127), (mI128, cd128), (mI129, cd129), (mI130, cd130), (mI131, cd131), (mI132, cd132), (mI133, cd133), (mI134, cd134), (mI135, cd135), (mI136, cd136), (mI137, cd137), (mI138, cd138), (mI139, cd139), (mI140, cd140), (mI141, cd141), (mI142, cd142), (mI143, cd143), (mI144, cd144), (mI145, cd145), (mI146, cd146), (mI147, cd147), (mI148, cd148), (mI149, cd149), (mI150, cd150), (mI151, cd151), (mI152, cd152), (mI153, cd153), (mI154, cd154), (mI155, cd155), (mI156, cd156), (mI157, cd157), (mI158, cd158), (mI159, cd159), (mI160, cd160), (mI161, cd161), (mI162, cd162), (mI163, cd163), (mI164, cd164), (mI165, cd165), (mI166, cd166), (mI167, cd167), (mI168, cd168), (mI169, cd169), (mI170, cd170), (mI171, cd171), (mI172, cd172), (mI173, cd173), (mI174, cd174), (mI175, cd175), (mI176, cd176), (mI177, cd177), (mI178, cd178), (mI179, cd179), (mI180, cd180), (mI181, cd181), (mI182, cd182), (mI183, cd183), (mI184, cd184), (mI185, cd185), (mI186, cd186), (mI187, cd187), (mI188, cd188), (mI189, cd189), (mI190, cd190), (mI191, cd191), (mI192, cd192), (mI193, cd193), (mI194, cd194), (mI195, cd195), (mI196, cd196), (mI197, cd197), (mI198, cd198), (mI199, cd199), (mI200, cd200), (mI201, cd201), (mI202, cd202), (mI203, cd203), (mI204, cd204), (mI205, cd205), (mI206, cd206), (mI207, cd207), (mI208, cd208), (mI209, cd209), (mI210, cd210), (mI211, cd211), (mI212, cd212), (mI213, cd213), (mI214, cd214), (mI215, cd215), (mI216, cd216), (mI217, cd217), (mI218, cd218), (mI219, cd219), (mI220, cd220), (mI221, cd221), (mI222, cd222), (mI223, cd223), (mI224, cd224), (mI225, cd225), (mI226, cd226), (mI227, cd227), (mI228, cd228), (mI229, cd229)]
set_option maxRecDepth 1000000 in
theorem mAll_1 : mAll.map Prod.fst = mTab := rfl
set_option maxRecDepth 1000000 in
theorem mAll_2 : mAll.map Prod.snd = cdT := rfl
theorem mAllC0 : ∀ q ∈ ([(mI0, cd0), (mI1, cd1), (mI2, cd2), (mI3, cd3), (mI4, cd4), (mI5, cd5), (mI6, cd6), (mI7, cd7), (mI8, cd8), (mI9, cd9), (mI10, cd10), (mI11, cd11), (mI12, cd12), (mI13, cd13), (mI14, cd14), (mI15, cd15), (mI16, cd16), (mI17, cd17), (mI18, cd18), (mI19, cd19)] : List (mMI × List (Option mEnt))), mChkAt q.1.1.cls q.1.2.1 0 q.2 = true := List.forall_mem_cons.mpr ⟨cd0_ok, List.forall_mem_cons.mpr ⟨cd1_ok, List.forall_mem_cons.mpr ⟨cd2_ok, List.forall_mem_cons.mpr ⟨cd3_ok, List.forall_mem_cons.mpr ⟨cd4_ok, List.forall_mem_cons.mpr ⟨cd5_ok, List.forall_mem_cons.mpr ⟨cd6_ok, List.forall_mem_cons.mpr ⟨cd7_ok, List.forall_mem_cons.mpr ⟨cd8_ok, List.forall_mem_cons.mpr ⟨cd9_ok, List.forall_mem_cons.mpr ⟨cd10_ok, List.forall_mem_cons.mpr ⟨cd11_ok, List.forall_mem_cons.mpr ⟨cd12_ok, List.forall_mem_cons.mpr ⟨cd13_ok, List.forall_mem_cons.mpr ⟨cd14_ok, List.forall_mem_cons.mpr ⟨cd15_ok, List.forall_mem_cons.mpr ⟨cd16_ok, List.forall_mem_cons.mpr ⟨cd17_ok, List.forall_mem_cons.mpr ⟨cd18_ok, List.forall_mem_cons.mpr ⟨cd19_ok, fun _ h => absurd h List.not_mem_nil⟩⟩⟩⟩⟩⟩⟩⟩⟩⟩⟩⟩⟩⟩⟩⟩⟩⟩⟩⟩
theorem mAllC1 : ∀ q ∈ ([(mI20, cd20), (mI21, cd21), (mI22, cd22), (mI23, cd23), (mI24, cd24), (mI25, cd25), (mI26, cd26), (mI27, cd27), (mI28, cd28), (mI29, cd29), (mI30, cd30), (mI31, cd31), (mI32, cd32), (mI33, cd33), (mI34, cd34), (mI35, cd35), (mI36, cd36), (mI37, cd37), (mI38, cd38), (mI39, cd39)] : List (mMI × List (Option mEnt))), mChkAt q.1.1.cls q.1.2.1 0 q.2 = true := List.forall_mem_cons.mpr ⟨cd20_ok, List.forall_mem_cons.mpr ⟨cd21_ok, List.forall_mem_cons.mpr ⟨cd22_ok, List.forall_mem_cons.mpr ⟨cd23_ok, List.forall_mem_cons.mpr ⟨cd24_ok, List.forall_mem_cons.mpr ⟨cd25_ok, List.forall_mem_cons.mpr ⟨cd26_ok, List.forall_mem_cons.mpr ⟨cd27_ok, List.forall_mem_cons.mpr ⟨cd28_ok, List.forall_mem_cons.mpr ⟨cd29_ok, List.forall_mem_cons.mpr ⟨cd30_ok, List.forall_mem_cons.mpr ⟨cd31_ok, List.forall_mem_cons.mpr ⟨cd32_ok, List.forall_mem_cons.mpr ⟨cd33_ok, List.forall_mem_cons.mpr ⟨cd34_ok, List.forall_mem_cons.mpr ⟨cd35_ok, List.forall_mem_cons.mpr ⟨cd36_ok, List.forall_mem_cons.mpr ⟨cd37_ok, List.forall_mem_cons.mpr ⟨cd38_ok, List.forall_mem_cons.mpr ⟨cd39_ok, fun _ h => absurd h List.not_mem_nil⟩⟩⟩⟩⟩⟩⟩⟩⟩⟩⟩⟩⟩⟩⟩⟩⟩⟩⟩⟩
theorem mAllC2 : ∀ q ∈ ([(mI40, cd40), (mI41, cd41), (mI42, cd42), (mI43, cd43), (mI44, cd44), (mI45, cd45), (mI46, cd46), (mI47, cd47), (mI48, cd48), (mI49, cd49), (mI50, cd50), (mI51, cd51), (mI52, cd52), (mI53, cd53), (mI54, cd54), (mI55, cd55), (mI56, cd56), (mI57, cd57), (mI58, cd58), (mI59, cd59)] : List (mMI × List (Option mEnt))), mChkAt q.1.1.cls q.1.2.1 0 q.2 = true := List.forall_mem_cons.mpr ⟨cd40_ok, List.forall_mem_cons.mpr ⟨cd41_ok, List.forall_mem_cons.mpr ⟨cd42_ok, List.forall_mem_cons.mpr ⟨cd43_ok, List.forall_mem_cons.mpr ⟨cd44_ok, List.forall_mem_cons.mpr ⟨cd45_ok, List.forall_mem_cons.mpr ⟨cd46_ok, List.forall_mem_cons.mpr ⟨cd47_ok, List.forall_mem_cons.mpr ⟨cd48_ok, List.forall_mem_cons.mpr ⟨cd49_ok, List.forall_mem_cons.mpr ⟨cd50_ok, List.forall_mem_cons.mpr ⟨cd51_ok, List.forall_mem_cons.mpr ⟨cd52_ok, List.forall_mem_cons.mpr ⟨cd53_ok, List.forall_mem_cons.mpr ⟨cd54_ok, List.forall_mem_cons.mpr ⟨cd55_ok, List.forall_mem_cons.mpr ⟨cd56_ok, List.forall_mem_cons.mpr ⟨cd57_ok, List.forall_mem_cons.mpr ⟨cd58_ok, List.forall_mem_cons.mpr ⟨cd59_ok, fun _ h => absurd h List.not_mem_nil⟩⟩⟩⟩⟩⟩⟩⟩⟩⟩⟩⟩⟩⟩⟩⟩⟩⟩⟩⟩
theorem mAllC3 : ∀ q ∈ ([(mI60, cd60), (mI61, cd61), (mI62, cd62), (mI63, cd63), (mI64, cd64), (mI65, cd65), (mI66, cd66), (mI67, cd67), (mI68, cd68), (mI69, cd69), (mI70, cd70), (mI71, cd71), (mI72, cd72), (mI73, cd73), (mI74, cd74), (mI75, cd75), (mI76, cd76), (mI77, cd77), (mI78, cd78), (mI79, cd79)] : List (mMI × List (Option mEnt))), mChkAt q.1.1.cls q.1.2.1 0 q.2 = true := List.forall_mem_cons.mpr ⟨cd60_ok, List.forall_mem_cons.mpr ⟨cd61_ok, List.forall_mem_cons.mpr ⟨cd62_ok, List.forall_mem_cons.mpr ⟨cd63_ok, List.forall_mem_cons.mpr ⟨cd64_ok, List.forall_mem_cons.mpr ⟨cd65_ok, List.forall_mem_cons.mpr ⟨cd66_ok, List.forall_mem_cons.mpr ⟨cd67_ok, List.forall_mem_cons.mpr ⟨cd68_ok, List.forall_mem_cons.mpr ⟨cd69_ok, List.forall_mem_cons.mpr ⟨cd70_ok, List.forall_mem_cons.mpr ⟨cd71_ok, List.forall_mem_cons.mpr ⟨cd72_ok, List.forall_mem_cons.mpr ⟨cd73_ok, List.forall_mem_cons.mpr ⟨cd74_ok, List.forall_mem_cons.mpr ⟨cd75_ok, List.forall_mem_cons.mpr ⟨cd76_ok, List.forall_mem_cons.mpr ⟨cd77_ok, List.forall_mem_cons.mpr ⟨cd78_ok, List.forall_mem_cons.mpr ⟨cd79_ok, fun _ h => absurd h List.not_mem_nil⟩⟩⟩⟩⟩⟩⟩⟩⟩⟩⟩⟩⟩⟩⟩⟩⟩⟩⟩⟩
theorem mAllC4 : ∀ q ∈ ([(mI80, cd80), (mI81, cd81), (mI82, cd82), (mI83, cd83), (mI84, cd84), (mI85, cd85), (mI86, cd86), (mI87, cd87), (mI88, cd88), (mI89, cd89), (mI90, cd90), (mI91, cd91), (mI92, cd92), (mI93, cd93), (mI94, cd94), (mI95, cd95), (mI96, cd96), (mI97, cd97), (mI98, cd98), (mI99, cd99)] : List (mMI × List (Option mEnt))), mChkAt q.1.1.cls q.1.2.1 0 q.2 = true := List.forall_mem_cons.mpr ⟨cd80_ok, List.forall_mem_cons.mpr ⟨cd81_ok, List.forall_mem_cons.mpr ⟨cd82_ok, List.forall_mem_cons.mpr ⟨cd83_ok, List.forall_mem_cons.mpr ⟨cd84_ok, List.forall_mem_cons.mpr ⟨cd85_ok, List.forall_mem_cons.mpr ⟨cd86_ok, List.forall_mem_cons.mpr ⟨cd87_ok, List.forall_mem_cons.mpr ⟨cd88_ok, List.forall_mem_cons.mpr ⟨cd89_ok, List.forall_mem_cons.mpr ⟨cd90_ok, List.forall_mem_cons.mpr ⟨cd91_ok, List.forall_mem_cons.mpr ⟨cd92_ok, List.forall_mem_cons.mpr ⟨cd93_ok, List.forall_mem_cons.mpr ⟨cd94_ok, List.forall_mem_cons.mpr ⟨cd95_ok, List.forall_mem_cons.mpr ⟨cd96_ok, List.forall_mem_cons.mpr ⟨cd97_ok, List.forall_mem_cons.mpr ⟨cd98_ok, List.forall_mem_cons.mpr ⟨cd99_ok, fun _ h => absurd h List.not_mem_nil⟩⟩⟩⟩⟩⟩⟩⟩⟩⟩⟩⟩⟩⟩⟩⟩⟩⟩⟩⟩
theorem mAllC5 : ∀ q ∈ ([(mI100, cd100), (mI101, cd101), (mI102, cd102), (mI103, cd103), (mI104, cd104), (mI105, cd105), (mI106, cd106), (mI107, cd107), (mI108, cd108), (mI109, cd109), (mI110, cd110), (mI111, cd111), (mI112, cd112), (mI113, cd113), (mI114, cd114), (mI115, cd115), (mI116, cd116), (mI117, cd117), (mI118, cd118), (mI119, cd119)] : List (mMI × List (Option mEnt))), mChkAt q.1.1.cls q.1.2.1 0 q.2 = true := List.forall_mem_cons.mpr ⟨cd100_ok, List.forall_mem_cons.mpr ⟨cd101_ok, List.forall_mem_cons.mpr ⟨cd102_ok, List.forall_mem_cons.mpr ⟨cd103_ok, List.forall_mem_cons.mpr ⟨cd104_ok, List.forall_mem_cons.mpr ⟨cd105_ok, List.forall_mem_cons.mpr ⟨cd106_ok, List.forall_mem_cons.mpr ⟨cd107_ok, List.forall_mem_cons.mpr ⟨cd108_ok, List.forall_mem_cons.mpr ⟨cd109_ok, List.forall_mem_cons.mpr ⟨cd110_ok, List.forall_mem_cons.mpr ⟨cd111_ok, List.forall_mem_cons.mpr ⟨cd112_ok, List.forall_mem_cons.mpr ⟨cd113_ok, List.forall_mem_cons.mpr ⟨cd114_ok, List.forall_mem_cons.mpr ⟨cd115_ok, List.forall_mem_cons.mpr ⟨cd116_ok, List.forall_mem_cons.mpr ⟨cd117_ok, List.forall_mem_cons.mpr ⟨cd118_ok, List.forall_mem_cons.mpr ⟨cd119_ok, fun _ h => absurd h List.not_mem_nil⟩⟩⟩⟩⟩⟩⟩⟩⟩⟩⟩⟩⟩⟩⟩⟩⟩⟩⟩⟩
theorem mAllC6 : ∀ q ∈ ([(mI120, cd120), (mI121, cd121), (mI122, cd122), (mI123, cd123), (mI124, cd124), (mI125, cd125), (mI126, cd126), (mI127, cd127), (mI128, cd128), (mI129, cd129), (mI130, cd130), (mI131, cd131), (mI132, cd132), (mI133, cd133), (mI134, cd134), (mI135, cd135), (mI136, cd136), (mI137, cd137), (mI138, cd138), (mI139, cd139)] : List (mMI × List (Option mEnt))), mChkAt q.1.1.cls q.1.2.1 0 q.2 = true := List.forall_mem_cons.mpr ⟨cd120_ok, List.forall_mem_cons.mpr ⟨cd121_ok, List.forall_mem_cons.mpr ⟨cd122_ok, List.forall_mem_cons.mpr ⟨cd123_ok, List.forall_mem_cons.mpr ⟨cd124_ok, List.forall_mem_cons.mpr ⟨cd125_ok, List.forall_mem_cons.mpr ⟨cd126_ok, List.forall_mem_cons.mpr ⟨cd127_ok, List.forall_mem_cons.mpr ⟨cd128_ok, List.forall_mem_cons.mpr ⟨cd129_ok, List.forall_mem_cons.mpr ⟨cd130_ok, List.forall_mem_cons.mpr ⟨cd131_ok, List.forall_mem_cons.mpr ⟨cd132_ok, List.forall_mem_cons.mpr ⟨cd133_ok, List.forall_mem_cons.mpr ⟨cd134_ok, List.forall_mem_cons.mpr ⟨cd135_ok, List.forall_mem_cons.mpr ⟨cd136_ok, List.forall_mem_cons.mpr ⟨cd137_ok, List.forall_mem_cons.mpr ⟨cd138_ok, List.forall_mem_cons.mpr ⟨cd139_ok, fun _ h => absurd h List.not_mem_nil⟩⟩⟩⟩⟩⟩⟩⟩⟩⟩⟩⟩⟩⟩⟩⟩⟩⟩⟩⟩
theorem mAllC7 : ∀ q ∈ ([(mI140, cd140), (mI141, cd141), (mI142, cd142), (mI143, cd143), (mI144, cd144), (mI145, cd145), (mI146, cd146), (mI147, cd147), (mI148, cd148), (mI149, cd149), (mI150, cd150), (mI151, cd151), (mI152, cd152), (mI153, cd153), (mI154, cd154), (mI155, cd155), (mI156, cd156), (mI157, cd157), (mI158, cd158), (mI159, cd159)] : List (mMI × List (Option mEnt))), mChkAt q.1.1.cls q.1.2.1 0 q.2 = true := List.forall_mem_cons.mpr ⟨cd140_ok, List.forall_mem_cons.mpr ⟨cd141_ok, List.forall_mem_cons.mpr ⟨cd142_ok, List.forall_mem_cons.mpr ⟨cd143_ok, List.forall_mem_cons.mpr ⟨cd144_ok, List.forall_mem_cons.mpr ⟨cd145_ok, List.forall_mem_cons.mpr ⟨cd146_ok, List.forall_mem_cons.mpr ⟨cd147_ok, List.forall_mem_cons.mpr ⟨cd148_ok, List.forall_mem_cons.mpr ⟨cd149_ok, List.forall_mem_cons.mpr ⟨cd150_ok, List.forall_mem_cons.mpr ⟨cd151_ok, List.forall_mem_cons.mpr ⟨cd152_ok, List.forall_mem_cons.mpr ⟨cd153_ok, List.forall_mem_cons.mpr ⟨cd154_ok, List.forall_mem_cons.mpr ⟨cd155_ok, List.forall_mem_cons.mpr ⟨cd156_ok, List.forall_mem_cons.mpr ⟨cd157_ok, List.forall_mem_cons.mpr ⟨cd158_ok, List.forall_mem_cons.mpr ⟨cd159_ok, fun _ h => absurd h List.not_mem_nil⟩⟩⟩⟩⟩⟩⟩⟩⟩⟩⟩⟩⟩⟩⟩⟩⟩⟩⟩⟩
theorem mAllC8 : ∀ q ∈ ([(mI160, cd160), (mI161, cd161), (mI162, cd162), (mI163, cd163), (mI164, cd164), (mI165, cd165), (mI166, cd166), (mI167, cd167), (mI168, cd168), (mI169, cd169), (mI170, cd170), (mI171, cd171), (mI172, cd172), (mI173, cd173), (mI174, cd174), (mI175, cd175), (mI176, cd176), (mI177, cd177), (mI178, cd178), (mI179, cd179)] : List (mMI × List (Option mEnt))), mChkAt q.1.1.cls q.1.2.1 0 q.2 = true := List.forall_mem_cons.mpr ⟨cd160_ok, List.forall_mem_cons.mpr ⟨cd161_ok, List.forall_mem_cons.mpr ⟨cd162_ok, List.forall_mem_cons.mpr ⟨cd163_ok, List.forall_mem_cons.mpr ⟨cd164_ok, List.forall_mem_cons.mpr ⟨cd165_ok, List.forall_mem_cons.mpr ⟨cd166_ok, List.forall_mem_cons.mpr ⟨cd167_ok, List.forall_mem_cons.mpr ⟨cd168_ok, List.forall_mem_cons.mpr ⟨cd169_ok, List.forall_mem_cons.mpr ⟨cd170_ok, List.forall_mem_cons.mpr ⟨cd171_ok, List.forall_mem_cons.mpr ⟨cd172_ok, List.forall_mem_cons.mpr ⟨cd173_ok, List.forall_mem_cons.mpr ⟨cd174_ok, List.forall_mem_cons.mpr ⟨cd175_ok, List.forall_mem_cons.mpr ⟨cd176_ok, List.forall_mem_cons.mpr ⟨cd177_ok, List.forall_mem_cons.mpr ⟨cd178_ok, List.forall_mem_cons.mpr ⟨cd179_ok, fun _ h => absurd h List.not_mem_nil⟩⟩⟩⟩⟩⟩⟩⟩⟩⟩⟩⟩⟩⟩⟩⟩⟩⟩⟩⟩
theorem mAllC9 : ∀ q ∈ ([(mI180, cd180), (mI181, cd181), (mI182, cd182), (mI183, cd183), (mI184, cd184), (mI185, cd185), (mI186, cd186), (mI187, cd187), (mI188, cd188), (mI189, cd189), (mI190, cd190), (mI191, cd191), (mI192, cd192), (mI193, cd193), (mI194, cd194), (mI195, cd195), (mI196, cd196), (mI197, cd197), (mI198, cd198), (mI199, cd199)] : List (mMI × List (Option mEnt))), mChkAt q.1.1.cls q.1.2.1 0 q.2 = true := List.forall_mem_cons.mpr ⟨cd180_ok, List.forall_mem_cons.mpr ⟨cd181_ok, List.forall_mem_cons.mpr ⟨cd182_ok, List.forall_mem_cons.mpr ⟨cd183_ok, List.forall_mem_cons.mpr ⟨cd184_ok, List.forall_mem_cons.mpr ⟨cd185_ok, List.forall_mem_cons.mpr ⟨cd186_ok, List.forall_mem_cons.mpr ⟨cd187_ok, List.forall_mem_cons.mpr ⟨cd188_ok, List.forall_mem_cons.mpr ⟨cd189_ok, List.forall_mem_cons.mpr ⟨cd190_ok, List.forall_mem_cons.mpr ⟨cd191_ok, List.forall_mem_cons.mpr ⟨cd192_ok, List.forall_mem_cons.mpr ⟨cd193_ok, List.forall_mem_cons.mpr ⟨cd194_ok, List.forall_mem_cons.mpr ⟨cd195_ok, List.forall_mem_cons.mpr ⟨cd196_ok, List.forall_mem_cons.mpr ⟨cd197_ok, List.forall_mem_cons.mpr ⟨cd198_ok, List.forall_mem_cons.mpr ⟨cd199_ok, fun _ h => absurd h List.not_mem_nil⟩⟩⟩⟩⟩⟩⟩⟩⟩⟩⟩⟩⟩⟩⟩⟩⟩⟩⟩⟩
theorem mAllC10 : ∀ q ∈ ([(mI200, cd200), (mI201, cd201), (mI202, cd202), (mI203, cd203), (mI204, cd204), (mI205, cd205), (mI206, cd206), (mI207, cd207), (mI208, cd208), (mI209, cd209), (mI210, cd210), (mI211, cd211), (mI212, cd212), (mI213, cd213), (mI214, cd214), (mI215, cd215), (mI216, cd216), (mI217, cd217), (mI218, cd218), (mI219, cd219)] : List (mMI × List (Option mEnt))), mChkAt q.1.1.cls q.1.2.1 0 q.2 = true := List.forall_mem_cons.mpr ⟨cd200_ok, List.forall_mem_cons.mpr ⟨cd201_ok, List.forall_mem_cons.mpr ⟨cd202_ok, List.forall_mem_cons.mpr ⟨cd203_ok, List.forall_mem_cons.mpr ⟨cd204_ok, List.forall_mem_cons.mpr ⟨cd205_ok, List.forall_mem_cons.mpr ⟨cd206_ok, List.forall_mem_cons.mpr ⟨cd207_ok, List.forall_mem_cons.mpr ⟨cd208_ok, List.forall_mem_cons.mpr ⟨cd209_ok, List.forall_mem_cons.mpr ⟨cd210_ok, List.forall_mem_cons.mpr ⟨cd211_ok, List.forall_mem_cons.mpr ⟨cd212_ok, List.forall_mem_cons.mpr ⟨cd213_ok, List.forall_mem_cons.mpr ⟨cd214_ok, List.forall_mem_cons.mpr ⟨cd215_ok, List.forall_mem_cons.mpr ⟨cd216_ok, List.forall_mem_cons.mpr ⟨cd217_ok, List.forall_mem_cons.mpr ⟨cd218_ok, List.forall_mem_cons.mpr ⟨cd219_ok, fun _ h => absurd h List.not_mem_nil⟩⟩⟩⟩⟩⟩⟩⟩⟩⟩⟩⟩⟩⟩⟩⟩⟩⟩⟩⟩
theorem mAllC11 : ∀ q ∈ ([(mI220, cd220), (mI221, cd221), (mI222, cd222), (mI223, cd223), (mI224, cd224), (mI225, cd225), (mI226, cd226), (mI227, cd227), (mI228, cd228), (mI229, cd229)] : List (mMI × List (Option mEnt))), mChkAt q.1.1.cls q.1.2.1 0 q.2 = true := List.forall_mem_cons.mpr ⟨cd220_ok, List.forall_mem_cons.mpr ⟨cd221_ok, List.forall_mem_cons.mpr ⟨cd222_ok, List.forall_mem_cons.mpr ⟨cd223_ok, List.forall_mem_cons.mpr ⟨cd224_ok, List.forall_mem_cons.mpr ⟨cd225_ok, List.forall_mem_cons.mpr ⟨cd226_ok, List.forall_mem_cons.mpr ⟨cd227_ok, List.forall_mem_cons.mpr ⟨cd228_ok, List.forall_mem_cons.mpr ⟨cd229_ok, fun _ h => absurd h List.not_mem_nil⟩⟩⟩⟩⟩⟩⟩⟩⟩⟩
set_option maxRecDepth 1000000 in
theorem mAll_ok : ∀ q ∈ mAll, mChkAt q.1.1.cls q.1.2.1 0 q.2 = true := by
  have h : mAll = ([(mI0, cd0), (mI1, cd1), (mI2, cd2), (mI3, cd3), (mI4, cd4), (mI5, cd5), (mI6, cd6), (mI7, cd7), (mI8, cd8), (mI9, cd9), (mI10, cd10), (mI11, cd11), (mI12, cd12), (mI13, cd13), (mI14, cd14), (mI15, cd15), (mI16, cd16), (mI17, cd17), (mI18, cd18), (mI19, cd19)] : List (mMI × List (Option mEnt))) ++ (([(mI20, cd20), (mI21, cd21), (mI22, cd22), (mI23, cd23), (mI24, cd24), (mI25, cd25), (mI26, cd26), (mI27, cd27), (mI28, cd28), (mI29, cd29), (mI30, cd30), (mI31, cd31), (mI32, cd32), (mI33, cd33), (mI34, cd34), (mI35, cd35), (mI36, cd36), (mI37, cd37), (mI38, cd38), (mI39, cd39)] : List (mMI × List (Option mEnt))) ++ (([(mI40, cd40), (mI41, cd41), (mI42, cd42), (mI43, cd43), (mI44, cd44), (mI45, cd45), (mI46, cd46), (mI47, cd47), (mI48, cd48), (mI49, cd49), (mI50, cd50), (mI51, cd51), (mI52, cd52), (mI53, cd53), (mI54, cd54), (mI55, cd55), (mI56, cd56), (mI57, cd57), (mI58, cd58), (mI59, cd59)] : List (mMI × List (Option mEnt))) ++ (([(mI60, cd60), (mI61, cd61), (mI62, cd62), (mI63, cd63), (mI64, cd64), (mI65, cd65), (mI66, cd66), (mI67, cd67), (mI68, cd68), (mI69, cd69), (mI70, cd70), (mI71, cd71), (mI72, cd72), (mI73, cd73), (mI74, cd74), (mI75, cd75), (mI76, cd76), (mI77, cd77), (mI78, cd78), (mI79, cd79)] : List (mMI × List (Option mEnt))) ++ (([(mI80, cd80), (mI81, cd81), (mI82, cd82), (mI83, cd83), (mI84, cd84), (mI85, cd85), (mI86, cd86), (mI87, cd87), (mI88, cd88), (mI89, cd89), (mI90, cd90), (mI91, cd91), (mI92, cd92), (mI93, cd93), (mI94, cd94), (mI95, cd95), (mI96, cd96), (mI97, cd97), (mI98, cd98), (mI99, cd99)] : List (mMI × List (Option mEnt))) ++ (([(mI100, cd100), (mI101, cd101), (mI102, cd102), (mI103, cd103), (mI104, cd104), (mI105, cd105), (mI106, cd106), (mI107, cd107), (mI108, cd108), (mI109, cd109), (mI110, cd110), (mI111, cd111), (mI112, cd112), (mI113, cd113), (mI114, cd114), (mI115, cd115), (mI116, cd116), (mI117, cd117), (mI118, cd118), (mI119, cd119)] : List (mMI × List (Option mEnt))) ++ (([(mI120, cd120), (mI121, cd121), (mI122, cd122), (mI123, cd123), (mI124, cd124), (mI125, cd125), (mI126, cd126), (mI127, cd127), (mI128, cd128), (mI129, cd129), (mI130, cd130), (mI131, cd131), (mI132, cd132), (mI133, cd133), (mI134, cd134), (mI135, cd135), (mI136, cd136), (mI137, cd137), (mI138, cd138), (mI139, cd139)] : List (mMI × List (Option mEnt))) ++ (([(mI140, cd140), (mI141, cd141), (mI142, cd142), (mI143, cd143), (mI144, cd144), (mI145, cd145), (mI146, cd146), (mI147, cd147), (mI148, cd148), (mI149, cd149), (mI150, cd150), (mI151, cd151), (mI152, cd152), (mI153, cd153), (mI154, cd154), (mI155, cd155), (mI156, cd156), (mI157, cd157), (mI158, cd158), (mI159, cd159)] : List (mMI × List (Option mEnt))) ++ (([(mI160, cd160), (mI161, cd161), (mI162, cd162), (mI163, cd163), (mI164, cd164), (mI165, cd165), (mI166, cd166), (mI167, cd167), (mI168, cd168), (mI169, cd169), (mI170, cd170), (mI171, cd171), (mI172, cd172), (mI173, cd173), (mI174, cd174), (mI175, cd175), (mI176, cd176), (mI177, cd177), (mI178, cd178), (mI179, cd179)] : List (mMI × List (Option mEnt))) ++ (([(mI180, cd180), (mI181, cd181), (mI182, cd182), (mI183, cd183), (mI184, cd184), (mI185, cd185), (mI186, cd186), (mI187, cd187), (mI188, cd188), (mI189, cd189), (mI190, cd190), (mI191, cd191), (mI192, cd192), (mI193, cd193), (mI194, cd194), (mI195, cd195), (mI196, cd196), (mI197, cd197), (mI198, cd198), (mI199, cd199)] : List (mMI × List (Option mEnt))) ++ (([(mI200, cd200), (mI201, cd201), (mI202, cd202), (mI203, cd203), (mI204, cd204), (mI205, cd205), (mI206, cd206), (mI207, cd207), (mI208, cd208), (mI209, cd209), (mI210, cd210), (mI211, cd211), (mI212, cd212), (mI213, cd213), (mI214, cd214), (mI215, cd215), (mI216, cd216), (mI217, cd217), (mI218, cd218), (mI219, cd219)] : List (mMI × List (Option mEnt))) ++ (([(mI220, cd220), (mI221, cd221), (mI222, cd222), (mI223, cd223), (mI224, cd224), (mI225, cd225), (mI226, cd226), (mI227, cd227), (mI228, cd228), (mI229, cd229)] : List (mMI × List (Option mEnt)))))))))))))) := rfl
  rw [h]
  exact List.forall_mem_append.mpr ⟨mAllC0, List.forall_mem_append.mpr ⟨mAllC1, List.forall_mem_append.mpr ⟨mAllC2, List.forall_mem_append.mpr ⟨mAllC3, List.forall_mem_append.mpr ⟨mAllC4, List.forall_mem_append.mpr ⟨mAllC5, List.forall_mem_append.mpr ⟨mAllC6, List.forall_mem_append.mpr ⟨mAllC7, List.forall_mem_append.mpr ⟨mAllC8, List.forall_mem_append.mpr ⟨mAllC9, List.forall_mem_append.mpr ⟨mAllC10, mAllC11⟩⟩⟩⟩⟩⟩⟩⟩⟩⟩⟩
def mLawY : Nat := 229
theorem mTabC0 : ∀ q ∈ ([mI0, mI1, mI2, mI3, mI4, mI5, mI6, mI7, mI8, mI9, mI10, mI11, mI12, mI13, mI14, mI15, mI16, mI17, mI18, mI19] : List mMI), mIO q := List.forall_mem_cons.mpr ⟨mI0_ok, List.forall_mem_cons.mpr ⟨mI1_ok, List.forall_mem_cons.mpr ⟨mI2_ok, List.forall_mem_cons.mpr ⟨mI3_ok, List.forall_mem_cons.mpr ⟨mI4_ok, List.forall_mem_cons.mpr ⟨mI5_ok, List.forall_mem_cons.mpr ⟨mI6_ok, List.forall_mem_cons.mpr ⟨mI7_ok, List.forall_mem_cons.mpr ⟨mI8_ok, List.forall_mem_cons.mpr ⟨mI9_ok, List.forall_mem_cons.mpr ⟨mI10_ok, List.forall_mem_cons.mpr ⟨mI11_ok, List.forall_mem_cons.mpr ⟨mI12_ok, List.forall_mem_cons.mpr ⟨mI13_ok, List.forall_mem_cons.mpr ⟨mI14_ok, List.forall_mem_cons.mpr ⟨mI15_ok, List.forall_mem_cons.mpr ⟨mI16_ok, List.forall_mem_cons.mpr ⟨mI17_ok, List.forall_mem_cons.mpr ⟨mI18_ok, List.forall_mem_cons.mpr ⟨mI19_ok, fun _ h => absurd h List.not_mem_nil⟩⟩⟩⟩⟩⟩⟩⟩⟩⟩⟩⟩⟩⟩⟩⟩⟩⟩⟩⟩
theorem mTabC1 : ∀ q ∈ ([mI20, mI21, mI22, mI23, mI24, mI25, mI26, mI27, mI28, mI29, mI30, mI31, mI32, mI33, mI34, mI35, mI36, mI37, mI38, mI39] : List mMI), mIO q := List.forall_mem_cons.mpr ⟨mI20_ok, List.forall_mem_cons.mpr ⟨mI21_ok, List.forall_mem_cons.mpr ⟨mI22_ok, List.forall_mem_cons.mpr ⟨mI23_ok, List.forall_mem_cons.mpr ⟨mI24_ok, List.forall_mem_cons.mpr ⟨mI25_ok, List.forall_mem_cons.mpr ⟨mI26_ok, List.forall_mem_cons.mpr ⟨mI27_ok, List.forall_mem_cons.mpr ⟨mI28_ok, List.forall_mem_cons.mpr ⟨mI29_ok, List.forall_mem_cons.mpr ⟨mI30_ok, List.forall_mem_cons.mpr ⟨mI31_ok, List.forall_mem_cons.mpr ⟨mI32_ok, List.forall_mem_cons.mpr ⟨mI33_ok, List.forall_mem_cons.mpr ⟨mI34_ok, List.forall_mem_cons.mpr ⟨mI35_ok, List.forall_mem_cons.mpr ⟨mI36_ok, List.forall_mem_cons.mpr ⟨mI37_ok, List.forall_mem_cons.mpr ⟨mI38_ok, List.forall_mem_cons.mpr ⟨mI39_ok, fun _ h => absurd h List.not_mem_nil⟩⟩⟩⟩⟩⟩⟩⟩⟩⟩⟩⟩⟩⟩⟩⟩⟩⟩⟩⟩
theorem mTabC2 : ∀ q ∈ ([mI40, mI41, mI42, mI43, mI44, mI45, mI46, mI47, mI48, mI49, mI50, mI51, mI52, mI53, mI54, mI55, mI56, mI57, mI58, mI59] : List mMI), mIO q := List.forall_mem_cons.mpr ⟨mI40_ok, List.forall_mem_cons.mpr ⟨mI41_ok, List.forall_mem_cons.mpr ⟨mI42_ok, List.forall_mem_cons.mpr ⟨mI43_ok, List.forall_mem_cons.mpr ⟨mI44_ok, List.forall_mem_cons.mpr ⟨mI45_ok, List.forall_mem_cons.mpr ⟨mI46_ok, List.forall_mem_cons.mpr ⟨mI47_ok, List.forall_mem_cons.mpr ⟨mI48_ok, List.forall_mem_cons.mpr ⟨mI49_ok, List.forall_mem_cons.mpr ⟨mI50_ok, List.forall_mem_cons.mpr ⟨mI51_ok, List.forall_mem_cons.mpr ⟨mI52_ok, List.forall_mem_cons.mpr ⟨mI53_ok, List.forall_mem_cons.mpr ⟨mI54_ok, List.forall_mem_cons.mpr ⟨mI55_ok, List.forall_mem_cons.mpr ⟨mI56_ok, List.forall_mem_cons.mpr ⟨mI57_ok, List.forall_mem_cons.mpr ⟨mI58_ok, List.forall_mem_cons.mpr ⟨mI59_ok, fun _ h => absurd h List.not_mem_nil⟩⟩⟩⟩⟩⟩⟩⟩⟩⟩⟩⟩⟩⟩⟩⟩⟩⟩⟩⟩
theorem mTabC3 : ∀ q ∈ ([mI60, mI61, mI62, mI63, mI64, mI65, mI66, mI67, mI68, mI69, mI70, mI71, mI72, mI73, mI74, mI75, mI76, mI77, mI78, mI79] : List mMI), mIO q := List.forall_mem_cons.mpr ⟨mI60_ok, List.forall_mem_cons.mpr ⟨mI61_ok, List.forall_mem_cons.mpr ⟨mI62_ok, List.forall_mem_cons.mpr ⟨mI63_ok, List.forall_mem_cons.mpr ⟨mI64_ok, List.forall_mem_cons.mpr ⟨mI65_ok, List.forall_mem_cons.mpr ⟨mI66_ok, List.forall_mem_cons.mpr ⟨mI67_ok, List.forall_mem_cons.mpr ⟨mI68_ok, List.forall_mem_cons.mpr ⟨mI69_ok, List.forall_mem_cons.mpr ⟨mI70_ok, List.forall_mem_cons.mpr ⟨mI71_ok, List.forall_mem_cons.mpr ⟨mI72_ok, List.forall_mem_cons.mpr ⟨mI73_ok, List.forall_mem_cons.mpr ⟨mI74_ok, List.forall_mem_cons.mpr ⟨mI75_ok, List.forall_mem_cons.mpr ⟨mI76_ok, List.forall_mem_cons.mpr ⟨mI77_ok, List.forall_mem_cons.mpr ⟨mI78_ok, List.forall_mem_cons.mpr ⟨mI79_ok, fun _ h => absurd h List.not_mem_nil⟩⟩⟩⟩⟩⟩⟩⟩⟩⟩⟩⟩⟩⟩⟩⟩⟩⟩⟩⟩
theorem mTabC4 : ∀ q ∈ ([mI80, mI81, mI82, mI83, mI84, mI85, mI86, mI87, mI88, mI89, mI90, mI91, mI92, mI93, mI94, mI95, mI96, mI97, mI98, mI99] : List mMI), mIO q := List.forall_mem_cons.mpr ⟨mI80_ok, List.forall_mem_cons.mpr ⟨mI81_ok, List.forall_mem_cons.mpr ⟨mI82_ok, List.forall_mem_cons.mpr ⟨mI83_ok, List.forall_mem_cons.mpr ⟨mI84_ok, List.forall_mem_cons.mpr ⟨mI85_ok, List.forall_mem_cons.mpr ⟨mI86_ok, List.forall_mem_cons.mpr ⟨mI87_ok, List.forall_mem_cons.mpr ⟨mI88_ok, List.forall_mem_cons.mpr ⟨mI89_ok, List.forall_mem_cons.mpr ⟨mI90_ok, List.forall_mem_cons.mpr ⟨mI91_ok, List.forall_mem_cons.mpr ⟨mI92_ok, List.forall_mem_cons.mpr ⟨mI93_ok, List.forall_mem_cons.mpr ⟨mI94_ok, List.forall_mem_cons.mpr ⟨mI95_ok, List.forall_mem_cons.mpr ⟨mI96_ok, List.forall_mem_cons.mpr ⟨mI97_ok, List.forall_mem_cons.mpr ⟨mI98_ok, List.forall_mem_cons.mpr ⟨mI99_ok, fun _ h => absurd h List.not_mem_nil⟩⟩⟩⟩⟩⟩⟩⟩⟩⟩⟩⟩⟩⟩⟩⟩⟩⟩⟩⟩
theorem mTabC5 : ∀ q ∈ ([mI100, mI101, mI102, mI103, mI104, mI105, mI106, mI107, mI108, mI109, mI110, mI111, mI112, mI113, mI114, mI115, mI116, mI117, mI118, mI119] : List mMI), mIO q := List.forall_mem_cons.mpr ⟨mI100_ok, List.forall_mem_cons.mpr ⟨mI101_ok, List.forall_mem_cons.mpr ⟨mI102_ok, List.forall_mem_cons.mpr ⟨mI103_ok, List.forall_mem_cons.mpr ⟨mI104_ok, List.forall_mem_cons.mpr ⟨mI105_ok, List.forall_mem_cons.mpr ⟨mI106_ok, List.forall_mem_cons.mpr ⟨mI107_ok, List.forall_mem_cons.mpr ⟨mI108_ok, List.forall_mem_cons.mpr ⟨mI109_ok, List.forall_mem_cons.mpr ⟨mI110_ok, List.forall_mem_cons.mpr ⟨mI111_ok, List.forall_mem_cons.mpr ⟨mI112_ok, List.forall_mem_cons.mpr ⟨mI113_ok, List.forall_mem_cons.mpr ⟨mI114_ok, List.forall_mem_cons.mpr ⟨mI115_ok, List.forall_mem_cons.mpr ⟨mI116_ok, List.forall_mem_cons.mpr ⟨mI117_ok, List.forall_mem_cons.mpr ⟨mI118_ok, List.forall_mem_cons.mpr ⟨mI119_ok, fun _ h => absurd h List.not_mem_nil⟩⟩⟩⟩⟩⟩⟩⟩⟩⟩⟩⟩⟩⟩⟩⟩⟩⟩⟩⟩
theorem mTabC6 : ∀ q ∈ ([mI120, mI121, mI122, mI123, mI124, mI125, mI126, mI127, mI128, mI129, mI130, mI131, mI132, mI133, mI134, mI135, mI136, mI137, mI138, mI139] : List mMI), mIO q := List.forall_mem_cons.mpr ⟨mI120_ok, List.forall_mem_cons.mpr ⟨mI121_ok, List.forall_mem_cons.mpr ⟨mI122_ok, List.forall_mem_cons.mpr ⟨mI123_ok, List.forall_mem_cons.mpr ⟨mI124_ok, List.forall_mem_cons.mpr ⟨mI125_ok, List.forall_mem_cons.mpr ⟨mI126_ok, List.forall_mem_cons.mpr ⟨mI127_ok, List.forall_mem_cons.mpr ⟨mI128_ok, List.forall_mem_cons.mpr ⟨mI129_ok, List.forall_mem_cons.mpr ⟨mI130_ok, List.forall_mem_cons.mpr ⟨mI131_ok, List.forall_mem_cons.mpr ⟨mI132_ok, List.forall_mem_cons.mpr ⟨mI133_ok, List.forall_mem_cons.mpr ⟨mI134_ok, List.forall_mem_cons.mpr ⟨mI135_ok, List.forall_mem_cons.mpr ⟨mI136_ok, List.forall_mem_cons.mpr ⟨mI137_ok, List.forall_mem_cons.mpr ⟨mI138_ok, List.forall_mem_cons.mpr ⟨mI139_ok, fun _ h => absurd h List.not_mem_nil⟩⟩⟩⟩⟩⟩⟩⟩⟩⟩⟩⟩⟩⟩⟩⟩⟩⟩⟩⟩
theorem mTabC7 : ∀ q ∈ ([mI140, mI141, mI142, mI143, mI144, mI145, mI146, mI147, mI148, mI149, mI150, mI151, mI152, mI153, mI154, mI155, mI156, mI157, mI158, mI159] : List mMI), mIO q := List.forall_mem_cons.mpr ⟨mI140_ok, List.forall_mem_cons.mpr ⟨mI141_ok, List.forall_mem_cons.mpr ⟨mI142_ok, List.forall_mem_cons.mpr ⟨mI143_ok, List.forall_mem_cons.mpr ⟨mI144_ok, List.forall_mem_cons.mpr ⟨mI145_ok, List.forall_mem_cons.mpr ⟨mI146_ok, List.forall_mem_cons.mpr ⟨mI147_ok, List.forall_mem_cons.mpr ⟨mI148_ok, List.forall_mem_cons.mpr ⟨mI149_ok, List.forall_mem_cons.mpr ⟨mI150_ok, List.forall_mem_cons.mpr ⟨mI151_ok, List.forall_mem_cons.mpr ⟨mI152_ok, List.forall_mem_cons.mpr ⟨mI153_ok, List.forall_mem_cons.mpr ⟨mI154_ok, List.forall_mem_cons.mpr ⟨mI155_ok, List.forall_mem_cons.mpr ⟨mI156_ok, List.forall_mem_cons.mpr ⟨mI157_ok, List.forall_mem_cons.mpr ⟨mI158_ok, List.forall_mem_cons.mpr ⟨mI159_ok, fun _ h => absurd h List.not_mem_nil⟩⟩⟩⟩⟩⟩⟩⟩⟩⟩⟩⟩⟩⟩⟩⟩⟩⟩⟩⟩
theorem mTabC8 : ∀ q ∈ ([mI160, mI161, mI162, mI163, mI164, mI165, mI166, mI167, mI168, mI169, mI170, mI171, mI172, mI173, mI174, mI175, mI176, mI177, mI178, mI179] : List mMI), mIO q := List.forall_mem_cons.mpr ⟨mI160_ok, List.forall_mem_cons.mpr ⟨mI161_ok, List.forall_mem_cons.mpr ⟨mI162_ok, List.forall_mem_cons.mpr ⟨mI163_ok, List.forall_mem_cons.mpr ⟨mI164_ok, List.forall_mem_cons.mpr ⟨mI165_ok, List.forall_mem_cons.mpr ⟨mI166_ok, List.forall_mem_cons.mpr ⟨mI167_ok, List.forall_mem_cons.mpr ⟨mI168_ok, List.forall_mem_cons.mpr ⟨mI169_ok, List.forall_mem_cons.mpr ⟨mI170_ok, List.forall_mem_cons.mpr ⟨mI171_ok, List.forall_mem_cons.mpr ⟨mI172_ok, List.forall_mem_cons.mpr ⟨mI173_ok, List.forall_mem_cons.mpr ⟨mI174_ok, List.forall_mem_cons.mpr ⟨mI175_ok, List.forall_mem_cons.mpr ⟨mI176_ok, List.forall_mem_cons.mpr ⟨mI177_ok, List.forall_mem_cons.mpr ⟨mI178_ok, List.forall_mem_cons.mpr ⟨mI179_ok, fun _ h => absurd h List.not_mem_nil⟩⟩⟩⟩⟩⟩⟩⟩⟩⟩⟩⟩⟩⟩⟩⟩⟩⟩⟩⟩
theorem mTabC9 : ∀ q ∈ ([mI180, mI181, mI182, mI183, mI184, mI185, mI186, mI187, mI188, mI189, mI190, mI191, mI192, mI193, mI194, mI195, mI196, mI197, mI198, mI199] : List mMI), mIO q := List.forall_mem_cons.mpr ⟨mI180_ok, List.forall_mem_cons.mpr ⟨mI181_ok, List.forall_mem_cons.mpr ⟨mI182_ok, List.forall_mem_cons.mpr ⟨mI183_ok, List.forall_mem_cons.mpr ⟨mI184_ok, List.forall_mem_cons.mpr ⟨mI185_ok, List.forall_mem_cons.mpr ⟨mI186_ok, List.forall_mem_cons.mpr ⟨mI187_ok, List.forall_mem_cons.mpr ⟨mI188_ok, List.forall_mem_cons.mpr ⟨mI189_ok, List.forall_mem_cons.mpr ⟨mI190_ok, List.forall_mem_cons.mpr ⟨mI191_ok, List.forall_mem_cons.mpr ⟨mI192_ok, List.forall_mem_cons.mpr ⟨mI193_ok, List.forall_mem_cons.mpr ⟨mI194_ok, List.forall_mem_cons.mpr ⟨mI195_ok, List.forall_mem_cons.mpr ⟨mI196_ok, List.forall_mem_cons.mpr ⟨mI197_ok, List.forall_mem_cons.mpr ⟨mI198_ok, List.forall_mem_cons.mpr ⟨mI199_ok, fun _ h => absurd h List.not_mem_nil⟩⟩⟩⟩⟩⟩⟩⟩⟩⟩⟩⟩⟩⟩⟩⟩⟩⟩⟩⟩
theorem mTabC10 : ∀ q ∈ ([mI200, mI201, mI202, mI203, mI204, mI205, mI206, mI207, mI208, mI209, mI210, mI211, mI212, mI213, mI214, mI215, mI216, mI217, mI218, mI219] : List mMI), mIO q := List.forall_mem_cons.mpr ⟨mI200_ok, List.forall_mem_cons.mpr ⟨mI201_ok, List.forall_mem_cons.mpr ⟨mI202_ok, List.forall_mem_cons.mpr ⟨mI203_ok, List.forall_mem_cons.mpr ⟨mI204_ok, List.forall_mem_cons.mpr ⟨mI205_ok, List.forall_mem_cons.mpr ⟨mI206_ok, List.forall_mem_cons.mpr ⟨mI207_ok, List.forall_mem_cons.mpr ⟨mI208_ok, List.forall_mem_cons.mpr ⟨mI209_ok, List.forall_mem_cons.mpr ⟨mI210_ok, List.forall_mem_cons.mpr ⟨mI211_ok, List.forall_mem_cons.mpr ⟨mI212_ok, List.forall_mem_cons.mpr ⟨mI213_ok, List.forall_mem_cons.mpr ⟨mI214_ok, List.forall_mem_cons.mpr ⟨mI215_ok, List.forall_mem_cons.mpr ⟨mI216_ok, List.forall_mem_cons.mpr ⟨mI217_ok, List.forall_mem_cons.mpr ⟨mI218_ok, List.forall_mem_cons.mpr ⟨mI219_ok, fun _ h => absurd h List.not_mem_nil⟩⟩⟩⟩⟩⟩⟩⟩⟩⟩⟩⟩⟩⟩⟩⟩⟩⟩⟩⟩
theorem mTabC11 : ∀ q ∈ ([mI220, mI221, mI222, mI223, mI224, mI225, mI226, mI227, mI228] : List mMI), mIO q := List.forall_mem_cons.mpr ⟨mI220_ok, List.forall_mem_cons.mpr ⟨mI221_ok, List.forall_mem_cons.mpr ⟨mI222_ok, List.forall_mem_cons.mpr ⟨mI223_ok, List.forall_mem_cons.mpr ⟨mI224_ok, List.forall_mem_cons.mpr ⟨mI225_ok, List.forall_mem_cons.mpr ⟨mI226_ok, List.forall_mem_cons.mpr ⟨mI227_ok, List.forall_mem_cons.mpr ⟨mI228_ok, fun _ h => absurd h List.not_mem_nil⟩⟩⟩⟩⟩⟩⟩⟩⟩
set_option maxRecDepth 1000000 in
theorem mTab_ok : ∀ q ∈ mTab.take 229, mIO q := by
  have h : mTab.take 229 = ([mI0, mI1, mI2, mI3, mI4, mI5, mI6, mI7, mI8, mI9, mI10, mI11, mI12, mI13, mI14, mI15, mI16, mI17, mI18, mI19] : List mMI) ++ (([mI20, mI21, mI22, mI23, mI24, mI25, mI26, mI27, mI28, mI29, mI30, mI31, mI32, mI33, mI34, mI35, mI36, mI37, mI38, mI39] : List mMI) ++ (([mI40, mI41, mI42, mI43, mI44, mI45, mI46, mI47, mI48, mI49, mI50, mI51, mI52, mI53, mI54, mI55, mI56, mI57, mI58, mI59] : List mMI) ++ (([mI60, mI61, mI62, mI63, mI64, mI65, mI66, mI67, mI68, mI69, mI70, mI71, mI72, mI73, mI74, mI75, mI76, mI77, mI78, mI79] : List mMI) ++ (([mI80, mI81, mI82, mI83, mI84, mI85, mI86, mI87, mI88, mI89, mI90, mI91, mI92, mI93, mI94, mI95, mI96, mI97, mI98, mI99] : List mMI) ++ (([mI100, mI101, mI102, mI103, mI104, mI105, mI106, mI107, mI108, mI109, mI110, mI111, mI112, mI113, mI114, mI115, mI116, mI117, mI118, mI119] : List mMI) ++ (([mI120, mI121, mI122, mI123, mI124, mI125, mI126, mI127, mI128, mI129, mI130, mI131, mI132, mI133, mI134, mI135, mI136, mI137, mI138, mI139] : List mMI) ++ (([mI140, mI141, mI142, mI143, mI144, mI145, mI146, mI147, mI148, mI149, mI150, mI151, mI152, mI153, mI154, mI155, mI156, mI157, mI158, mI159] : List mMI) ++ (([mI160, mI161, mI162, mI163, mI164, mI165, mI166, mI167, mI168, mI169, mI170, mI171, mI172, mI173, mI174, mI175, mI176, mI177, mI178, mI179] : List mMI) ++ (([mI180, mI181, mI182, mI183, mI184, mI185, mI186, mI187, mI188, mI189, mI190, mI191, mI192, mI193, mI194, mI195, mI196, mI197, mI198, mI199] : List mMI) ++ (([mI200, mI201, mI202, mI203, mI204, mI205, mI206, mI207, mI208, mI209, mI210, mI211, mI212, mI213, mI214, mI215, mI216, mI217, mI218, mI219] : List mMI) ++ (([mI220, mI221, mI222, mI223, mI224, mI225, mI226, mI227, mI228] : List mMI)))))))))))) := rfl
  rw [h]
  exact List.forall_mem_append.mpr ⟨mTabC0, List.forall_mem_append.mpr ⟨mTabC1, List.forall_mem_append.mpr ⟨mTabC2, List.forall_mem_append.mpr ⟨mTabC3, List.forall_mem_append.mpr ⟨mTabC4, List.forall_mem_append.mpr ⟨mTabC5, List.forall_mem_append.mpr ⟨mTabC6, List.forall_mem_append.mpr ⟨mTabC7, List.forall_mem_append.mpr ⟨mTabC8, List.forall_mem_append.mpr ⟨mTabC9, List.forall_mem_append.mpr ⟨mTabC10, mTabC11⟩⟩⟩⟩⟩⟩⟩⟩⟩⟩⟩
theorem mTabD0 : ∀ q ∈ ([mI0, mI1, mI2, mI3, mI4, mI5, mI6, mI7, mI8, mI9, mI10, mI11, mI12, mI13, mI14, mI15, mI16, mI17, mI18, mI19] : List mMI), mIC q := List.forall_mem_cons.mpr ⟨mI0_code, List.forall_mem_cons.mpr ⟨mI1_code, List.forall_mem_cons.mpr ⟨mI2_code, List.forall_mem_cons.mpr ⟨mI3_code, List.forall_mem_cons.mpr ⟨mI4_code, List.forall_mem_cons.mpr ⟨mI5_code, List.forall_mem_cons.mpr ⟨mI6_code, List.forall_mem_cons.mpr ⟨mI7_code, List.forall_mem_cons.mpr ⟨mI8_code, List.forall_mem_cons.mpr ⟨mI9_code, List.forall_mem_cons.mpr ⟨mI10_code, List.forall_mem_cons.mpr ⟨mI11_code, List.forall_mem_cons.mpr ⟨mI12_code, List.forall_mem_cons.mpr ⟨mI13_code, List.forall_mem_cons.mpr ⟨mI14_code, List.forall_mem_cons.mpr ⟨mI15_code, List.forall_mem_cons.mpr ⟨mI16_code, List.forall_mem_cons.mpr ⟨mI17_code, List.forall_mem_cons.mpr ⟨mI18_code, List.forall_mem_cons.mpr ⟨mI19_code, fun _ h => absurd h List.not_mem_nil⟩⟩⟩⟩⟩⟩⟩⟩⟩⟩⟩⟩⟩⟩⟩⟩⟩⟩⟩⟩
theorem mTabD1 : ∀ q ∈ ([mI20, mI21, mI22, mI23, mI24, mI25, mI26, mI27, mI28, mI29, mI30, mI31, mI32, mI33, mI34, mI35, mI36, mI37, mI38, mI39] : List mMI), mIC q := List.forall_mem_cons.mpr ⟨mI20_code, List.forall_mem_cons.mpr ⟨mI21_code, List.forall_mem_cons.mpr ⟨mI22_code, List.forall_mem_cons.mpr ⟨mI23_code, List.forall_mem_cons.mpr ⟨mI24_code, List.forall_mem_cons.mpr ⟨mI25_code, List.forall_mem_cons.mpr ⟨mI26_code, List.forall_mem_cons.mpr ⟨mI27_code, List.forall_mem_cons.mpr ⟨mI28_code, List.forall_mem_cons.mpr ⟨mI29_code, List.forall_mem_cons.mpr ⟨mI30_code, List.forall_mem_cons.mpr ⟨mI31_code, List.forall_mem_cons.mpr ⟨mI32_code, List.forall_mem_cons.mpr ⟨mI33_code, List.forall_mem_cons.mpr ⟨mI34_code, List.forall_mem_cons.mpr ⟨mI35_code, List.forall_mem_cons.mpr ⟨mI36_code, List.forall_mem_cons.mpr ⟨mI37_code, List.forall_mem_cons.mpr ⟨mI38_code, List.forall_mem_cons.mpr ⟨mI39_code, fun _ h => absurd h List.not_mem_nil⟩⟩⟩⟩⟩⟩⟩⟩⟩⟩⟩⟩⟩⟩⟩⟩⟩⟩⟩⟩
theorem mTabD2 : ∀ q ∈ ([mI40, mI41, mI42, mI43, mI44, mI45, mI46, mI47, mI48, mI49, mI50, mI51, mI52, mI53, mI54, mI55, mI56, mI57, mI58, mI59] : List mMI), mIC q := List.forall_mem_cons.mpr ⟨mI40_code, List.forall_mem_cons.mpr ⟨mI41_code, List.forall_mem_cons.mpr ⟨mI42_code, List.forall_mem_cons.mpr ⟨mI43_code, List.forall_mem_cons.mpr ⟨mI44_code, List.forall_mem_cons.mpr ⟨mI45_code, List.forall_mem_cons.mpr ⟨mI46_code, List.forall_mem_cons.mpr ⟨mI47_code, List.forall_mem_cons.mpr ⟨mI48_code, List.forall_mem_cons.mpr ⟨mI49_code, List.forall_mem_cons.mpr ⟨mI50_code, List.forall_mem_cons.mpr ⟨mI51_code, List.forall_mem_cons.mpr ⟨mI52_code, List.forall_mem_cons.mpr ⟨mI53_code, List.forall_mem_cons.mpr ⟨mI54_code, List.forall_mem_cons.mpr ⟨mI55_code, List.forall_mem_cons.mpr ⟨mI56_code, List.forall_mem_cons.mpr ⟨mI57_code, List.forall_mem_cons.mpr ⟨mI58_code, List.forall_mem_cons.mpr ⟨mI59_code, fun _ h => absurd h List.not_mem_nil⟩⟩⟩⟩⟩⟩⟩⟩⟩⟩⟩⟩⟩⟩⟩⟩⟩⟩⟩⟩
theorem mTabD3 : ∀ q ∈ ([mI60, mI61, mI62, mI63, mI64, mI65, mI66, mI67, mI68, mI69, mI70, mI71, mI72, mI73, mI74, mI75, mI76, mI77, mI78, mI79] : List mMI), mIC q := List.forall_mem_cons.mpr ⟨mI60_code, List.forall_mem_cons.mpr ⟨mI61_code, List.forall_mem_cons.mpr ⟨mI62_code, List.forall_mem_cons.mpr ⟨mI63_code, List.forall_mem_cons.mpr ⟨mI64_code, List.forall_mem_cons.mpr ⟨mI65_code, List.forall_mem_cons.mpr ⟨mI66_code, List.forall_mem_cons.mpr ⟨mI67_code, List.forall_mem_cons.mpr ⟨mI68_code, List.forall_mem_cons.mpr ⟨mI69_code, List.forall_mem_cons.mpr ⟨mI70_code, List.forall_mem_cons.mpr ⟨mI71_code, List.forall_mem_cons.mpr ⟨mI72_code, List.forall_mem_cons.mpr ⟨mI73_code, List.forall_mem_cons.mpr ⟨mI74_code, List.forall_mem_cons.mpr ⟨mI75_code, List.forall_mem_cons.mpr ⟨mI76_code, List.forall_mem_cons.mpr ⟨mI77_code, List.forall_mem_cons.mpr ⟨mI78_code, List.forall_mem_cons.mpr ⟨mI79_code, fun _ h => absurd h List.not_mem_nil⟩⟩⟩⟩⟩⟩⟩⟩⟩⟩⟩⟩⟩⟩⟩⟩⟩⟩⟩⟩
theorem mTabD4 : ∀ q ∈ ([mI80, mI81, mI82, mI83, mI84, mI85, mI86, mI87, mI88, mI89, mI90, mI91, mI92, mI93, mI94, mI95, mI96, mI97, mI98, mI99] : List mMI), mIC q := List.forall_mem_cons.mpr ⟨mI80_code, List.forall_mem_cons.mpr ⟨mI81_code, List.forall_mem_cons.mpr ⟨mI82_code, List.forall_mem_cons.mpr ⟨mI83_code, List.forall_mem_cons.mpr ⟨mI84_code, List.forall_mem_cons.mpr ⟨mI85_code, List.forall_mem_cons.mpr ⟨mI86_code, List.forall_mem_cons.mpr ⟨mI87_code, List.forall_mem_cons.mpr ⟨mI88_code, List.forall_mem_cons.mpr ⟨mI89_code, List.forall_mem_cons.mpr ⟨mI90_code, List.forall_mem_cons.mpr ⟨mI91_code, List.forall_mem_cons.mpr ⟨mI92_code, List.forall_mem_cons.mpr ⟨mI93_code, List.forall_mem_cons.mpr ⟨mI94_code, List.forall_mem_cons.mpr ⟨mI95_code, List.forall_mem_cons.mpr ⟨mI96_code, List.forall_mem_cons.mpr ⟨mI97_code, List.forall_mem_cons.mpr ⟨mI98_code, List.forall_mem_cons.mpr ⟨mI99_code, fun _ h => absurd h List.not_mem_nil⟩⟩⟩⟩⟩⟩⟩⟩⟩⟩⟩⟩⟩⟩⟩⟩⟩⟩⟩⟩
theorem mTabD5 : ∀ q ∈ ([mI100, mI101, mI102, mI103, mI104, mI105, mI106, mI107, mI108, mI109, mI110, mI111, mI112, mI113, mI114, mI115, mI116, mI117, mI118, mI119] : List mMI), mIC q := List.forall_mem_cons.mpr ⟨mI100_code, List.forall_mem_cons.mpr ⟨mI101_code, List.forall_mem_cons.mpr ⟨mI102_code, List.forall_mem_cons.mpr ⟨mI103_code, List.forall_mem_cons.mpr ⟨mI104_code, List.forall_mem_cons.mpr ⟨mI105_code, List.forall_mem_cons.mpr ⟨mI106_code, List.forall_mem_cons.mpr ⟨mI107_code, List.forall_mem_cons.mpr ⟨mI108_code, List.forall_mem_cons.mpr ⟨mI109_code, List.forall_mem_cons.mpr ⟨mI110_code, List.forall_mem_cons.mpr ⟨mI111_code, List.forall_mem_cons.mpr ⟨mI112_code, List.forall_mem_cons.mpr ⟨mI113_code, List.forall_mem_cons.mpr ⟨mI114_code, List.forall_mem_cons.mpr ⟨mI115_code, List.forall_mem_cons.mpr ⟨mI116_code, List.forall_mem_cons.mpr ⟨mI117_code, List.forall_mem_cons.mpr ⟨mI118_code, List.forall_mem_cons.mpr ⟨mI119_code, fun _ h => absurd h List.not_mem_nil⟩⟩⟩⟩⟩⟩⟩⟩⟩⟩⟩⟩⟩⟩⟩⟩⟩⟩⟩⟩
theorem mTabD6 : ∀ q ∈ ([mI120, mI121, mI122, mI123, mI124, mI125, mI126, mI127, mI128, mI129, mI130, mI131, mI132, mI133, mI134, mI135, mI136, mI137, mI138, mI139] : List mMI), mIC q := List.forall_mem_cons.mpr ⟨mI120_code, List.forall_mem_cons.mpr ⟨mI121_code, List.forall_mem_cons.mpr ⟨mI122_code, List.forall_mem_cons.mpr ⟨mI123_code, List.forall_mem_cons.mpr ⟨mI124_code, List.forall_mem_cons.mpr ⟨mI125_code, List.forall_mem_cons.mpr ⟨mI126_code, List.forall_mem_cons.mpr ⟨mI127_code, List.forall_mem_cons.mpr ⟨mI128_code, List.forall_mem_cons.mpr ⟨mI129_code, List.forall_mem_cons.mpr ⟨mI130_code, List.forall_mem_cons.mpr ⟨mI131_code, List.forall_mem_cons.mpr ⟨mI132_code, List.forall_mem_cons.mpr ⟨mI133_code, List.forall_mem_cons.mpr ⟨mI134_code, List.forall_mem_cons.mpr ⟨mI135_code, List.forall_mem_cons.mpr ⟨mI136_code, List.forall_mem_cons.mpr ⟨mI137_code, List.forall_mem_cons.mpr ⟨mI138_code, List.forall_mem_cons.mpr ⟨mI139_code, fun _ h => absurd h List.not_mem_nil⟩⟩⟩⟩⟩⟩⟩⟩⟩⟩⟩⟩⟩⟩⟩⟩⟩⟩⟩⟩
theorem mTabD7 : ∀ q ∈ ([mI140, mI141, mI142, mI143, mI144, mI145, mI146, mI147, mI148, mI149, mI150, mI151, mI152, mI153, mI154, mI155, mI156, mI157, mI158, mI159] : List mMI), mIC q := List.forall_mem_cons.mpr ⟨mI140_code, List.forall_mem_cons.mpr ⟨mI141_code, List.forall_mem_cons.mpr ⟨mI142_code, List.forall_mem_cons.mpr ⟨mI143_code, List.forall_mem_cons.mpr ⟨mI144_code, List.forall_mem_cons.mpr ⟨mI145_code, List.forall_mem_cons.mpr ⟨mI146_code, List.forall_mem_cons.mpr ⟨mI147_code, List.forall_mem_cons.mpr ⟨mI148_code, List.forall_mem_cons.mpr ⟨mI149_code, List.forall_mem_cons.mpr ⟨mI150_code, List.forall_mem_cons.mpr ⟨mI151_code, List.forall_mem_cons.mpr ⟨mI152_code, List.forall_mem_cons.mpr ⟨mI153_code, List.forall_mem_cons.mpr ⟨mI154_code, List.forall_mem_cons.mpr ⟨mI155_code, List.forall_mem_cons.mpr ⟨mI156_code, List.forall_mem_cons.mpr ⟨mI157_code, List.forall_mem_cons.mpr ⟨mI158_code, List.forall_mem_cons.mpr ⟨mI159_code, fun _ h => absurd h List.not_mem_nil⟩⟩⟩⟩⟩⟩⟩⟩⟩⟩⟩⟩⟩⟩⟩⟩⟩⟩⟩⟩
theorem mTabD8 : ∀ q ∈ ([mI160, mI161, mI162, mI163, mI164, mI165, mI166, mI167, mI168, mI169, mI170, mI171, mI172, mI173, mI174, mI175, mI176, mI177, mI178, mI179] : List mMI), mIC q := List.forall_mem_cons.mpr ⟨mI160_code, List.forall_mem_cons.mpr ⟨mI161_code, List.forall_mem_cons.mpr ⟨mI162_code, List.forall_mem_cons.mpr ⟨mI163_code, List.forall_mem_cons.mpr ⟨mI164_code, List.forall_mem_cons.mpr ⟨mI165_code, List.forall_mem_cons.mpr ⟨mI166_code, List.forall_mem_cons.mpr ⟨mI167_code, List.forall_mem_cons.mpr ⟨mI168_code, List.forall_mem_cons.mpr ⟨mI169_code, List.forall_mem_cons.mpr ⟨mI170_code, List.forall_mem_cons.mpr ⟨mI171_code, List.forall_mem_cons.mpr ⟨mI172_code, List.forall_mem_cons.mpr ⟨mI173_code, List.forall_mem_cons.mpr ⟨mI174_code, List.forall_mem_cons.mpr ⟨mI175_code, List.forall_mem_cons.mpr ⟨mI176_code, List.forall_mem_cons.mpr ⟨mI177_code, List.forall_mem_cons.mpr ⟨mI178_code, List.forall_mem_cons.mpr ⟨mI179_code, fun _ h => absurd h List.not_mem_nil⟩⟩⟩⟩⟩⟩⟩⟩⟩⟩⟩⟩⟩⟩⟩⟩⟩⟩⟩⟩
theorem mTabD9 : ∀ q ∈ ([mI180, mI181, mI182, mI183, mI184, mI185, mI186, mI187, mI188, mI189, mI190, mI191, mI192, mI193, mI194, mI195, mI196, mI197, mI198, mI199] : List mMI), mIC q := List.forall_mem_cons.mpr ⟨mI180_code, List.forall_mem_cons.mpr ⟨mI181_code, List.forall_mem_cons.mpr ⟨mI182_code, List.forall_mem_cons.mpr ⟨mI183_code, List.forall_mem_cons.mpr ⟨mI184_code, List.forall_mem_cons.mpr ⟨mI185_code, List.forall_mem_cons.mpr ⟨mI186_code, List.forall_mem_cons.mpr ⟨mI187_code, List.forall_mem_cons.mpr ⟨mI188_code, List.forall_mem_cons.mpr ⟨mI189_code, List.forall_mem_cons.mpr ⟨mI190_code, List.forall_mem_cons.mpr ⟨mI191_code, List.forall_mem_cons.mpr ⟨mI192_code, List.forall_mem_cons.mpr ⟨mI193_code, List.forall_mem_cons.mpr ⟨mI194_code, List.forall_mem_cons.mpr ⟨mI195_code, List.forall_mem_cons.mpr ⟨mI196_code, List.forall_mem_cons.mpr ⟨mI197_code, List.forall_mem_cons.mpr ⟨mI198_code, List.forall_mem_cons.mpr ⟨mI199_code, fun _ h => absurd h List.not_mem_nil⟩⟩⟩⟩⟩⟩⟩⟩⟩⟩⟩⟩⟩⟩⟩⟩⟩⟩⟩⟩
theorem mTabD10 : ∀ q ∈ ([mI200, mI201, mI202, mI203, mI204, mI205, mI206, mI207, mI208, mI209, mI210, mI211, mI212, mI213, mI214, mI215, mI216, mI217, mI218, mI219] : List mMI), mIC q := List.forall_mem_cons.mpr ⟨mI200_code, List.forall_mem_cons.mpr ⟨mI201_code, List.forall_mem_cons.mpr ⟨mI202_code, List.forall_mem_cons.mpr ⟨mI203_code, List.forall_mem_cons.mpr ⟨mI204_code, List.forall_mem_cons.mpr ⟨mI205_code, List.forall_mem_cons.mpr ⟨mI206_code, List.forall_mem_cons.mpr ⟨mI207_code, List.forall_mem_cons.mpr ⟨mI208_code, List.forall_mem_cons.mpr ⟨mI209_code, List.forall_mem_cons.mpr ⟨mI210_code, List.forall_mem_cons.mpr ⟨mI211_code, List.forall_mem_cons.mpr ⟨mI212_code, List.forall_mem_cons.mpr ⟨mI213_code, List.forall_mem_cons.mpr ⟨mI214_code, List.forall_mem_cons.mpr ⟨mI215_code, List.forall_mem_cons.mpr ⟨mI216_code, List.forall_mem_cons.mpr ⟨mI217_code, List.forall_mem_cons.mpr ⟨mI218_code, List.forall_mem_cons.mpr ⟨mI219_code, fun _ h => absurd h List.not_mem_nil⟩⟩⟩⟩⟩⟩⟩⟩⟩⟩⟩⟩⟩⟩⟩⟩⟩⟩⟩⟩
theorem mTabD11 : ∀ q ∈ ([mI220, mI221, mI222, mI223] : List mMI), mIC q := List.forall_mem_cons.mpr ⟨mI220_code, List.forall_mem_cons.mpr ⟨mI221_code, List.forall_mem_cons.mpr ⟨mI222_code, List.forall_mem_cons.mpr ⟨mI223_code, fun _ h => absurd h List.not_mem_nil⟩⟩⟩⟩
def mNC : Nat := 224
set_option maxRecDepth 1000000 in
theorem mTab_code : ∀ q ∈ mTab.take 224, mIC q := by
  have h : mTab.take 224 = ([mI0, mI1, mI2, mI3, mI4, mI5, mI6, mI7, mI8, mI9, mI10, mI11, mI12, mI13, mI14, mI15, mI16, mI17, mI18, mI19] : List mMI) ++ (([mI20, mI21, mI22, mI23, mI24, mI25, mI26, mI27, mI28, mI29, mI30, mI31, mI32, mI33, mI34, mI35, mI36, mI37, mI38, mI39] : List mMI) ++ (([mI40, mI41, mI42, mI43, mI44, mI45, mI46, mI47, mI48, mI49, mI50, mI51, mI52, mI53, mI54, mI55, mI56, mI57, mI58, mI59] : List mMI) ++ (([mI60, mI61, mI62, mI63, mI64, mI65, mI66, mI67, mI68, mI69, mI70, mI71, mI72, mI73, mI74, mI75, mI76, mI77, mI78, mI79] : List mMI) ++ (([mI80, mI81, mI82, mI83, mI84, mI85, mI86, mI87, mI88, mI89, mI90, mI91, mI92, mI93, mI94, mI95, mI96, mI97, mI98, mI99] : List mMI) ++ (([mI100, mI101, mI102, mI103, mI104, mI105, mI106, mI107, mI108, mI109, mI110, mI111, mI112, mI113, mI114, mI115, mI116, mI117, mI118, mI119] : List mMI) ++ (([mI120, mI121, mI122, mI123, mI124, mI125, mI126, mI127, mI128, mI129, mI130, mI131, mI132, mI133, mI134, mI135, mI136, mI137, mI138, mI139] : List mMI) ++ (([mI140, mI141, mI142, mI143, mI144, mI145, mI146, mI147, mI148, mI149, mI150, mI151, mI152, mI153, mI154, mI155, mI156, mI157, mI158, mI159] : List mMI) ++ (([mI160, mI161, mI162, mI163, mI164, mI165, mI166, mI167, mI168, mI169, mI170, mI171, mI172, mI173, mI174, mI175, mI176, mI177, mI178, mI179] : List mMI) ++ (([mI180, mI181, mI182, mI183, mI184, mI185, mI186, mI187, mI188, mI189, mI190, mI191, mI192, mI193, mI194, mI195, mI196, mI197, mI198, mI199] : List mMI) ++ (([mI200, mI201, mI202, mI203, mI204, mI205, mI206, mI207, mI208, mI209, mI210, mI211, mI212, mI213, mI214, mI215, mI216, mI217, mI218, mI219] : List mMI) ++ (([mI220, mI221, mI222, mI223] : List mMI)))))))))))) := rfl
  rw [h]
  exact List.forall_mem_append.mpr ⟨mTabD0, List.forall_mem_append.mpr ⟨mTabD1, List.forall_mem_append.mpr ⟨mTabD2, List.forall_mem_append.mpr ⟨mTabD3, List.forall_mem_append.mpr ⟨mTabD4, List.forall_mem_append.mpr ⟨mTabD5, List.forall_mem_append.mpr ⟨mTabD6, List.forall_mem_append.mpr ⟨mTabD7, List.forall_mem_append.mpr ⟨mTabD8, List.forall_mem_append.mpr ⟨mTabD9, List.forall_mem_append.mpr ⟨mTabD10, mTabD11⟩⟩⟩⟩⟩⟩⟩⟩⟩⟩⟩
end
section
/-! The abstract machine: cells (tag, length, contents); a heap (how many cells, how many slots, the cells); references are places in it. -/
abbrev mCell : Type := Nat × Nat × (Nat → Value)
abbrev mHp : Type := Nat × Nat × (Nat → mCell)
abbrev mRes : Type := Option Value ⊕ Nat
abbrev mSt : Type := Nat × List (Nat × Value) × List Value × mHp
def hTag (h : mHp) (i : Nat) : Nat := (h.2.2 i).1
def hLen (h : mHp) (i : Nat) : Nat := (h.2.2 i).2.1
def hAt (h : mHp) (i k : Nat) : Value := (h.2.2 i).2.2 k
def hSet (h : mHp) (i k : Nat) (v : Value) : mHp := (h.1, h.2.1, fun j => if j = i then ((h.2.2 i).1, (h.2.2 i).2.1, fun x => if x = k then v else (h.2.2 i).2.2 x) else h.2.2 j)
def hNew (h : mHp) (tag n : Nat) (f : Nat → Value) : mHp := (h.1 + 1, h.2.1 + n, fun j => if j = h.1 then (tag, n, f) else h.2.2 j)
def mcd (y pc : Nat) : Option mEnt := (cdT.getD y []).getD pc none
def mInf (y : Nat) : mMI := mTab.getD y mI0
def mMaxL (y : Nat) : Nat := (mInf y).2.2.1
def mRetT (y : Nat) : Option FieldType := (mInf y).2.2.2.1
def mOwn (y : Nat) : Nat := (mInf y).2.2.2.2.1
def mArgN (y : Nat) : Nat := (mInf y).2.2.2.2.2.1
def nn (z : UInt64) : Bool := decide (z &&& 0x7fffffffffffffff ≤ 0x7ff0000000000000)
def mII (st : List Value) (f : Int32 → Int32 → Option Value) : Option (List Value) := match st with
  | .int y :: .int x :: r => (f x y).map (fun z => z :: r)
  | _ => none
def mIx1 (st : List Value) (f : Int32 → Value) : Option (List Value) := match st with
  | .int x :: r => some (f x :: r)
  | _ => none
def mLL (st : List Value) (f : Int64 → Int64 → Value) : Option (List Value) := match st with
  | .long y :: .long x :: r => some (f x y :: r)
  | _ => none
def mL1 (st : List Value) (f : Int64 → Value) : Option (List Value) := match st with
  | .long x :: r => some (f x :: r)
  | _ => none
def mIL (st : List Value) (f : Int64 → Int32 → Value) : Option (List Value) := match st with
  | .int y :: .long x :: r => some (f x y :: r)
  | _ => none
def mDD (st : List Value) (f : UInt64 → UInt64 → Option Value) : Option (List Value) := match st with
  | .double y :: .double x :: r => (f x y).map (fun z => z :: r)
  | _ => none
def mD1 (st : List Value) (f : UInt64 → Value) : Option (List Value) := match st with
  | .double x :: r => some (f x :: r)
  | _ => none
def mDbl (z : UInt64) : Option Value := if nn z = true then some (.double z) else none
/-- what works on the operand stack alone -/
def mPure (a b : Nat) (st : List Value) : Instr → Option (List Value)
  | .iconst n => some (.int (Int32.ofInt n) :: st)
  | .bipush n => some (.int (Int8.ofInt n).toInt32 :: st)
  | .sipush n => some (.int (Int16.ofInt n).toInt32 :: st)
  | .lconst n => some (.long (Int64.ofNat (n : Nat)) :: st)
  | .dconst n => if n = 0 then some (.double FP.dconst0 :: st) else none
  | .ldc _ => if a = 0 then some (.int (Int32.ofNat b) :: st) else none
  | .ldc_w _ => if a = 0 then some (.int (Int32.ofNat b) :: st) else none
  | .ldc2_w _ => if a = 0 then some (.long (Int64.ofNat b) :: st) else some (.double (UInt64.ofNat b) :: st)
  | .aconst_null => some (.null :: st)
  | .iadd => mII st (fun x y => some (.int (x + y)))
  | .isub => mII st (fun x y => some (.int (x - y)))
  | .imul => mII st (fun x y => some (.int (x * y)))
  | .iand => mII st (fun x y => some (.int (x &&& y)))
  | .ior => mII st (fun x y => some (.int (x ||| y)))
  | .ishl => mII st (fun x y => some (.int (x <<< (y &&& 31))))
  | .ishr => mII st (fun x y => some (.int (x >>> (y &&& 31))))
  | .iushr => mII st (fun x y => some (.int (x.toUInt32 >>> (y.toUInt32 &&& Int32.toUInt32 31)).toInt32))
  | .idiv => mII st (fun x y => if y = 0 then none else some (.int (x / y)))
  | .irem => mII st (fun x y => if y = 0 then none else some (.int (x - x / y * y)))
  | .ineg => mIx1 st (fun x => .int (-x))
  | .i2c => mIx1 st (fun x => .int (x.toUInt32 % 65536).toInt32)
  | .i2l => mIx1 st (fun x => .long x.toInt64)
  | .i2d => mIx1 st (fun x => .double (FP.i2d x))
  | .l2i => mL1 st (fun x => .int x.toInt32)
  | .lshr => mIL st (fun x y => .long (x >>> (y.toInt64 &&& 63)))
  | .ladd => mLL st (fun x y => .long (x + y))
  | .lmul => mLL st (fun x y => .long (x * y))
  | .land => mLL st (fun x y => .long (x &&& y))
  | .lcmp => mLL st (fun x y => .int (lg_cmp x y))
  | .dadd => mDD st (fun x y => mDbl (FP.dadd x y))
  | .dsub => mDD st (fun x y => mDbl (FP.dsub x y))
  | .dmul => mDD st (fun x y => mDbl (FP.dmul x y))
  | .ddiv => mDD st (fun x y => mDbl (FP.ddiv x y))
  | .dcmp op => mDD st (fun x y => some (.int (Op.cmpValue (FP.dcmp x y) op)))
  | .dneg => mD1 st (fun x => .double (FP.dneg x))
  | .d2i => mD1 st (fun x => .int (FP.d2i x))
  | .dup => match st with
    | v :: r => if v.category = 1 then some (v :: v :: r) else none
    | _ => none
  | .pop => match st with
    | v :: r => if v.category = 1 then some r else none
    | _ => none
  | _ => none
def isI (v : Value) : Bool := match v with | .int _ => true | _ => false
def isL (v : Value) : Bool := match v with | .long _ => true | _ => false
def isD (v : Value) : Bool := match v with | .double _ => true | _ => false
def isA (v : Value) : Bool := match v with | .null => true | .ref _ => true | .retAddr _ => true | _ => false
def mLd (lv : List (Nat × Value)) (st : List Value) (i : Nat) (ok : Value → Bool) : Option (List (Nat × Value) × List Value) := match lv.lookup i with
  | some v => if ok v = true then some (lv, v :: st) else none
  | none => none
def mSto1 (lv : List (Nat × Value)) (i : Nat) (v : Value) : List (Nat × Value) := (i, v) :: lv.filter (fun q => !(q.1 == i) && !(q.1 + 1 == i && q.2.category == 2))
def mSto2 (lv : List (Nat × Value)) (i : Nat) (v : Value) : List (Nat × Value) := (i, v) :: lv.filter (fun q => !(q.1 == i) && (!(q.1 == i + 1) && !(q.1 + 1 == i && q.2.category == 2)))
def mSt1 (lv : List (Nat × Value)) (st : List Value) (nL i : Nat) (ok : Value → Bool) : Option (List (Nat × Value) × List Value) := match st with
  | v :: r => if ok v = true ∧ i < nL then some (mSto1 lv i v, r) else none
  | _ => none
def mSt2 (lv : List (Nat × Value)) (st : List Value) (nL i : Nat) (ok : Value → Bool) : Option (List (Nat × Value) × List Value) := match st with
  | v :: r => if ok v = true ∧ i + 1 < nL then some (mSto2 lv i v, r) else none
  | _ => none
/-- what works on locals and stack -/
def mLoc (nL : Nat) (lv : List (Nat × Value)) (st : List Value) : Instr → Option (List (Nat × Value) × List Value)
  | .iload_n k => mLd lv st k isI
  | .iload k => mLd lv st k isI
  | .lload_n k => mLd lv st k isL
  | .lload k => mLd lv st k isL
  | .dload_n k => mLd lv st k isD
  | .dload k => mLd lv st k isD
  | .aload_n k => mLd lv st k isA
  | .aload k => mLd lv st k isA
  | .istore_n k => mSt1 lv st nL k isI
  | .istore k => mSt1 lv st nL k isI
  | .astore_n k => mSt1 lv st nL k isA
  | .astore k => mSt1 lv st nL k isA
  | .lstore_n k => mSt2 lv st nL k isL
  | .lstore k => mSt2 lv st nL k isL
  | .dstore_n k => mSt2 lv st nL k isD
  | .dstore k => mSt2 lv st nL k isD
  | .iinc k n => match lv.lookup k with
    | some (.int x) => if k < nL then some (mSto1 lv k (.int (x + Int32.ofInt n)), st) else none
    | _ => none
  | _ => none
def mCnd (x y : Int32) : ClassFile.Cond → Bool
  | .eq => decide (x = y)
  | .ne => decide (x ≠ y)
  | .lt => decide (x < y)
  | .ge => decide (x ≥ y)
  | .gt => decide (x > y)
  | .le => decide (x ≤ y)
def mOff (pc n : Nat) (off : Option Int) : Option Nat := match off with
  | none => some (pc + n)
  | some d => if 0 ≤ (pc : Int) + d then some ((pc : Int) + d).toNat else none
/-- branches: the offset taken, if any, and the stack behind -/
def mBr (pc : Nat) (st : List Value) : Instr → Option (Option Int × List Value)
  | .goto d => some (some d, st)
  | .ifCond c d => match st with
    | .int x :: r => if 0 ≤ (pc : Int) + d then some (if mCnd x 0 c = true then some d else none, r) else none
    | _ => none
  | .if_icmp c d => match st with
    | .int y :: .int x :: r => if 0 ≤ (pc : Int) + d then some (if mCnd x y c = true then some d else none, r) else none
    | _ => none
  | .ifnull d => match st with
    | .null :: r => some (some d, r)
    | .ref _ :: r => some (none, r)
    | _ => none
  | .ifnonnull d => match st with
    | .null :: r => some (none, r)
    | .ref _ :: r => some (some d, r)
    | _ => none
  | .tableswitch df lo hi offs => match st with
    | .int x :: r => if x.toInt < lo ∨ hi < x.toInt then some (some df, r) else match offs[(x.toInt - lo).toNat]? with
      | some d => some (some d, r)
      | none => none
    | _ => none
  | .lookupswitch df ps => match st with
    | .int x :: r => if (ps.toList.zip (ps.toList.drop 1)).all (fun (a, next) => a.1 < next.1) = true then some (some (Op.lookupswitch.offset ps.toList df x.toInt), r) else none
    | _ => none
  | _ => none
def mArrL (h : mHp) (st : List Value) (t : Nat) : Option (List Value × mHp) := match st with
  | .int j :: .ref i :: r => if hTag h i = t ∧ ¬ (j < 0 ∨ hLen h i ≤ j.toNatClampNeg) then some (hAt h i j.toNatClampNeg :: r, h) else none
  | _ => none
def mArrS (h : mHp) (st : List Value) (t : Nat) (ok : Value → Bool) : Option (List Value × mHp) := match st with
  | v :: .int j :: .ref i :: r => if hTag h i = t ∧ ¬ (j < 0 ∨ hLen h i ≤ j.toNatClampNeg) ∧ ok v = true then some (r, hSet h i j.toNatClampNeg v) else none
  | _ => none
def mKind : ArrayType → Option (Nat × FieldType)
  | .int => some (100, .int)
  | .char => some (101, .char)
  | .boolean => some (102, .boolean)
  | .long => some (103, .long)
  | .double => some (104, .double)
  | _ => none
def okTy (t : FieldType) : Bool := match t with | .int => true | .boolean => true | .long => true | .double => true | .object _ => true | .array _ => true | _ => false
/-- what reads and writes the heap -/
def mMem (y a b : Nat) (st : List Value) (h : mHp) : Instr → Option (List Value × mHp)
  | .getfield _ => match st with
    | .ref i :: r => if hTag h i = a ∧ a < 12 then some (hAt h i b :: r, h) else none
    | _ => none
  | .putfield _ => match st with
    | v :: .ref i :: r => if hTag h i = a ∧ a < 12 ∧ (okTy (clsTy a b) = true ∧ fits (clsTy a b) v = true) ∧ ((((cls.getD a (mR0, mT0, 0)).2.1 b).2.2.2 = false) ∨ ((mInf y).1.name = "<init>" ∧ mOwn y = a)) then some (r, hSet h i b v) else none
    | _ => none
  | .iaload => mArrL h st 100
  | .caload => mArrL h st 101
  | .baload => mArrL h st 102
  | .laload => mArrL h st 103
  | .daload => mArrL h st 104
  | .aaload => mArrL h st 105
  | .iastore => mArrS h st 100 isI
  | .castore => mArrS h st 101 (fun v => fits .char v)
  | .bastore => mArrS h st 102 (fun v => fits .boolean v)
  | .lastore => mArrS h st 103 isL
  | .dastore => mArrS h st 104 isD
  | .aastore => match st with
    | .ref v :: .int j :: .ref i :: r => if hTag h i = 105 ∧ ¬ (j < 0 ∨ hLen h i ≤ j.toNatClampNeg) ∧ hTag h v = 8 then some (r, hSet h i j.toNatClampNeg (.ref v)) else none
    | _ => none
  | .arraylength => match st with
    | .ref i :: r => if 100 ≤ hTag h i ∧ hTag h i ≤ 105 then some (.int (Int32.ofNat (hLen h i)) :: r, h) else none
    | _ => none
  | .new _ => if a < 12 then some (.ref h.1 :: st, hNew h a (cls.getD a (mR0, mT0, 0)).2.2 (fun k => defaultValue (clsTy a k))) else none
  | .newarray t => match st, mKind t with
    | .int n :: r, some (k, ft) => if ¬ n < 0 ∧ n.toNatClampNeg ≤ 100000 then some (.ref h.1 :: r, hNew h k n.toNatClampNeg (fun _ => defaultValue ft)) else none
    | _, _ => none
  | .anewarray _ => match st with
    | .int n :: r => if ¬ n < 0 ∧ n.toNatClampNeg ≤ 100000 then some (.ref h.1 :: r, hNew h 105 n.toNatClampNeg (fun _ => .null)) else none
    | _ => none
  | _ => none
/-- the law's own script: the cell 0, tag 106, that nobody writes -/
def mScr (h : mHp) (st : List Value) : Instr → Option (List Value)
  | .iaload => match st with
    | .int j :: .ref 0 :: r => if hTag h 0 = 106 ∧ ¬ (j < 0 ∨ hLen h 0 ≤ j.toNatClampNeg) then some (hAt h 0 j.toNatClampNeg :: r) else none
    | _ => none
  | .arraylength => match st with
    | .ref 0 :: r => if hTag h 0 = 106 then some (.int (Int32.ofNat (hLen h 0)) :: r) else none
    | _ => none
  | _ => none
def mHand (y : Nat) : List (Nat × Nat × Nat × Nat) := (mHT.lookup y).getD []
def mCatch (y pc k : Nat) : Option Nat := ((mHand y).find? (fun q => decide (q.1 ≤ pc) && decide (pc < q.2.1) && q.2.2.2 == k)).map (fun q => q.2.2.1)
def mBack (y pc : Nat) (lv : List (Nat × Value)) (rest : List Value) : mRes × mHp → Option mSt
  | (.inl v, h) => some (pc + 3, lv, v.toList ++ rest, h)
  | (.inr k, h) => (mCatch y pc k).map (fun t => (t, lv, [.retAddr 0], h))
def mRoom8 (rest : List Value) : Bool := decide ((rest.map fun v => v.category).sum ≤ 8)
/-- calls -/
def mInv (call : Nat → List Value → mHp → Option (mRes × mHp)) (y pc a b : Nat) (lv : List (Nat × Value)) (st : List Value) (h : mHp) : Instr → Option mSt
  | .invokevirtual _ => match st.drop (mArgN b) with
    | .ref i :: rest => if hTag h i = mOwn b ∧ mOwn b < 12 ∧ mRoom8 rest = true then (call b (.ref i :: (st.take (mArgN b)).reverse) h).bind (mBack y pc lv rest) else none
    | _ => none
  | .invokestatic _ => if a = 5 then match st with
      | .int v :: .int u :: rest => if mRoom8 rest = true then some (pc + 3, lv, .int (if v < u then v else u) :: rest, h) else none
      | _ => none
    else if mArgN b ≤ st.length ∧ mRoom8 (st.drop (mArgN b)) = true then (call b (st.take (mArgN b)).reverse h).bind (mBack y pc lv (st.drop (mArgN b))) else none
  | .invokespecial _ => if a = 4 then match st with
      | .ref _ :: rest => if mRoom8 rest = true then some (pc + 3, lv, rest, h) else none
      | _ => none
    else if a = 9 then none else match st.drop (mArgN b) with
      | .ref i :: rest => if hTag h i = mOwn b ∧ mOwn b < 12 ∧ mRoom8 rest = true then (call b (.ref i :: (st.take (mArgN b)).reverse) h).bind (mBack y pc lv rest) else none
      | _ => none
  | _ => none
/-- answers -/
def mRet (y : Nat) (st : List Value) : Instr → Option (Option Value)
  | .return_ => match st, mRetT y with
    | [], none => some none
    | _, _ => none
  | .ireturn => match st, mRetT y with
    | [.int x], some t => if (okTy t = true ∨ t = .char) ∧ fits t (.int x) = true then some (some (.int x)) else none
    | _, _ => none
  | .dreturn => match st, mRetT y with
    | [.double x], some .double => some (some (.double x))
    | _, _ => none
  | .areturn => match st, mRetT y with
    | [.ref i], some (.object _) => some (some (.ref i))
    | [.null], some (.object _) => some (some .null)
    | _, _ => none
  | _ => none
/-- which group an instruction is of: 0 stack, 1 locals, 2 branches, 3 heap, 4 calls, 5 answers, 6 new of an exception -/
def mGrp (a : Nat) : Instr → Nat
  | .iload_n _ | .iload _ | .lload_n _ | .lload _ | .dload_n _ | .dload _ | .aload_n _ | .aload _ | .istore_n _ | .istore _ | .astore_n _ | .astore _ | .lstore_n _ | .lstore _ | .dstore_n _ | .dstore _ | .iinc _ _ => 1
  | .goto _ | .ifCond _ _ | .if_icmp _ _ | .ifnull _ | .ifnonnull _ | .tableswitch _ _ _ _ | .lookupswitch _ _ => 2
  | .getfield _ | .putfield _ | .iaload | .caload | .baload | .laload | .daload | .aaload | .iastore | .castore | .bastore | .lastore | .dastore | .aastore | .arraylength | .newarray _ | .anewarray _ => 3
  | .new _ => if a < 100 then 3 else 6
  | .invokevirtual _ | .invokestatic _ | .invokespecial _ => 4
  | .return_ | .ireturn | .dreturn | .areturn => 5
  | _ => 0
def mGoOn (pc n : Nat) (lv : List (Nat × Value)) (q : List Value × mHp) : mSt ⊕ (mRes × mHp) := .inl (pc + n, lv, q.1, q.2)
def mIns (call : Nat → List Value → mHp → Option (mRes × mHp)) (sc : Bool) (y : Nat) (pc : Nat) (lv : List (Nat × Value)) (st : List Value) (h : mHp) (i : Instr) (n a b : Nat) : Option (mSt ⊕ (mRes × mHp)) :=
  match mGrp a i with
  | 0 => (mPure a b st i).map (fun st' => .inl (pc + n, lv, st', h))
  | 1 => (mLoc (mMaxL y) lv st i).map (fun q => .inl (pc + n, q.1, q.2, h))
  | 2 => (mBr pc st i).bind (fun q => (mOff pc n q.1).map (fun t => .inl (t, lv, q.2, h)))
  | 3 => match (if sc = true then mScr h st i else none) with
    | some st' => some (.inl (pc + n, lv, st', h))
    | none => (mMem y a b st h i).map (mGoOn pc n lv)
  | 4 => (mInv call y pc a b lv st h i).map .inl
  | 5 => (mRet y st i).map (fun r => .inr (.inl r, h))
  | _ => if a < 105 ∧ mRoom8 st = true then some (.inr (.inr (a - 100), hNew h 200 6 (fun _ => .null))) else none
def mStep (call : Nat → List Value → mHp → Option (mRes × mHp)) (sc : Bool) (y : Nat) (S : mSt) : Option (mSt ⊕ (mRes × mHp)) := match mcd y S.1 with
  | none => none
  | some (i, n, a, b, _) => mIns call sc y S.1 S.2.1 S.2.2.1 S.2.2.2 i n a b
def mGo (call : Nat → List Value → mHp → Option (mRes × mHp)) (sc : Bool) (y : Nat) : Nat → mSt → Option (mRes × mHp)
  | 0, _ => none
  | k + 1, S => match mStep call sc y S with
    | none => none
    | some (.inl S') => mGo call sc y k S'
    | some (.inr r) => some r
/-- a method run with at most d methods over it, each with F instructions of its own -/
def mEx (F : Nat) : Nat → Nat → List Value → mHp → Option (mRes × mHp)
  | 0, _, _, _ => none
  | d + 1, y, args, h => if (lg_sl args).length ≤ mMaxL y then mGo (mEx F d) false y F (0, lv_args 0 args, [], h) else none
end
section
/-! The abstract machine is held by the real one: values, stacks, locals; what works on them alone. -/
def vr (ad : List Nat) (v c : Value) : Prop := match v with
  | .ref i => ∃ a, ad[i]? = some a ∧ c = .ref a
  | .retAddr _ => ∃ a, c = .ref a
  | v => c = v
def rl (ad : List Nat) : List Value → List Value → Prop
  | [], cs => cs = []
  | v :: vs, cs => ∃ c cs', cs = c :: cs' ∧ vr ad v c ∧ rl ad vs cs'
def rll (ad : List Nat) : List (Nat × Value) → List (Nat × Value) → Prop
  | [], cs => cs = []
  | v :: vs, cs => ∃ c cs', cs = (v.1, c) :: cs' ∧ vr ad v.2 c ∧ rll ad vs cs'
theorem getElem?_app {ad x : List Nat} {i a : Nat} (h : ad[i]? = some a) : (ad ++ x)[i]? = some a := by
  rw [List.getElem?_append_left (List.getElem?_eq_some_iff.mp h).1, h]
theorem vr.app {ad x : List Nat} {v c : Value} (h : vr ad v c) : vr (ad ++ x) v c := by
  cases v <;> first | exact h | (obtain ⟨a, h1, h2⟩ := h; exact ⟨a, getElem?_app h1, h2⟩)
theorem rl.app {ad x : List Nat} : ∀ {vs cs : List Value}, rl ad vs cs → rl (ad ++ x) vs cs
  | [], _, h => h
  | _ :: _, _, ⟨c, cs', h1, h2, h3⟩ => ⟨c, cs', h1, h2.app, rl.app h3⟩
theorem rll.app {ad x : List Nat} : ∀ {vs cs : List (Nat × Value)}, rll ad vs cs → rll (ad ++ x) vs cs
  | [], _, h => h
  | _ :: _, _, ⟨c, cs', h1, h2, h3⟩ => ⟨c, cs', h1, h2.app, rll.app h3⟩
theorem vr.cat {ad : List Nat} {v c : Value} (h : vr ad v c) : c.category = v.category := by
  cases v <;> first | (obtain rfl : c = _ := h; rfl) | (obtain ⟨a, -, rfl⟩ := h; rfl) | (obtain ⟨a, rfl⟩ := h; rfl)
theorem rl.len {ad : List Nat} : ∀ {vs cs : List Value}, rl ad vs cs → cs.length = vs.length
  | [], _, h => by rw [show _ = [] from h]
  | _ :: _, _, ⟨c, cs', h1, _, h3⟩ => by rw [h1, List.length_cons, List.length_cons, rl.len h3]
theorem rl.cats {ad : List Nat} : ∀ {vs cs : List Value}, rl ad vs cs → cs.map (fun v => v.category) = vs.map (fun v => v.category)
  | [], _, h => by rw [show _ = [] from h]
  | _ :: _, _, ⟨c, cs', h1, h2, h3⟩ => by rw [h1, List.map_cons, List.map_cons, rl.cats h3, h2.cat]
theorem rl.drop {ad : List Nat} : ∀ (n : Nat) {vs cs : List Value}, rl ad vs cs → rl ad (vs.drop n) (cs.drop n)
  | 0, _, _, h => h
  | n + 1, [], _, h => by rw [show _ = [] from h]; exact rfl
  | n + 1, _ :: _, _, ⟨c, cs', h1, h2, h3⟩ => by rw [h1]; exact rl.drop n h3
theorem rl.take {ad : List Nat} : ∀ (n : Nat) {vs cs : List Value}, rl ad vs cs → rl ad (vs.take n) (cs.take n)
  | 0, _, _, h => rfl
  | n + 1, [], _, h => by rw [show _ = [] from h]; exact rfl
  | n + 1, _ :: _, _, ⟨c, cs', h1, h2, h3⟩ => by rw [h1]; exact ⟨c, _, rfl, h2, rl.take n h3⟩
theorem rl.snoc {ad : List Nat} {v c : Value} (hv : vr ad v c) : ∀ {vs cs : List Value}, rl ad vs cs → rl ad (vs ++ [v]) (cs ++ [c])
  | [], _, h => by rw [show _ = [] from h]; exact ⟨c, [], rfl, hv, rfl⟩
  | _ :: _, _, ⟨d, cs', h1, h2, h3⟩ => by rw [h1]; exact ⟨d, _, rfl, h2, rl.snoc hv h3⟩
theorem rl.rev {ad : List Nat} : ∀ {vs cs : List Value}, rl ad vs cs → rl ad vs.reverse cs.reverse
  | [], _, h => by rw [show _ = [] from h]; exact rfl
  | _ :: _, _, ⟨d, cs', h1, h2, h3⟩ => by rw [h1, List.reverse_cons, List.reverse_cons]; exact rl.snoc h2 (rl.rev h3)
theorem rll.filter {ad : List Nat} (f : Nat → Nat → Bool) : ∀ {vs cs : List (Nat × Value)}, rll ad vs cs → rll ad (vs.filter (fun q => f q.1 q.2.category)) (cs.filter (fun q => f q.1 q.2.category))
  | [], _, h => by rw [show _ = [] from h]; exact rfl
  | v :: vs, _, ⟨d, cs', h1, h2, h3⟩ => by
    subst h1
    have ih := rll.filter f h3
    have hc := h2.cat
    by_cases q : f v.1 v.2.category = true
    · rw [List.filter_cons_of_pos (p := fun q : Nat × Value => f q.1 q.2.category) (a := v) q, List.filter_cons_of_pos (p := fun q : Nat × Value => f q.1 q.2.category) (a := (v.1, d)) (by simpa [hc] using q)]
      exact ⟨d, _, rfl, h2, ih⟩
    · rw [List.filter_cons_of_neg (p := fun q : Nat × Value => f q.1 q.2.category) (a := v) q, List.filter_cons_of_neg (p := fun q : Nat × Value => f q.1 q.2.category) (a := (v.1, d)) (by simpa [hc] using q)]
      exact ih
theorem rll.sto1 {ad : List Nat} {vs cs : List (Nat × Value)} {v c : Value} (i : Nat) (h : rll ad vs cs) (hv : vr ad v c) : rll ad (mSto1 vs i v) (mSto1 cs i c) :=
  ⟨c, _, rfl, hv, h.filter (fun a b => !(a == i) && !(a + 1 == i && b == 2))⟩
theorem rll.sto2 {ad : List Nat} {vs cs : List (Nat × Value)} {v c : Value} (i : Nat) (h : rll ad vs cs) (hv : vr ad v c) : rll ad (mSto2 vs i v) (mSto2 cs i c) :=
  ⟨c, _, rfl, hv, h.filter (fun a b => !(a == i) && (!(a == i + 1) && !(a + 1 == i && b == 2)))⟩
theorem rll.get {ad : List Nat} {i : Nat} {v : Value} : ∀ {vs cs : List (Nat × Value)}, rll ad vs cs → vs.lookup i = some v → ∃ (k : Nat) (c : Value), cs[k]? = some (i, c) ∧ vr ad v c
  | [], _, _, h => by cases h
  | u :: vs, _, ⟨d, cs', h1, h2, h3⟩, h => by
    subst h1
    rw [List.lookup_cons] at h
    by_cases q : (i == u.1) = true
    · simp only [q, if_true] at h
      cases h
      have e : i = u.1 := by simpa using q
      exact ⟨0, d, by rw [e]; rfl, h2⟩
    · simp only [q] at h
      obtain ⟨k, c, h4, h5⟩ := rll.get h3 h
      exact ⟨k + 1, c, h4, h5⟩
theorem rll.args {ad : List Nat} : ∀ {vs cs : List Value} (i : Nat), rl ad vs cs → rll ad (lv_args i vs) (lv_args i cs)
  | [], _, i, h => by rw [show _ = [] from h]; exact rfl
  | v :: vs, _, i, ⟨c, cs', h1, h2, h3⟩ => by
    subst h1
    simp only [lv_args]
    rw [h2.cat]
    exact ⟨c, _, rfl, h2, rll.args _ h3⟩
theorem mII_spec {st : List Value} {f : Int32 → Int32 → Option Value} {st' : List Value} (h : mII st f = some st') : ∃ x y r z, st = .int y :: .int x :: r ∧ f x y = some z ∧ st' = z :: r := by
  unfold mII at h
  split at h
  · next y x r =>
    obtain ⟨z, h1, h2⟩ := Option.map_eq_some_iff.mp h
    exact ⟨x, y, r, z, rfl, h1, h2.symm⟩
  · cases h
theorem mIx1_spec {st : List Value} {f : Int32 → Value} {st' : List Value} (h : mIx1 st f = some st') : ∃ x r, st = .int x :: r ∧ st' = f x :: r := by
  unfold mIx1 at h
  split at h
  · next x r => cases h; exact ⟨x, r, rfl, rfl⟩
  · cases h
theorem mLL_spec {st : List Value} {f : Int64 → Int64 → Value} {st' : List Value} (h : mLL st f = some st') : ∃ x y r, st = .long y :: .long x :: r ∧ st' = f x y :: r := by
  unfold mLL at h
  split at h
  · next y x r => cases h; exact ⟨x, y, r, rfl, rfl⟩
  · cases h
theorem mL1_spec {st : List Value} {f : Int64 → Value} {st' : List Value} (h : mL1 st f = some st') : ∃ x r, st = .long x :: r ∧ st' = f x :: r := by
  unfold mL1 at h
  split at h
  · next x r => cases h; exact ⟨x, r, rfl, rfl⟩
  · cases h
theorem mIL_spec {st : List Value} {f : Int64 → Int32 → Value} {st' : List Value} (h : mIL st f = some st') : ∃ x y r, st = .int y :: .long x :: r ∧ st' = f x y :: r := by
  unfold mIL at h
  split at h
  · next y x r => cases h; exact ⟨x, y, r, rfl, rfl⟩
  · cases h
theorem mDD_spec {st : List Value} {f : UInt64 → UInt64 → Option Value} {st' : List Value} (h : mDD st f = some st') : ∃ x y r z, st = .double y :: .double x :: r ∧ f x y = some z ∧ st' = z :: r := by
  unfold mDD at h
  split at h
  · next y x r =>
    obtain ⟨z, h1, h2⟩ := Option.map_eq_some_iff.mp h
    exact ⟨x, y, r, z, rfl, h1, h2.symm⟩
  · cases h
theorem mD1_spec {st : List Value} {f : UInt64 → Value} {st' : List Value} (h : mD1 st f = some st') : ∃ x r, st = .double x :: r ∧ st' = f x :: r := by
  unfold mD1 at h
  split at h
  · next x r => cases h; exact ⟨x, r, rfl, rfl⟩
  · cases h
theorem mDbl_spec {z : UInt64} {v : Value} (h : mDbl z = some v) : vf_n64 z ∧ v = .double z := by
  unfold mDbl at h
  split at h
  · next q => cases h; exact ⟨by unfold vf_n64; unfold nn at q; exact of_decide_eq_true q, rfl⟩
  · cases h
def gtbl : List Cond := lw_tbl.filter goodWord
theorem in_gtbl {w : Cond} (h : w ∈ lw_tbl) (hg : goodWord w = true) : w ∈ gtbl := List.mem_filter.mpr ⟨h, hg⟩
theorem in_gtbl_at {w : Cond} {k : Nat} (h : lw_tbl[k]? = some w) (hg : goodWord w = true) : w ∈ gtbl := in_gtbl (List.mem_of_getElem? h) hg
section SVA
variable {p : Program} {l : Launch} {e : Env} {R : Room} {s : State} {m : MethodId} {args : Array Value} {below : List Frame} {meth : Method} {c : Code} {H : Heap} {locs : List Loc} {cells slots : Nat} {Q : State → Prop}
variable {pc : Nat} {ls : Array Slot} {cc : ByteArray}
set_option maxHeartbeats 4000000 in
theorem s_pure {own : String} {a b w n : Nat} {i : Instr} {st st' cst : List Value} {ad : List Nat} (hx : p.tables.exec = Jvm.exec) (hb : c.code = cc) (hown : s.vm.findClass own = some m.cls) (hts : ∀ w ∈ gtbl, w.before args s = true)
    (hd : decode cc pc = .ok (i, n)) (hn : n = mLen n i) (hl : mLinkOk own a b w i = true) (h : mPure a b st i = some st') (hr : rl ad st cst)
    (k : ∀ cst', rl ad st' cst' → W p l e R s m args below meth c H locs cells slots Q (F0 m (pc + n) ls cst')) : W p l e R s m args below meth c H locs cells slots Q (F0 m pc ls cst) := by
  cases i with
  | iconst z => simp only [mLen] at hn; subst hn; cases h; exact lv_iconst hx hb hd rfl (k _ ⟨_, _, rfl, rfl, hr⟩)
  | bipush z => simp only [mLen] at hn; subst hn; cases h; exact lv_bipush hx hb hd rfl (k _ ⟨_, _, rfl, rfl, hr⟩)
  | sipush z => simp only [mLen] at hn; subst hn; cases h; exact lv_sipush hx hb hd rfl (k _ ⟨_, _, rfl, rfl, hr⟩)
  | lconst z => simp only [mLen] at hn; subst hn; cases h; exact lv_lconst hx hb hd rfl (k _ ⟨_, _, rfl, rfl, hr⟩)
  | dconst z =>
    simp only [mLen] at hn; subst hn
    simp only [mPure] at h
    split at h
    · next q => subst q; cases h; exact lv_dconst0 hx hb hd (k _ ⟨_, _, rfl, rfl, hr⟩)
    · cases h
  | ldc z =>
    simp only [mLen] at hn; subst hn
    simp only [mPure] at h
    split at h
    · next q =>
      subst q; cases h
      have hl' := of_decide_eq_true (show decide (lw_tbl[w]? = some (.constant own z (Int32.ofNat b))) = true from hl)
      exact lv_ldc hx hb hown (hts _ (in_gtbl_at hl' rfl)) hd (k _ ⟨_, _, rfl, rfl, hr⟩)
    · cases h
  | ldc_w z =>
    simp only [mLen] at hn; subst hn
    simp only [mPure] at h
    split at h
    · next q =>
      subst q; cases h
      have hl' := of_decide_eq_true (show decide (lw_tbl[w]? = some (.constant own z (Int32.ofNat b))) = true from hl)
      exact lv_ldcw hx hb hown (hts _ (in_gtbl_at hl' rfl)) hd (k _ ⟨_, _, rfl, rfl, hr⟩)
    · cases h
  | ldc2_w z =>
    simp only [mLen] at hn; subst hn
    simp only [mPure] at h
    by_cases q : a = 0
    · rw [if_pos q] at h
      subst q; cases h
      have hl' := of_decide_eq_true (show decide (lw_tbl[w]? = some (.constantLong own z (Int64.ofNat b))) = true from hl)
      exact lv_ldc2 hx hb hown (hts _ (in_gtbl_at hl' rfl)) hd (k _ ⟨_, _, rfl, rfl, hr⟩)
    · rw [if_neg q] at h
      cases h
      have hl' : lw_tbl[w]? = some (.constantDouble own z (UInt64.ofNat b)) := by
        simp only [mLinkOk, if_neg q] at hl
        exact of_decide_eq_true hl
      exact lv_ldc2d hx hb hown (hts _ (in_gtbl_at hl' rfl)) hd (k _ ⟨_, _, rfl, rfl, hr⟩)
  | aconst_null => simp only [mLen] at hn; subst hn; cases h; exact lv_null hx hb hd (k _ ⟨_, _, rfl, rfl, hr⟩)
  | iadd => simp only [mLen] at hn; subst hn; obtain ⟨x, y, r, z, rfl, hz, rfl⟩ := mII_spec h; cases hz; obtain ⟨-, -, rfl, rfl, -, cr, rfl, rfl, hr⟩ := hr; exact lv_iadd hx hb hd (k _ ⟨_, _, rfl, rfl, hr⟩)
  | isub => simp only [mLen] at hn; subst hn; obtain ⟨x, y, r, z, rfl, hz, rfl⟩ := mII_spec h; cases hz; obtain ⟨-, -, rfl, rfl, -, cr, rfl, rfl, hr⟩ := hr; exact lv_isub hx hb hd (k _ ⟨_, _, rfl, rfl, hr⟩)
  | imul => simp only [mLen] at hn; subst hn; obtain ⟨x, y, r, z, rfl, hz, rfl⟩ := mII_spec h; cases hz; obtain ⟨-, -, rfl, rfl, -, cr, rfl, rfl, hr⟩ := hr; exact lv_imul hx hb hd (k _ ⟨_, _, rfl, rfl, hr⟩)
  | iand => simp only [mLen] at hn; subst hn; obtain ⟨x, y, r, z, rfl, hz, rfl⟩ := mII_spec h; cases hz; obtain ⟨-, -, rfl, rfl, -, cr, rfl, rfl, hr⟩ := hr; exact lv_iand hx hb hd (k _ ⟨_, _, rfl, rfl, hr⟩)
  | ior => simp only [mLen] at hn; subst hn; obtain ⟨x, y, r, z, rfl, hz, rfl⟩ := mII_spec h; cases hz; obtain ⟨-, -, rfl, rfl, -, cr, rfl, rfl, hr⟩ := hr; exact lv_ior hx hb hd (k _ ⟨_, _, rfl, rfl, hr⟩)
  | ishl => simp only [mLen] at hn; subst hn; obtain ⟨x, y, r, z, rfl, hz, rfl⟩ := mII_spec h; cases hz; obtain ⟨-, -, rfl, rfl, -, cr, rfl, rfl, hr⟩ := hr; exact lv_ishl hx hb hd (k _ ⟨_, _, rfl, rfl, hr⟩)
  | ishr => simp only [mLen] at hn; subst hn; obtain ⟨x, y, r, z, rfl, hz, rfl⟩ := mII_spec h; cases hz; obtain ⟨-, -, rfl, rfl, -, cr, rfl, rfl, hr⟩ := hr; exact lv_ishr hx hb hd (k _ ⟨_, _, rfl, rfl, hr⟩)
  | iushr => simp only [mLen] at hn; subst hn; obtain ⟨x, y, r, z, rfl, hz, rfl⟩ := mII_spec h; cases hz; obtain ⟨-, -, rfl, rfl, -, cr, rfl, rfl, hr⟩ := hr; exact lv_iushr hx hb hd rfl (k _ ⟨_, _, rfl, rfl, hr⟩)
  | idiv =>
    simp only [mLen] at hn; subst hn; obtain ⟨x, y, r, z, rfl, hz, rfl⟩ := mII_spec h; obtain ⟨-, -, rfl, rfl, -, cr, rfl, rfl, hr⟩ := hr
    by_cases q : y = 0
    · rw [if_pos q] at hz; cases hz
    · rw [if_neg q] at hz; cases hz; exact lv_idiv hx hb hd q (k _ ⟨_, _, rfl, rfl, hr⟩)
  | irem =>
    simp only [mLen] at hn; subst hn; obtain ⟨x, y, r, z, rfl, hz, rfl⟩ := mII_spec h; obtain ⟨-, -, rfl, rfl, -, cr, rfl, rfl, hr⟩ := hr
    by_cases q : y = 0
    · rw [if_pos q] at hz; cases hz
    · rw [if_neg q] at hz; cases hz; exact lv_irem hx hb hd q (k _ ⟨_, _, rfl, rfl, hr⟩)
  | ineg => simp only [mLen] at hn; subst hn; obtain ⟨x, r, rfl, rfl⟩ := mIx1_spec h; obtain ⟨-, cr, rfl, rfl, hr⟩ := hr; exact lv_ineg hx hb hd (k _ ⟨_, _, rfl, rfl, hr⟩)
  | i2c => simp only [mLen] at hn; subst hn; obtain ⟨x, r, rfl, rfl⟩ := mIx1_spec h; obtain ⟨-, cr, rfl, rfl, hr⟩ := hr; exact lv_i2c hx hb hd rfl (k _ ⟨_, _, rfl, rfl, hr⟩)
  | i2l => simp only [mLen] at hn; subst hn; obtain ⟨x, r, rfl, rfl⟩ := mIx1_spec h; obtain ⟨-, cr, rfl, rfl, hr⟩ := hr; exact lv_i2l hx hb hd rfl (k _ ⟨_, _, rfl, rfl, hr⟩)
  | i2d => simp only [mLen] at hn; subst hn; obtain ⟨x, r, rfl, rfl⟩ := mIx1_spec h; obtain ⟨-, cr, rfl, rfl, hr⟩ := hr; exact lv_i2d hx hb hd (k _ ⟨_, _, rfl, rfl, hr⟩)
  | l2i => simp only [mLen] at hn; subst hn; obtain ⟨x, r, rfl, rfl⟩ := mL1_spec h; obtain ⟨-, cr, rfl, rfl, hr⟩ := hr; exact lv_l2i hx hb hd rfl (k _ ⟨_, _, rfl, rfl, hr⟩)
  | lshr => simp only [mLen] at hn; subst hn; obtain ⟨x, y, r, rfl, rfl⟩ := mIL_spec h; obtain ⟨-, -, rfl, rfl, -, cr, rfl, rfl, hr⟩ := hr; exact lv_lshr hx hb hd rfl (k _ ⟨_, _, rfl, rfl, hr⟩)
  | ladd => simp only [mLen] at hn; subst hn; obtain ⟨x, y, r, rfl, rfl⟩ := mLL_spec h; obtain ⟨-, -, rfl, rfl, -, cr, rfl, rfl, hr⟩ := hr; exact lv_ladd hx hb hd (k _ ⟨_, _, rfl, rfl, hr⟩)
  | lmul => simp only [mLen] at hn; subst hn; obtain ⟨x, y, r, rfl, rfl⟩ := mLL_spec h; obtain ⟨-, -, rfl, rfl, -, cr, rfl, rfl, hr⟩ := hr; exact lv_lmul hx hb hd (k _ ⟨_, _, rfl, rfl, hr⟩)
  | land => simp only [mLen] at hn; subst hn; obtain ⟨x, y, r, rfl, rfl⟩ := mLL_spec h; obtain ⟨-, -, rfl, rfl, -, cr, rfl, rfl, hr⟩ := hr; exact lv_land hx hb hd (k _ ⟨_, _, rfl, rfl, hr⟩)
  | lcmp => simp only [mLen] at hn; subst hn; obtain ⟨x, y, r, rfl, rfl⟩ := mLL_spec h; obtain ⟨-, -, rfl, rfl, -, cr, rfl, rfl, hr⟩ := hr; exact W.lcmp hx hb hd (k _ ⟨_, _, rfl, rfl, hr⟩)
  | dadd => simp only [mLen] at hn; subst hn; obtain ⟨x, y, r, z, rfl, hz, rfl⟩ := mDD_spec h; obtain ⟨hz2, rfl⟩ := mDbl_spec hz; obtain ⟨-, -, rfl, rfl, -, cr, rfl, rfl, hr⟩ := hr; exact lv_dadd hx hb hd hz2 (k _ ⟨_, _, rfl, rfl, hr⟩)
  | dsub => simp only [mLen] at hn; subst hn; obtain ⟨x, y, r, z, rfl, hz, rfl⟩ := mDD_spec h; obtain ⟨hz2, rfl⟩ := mDbl_spec hz; obtain ⟨-, -, rfl, rfl, -, cr, rfl, rfl, hr⟩ := hr; exact lv_dsub hx hb hd hz2 (k _ ⟨_, _, rfl, rfl, hr⟩)
  | dmul => simp only [mLen] at hn; subst hn; obtain ⟨x, y, r, z, rfl, hz, rfl⟩ := mDD_spec h; obtain ⟨hz2, rfl⟩ := mDbl_spec hz; obtain ⟨-, -, rfl, rfl, -, cr, rfl, rfl, hr⟩ := hr; exact lv_dmul hx hb hd hz2 (k _ ⟨_, _, rfl, rfl, hr⟩)
  | ddiv => simp only [mLen] at hn; subst hn; obtain ⟨x, y, r, z, rfl, hz, rfl⟩ := mDD_spec h; obtain ⟨hz2, rfl⟩ := mDbl_spec hz; obtain ⟨-, -, rfl, rfl, -, cr, rfl, rfl, hr⟩ := hr; exact lv_ddiv hx hb hd hz2 (k _ ⟨_, _, rfl, rfl, hr⟩)
  | dcmp op => simp only [mLen] at hn; subst hn; obtain ⟨x, y, r, z, rfl, hz, rfl⟩ := mDD_spec h; cases hz; obtain ⟨-, -, rfl, rfl, -, cr, rfl, rfl, hr⟩ := hr; exact lv_dcmp hx hb hd (k _ ⟨_, _, rfl, rfl, hr⟩)
  | dneg => simp only [mLen] at hn; subst hn; obtain ⟨x, r, rfl, rfl⟩ := mD1_spec h; obtain ⟨-, cr, rfl, rfl, hr⟩ := hr; exact lv_dneg hx hb hd (k _ ⟨_, _, rfl, rfl, hr⟩)
  | d2i => simp only [mLen] at hn; subst hn; obtain ⟨x, r, rfl, rfl⟩ := mD1_spec h; obtain ⟨-, cr, rfl, rfl, hr⟩ := hr; exact lv_d2i hx hb hd (k _ ⟨_, _, rfl, rfl, hr⟩)
  | dup =>
    simp only [mLen] at hn; subst hn
    cases st with
    | nil => cases h
    | cons v r =>
      simp only [mPure] at h
      split at h
      · next q => cases h; obtain ⟨cv, cr, rfl, hv, hr⟩ := hr; exact lv_dup hx hb hd (hv.cat.trans q) (k _ ⟨_, _, rfl, hv, _, _, rfl, hv, hr⟩)
      · cases h
  | pop =>
    simp only [mLen] at hn; subst hn
    cases st with
    | nil => cases h
    | cons v r =>
      simp only [mPure] at h
      split at h
      · next q => cases h; obtain ⟨cv, cr, rfl, hv, hr⟩ := hr; exact lv_pop hx hb hd (hv.cat.trans q) (k _ hr)
      · cases h
  | _ => simp only [mPure] at h; cases h
end SVA
end
section
/-! Locals and branches. -/
theorem isI_spec {v : Value} (h : isI v = true) : ∃ x, v = .int x := by cases v <;> first | exact ⟨_, rfl⟩ | cases h
theorem isL_spec {v : Value} (h : isL v = true) : ∃ x, v = .long x := by cases v <;> first | exact ⟨_, rfl⟩ | cases h
theorem isD_spec {v : Value} (h : isD v = true) : ∃ x, v = .double x := by cases v <;> first | exact ⟨_, rfl⟩ | cases h
theorem isA_spec {ad : List Nat} {v c : Value} (h : isA v = true) (hv : vr ad v c) : c = .null ∨ ∃ a, c = .ref a := by
  cases v <;> first | cases h; done | exact Or.inl hv | (obtain ⟨a, -, h2⟩ := hv; exact Or.inr ⟨a, h2⟩) | (obtain ⟨a, h2⟩ := hv; exact Or.inr ⟨a, h2⟩)
theorem mLd_spec {lv : List (Nat × Value)} {st : List Value} {i : Nat} {ok : Value → Bool} {q : List (Nat × Value) × List Value} (h : mLd lv st i ok = some q) : ∃ v, lv.lookup i = some v ∧ ok v = true ∧ q = (lv, v :: st) := by
  unfold mLd at h
  split at h
  · next v hv =>
    split at h
    · next o => cases h; exact ⟨v, hv, o, rfl⟩
    · cases h
  · cases h
theorem mSt1_spec {lv : List (Nat × Value)} {st : List Value} {nL i : Nat} {ok : Value → Bool} {q : List (Nat × Value) × List Value} (h : mSt1 lv st nL i ok = some q) : ∃ v r, st = v :: r ∧ ok v = true ∧ i < nL ∧ q = (mSto1 lv i v, r) := by
  unfold mSt1 at h
  split at h
  · next v r =>
    split at h
    · next o => cases h; exact ⟨v, r, rfl, o.1, o.2, rfl⟩
    · cases h
  · cases h
theorem mSt2_spec {lv : List (Nat × Value)} {st : List Value} {nL i : Nat} {ok : Value → Bool} {q : List (Nat × Value) × List Value} (h : mSt2 lv st nL i ok = some q) : ∃ v r, st = v :: r ∧ ok v = true ∧ i + 1 < nL ∧ q = (mSto2 lv i v, r) := by
  unfold mSt2 at h
  split at h
  · next v r =>
    split at h
    · next o => cases h; exact ⟨v, r, rfl, o.1, o.2, rfl⟩
    · cases h
  · cases h
def lvR (ad : List Nat) (nL : Nat) (ls : Array Slot) (lv : List (Nat × Value)) : Prop := ∃ clv, lv_has ls nL clv ∧ rll ad lv clv
theorem lvR.get {ad : List Nat} {nL i : Nat} {ls : Array Slot} {lv : List (Nat × Value)} {v : Value} (h : lvR ad nL ls lv) (hv : lv.lookup i = some v) : ∃ c, ls[i]? = some (.val c) ∧ vr ad v c := by
  obtain ⟨clv, h1, h2⟩ := h
  obtain ⟨k, c, h3, h4⟩ := h2.get hv
  exact ⟨c, lv_at h1 k h3, h4⟩
theorem lvR.app {ad x : List Nat} {nL : Nat} {ls : Array Slot} {lv : List (Nat × Value)} (h : lvR ad nL ls lv) : lvR (ad ++ x) nL ls lv := by
  obtain ⟨clv, h1, h2⟩ := h
  exact ⟨clv, h1, h2.app⟩
theorem mOff_spec {pc n t : Nat} {d : Int} (h : mOff pc n (some d) = some t) : (pc : Int) + d = (t : Int) := by
  unfold mOff at h
  split at h
  · next hq => cases hq
  · next d' hq =>
    cases hq
    split at h
    · next o => cases h; omega
    · cases h
theorem mOff_none {pc n t : Nat} (h : mOff pc n none = some t) : t = pc + n := by
  cases h; rfl
section SVB
variable {p : Program} {l : Launch} {e : Env} {R : Room} {s : State} {m : MethodId} {args : Array Value} {below : List Frame} {meth : Method} {c : Code} {H : Heap} {locs : List Loc} {cells slots : Nat} {Q : State → Prop}
variable {pc : Nat} {ls : Array Slot} {cc : ByteArray}
set_option maxHeartbeats 4000000 in
theorem s_loc {n nL : Nat} {i : Instr} {st cst : List Value} {lv : List (Nat × Value)} {q : List (Nat × Value) × List Value} {ad : List Nat} (hx : p.tables.exec = Jvm.exec) (hb : c.code = cc)
    (hd : decode cc pc = .ok (i, n)) (hn : n = mLen n i) (h : mLoc nL lv st i = some q) (hL : lvR ad nL ls lv) (hr : rl ad st cst)
    (k : ∀ ls' cst', lvR ad nL ls' q.1 → rl ad q.2 cst' → W p l e R s m args below meth c H locs cells slots Q (F0 m (pc + n) ls' cst')) : W p l e R s m args below meth c H locs cells slots Q (F0 m pc ls cst) := by
  cases i with
  | iload_n j => simp only [mLen] at hn; subst hn; obtain ⟨v, hv, ho, rfl⟩ := mLd_spec h; obtain ⟨x, rfl⟩ := isI_spec ho; obtain ⟨_, hc, rfl⟩ := hL.get hv; exact lv_iload_n hx hb hd rfl hc (k _ _ hL ⟨_, _, rfl, rfl, hr⟩)
  | iload j => simp only [mLen] at hn; subst hn; obtain ⟨v, hv, ho, rfl⟩ := mLd_spec h; obtain ⟨x, rfl⟩ := isI_spec ho; obtain ⟨_, hc, rfl⟩ := hL.get hv; exact lv_iload hx hb hd hc (k _ _ hL ⟨_, _, rfl, rfl, hr⟩)
  | lload_n j => simp only [mLen] at hn; subst hn; obtain ⟨v, hv, ho, rfl⟩ := mLd_spec h; obtain ⟨x, rfl⟩ := isL_spec ho; obtain ⟨_, hc, rfl⟩ := hL.get hv; exact lv_lload_n hx hb hd rfl hc (k _ _ hL ⟨_, _, rfl, rfl, hr⟩)
  | lload j => simp only [mLen] at hn; subst hn; obtain ⟨v, hv, ho, rfl⟩ := mLd_spec h; obtain ⟨x, rfl⟩ := isL_spec ho; obtain ⟨_, hc, rfl⟩ := hL.get hv; exact lv_lload hx hb hd hc (k _ _ hL ⟨_, _, rfl, rfl, hr⟩)
  | dload_n j => simp only [mLen] at hn; subst hn; obtain ⟨v, hv, ho, rfl⟩ := mLd_spec h; obtain ⟨x, rfl⟩ := isD_spec ho; obtain ⟨_, hc, rfl⟩ := hL.get hv; exact lv_dload_n hx hb hd rfl hc (k _ _ hL ⟨_, _, rfl, rfl, hr⟩)
  | dload j => simp only [mLen] at hn; subst hn; obtain ⟨v, hv, ho, rfl⟩ := mLd_spec h; obtain ⟨x, rfl⟩ := isD_spec ho; obtain ⟨_, hc, rfl⟩ := hL.get hv; exact lv_dload hx hb hd hc (k _ _ hL ⟨_, _, rfl, rfl, hr⟩)
  | aload_n j =>
    simp only [mLen] at hn; subst hn; obtain ⟨v, hv, ho, rfl⟩ := mLd_spec h; obtain ⟨cv, hc, hvc⟩ := hL.get hv
    rcases isA_spec ho hvc with rfl | ⟨a, rfl⟩
    · exact lv_aload_nN hx hb hd rfl hc (k _ _ hL ⟨_, _, rfl, hvc, hr⟩)
    · exact lv_aload_n hx hb hd rfl hc (k _ _ hL ⟨_, _, rfl, hvc, hr⟩)
  | aload j =>
    simp only [mLen] at hn; subst hn; obtain ⟨v, hv, ho, rfl⟩ := mLd_spec h; obtain ⟨cv, hc, hvc⟩ := hL.get hv
    rcases isA_spec ho hvc with rfl | ⟨a, rfl⟩
    · exact lv_aloadN hx hb hd hc (k _ _ hL ⟨_, _, rfl, hvc, hr⟩)
    · exact lv_aload hx hb hd hc (k _ _ hL ⟨_, _, rfl, hvc, hr⟩)
  | istore_n j => simp only [mLen] at hn; subst hn; obtain ⟨v, r, rfl, ho, hi, rfl⟩ := mSt1_spec h; obtain ⟨x, rfl⟩ := isI_spec ho; obtain ⟨clv, h1, h2⟩ := hL; obtain ⟨_, cr, rfl, rfl, hr⟩ := hr; exact lv_istore_n hx hb hd rfl h1 hi rfl (fun ls' hl => k _ _ ⟨_, hl, h2.sto1 _ rfl⟩ hr)
  | istore j => simp only [mLen] at hn; subst hn; obtain ⟨v, r, rfl, ho, hi, rfl⟩ := mSt1_spec h; obtain ⟨x, rfl⟩ := isI_spec ho; obtain ⟨clv, h1, h2⟩ := hL; obtain ⟨_, cr, rfl, rfl, hr⟩ := hr; exact lv_istore hx hb hd h1 hi rfl (fun ls' hl => k _ _ ⟨_, hl, h2.sto1 _ rfl⟩ hr)
  | lstore_n j => simp only [mLen] at hn; subst hn; obtain ⟨v, r, rfl, ho, hi, rfl⟩ := mSt2_spec h; obtain ⟨x, rfl⟩ := isL_spec ho; obtain ⟨clv, h1, h2⟩ := hL; obtain ⟨_, cr, rfl, rfl, hr⟩ := hr; exact lv_lstore_n hx hb hd rfl h1 hi rfl (fun ls' hl => k _ _ ⟨_, hl, h2.sto2 _ rfl⟩ hr)
  | lstore j => simp only [mLen] at hn; subst hn; obtain ⟨v, r, rfl, ho, hi, rfl⟩ := mSt2_spec h; obtain ⟨x, rfl⟩ := isL_spec ho; obtain ⟨clv, h1, h2⟩ := hL; obtain ⟨_, cr, rfl, rfl, hr⟩ := hr; exact lv_lstore hx hb hd h1 hi rfl (fun ls' hl => k _ _ ⟨_, hl, h2.sto2 _ rfl⟩ hr)
  | dstore_n j => simp only [mLen] at hn; subst hn; obtain ⟨v, r, rfl, ho, hi, rfl⟩ := mSt2_spec h; obtain ⟨x, rfl⟩ := isD_spec ho; obtain ⟨clv, h1, h2⟩ := hL; obtain ⟨_, cr, rfl, rfl, hr⟩ := hr; exact lv_dstore_n hx hb hd rfl h1 hi rfl (fun ls' hl => k _ _ ⟨_, hl, h2.sto2 _ rfl⟩ hr)
  | dstore j => simp only [mLen] at hn; subst hn; obtain ⟨v, r, rfl, ho, hi, rfl⟩ := mSt2_spec h; obtain ⟨x, rfl⟩ := isD_spec ho; obtain ⟨clv, h1, h2⟩ := hL; obtain ⟨_, cr, rfl, rfl, hr⟩ := hr; exact lv_dstore hx hb hd h1 hi rfl (fun ls' hl => k _ _ ⟨_, hl, h2.sto2 _ rfl⟩ hr)
  | astore_n j =>
    simp only [mLen] at hn; subst hn; obtain ⟨v, r, rfl, ho, hi, rfl⟩ := mSt1_spec h; obtain ⟨clv, h1, h2⟩ := hL; obtain ⟨cv, cr, rfl, hvc, hr⟩ := hr
    rcases isA_spec ho hvc with rfl | ⟨a, rfl⟩
    · exact lv_astore_nN hx hb hd rfl h1 hi rfl (fun ls' hl => k _ _ ⟨_, hl, h2.sto1 _ hvc⟩ hr)
    · exact lv_astore_n hx hb hd rfl h1 hi rfl (fun ls' hl => k _ _ ⟨_, hl, h2.sto1 _ hvc⟩ hr)
  | astore j =>
    simp only [mLen] at hn; subst hn; obtain ⟨v, r, rfl, ho, hi, rfl⟩ := mSt1_spec h; obtain ⟨clv, h1, h2⟩ := hL; obtain ⟨cv, cr, rfl, hvc, hr⟩ := hr
    rcases isA_spec ho hvc with rfl | ⟨a, rfl⟩
    · exact lv_astoreN hx hb hd h1 hi rfl (fun ls' hl => k _ _ ⟨_, hl, h2.sto1 _ hvc⟩ hr)
    · exact lv_astore hx hb hd h1 hi rfl (fun ls' hl => k _ _ ⟨_, hl, h2.sto1 _ hvc⟩ hr)
  | iinc j z =>
    simp only [mLen] at hn; subst hn
    simp only [mLoc] at h
    split at h
    · next x hv =>
      split at h
      · next hi =>
        cases h
        obtain ⟨clv, h1, h2⟩ := hL
        obtain ⟨kk, c, h3, rfl⟩ := h2.get hv
        exact lv_iinc hx hb hd h1 h3 rfl hi rfl (fun ls' hl => k _ _ ⟨_, hl, h2.sto1 _ rfl⟩ hr)
      · cases h
    · cases h
  | _ => simp only [mLoc] at h; cases h
theorem mTgt {pc : Nat} {d : Int} (h : 0 ≤ (pc : Int) + d) : (pc : Int) + d = ((((pc : Int) + d).toNat : Nat) : Int) := by omega
theorem s_if {x : Int32} {rest : List Value} {d : Int} {cd : ClassFile.Cond} (hx : p.tables.exec = Jvm.exec) (hb : c.code = cc) (hd : decode cc pc = .ok (.ifCond cd d, 3)) (h0 : 0 ≤ (pc : Int) + d)
    (k : ∀ t, mOff pc 3 (if mCnd x 0 cd = true then some d else none) = some t → W p l e R s m args below meth c H locs cells slots Q (F0 m t ls rest)) : W p l e R s m args below meth c H locs cells slots Q (F0 m pc ls (.int x :: rest)) := by
  have ht := mTgt h0
  have yes : mCnd x 0 cd = true → W p l e R s m args below meth c H locs cells slots Q (F0 m ((pc : Int) + d).toNat ls rest) := fun hc => k _ (by rw [if_pos hc]; simp only [mOff, if_pos h0])
  have no : ¬ mCnd x 0 cd = true → W p l e R s m args below meth c H locs cells slots Q (F0 m (pc + 3) ls rest) := fun hc => k _ (by rw [if_neg hc]; rfl)
  cases cd <;> simp only [mCnd, decide_eq_true_eq] at yes no
  · exact lv_if_eq hx hb hd ht yes no
  · exact lv_if_ne hx hb hd ht yes (fun q => no (fun z => z q))
  · exact lv_if_lt hx hb hd ht yes no
  · exact lv_if_ge hx hb hd ht yes no
  · exact lv_if_gt hx hb hd ht yes no
  · exact lv_if_le hx hb hd ht yes no
theorem s_icmp {x y : Int32} {rest : List Value} {d : Int} {cd : ClassFile.Cond} (hx : p.tables.exec = Jvm.exec) (hb : c.code = cc) (hd : decode cc pc = .ok (.if_icmp cd d, 3)) (h0 : 0 ≤ (pc : Int) + d)
    (k : ∀ t, mOff pc 3 (if mCnd x y cd = true then some d else none) = some t → W p l e R s m args below meth c H locs cells slots Q (F0 m t ls rest)) : W p l e R s m args below meth c H locs cells slots Q (F0 m pc ls (.int y :: .int x :: rest)) := by
  have ht := mTgt h0
  have yes : mCnd x y cd = true → W p l e R s m args below meth c H locs cells slots Q (F0 m ((pc : Int) + d).toNat ls rest) := fun hc => k _ (by rw [if_pos hc]; simp only [mOff, if_pos h0])
  have no : ¬ mCnd x y cd = true → W p l e R s m args below meth c H locs cells slots Q (F0 m (pc + 3) ls rest) := fun hc => k _ (by rw [if_neg hc]; rfl)
  cases cd <;> simp only [mCnd, decide_eq_true_eq] at yes no
  · exact lv_icmp_eq hx hb hd ht yes no
  · exact lv_icmp_ne hx hb hd ht yes (fun q => no (fun z => z q))
  · exact lv_icmp_lt hx hb hd ht yes no
  · exact lv_icmp_ge hx hb hd ht yes no
  · exact lv_icmp_gt hx hb hd ht yes no
  · exact lv_icmp_le hx hb hd ht yes no
set_option maxHeartbeats 4000000 in
theorem s_br {n t : Nat} {i : Instr} {st cst : List Value} {q : Option Int × List Value} {ad : List Nat} (hx : p.tables.exec = Jvm.exec) (hb : c.code = cc)
    (hd : decode cc pc = .ok (i, n)) (hn : n = mLen n i) (h : mBr pc st i = some q) (ht : mOff pc n q.1 = some t) (hr : rl ad st cst)
    (k : ∀ cst', rl ad q.2 cst' → W p l e R s m args below meth c H locs cells slots Q (F0 m t ls cst')) : W p l e R s m args below meth c H locs cells slots Q (F0 m pc ls cst) := by
  cases i with
  | goto d => simp only [mLen] at hn; subst hn; cases h; exact lv_goto hx hb hd (mOff_spec ht) (k _ hr)
  | ifCond cd d =>
    simp only [mLen] at hn; subst hn
    simp only [mBr] at h
    split at h
    · next x r =>
      split at h
      · next h0 =>
        cases h
        obtain ⟨_, cr, rfl, rfl, hr⟩ := hr
        refine s_if hx hb hd h0 (fun t' ht' => ?_)
        rw [show mOff pc 3 _ = some t from ht] at ht'
        cases ht'
        exact k _ hr
      · cases h
    · cases h
  | if_icmp cd d =>
    simp only [mLen] at hn; subst hn
    simp only [mBr] at h
    split at h
    · next y x r =>
      split at h
      · next h0 =>
        cases h
        obtain ⟨_, _, rfl, rfl, _, cr, rfl, rfl, hr⟩ := hr
        refine s_icmp hx hb hd h0 (fun t' ht' => ?_)
        rw [show mOff pc 3 _ = some t from ht] at ht'
        cases ht'
        exact k _ hr
      · cases h
    · cases h
  | ifnull d =>
    simp only [mLen] at hn; subst hn
    simp only [mBr] at h
    split at h
    · next r => cases h; obtain ⟨_, cr, rfl, rfl, hr⟩ := hr; exact lv_ifnullN hx hb hd (mOff_spec ht) (k _ hr)
    · next j r => cases h; obtain ⟨_, cr, rfl, ⟨a, -, rfl⟩, hr⟩ := hr; cases mOff_none ht; exact lv_ifnull hx hb hd (k _ hr)
    · cases h
  | ifnonnull d =>
    simp only [mLen] at hn; subst hn
    simp only [mBr] at h
    split at h
    · next r => cases h; obtain ⟨_, cr, rfl, rfl, hr⟩ := hr; cases mOff_none ht; exact lv_ifnonnullN hx hb hd (k _ hr)
    · next j r => cases h; obtain ⟨_, cr, rfl, ⟨a, -, rfl⟩, hr⟩ := hr; exact lv_ifnonnull hx hb hd (mOff_spec ht) (k _ hr)
    · cases h
  | tableswitch df lo hi offs =>
    simp only [mBr] at h
    split at h
    · next x r =>
      obtain ⟨_, cr, rfl, rfl, hr⟩ := hr
      split at h
      · next ho => cases h; exact lv_tableOut hx hb hd ho (mOff_spec ht) (k _ hr)
      · next ho =>
        split at h
        · next d hq => cases h; exact lv_tableIn hx hb hd (fun q => ho (Or.inl q)) (fun q => ho (Or.inr q)) hq (mOff_spec ht) (k _ hr)
        · cases h
    · cases h
  | lookupswitch df ps =>
    simp only [mBr] at h
    split at h
    · next x r =>
      obtain ⟨_, cr, rfl, rfl, hr⟩ := hr
      split at h
      · next ho => cases h; exact lv_lookup hx hb hd ho rfl (mOff_spec ht) (k _ hr)
      · cases h
    · cases h
  | _ => simp only [mBr] at h; cases h
end SVB
end
section
/-! The abstract heap is held by the real one. -/
def cR (ad : List Nat) (tys : List (ClassId × FieldType)) (c : mCell) (E : va_E) : Prop := match E with
  | .inr o => c.1 = o.1 ∧ (∃ q, cls[o.1]? = some q ∧ o.2.length = q.2.2) ∧ c.2.1 = o.2.length ∧ ∀ k v, o.2[k]? = some v → vr ad (c.2.2 k) v
  | .inl A => c.2.1 = A.2.1 ∧ (match A.2.2 with
    | .inl f => ((c.1 = 100 ∧ (A.1, FieldType.int) ∈ tys) ∨ (c.1 = 101 ∧ (A.1, FieldType.char) ∈ tys) ∨ (c.1 = 102 ∧ (A.1, FieldType.boolean) ∈ tys)) ∧ ∀ j, j < A.2.1 → c.2.2 j = .int (f j)
    | .inr (.inl f) => (c.1 = 103 ∧ (A.1, FieldType.long) ∈ tys) ∧ ∀ j, j < A.2.1 → c.2.2 j = .long (f j)
    | .inr (.inr (.inl _)) => False
    | .inr (.inr (.inr (.inl f))) => (c.1 = 104 ∧ (A.1, FieldType.double) ∈ tys) ∧ ∀ j, j < A.2.1 → c.2.2 j = .double (f j)
    | .inr (.inr (.inr (.inr f))) => (c.1 = 105 ∧ (A.1, FieldType.object mR8) ∈ tys) ∧ ∀ j, j < A.2.1 → vr ad (c.2.2 j) (va_rf (f j)))
theorem cls_lt {ci : Nat} {q : vw_C} (h : cls[ci]? = some q) : ci < 12 := (List.getElem?_eq_some_iff.mp h).1
theorem cR.obj {ad : List Nat} {tys : List (ClassId × FieldType)} {c : mCell} {E : va_E} (h : cR ad tys c E) (hc : c.1 < 12) : ∃ fs q, E = .inr (c.1, fs) ∧ cls[c.1]? = some q ∧ fs.length = q.2.2 ∧ c.2.1 = fs.length ∧ ∀ k v, fs[k]? = some v → vr ad (c.2.2 k) v := by
  match E, h with
  | .inr (o, fs), h =>
    obtain ⟨h1, ⟨q, h2, h3⟩, h4, h5⟩ := h
    dsimp only at h1 h2 h3 h4 h5
    subst h1
    exact ⟨fs, q, rfl, h2, h3, h4, h5⟩
  | .inl (cA, n, .inl f), h => obtain ⟨-, (⟨h, -⟩ | ⟨h, -⟩ | ⟨h, -⟩), -⟩ := h <;> omega
  | .inl (cA, n, .inr (.inl f)), h => obtain ⟨-, ⟨h, -⟩, -⟩ := h; omega
  | .inl (cA, n, .inr (.inr (.inl f))), h => exact h.2.elim
  | .inl (cA, n, .inr (.inr (.inr (.inl f)))), h => obtain ⟨-, ⟨h, -⟩, -⟩ := h; omega
  | .inl (cA, n, .inr (.inr (.inr (.inr f)))), h => obtain ⟨-, ⟨h, -⟩, -⟩ := h; omega
theorem cR.i {ad : List Nat} {tys : List (ClassId × FieldType)} {c : mCell} {E : va_E} (h : cR ad tys c E) {t : Nat} {ft : FieldType} (ht : (t = 100 ∧ ft = .int) ∨ (t = 101 ∧ ft = .char) ∨ (t = 102 ∧ ft = .boolean)) (hc : c.1 = t) : ∃ cA f, E = .inl (cA, c.2.1, .inl f) ∧ (cA, ft) ∈ tys ∧ ∀ j, j < c.2.1 → c.2.2 j = .int (f j) := by
  have hr : 100 ≤ c.1 ∧ c.1 ≤ 102 := by omega
  match E, h with
  | .inr (o, fs), h =>
    obtain ⟨h1, ⟨q, h2, h3⟩, -⟩ := h
    have := cls_lt h2
    dsimp only at h1 this
    omega
  | .inl (cA, n, .inl f), h =>
    obtain ⟨h1, h2, h3⟩ := h
    dsimp only at h1 h2 h3
    subst h1
    refine ⟨cA, f, rfl, ?_, h3⟩
    rcases ht with ⟨rfl, rfl⟩ | ⟨rfl, rfl⟩ | ⟨rfl, rfl⟩ <;> rcases h2 with ⟨h, h'⟩ | ⟨h, h'⟩ | ⟨h, h'⟩ <;> first | exact h' | omega
  | .inl (cA, n, .inr (.inl f)), h => obtain ⟨-, ⟨h, -⟩, -⟩ := h; omega
  | .inl (cA, n, .inr (.inr (.inl f))), h => exact h.2.elim
  | .inl (cA, n, .inr (.inr (.inr (.inl f)))), h => obtain ⟨-, ⟨h, -⟩, -⟩ := h; omega
  | .inl (cA, n, .inr (.inr (.inr (.inr f)))), h => obtain ⟨-, ⟨h, -⟩, -⟩ := h; omega
theorem cR.l {ad : List Nat} {tys : List (ClassId × FieldType)} {c : mCell} {E : va_E} (h : cR ad tys c E) (hc : c.1 = 103) : ∃ cA f, E = .inl (cA, c.2.1, .inr (.inl f)) ∧ (cA, FieldType.long) ∈ tys ∧ ∀ j, j < c.2.1 → c.2.2 j = .long (f j) := by
  match E, h with
  | .inr (o, fs), h => obtain ⟨h1, ⟨q, h2, h3⟩, -⟩ := h; have := cls_lt h2; dsimp only at h1 this; omega
  | .inl (cA, n, .inl f), h => obtain ⟨-, (⟨h, -⟩ | ⟨h, -⟩ | ⟨h, -⟩), -⟩ := h <;> omega
  | .inl (cA, n, .inr (.inl f)), h =>
    obtain ⟨h1, ⟨-, h2⟩, h3⟩ := h
    dsimp only at h1 h2 h3
    subst h1
    exact ⟨cA, f, rfl, h2, h3⟩
  | .inl (cA, n, .inr (.inr (.inl f))), h => exact h.2.elim
  | .inl (cA, n, .inr (.inr (.inr (.inl f)))), h => obtain ⟨-, ⟨h, -⟩, -⟩ := h; omega
  | .inl (cA, n, .inr (.inr (.inr (.inr f)))), h => obtain ⟨-, ⟨h, -⟩, -⟩ := h; omega
theorem cR.d {ad : List Nat} {tys : List (ClassId × FieldType)} {c : mCell} {E : va_E} (h : cR ad tys c E) (hc : c.1 = 104) : ∃ cA f, E = .inl (cA, c.2.1, .inr (.inr (.inr (.inl f)))) ∧ (cA, FieldType.double) ∈ tys ∧ ∀ j, j < c.2.1 → c.2.2 j = .double (f j) := by
  match E, h with
  | .inr (o, fs), h => obtain ⟨h1, ⟨q, h2, h3⟩, -⟩ := h; have := cls_lt h2; dsimp only at h1 this; omega
  | .inl (cA, n, .inl f), h => obtain ⟨-, (⟨h, -⟩ | ⟨h, -⟩ | ⟨h, -⟩), -⟩ := h <;> omega
  | .inl (cA, n, .inr (.inl f)), h => obtain ⟨-, ⟨h, -⟩, -⟩ := h; omega
  | .inl (cA, n, .inr (.inr (.inl f))), h => exact h.2.elim
  | .inl (cA, n, .inr (.inr (.inr (.inl f)))), h =>
    obtain ⟨h1, ⟨-, h2⟩, h3⟩ := h
    dsimp only at h1 h2 h3
    subst h1
    exact ⟨cA, f, rfl, h2, h3⟩
  | .inl (cA, n, .inr (.inr (.inr (.inr f)))), h => obtain ⟨-, ⟨h, -⟩, -⟩ := h; omega
theorem cR.q {ad : List Nat} {tys : List (ClassId × FieldType)} {c : mCell} {E : va_E} (h : cR ad tys c E) (hc : c.1 = 105) : ∃ cA f, E = .inl (cA, c.2.1, .inr (.inr (.inr (.inr f)))) ∧ (cA, FieldType.object mR8) ∈ tys ∧ ∀ j, j < c.2.1 → vr ad (c.2.2 j) (va_rf (f j)) := by
  match E, h with
  | .inr (o, fs), h => obtain ⟨h1, ⟨q, h2, h3⟩, -⟩ := h; have := cls_lt h2; dsimp only at h1 this; omega
  | .inl (cA, n, .inl f), h => obtain ⟨-, (⟨h, -⟩ | ⟨h, -⟩ | ⟨h, -⟩), -⟩ := h <;> omega
  | .inl (cA, n, .inr (.inl f)), h => obtain ⟨-, ⟨h, -⟩, -⟩ := h; omega
  | .inl (cA, n, .inr (.inr (.inl f))), h => exact h.2.elim
  | .inl (cA, n, .inr (.inr (.inr (.inl f)))), h => obtain ⟨-, ⟨h, -⟩, -⟩ := h; omega
  | .inl (cA, n, .inr (.inr (.inr (.inr f)))), h =>
    obtain ⟨h1, ⟨-, h2⟩, h3⟩ := h
    dsimp only at h1 h2 h3
    subst h1
    exact ⟨cA, f, rfl, h2, h3⟩
theorem cR.app {ad x : List Nat} {tys ty' : List (ClassId × FieldType)} {c : mCell} {E : va_E} (h : cR ad tys c E) : cR (ad ++ x) (tys ++ ty') c E := by
  have m : ∀ {q}, q ∈ tys → q ∈ tys ++ ty' := fun h => List.mem_append_left _ h
  match E, h with
  | .inr (o, fs), h => exact ⟨h.1, h.2.1, h.2.2.1, fun k v hk => (h.2.2.2 k v hk).app⟩
  | .inl (cA, n, .inl f), h =>
    obtain ⟨h1, h2, h3⟩ := h
    exact ⟨h1, h2.imp (fun q => ⟨q.1, m q.2⟩) (fun q => q.imp (fun q => ⟨q.1, m q.2⟩) (fun q => ⟨q.1, m q.2⟩)), h3⟩
  | .inl (cA, n, .inr (.inl f)), h => exact ⟨h.1, ⟨h.2.1.1, m h.2.1.2⟩, h.2.2⟩
  | .inl (cA, n, .inr (.inr (.inl f))), h => exact h.2.elim
  | .inl (cA, n, .inr (.inr (.inr (.inl f)))), h => exact ⟨h.1, ⟨h.2.1.1, m h.2.1.2⟩, h.2.2⟩
  | .inl (cA, n, .inr (.inr (.inr (.inr f)))), h => exact ⟨h.1, ⟨h.2.1.1, m h.2.1.2⟩, fun j hj => (h.2.2 j hj).app⟩
def hR (ad : List Nat) (ws : va_W) (tys : List (ClassId × FieldType)) (h : mHp) : Prop :=
  ad.length = h.1 ∧ (∀ (i a : Nat), ad[i]? = some a → hTag h i < 106 → ∃ (k : Nat) (E : va_E), ws[k]? = some (a, E) ∧ cR ad tys (h.2.2 i) E) ∧ (∀ (i j a : Nat), ad[i]? = some a → ad[j]? = some a → hTag h i < 106 → hTag h j < 106 → i = j)
theorem hTag_set (h : mHp) (i k : Nat) (v : Value) (j : Nat) : hTag (hSet h i k v) j = hTag h j := by
  unfold hTag hSet
  dsimp only
  by_cases q : j = i
  · subst q; rw [if_pos rfl]
  · rw [if_neg q]
theorem hR.set {ad : List Nat} {ws : va_W} {tys : List (ClassId × FieldType)} {h : mHp} {i a k kk : Nat} {v : Value} {E E' : va_E} (R : hR ad ws tys h) (hi : ad[i]? = some a) (ht : hTag h i < 106) (hk : ws[k]? = some (a, E)) (hE : cR ad tys ((h.2.2 i).1, (h.2.2 i).2.1, fun x => if x = kk then v else (h.2.2 i).2.2 x) E') :
    hR ad (ws.set k (a, E')) tys (hSet h i kk v) := by
  obtain ⟨h1, h2, h3⟩ := R
  refine ⟨h1, fun j b hj hl => ?_, fun j1 j2 b q1 q2 t1 t2 => ?_⟩
  · rw [hTag_set] at hl
    by_cases q : j = i
    · subst q
      rw [hi] at hj
      cases hj
      refine ⟨k, E', ?_, ?_⟩
      · rw [List.getElem?_set_self (List.getElem?_eq_some_iff.mp hk).1]
      · have e : (hSet h j kk v).2.2 j = ((h.2.2 j).1, (h.2.2 j).2.1, fun x => if x = kk then v else (h.2.2 j).2.2 x) := by unfold hSet; dsimp only; rw [if_pos rfl]
        rw [e]
        exact hE
    · obtain ⟨kj, Ej, e1, e2⟩ := h2 j b hj hl
      have hne : k ≠ kj := by
        intro e
        subst e
        rw [hk] at e1
        cases e1
        exact q (h3 j i a hj hi hl ht)
      refine ⟨kj, Ej, ?_, ?_⟩
      · rw [List.getElem?_set_ne hne]; exact e1
      · have e : (hSet h i kk v).2.2 j = h.2.2 j := by unfold hSet; dsimp only; rw [if_neg q]
        rw [e]
        exact e2
  · rw [hTag_set] at t1 t2
    exact h3 j1 j2 b q1 q2 t1 t2
theorem hNew_old (h : mHp) (t n : Nat) (f : Nat → Value) {j : Nat} (hj : j < h.1) : (hNew h t n f).2.2 j = h.2.2 j := by
  unfold hNew; dsimp only; rw [if_neg (by omega)]
theorem hNew_new (h : mHp) (t n : Nat) (f : Nat → Value) : (hNew h t n f).2.2 h.1 = (t, n, f) := by
  unfold hNew; dsimp only; rw [if_pos rfl]
theorem app_cases {ad : List Nat} {q j b : Nat} (h : (ad ++ [q])[j]? = some b) : (j < ad.length ∧ ad[j]? = some b) ∨ (j = ad.length ∧ b = q) := by
  rcases Nat.lt_or_ge j ad.length with g | g
  · rw [List.getElem?_append_left g] at h; exact Or.inl ⟨g, h⟩
  · rw [List.getElem?_append_right g] at h
    cases e : j - ad.length with
    | zero => rw [e] at h; cases h; exact Or.inr ⟨by omega, rfl⟩
    | succ z => rw [e] at h; simp at h
theorem hR.new {ad : List Nat} {ws : va_W} {tys ty' : List (ClassId × FieldType)} {h : mHp} {A : Nat → Prop} {q t n : Nat} {f : Nat → Value} {E : va_E} (R : hR ad ws tys h) (hD : va_D A (ws ++ [(q, E)])) (hE : cR (ad ++ [q]) (tys ++ ty') (t, n, f) E) :
    hR (ad ++ [q]) (ws ++ [(q, E)]) (tys ++ ty') (hNew h t n f) := by
  obtain ⟨h1, h2, h3⟩ := R
  have last : (ws ++ [(q, E)])[ws.length]? = some (q, E) := by rw [List.getElem?_append_right (Nat.le_refl _)]; simp
  have fresh : ∀ i, ad[i]? = some q → hTag h i < 106 → False := by
    intro i hi ht
    obtain ⟨k, E2, e1, -⟩ := h2 i q hi ht
    have hk := (List.getElem?_eq_some_iff.mp e1).1
    have e3 : (ws ++ [(q, E)])[k]? = some (q, E2) := by rw [List.getElem?_append_left hk]; exact e1
    have := hD.1 k ws.length _ _ e3 last rfl
    omega
  have tg : ∀ j, j < ad.length → hTag (hNew h t n f) j = hTag h j := fun j hj => by unfold hTag; rw [hNew_old h t n f (by omega)]
  refine ⟨by rw [List.length_append, h1]; rfl, fun j b hj hl => ?_, fun j1 j2 b q1 q2 t1 t2 => ?_⟩
  · rcases app_cases hj with ⟨g, hj⟩ | ⟨g, rfl⟩
    · rw [tg j g] at hl
      obtain ⟨k, E2, e1, e2⟩ := h2 j b hj hl
      exact ⟨k, E2, by rw [List.getElem?_append_left (List.getElem?_eq_some_iff.mp e1).1]; exact e1, by rw [hNew_old h t n f (by omega)]; exact e2.app⟩
    · refine ⟨ws.length, E, last, ?_⟩
      rw [g, h1, hNew_new]
      exact hE
  · rcases app_cases q1 with ⟨g1, r1⟩ | ⟨g1, e1⟩ <;> rcases app_cases q2 with ⟨g2, r2⟩ | ⟨g2, e2⟩
    · rw [tg _ g1] at t1; rw [tg _ g2] at t2; exact h3 j1 j2 b r1 r2 t1 t2
    · rw [tg _ g1] at t1; rw [e2] at r1; exact (fresh j1 r1 t1).elim
    · rw [tg _ g2] at t2; rw [e1] at r2; exact (fresh j2 r2 t2).elim
    · omega
/-- a cell that the abstract machine never looks at again -/
theorem hR.dead {ad : List Nat} {ws : va_W} {tys : List (ClassId × FieldType)} {h : mHp} {q t n : Nat} {f : Nat → Value} (R : hR ad ws tys h) (ht : 106 ≤ t) : hR (ad ++ [q]) ws tys (hNew h t n f) := by
  obtain ⟨h1, h2, h3⟩ := R
  have tg : ∀ j, j < ad.length → hTag (hNew h t n f) j = hTag h j := fun j hj => by unfold hTag; rw [hNew_old h t n f (by omega)]
  have tl : hTag (hNew h t n f) ad.length = t := by unfold hTag; rw [h1, hNew_new]
  refine ⟨by rw [List.length_append, h1]; rfl, fun j b hj hl => ?_, fun j1 j2 b q1 q2 t1 t2 => ?_⟩
  · rcases app_cases hj with ⟨g, hj⟩ | ⟨g, rfl⟩
    · rw [tg j g] at hl
      obtain ⟨k, E2, e1, e2⟩ := h2 j b hj hl
      exact ⟨k, E2, e1, by rw [hNew_old h t n f (by omega)]; have := e2.app (x := [q]) (ty' := []); rwa [List.append_nil] at this⟩
    · rw [g, tl] at hl; omega
  · rcases app_cases q1 with ⟨g1, r1⟩ | ⟨g1, e1⟩ <;> rcases app_cases q2 with ⟨g2, r2⟩ | ⟨g2, e2⟩
    · rw [tg _ g1] at t1; rw [tg _ g2] at t2; exact h3 j1 j2 b r1 r2 t1 t2
    · rw [g2, tl] at t2; omega
    · rw [g1, tl] at t1; omega
    · omega
def mW (D : va_G) (A : Nat → Prop) (H0 : Heap) (s : State) (ad : List Nat) (h : mHp) (H : Heap) (locs : List Loc) : Prop := ∃ ws tys, va_K D cls tys s ∧ va_P D cls ws H ∧ va_D A ws ∧ va_S A H0 H locs ∧ hR ad ws tys h
def nwOK (U : State) : Prop := va_AO mR8 U ∧ va_Nw (.methodLinkNest "FunDesk" 9 ⟨"FunDesk$Line", "<init>", "()V"⟩ "FunDesk") U ∧ va_Nw (.methodLinkNest "FunDesk" 18 ⟨"FunDesk$Tree", "<init>", "()V"⟩ "FunDesk") U ∧ va_Nw (.methodLinkNest "FunDesk" 37 ⟨"FunDesk$Types", "<init>", "()V"⟩ "FunDesk") U
theorem nwOK.warm {s U : State} (hW : s.WarmedH U.vm) (h : nwOK s) : nwOK U := ⟨h.1.moved hW.alike, va_Nw.warmM hW h.2.1, va_Nw.warmM hW h.2.2.1, va_Nw.warmM hW h.2.2.2⟩
theorem fits_vr {ad : List Nat} {t : FieldType} {v c : Value} (h : fits t v = true) (hv : vr ad v c) : fits t c = true := by
  cases v <;> first | (obtain rfl : c = _ := hv; exact h) | (obtain ⟨a, -, rfl⟩ := hv; cases t <;> first | rfl | exact h) | (cases t <;> cases h)
theorem narrow_fits {t : FieldType} {v : Value} (ho : okTy t = true) (h : fits t v = true) : narrow t v = v := by
  cases t <;> first | (cases ho; done) | skip
  all_goals cases v <;> first | rfl | (cases h; done) | skip
  all_goals (simp only [fits, Bool.or_eq_true, beq_iff_eq] at h; rcases h with rfl | rfl <;> rfl)
end
section
/-! What reads and writes the heap. -/
theorem cls_own {a : Nat} {q : vw_C} {own : String} (h : cls[a]? = some q) (h2 : ownN[a]? = some own) : q.1 = own := by
  have e : cls.map (fun q => q.1) = ownN.take 12 := rfl
  have h3 : (cls.map (fun q => q.1))[a]? = some q.1 := by rw [List.getElem?_map, h]; rfl
  rw [e, List.getElem?_take_of_lt (cls_lt h), h2] at h3
  exact (Option.some.inj h3).symm
theorem u_ws_g {q : vw_C} {ty : Nat → FieldType} (h : clsOk q ty) : ∀ w ∈ u_ws q.1 q.2.1 q.2.2, w ∈ gtbl := by
  intro w hw
  refine in_gtbl (h.2.2.1 w hw) ?_
  obtain ⟨k, -, rfl⟩ := List.mem_map.mp hw
  unfold u_lay
  split <;> rfl
theorem link_f {own : String} {a b w : Nat} {ix : Nat} (h : (match cls[a]? with
    | some q => decide (b < q.2.2) && decide (lw_tbl[w]? = some (.fieldLink own ix q.1 (q.2.1 b).2.1 (q.2.1 b).2.2.1))
    | none => false) = true) : ∃ q, cls[a]? = some q ∧ b < q.2.2 ∧ lw_tbl[w]? = some (.fieldLink own ix q.1 (q.2.1 b).2.1 (q.2.1 b).2.2.1) := by
  split at h
  · next q hq =>
    rw [Bool.and_eq_true, decide_eq_true_eq, decide_eq_true_eq] at h
    exact ⟨q, hq, h.1, h.2⟩
  · cases h
theorem mArrL_spec {h : mHp} {st : List Value} {t : Nat} {q : List Value × mHp} (hh : mArrL h st t = some q) : ∃ j i r, st = .int j :: .ref i :: r ∧ hTag h i = t ∧ vp_in j (hLen h i) ∧ q = (hAt h i j.toNatClampNeg :: r, h) := by
  unfold mArrL at hh
  split at hh
  · next j i r =>
    split at hh
    · next o => cases hh; exact ⟨j, i, r, rfl, o.1, o.2, rfl⟩
    · cases hh
  · cases hh
theorem mArrS_spec {h : mHp} {st : List Value} {t : Nat} {ok : Value → Bool} {q : List Value × mHp} (hh : mArrS h st t ok = some q) : ∃ v j i r, st = v :: .int j :: .ref i :: r ∧ hTag h i = t ∧ vp_in j (hLen h i) ∧ ok v = true ∧ q = (r, hSet h i j.toNatClampNeg v) := by
  unfold mArrS at hh
  split at hh
  · next v j i r =>
    split at hh
    · next o => cases hh; exact ⟨v, j, i, r, rfl, o.1, o.2.1, o.2.2, rfl⟩
    · cases hh
  · cases hh
theorem vp_in_lt {j : Int32} {n : Nat} (h : vp_in j n) : j.toNatClampNeg < n := Nat.lt_of_not_le (fun q => h (Or.inr q))
theorem vr_default (ad : List Nat) (t : FieldType) : vr ad (defaultValue t) (defaultValue t) := by cases t <;> rfl
theorem char_fits {x : Int32} (h : fits .char (.int x) = true) : vp_nar .char x = x := by
  simp only [fits, Bool.and_eq_true, decide_eq_true_eq] at h
  obtain ⟨j, hj0, rfl⟩ := nI_of (x := x) (fun q => absurd h.1 (by simpa using q))
  have hj : j < 65536 := by
    have h2 := h.2
    rw [Int32.le_iff_toInt_le] at h2
    rw [nI_toInt (by omega)] at h2
    have : (65535 : Int32).toInt = 65535 := by decide
    omega
  unfold vp_nar
  rw [(pk_charN hj).1]
theorem bool_fits {x : Int32} (h : fits .boolean (.int x) = true) : vp_nar .boolean x = x := by
  simp only [fits, Bool.or_eq_true, beq_iff_eq] at h
  rcases h with rfl | rfl <;> rfl
theorem fits_int {t : FieldType} {v : Value} (ht : t = .char ∨ t = .boolean) (h : fits t v = true) : ∃ x, v = .int x := by
  rcases ht with rfl | rfl <;> cases v <;> first | exact ⟨_, rfl⟩ | cases h
theorem hAt_def (h : mHp) (i k : Nat) : hAt h i k = (h.2.2 i).2.2 k := rfl
section SVC
variable {p : Program} {l : Launch} {e : Env} {R : Room} {s : State} {m : MethodId} {args : Array Value} {below : List Frame} {meth : Method} {c : Code} {H : Heap} {locs : List Loc} {cells slots : Nat} {Q : State → Prop}
variable {pc : Nat} {ls : Array Slot} {cc : ByteArray} {D : va_G} {A : Nat → Prop} {H0 : Heap}
set_option maxHeartbeats 4000000 in
theorem s_mem {own : String} {y a b w n : Nat} {i : Instr} {st cst : List Value} {h : mHp} {q : List Value × mHp} {ad : List Nat} (hx : p.tables.exec = Jvm.exec) (hb : c.code = cc) (hown : s.vm.findClass own = some m.cls) (hts : ∀ w ∈ gtbl, w.before args s = true) (hnw : nwOK s)
    (hA : ∀ q, H0.size ≤ q → A q) (hinit : (mInf y).1.name = "<init>" → meth.name = "<init>") (hoy : ownN[mOwn y]? = some own)
    (hd : decode cc pc = .ok (i, n)) (hn : n = mLen n i) (hl : mLinkOk own a b w i = true) (hm : mMem y a b st h i = some q) (hr : rl ad st cst) (hW : mW D A H0 s ad h H locs)
    (hcells : cells + (q.2.1 - h.1) ≤ R.cells) (hslots : slots + (q.2.2.1 - h.2.1) ≤ R.slots)
    (k : ∀ ad' cst' H' locs', (∃ x, ad' = ad ++ x) → rl ad' q.1 cst' → mW D A H0 s ad' q.2 H' locs' → W p l e R s m args below meth c H' locs' (cells + (q.2.1 - h.1)) (slots + (q.2.2.1 - h.2.1)) Q (F0 m (pc + n) ls cst')) : W p l e R s m args below meth c H locs cells slots Q (F0 m pc ls cst) := by
  obtain ⟨ws, tys, hK, hP, hD, hS, hH⟩ := hW
  have same : ∀ {cst' : List Value}, q.2 = h → rl ad q.1 cst' → W p l e R s m args below meth c H locs cells slots Q (F0 m (pc + n) ls cst') := fun e1 e2 => W.widen (Nat.le_add_right _ _) (Nat.le_add_right _ _) (k ad _ H locs ⟨[], (List.append_nil _).symm⟩ e2 (by rw [e1]; exact ⟨ws, tys, hK, hP, hD, hS, hH⟩))
  have upd1 : ∀ {i0 a0 kw kk : Nat} {v : Value} {E E' : va_E} {cst' : List Value} {H1 : Heap} {locs1 : List Loc}, q.2 = hSet h i0 kk v → rl ad q.1 cst' → ad[i0]? = some a0 → hTag h i0 < 106 → ws[kw]? = some (a0, E) → cR ad tys ((h.2.2 i0).1, (h.2.2 i0).2.1, fun x => if x = kk then v else (h.2.2 i0).2.2 x) E' → va_P D cls (ws.set kw (a0, E')) H1 → va_D A (ws.set kw (a0, E')) → va_S A H0 H1 locs1 → W p l e R s m args below meth c H1 locs1 cells slots Q (F0 m (pc + n) ls cst') := fun e1 e2 g1 g2 g3 g4 g5 g6 g7 => W.widen (Nat.le_add_right _ _) (Nat.le_add_right _ _) (k ad _ _ _ ⟨[], (List.append_nil _).symm⟩ e2 (by rw [e1]; exact ⟨_, tys, hK, g5, g6, g7, hH.set g1 g2 g3 g4⟩))
  have new1 : ∀ {q0 t0 n0 : Nat} {f : Nat → Value} {E : va_E} {ty' : List (ClassId × FieldType)} {cst' : List Value} {H1 : Heap}, q.2 = hNew h t0 n0 f → rl (ad ++ [q0]) q.1 cst' → va_K D cls (tys ++ ty') s → va_P D cls (ws ++ [(q0, E)]) H1 → va_D A (ws ++ [(q0, E)]) → va_S A H0 H1 locs → cR (ad ++ [q0]) (tys ++ ty') (t0, n0, f) E → W p l e R s m args below meth c H1 locs (cells + 1) (slots + n0) Q (F0 m (pc + n) ls cst') := fun {q0 t0 n0 f E ty' cst' H1} e1 e2 g1 g2 g3 g4 g5 => W.widen (k := cells + (q.2.1 - h.1)) (n := slots + (q.2.2.1 - h.2.1)) (by rw [e1]; unfold hNew; dsimp only; omega) (by rw [e1]; unfold hNew; dsimp only; omega) (k (ad ++ [q0]) _ _ _ ⟨[q0], rfl⟩ e2 (by rw [e1]; exact ⟨_, _, g1, g2, g3, g4, hH.new g3 g5⟩))
  cases i with
  | getfield ix =>
    simp only [mLen] at hn; subst hn
    obtain ⟨qc, hq, hbq, hlk⟩ := link_f hl
    simp only [mMem] at hm
    split at hm
    · next i r =>
      split at hm
      · next hc =>
        cases hm
        obtain ⟨_, cr, rfl, ⟨a', hia, rfl⟩, hr⟩ := hr
        obtain ⟨kw, E, hk, hE⟩ := hH.2.1 i a' hia (by omega)
        have e1 : (h.2.2 i).1 = a := hc.1
        obtain ⟨fs, qc', rfl, hq', hlen, -, hfs⟩ := hE.obj (by omega)
        rw [e1] at hk hq'
        rw [hq] at hq'
        cases hq'
        have hlt : b < fs.length := by omega
        have ok := cls_ok _ _ hq
        exact va_get (C := qc.1) (T := qc.2.1) (N := qc.2.2) hx hb hts (u_ws_g ok) hown hK hP kw hk hq b hbq (hts _ (in_gtbl_at hlk rfl)) (fun x hxx => by rw [ok.2.2.2.2.2 b hbq] at hxx; exact hxx) (List.getElem?_eq_getElem hlt) hd (same rfl ⟨_, _, rfl, hfs b _ (List.getElem?_eq_getElem hlt), hr⟩)
      · cases hm
    · cases hm
  | putfield ix =>
    simp only [mLen] at hn; subst hn
    obtain ⟨qc, hq, hbq, hlk⟩ := link_f hl
    simp only [mMem] at hm
    split at hm
    · next v i r =>
      split at hm
      · next hc =>
        obtain ⟨hc1, hc2, hc3, hc4⟩ := hc
        cases hm
        obtain ⟨cv, _, rfl, hv, _, cr, rfl, ⟨a', hia, rfl⟩, hr⟩ := hr
        obtain ⟨kw, E, hk, hE⟩ := hH.2.1 i a' hia (by omega)
        have e1 : (h.2.2 i).1 = a := hc1
        obtain ⟨fs, qc', rfl, hq', hlen, hlen2, hfs⟩ := hE.obj (by omega)
        rw [e1] at hk hq'
        rw [hq] at hq'
        cases hq'
        have hlt : b < fs.length := by omega
        have ok := cls_ok _ _ hq
        have hfit := fits_vr hc3.2 hv
        have hnar := narrow_fits hc3.1 hfit
        have hE' : cR ad tys ((h.2.2 i).1, (h.2.2 i).2.1, fun x => if x = b then v else (h.2.2 i).2.2 x) (.inr (a, fs.set b cv)) := by
          refine ⟨e1, ⟨qc, hq, by rw [List.length_set]; exact hlen⟩, by rw [List.length_set]; exact hlen2, fun k' v' hk' => ?_⟩
          dsimp only at hk' ⊢
          by_cases g : k' = b
          · subst g
            rw [List.getElem?_set_self hlt] at hk'
            cases hk'
            rw [if_pos rfl]
            exact hv
          · rw [List.getElem?_set_ne (fun q => g q.symm)] at hk'
            rw [if_neg g]
            exact hfs k' v' hk'
        have hcl : cls.getD a (mR0, mT0, 0) = qc := by rw [List.getD_eq_getElem?_getD, hq]; rfl
        rw [hcl] at hc4
        cases hfin : (qc.2.1 b).2.2.2 with
        | false => exact va_put (C := qc.1) (T := qc.2.1) (N := qc.2.2) hx hb hts (u_ws_g ok) (clsTy a) ok.2.1 ok.1 hown hK hP hD hS kw hk hq b hbq (hts _ (in_gtbl_at hlk rfl)) (fun x hxx => by rw [ok.2.2.2.2.2 b hbq] at hxx; exact hxx) hfin (ok.2.1 b hbq) hnar hfit hlt hd (fun H1 locs1 g5 g6 g7 => upd1 rfl hr hia (by omega) hk hE' g5 g6 g7)
        | true =>
          rcases hc4 with hc4 | ⟨hc4, hc5⟩
          · rw [hfin] at hc4; cases hc4
          · rw [hc5] at hoy
            have ho := cls_own hq hoy
            exact va_putF (C := qc.1) (T := qc.2.1) (N := qc.2.2) hx hb hts (u_ws_g ok) (clsTy a) ok.2.1 ok.1 hown hK hP hD hS kw hk hq b hbq (hts _ (in_gtbl_at hlk rfl)) (fun x hxx => by rw [ok.2.2.2.2.2 b hbq] at hxx; exact hxx) hfin (hinit hc4) (by rw [ok.2.2.2.2.2 b hbq]; exact ho) (ok.2.1 b hbq) hnar hfit hlt hd (fun H1 locs1 g5 g6 g7 => upd1 rfl hr hia (by omega) hk hE' g5 g6 g7)
      · cases hm
    · cases hm
  | iaload =>
    simp only [mLen] at hn; subst hn; obtain ⟨j, i, r, rfl, ht, hin, rfl⟩ := mArrL_spec hm
    obtain ⟨_, _, rfl, rfl, _, cr, rfl, ⟨a', hia, rfl⟩, hr⟩ := hr
    obtain ⟨kw, E, hk, hE⟩ := hH.2.1 i a' hia (by omega)
    obtain ⟨cA, f, rfl, hty, hf⟩ := hE.i (Or.inl ⟨rfl, rfl⟩) ht
    obtain ⟨t0, ht0⟩ := List.getElem?_of_mem hty
    exact va_iald hx hb hK hP kw t0 hk ht0 hin hd (same rfl ⟨_, _, rfl, by rw [hAt_def, hf _ (vp_in_lt hin)]; rfl, hr⟩)
  | caload =>
    simp only [mLen] at hn; subst hn; obtain ⟨j, i, r, rfl, ht, hin, rfl⟩ := mArrL_spec hm
    obtain ⟨_, _, rfl, rfl, _, cr, rfl, ⟨a', hia, rfl⟩, hr⟩ := hr
    obtain ⟨kw, E, hk, hE⟩ := hH.2.1 i a' hia (by omega)
    obtain ⟨cA, f, rfl, hty, hf⟩ := hE.i (Or.inr (Or.inl ⟨rfl, rfl⟩)) ht
    obtain ⟨t0, ht0⟩ := List.getElem?_of_mem hty
    exact va_cald hx hb hK hP kw t0 hk ht0 hin hd (same rfl ⟨_, _, rfl, by rw [hAt_def, hf _ (vp_in_lt hin)]; rfl, hr⟩)
  | baload =>
    simp only [mLen] at hn; subst hn; obtain ⟨j, i, r, rfl, ht, hin, rfl⟩ := mArrL_spec hm
    obtain ⟨_, _, rfl, rfl, _, cr, rfl, ⟨a', hia, rfl⟩, hr⟩ := hr
    obtain ⟨kw, E, hk, hE⟩ := hH.2.1 i a' hia (by omega)
    obtain ⟨cA, f, rfl, hty, hf⟩ := hE.i (Or.inr (Or.inr ⟨rfl, rfl⟩)) ht
    obtain ⟨t0, ht0⟩ := List.getElem?_of_mem hty
    exact va_zald hx hb hK hP kw t0 hk ht0 hin hd (same rfl ⟨_, _, rfl, by rw [hAt_def, hf _ (vp_in_lt hin)]; rfl, hr⟩)
  | laload =>
    simp only [mLen] at hn; subst hn; obtain ⟨j, i, r, rfl, ht, hin, rfl⟩ := mArrL_spec hm
    obtain ⟨_, _, rfl, rfl, _, cr, rfl, ⟨a', hia, rfl⟩, hr⟩ := hr
    obtain ⟨kw, E, hk, hE⟩ := hH.2.1 i a' hia (by omega)
    obtain ⟨cA, f, rfl, hty, hf⟩ := hE.l ht
    obtain ⟨t0, ht0⟩ := List.getElem?_of_mem hty
    exact va_lald hx hb hK hP kw t0 hk ht0 hin hd (same rfl ⟨_, _, rfl, by rw [hAt_def, hf _ (vp_in_lt hin)]; rfl, hr⟩)
  | daload =>
    simp only [mLen] at hn; subst hn; obtain ⟨j, i, r, rfl, ht, hin, rfl⟩ := mArrL_spec hm
    obtain ⟨_, _, rfl, rfl, _, cr, rfl, ⟨a', hia, rfl⟩, hr⟩ := hr
    obtain ⟨kw, E, hk, hE⟩ := hH.2.1 i a' hia (by omega)
    obtain ⟨cA, f, rfl, hty, hf⟩ := hE.d ht
    obtain ⟨t0, ht0⟩ := List.getElem?_of_mem hty
    exact va_dald hx hb hK hP kw t0 hk ht0 hin hd (same rfl ⟨_, _, rfl, by rw [hAt_def, hf _ (vp_in_lt hin)]; rfl, hr⟩)
  | aaload =>
    simp only [mLen] at hn; subst hn; obtain ⟨j, i, r, rfl, ht, hin, rfl⟩ := mArrL_spec hm
    obtain ⟨_, _, rfl, rfl, _, cr, rfl, ⟨a', hia, rfl⟩, hr⟩ := hr
    obtain ⟨kw, E, hk, hE⟩ := hH.2.1 i a' hia (by omega)
    obtain ⟨cA, f, rfl, hty, hf⟩ := hE.q ht
    obtain ⟨t0, ht0⟩ := List.getElem?_of_mem hty
    exact va_aldq hx hb hK hP kw t0 hk ht0 hin hd (same rfl ⟨_, _, rfl, hf _ (vp_in_lt hin), hr⟩)
  | iastore =>
    simp only [mLen] at hn; subst hn; obtain ⟨v, j, i, r, rfl, ht, hin, ho, rfl⟩ := mArrS_spec hm
    obtain ⟨x, rfl⟩ := isI_spec ho
    obtain ⟨_, _, rfl, rfl, _, _, rfl, rfl, _, cr, rfl, ⟨a', hia, rfl⟩, hr⟩ := hr
    obtain ⟨kw, E, hk, hE⟩ := hH.2.1 i a' hia (by omega)
    obtain ⟨cA, f, rfl, hty, hf⟩ := hE.i (Or.inl ⟨rfl, rfl⟩) ht
    obtain ⟨t0, ht0⟩ := List.getElem?_of_mem hty
    refine va_iast hx hb hK hP hD hS kw t0 hk ht0 hin hd (fun H1 locs1 g5 g6 g7 => upd1 (E' := .inl (cA, (h.2.2 i).2.1, .inl (upd f j.toNatClampNeg x))) rfl hr hia (by omega) hk ⟨rfl, Or.inl ⟨ht, hty⟩, fun j' hj' => ?_⟩ g5 g6 g7)
    dsimp only [upd]
    split
    · rfl
    · exact hf j' hj'
  | castore =>
    simp only [mLen] at hn; subst hn; obtain ⟨v, j, i, r, rfl, ht, hin, ho, rfl⟩ := mArrS_spec hm
    obtain ⟨x, rfl⟩ := fits_int (Or.inl rfl) ho
    obtain ⟨_, _, rfl, rfl, _, _, rfl, rfl, _, cr, rfl, ⟨a', hia, rfl⟩, hr⟩ := hr
    obtain ⟨kw, E, hk, hE⟩ := hH.2.1 i a' hia (by omega)
    obtain ⟨cA, f, rfl, hty, hf⟩ := hE.i (Or.inr (Or.inl ⟨rfl, rfl⟩)) ht
    obtain ⟨t0, ht0⟩ := List.getElem?_of_mem hty
    refine va_cast hx hb hK hP hD hS kw t0 hk ht0 hin hd (fun H1 locs1 g5 g6 g7 => upd1 (E' := .inl (cA, (h.2.2 i).2.1, .inl (upd f j.toNatClampNeg (vp_nar .char x)))) rfl hr hia (by omega) hk ⟨rfl, Or.inr (Or.inl ⟨ht, hty⟩), fun j' hj' => ?_⟩ g5 g6 g7)
    dsimp only [upd]
    rw [char_fits ho]
    split
    · rfl
    · exact hf j' hj'
  | bastore =>
    simp only [mLen] at hn; subst hn; obtain ⟨v, j, i, r, rfl, ht, hin, ho, rfl⟩ := mArrS_spec hm
    obtain ⟨x, rfl⟩ := fits_int (Or.inr rfl) ho
    obtain ⟨_, _, rfl, rfl, _, _, rfl, rfl, _, cr, rfl, ⟨a', hia, rfl⟩, hr⟩ := hr
    obtain ⟨kw, E, hk, hE⟩ := hH.2.1 i a' hia (by omega)
    obtain ⟨cA, f, rfl, hty, hf⟩ := hE.i (Or.inr (Or.inr ⟨rfl, rfl⟩)) ht
    obtain ⟨t0, ht0⟩ := List.getElem?_of_mem hty
    refine va_zast hx hb hK hP hD hS kw t0 hk ht0 hin hd (fun H1 locs1 g5 g6 g7 => upd1 (E' := .inl (cA, (h.2.2 i).2.1, .inl (upd f j.toNatClampNeg (vp_nar .boolean x)))) rfl hr hia (by omega) hk ⟨rfl, Or.inr (Or.inr ⟨ht, hty⟩), fun j' hj' => ?_⟩ g5 g6 g7)
    dsimp only [upd]
    rw [bool_fits ho]
    split
    · rfl
    · exact hf j' hj'
  | lastore =>
    simp only [mLen] at hn; subst hn; obtain ⟨v, j, i, r, rfl, ht, hin, ho, rfl⟩ := mArrS_spec hm
    obtain ⟨x, rfl⟩ := isL_spec ho
    obtain ⟨_, _, rfl, rfl, _, _, rfl, rfl, _, cr, rfl, ⟨a', hia, rfl⟩, hr⟩ := hr
    obtain ⟨kw, E, hk, hE⟩ := hH.2.1 i a' hia (by omega)
    obtain ⟨cA, f, rfl, hty, hf⟩ := hE.l ht
    obtain ⟨t0, ht0⟩ := List.getElem?_of_mem hty
    refine va_last hx hb hK hP hD hS kw t0 hk ht0 hin hd (fun H1 locs1 g5 g6 g7 => upd1 (E' := .inl (cA, (h.2.2 i).2.1, .inr (.inl (vp_updL f j.toNatClampNeg x)))) rfl hr hia (by omega) hk ⟨rfl, ⟨ht, hty⟩, fun j' hj' => ?_⟩ g5 g6 g7)
    dsimp only [vp_updL]
    split
    · rfl
    · exact hf j' hj'
  | dastore =>
    simp only [mLen] at hn; subst hn; obtain ⟨v, j, i, r, rfl, ht, hin, ho, rfl⟩ := mArrS_spec hm
    obtain ⟨x, rfl⟩ := isD_spec ho
    obtain ⟨_, _, rfl, rfl, _, _, rfl, rfl, _, cr, rfl, ⟨a', hia, rfl⟩, hr⟩ := hr
    obtain ⟨kw, E, hk, hE⟩ := hH.2.1 i a' hia (by omega)
    obtain ⟨cA, f, rfl, hty, hf⟩ := hE.d ht
    obtain ⟨t0, ht0⟩ := List.getElem?_of_mem hty
    refine va_dast hx hb hK hP hD hS kw t0 hk ht0 hin hd (fun H1 locs1 g5 g6 g7 => upd1 (E' := .inl (cA, (h.2.2 i).2.1, .inr (.inr (.inr (.inl (vf_upd f j.toNatClampNeg x)))))) rfl hr hia (by omega) hk ⟨rfl, ⟨ht, hty⟩, fun j' hj' => ?_⟩ g5 g6 g7)
    dsimp only [vf_upd]
    split
    · rfl
    · exact hf j' hj'
  | aastore =>
    simp only [mLen] at hn; subst hn
    simp only [mMem] at hm
    split at hm
    · next v j i r =>
      split at hm
      · next hc =>
        obtain ⟨ht, hin, hc3⟩ := hc
        cases hm
        obtain ⟨_, _, rfl, ⟨av, hva, rfl⟩, _, _, rfl, rfl, _, cr, rfl, ⟨a', hia, rfl⟩, hr⟩ := hr
        obtain ⟨kw, E, hk, hE⟩ := hH.2.1 i a' hia (by omega)
        obtain ⟨cA, f, rfl, hty, hf⟩ := hE.q ht
        obtain ⟨t0, ht0⟩ := List.getElem?_of_mem hty
        obtain ⟨kv, Ev, hkv, hEv⟩ := hH.2.1 v av hva (by omega)
        have e1 : (h.2.2 v).1 = 8 := hc3
        obtain ⟨fs, qc', rfl, hq', hlen, -, hfs⟩ := hEv.obj (by omega)
        rw [e1] at hkv hq'
        cases hq'
        refine va_astq (r := (mR8, mT8, 6)) hx hb hK hP hD hS kw t0 kv 8 hk ht0 hkv rfl hin hd (fun H1 locs1 g5 g6 g7 => upd1 (E' := .inl (cA, (h.2.2 i).2.1, .inr (.inr (.inr (.inr (va_up f j.toNatClampNeg (some av))))))) rfl hr hia (by omega) hk ⟨rfl, ⟨ht, hty⟩, fun j' hj' => ?_⟩ g5 g6 g7)
        dsimp only [va_up]
        by_cases g : j' = j.toNatClampNeg
        · rw [if_pos g, if_pos g]; exact ⟨av, hva, rfl⟩
        · rw [if_neg g, if_neg g]; exact hf j' hj'
      · cases hm
    · cases hm
  | arraylength =>
    simp only [mLen] at hn; subst hn
    simp only [mMem] at hm
    split at hm
    · next i r =>
      split at hm
      · next hc =>
        cases hm
        obtain ⟨_, cr, rfl, ⟨a', hia, rfl⟩, hr⟩ := hr
        obtain ⟨kw, E, hk, hE⟩ := hH.2.1 i a' hia (by omega)
        have e1 : (h.2.2 i).1 = hTag h i := rfl
        have go : ∀ {cA : ClassId} {x : vp_A} {ft : FieldType}, E = .inl (cA, x) → x.1 = hLen h i → (cA, ft) ∈ tys → W p l e R s m args below meth c H locs cells slots Q (F0 m pc ls (.ref a' :: cr)) := by
          intro cA x ft e2 e3 hty
          obtain ⟨t0, ht0⟩ := List.getElem?_of_mem hty
          rw [e2] at hk
          exact va_alen hx hb hK hP kw t0 hk ht0 (v := Int32.ofNat (hLen h i)) (by rw [e3]) hd (same rfl ⟨_, _, rfl, rfl, hr⟩)
        rcases (show hTag h i = 100 ∨ hTag h i = 101 ∨ hTag h i = 102 ∨ hTag h i = 103 ∨ hTag h i = 104 ∨ hTag h i = 105 by omega) with g | g | g | g | g | g
        · obtain ⟨cA, f, e2, hty, -⟩ := hE.i (Or.inl ⟨rfl, rfl⟩) g; exact go e2 rfl hty
        · obtain ⟨cA, f, e2, hty, -⟩ := hE.i (Or.inr (Or.inl ⟨rfl, rfl⟩)) g; exact go e2 rfl hty
        · obtain ⟨cA, f, e2, hty, -⟩ := hE.i (Or.inr (Or.inr ⟨rfl, rfl⟩)) g; exact go e2 rfl hty
        · obtain ⟨cA, f, e2, hty, -⟩ := hE.l g; exact go e2 rfl hty
        · obtain ⟨cA, f, e2, hty, -⟩ := hE.d g; exact go e2 rfl hty
        · obtain ⟨cA, f, e2, hty, -⟩ := hE.q g; exact go e2 rfl hty
      · cases hm
    · cases hm
  | new ix =>
    simp only [mLen] at hn; subst hn
    simp only [mMem] at hm
    split at hm
    · next hc =>
      cases hm
      simp only [mLinkOk] at hl
      rw [if_neg (by omega)] at hl
      split at hl
      · next qc hq =>
        have hlk := of_decide_eq_true hl
        have ok := cls_ok _ _ hq
        have hcl : cls.getD a (mR0, mT0, 0) = qc := by rw [List.getD_eq_getElem?_getD, hq]; rfl
        rw [hcl] at hcells hslots new1
        have hcells : cells + (h.1 + 1 - h.1) ≤ R.cells := hcells
        have hslots : slots + (h.2.1 + qc.2.2 - h.2.1) ≤ R.slots := hslots
        refine va_new (C := qc.1) (T := qc.2.1) (N := qc.2.2) (fs := (List.range qc.2.2).map (fun k => defaultValue (clsTy a k))) hx hb hts (u_ws_g ok) (clsTy a) ok.2.1 hown (hts _ (in_gtbl_at hlk rfl)) (hts _ (in_gtbl ok.2.2.2.1 rfl)) (hts _ (in_gtbl ok.2.2.2.2.1 rfl)) hK hP hD hS hA hq (fun j hj => ?_) (by omega) (by omega) hd (fun q0 H1 g2 g3 g4 => new1 (ty' := []) rfl ⟨_, _, rfl, ⟨q0, by rw [← hH.1]; simp, rfl⟩, hr.app⟩ (by rw [List.append_nil]; exact hK) g2 g3 g4 ?_)
        · unfold vp_V
          rw [List.getD_eq_getElem?_getD, List.getElem?_map, List.getElem?_range hj]
          rfl
        · refine ⟨rfl, ⟨qc, hq, by simp⟩, by simp, fun k' v' hk' => ?_⟩
          dsimp only at hk' ⊢
          rw [List.getElem?_map] at hk'
          obtain ⟨z, hz, rfl⟩ := Option.map_eq_some_iff.mp hk'
          have : z = k' := by
            rw [List.getElem?_eq_some_iff] at hz
            obtain ⟨hz1, hz2⟩ := hz
            rw [List.getElem_range] at hz2
            exact hz2.symm
          subst this
          exact vr_default _ _
      · cases hl
    · cases hm
  | newarray t =>
    simp only [mLen] at hn; subst hn
    simp only [mMem] at hm
    split at hm
    · next z r kk ft hz =>
      split at hm
      · next hc =>
        cases hm
        obtain ⟨_, cr, rfl, rfl, hr⟩ := hr
        have hcells : cells + (h.1 + 1 - h.1) ≤ R.cells := hcells
        have hslots : slots + (h.2.1 + z.toNatClampNeg - h.2.1) ≤ R.slots := hslots
        have hrl : ∀ q0 : Nat, rl (ad ++ [q0]) (.ref h.1 :: r) (.ref q0 :: cr) := fun q0 => ⟨_, _, rfl, ⟨q0, by rw [← hH.1]; simp, rfl⟩, hr.app⟩
        have hin : ∀ {x : ClassId × FieldType}, x ∈ tys ++ [x] := fun {x} => List.mem_append_right _ List.mem_cons_self
        cases t with
        | int => cases hz; exact va_newa (ty := .int) (a0 := (z.toNatClampNeg, .inl (fun _ => 0))) hx hb (hts _ (in_gtbl (List.mem_of_getElem? (i := 181) (by decide +kernel)) rfl)) rfl hK hP hD hS hA (fun _ => rfl) hc.1 rfl (by simp only [componentBytes]; omega) (by omega) (by omega) hd (fun q0 cA H1 g1 g2 g3 g4 => new1 rfl (hrl q0) g1 g2 g3 g4 ⟨rfl, Or.inl ⟨rfl, hin⟩, fun _ _ => rfl⟩)
        | char => cases hz; exact va_newa (ty := .char) (a0 := (z.toNatClampNeg, .inl (fun _ => 0))) hx hb (hts _ (in_gtbl (List.mem_of_getElem? (i := 1396) (by decide +kernel)) rfl)) rfl hK hP hD hS hA (fun _ => rfl) hc.1 rfl (by simp only [componentBytes]; omega) (by omega) (by omega) hd (fun q0 cA H1 g1 g2 g3 g4 => new1 rfl (hrl q0) g1 g2 g3 g4 ⟨rfl, Or.inr (Or.inl ⟨rfl, hin⟩), fun _ _ => rfl⟩)
        | boolean => cases hz; exact va_newa (ty := .boolean) (a0 := (z.toNatClampNeg, .inl (fun _ => 0))) hx hb (hts _ (in_gtbl (List.mem_of_getElem? (i := 1397) (by decide +kernel)) rfl)) rfl hK hP hD hS hA (fun _ => rfl) hc.1 rfl (by simp only [componentBytes]; omega) (by omega) (by omega) hd (fun q0 cA H1 g1 g2 g3 g4 => new1 rfl (hrl q0) g1 g2 g3 g4 ⟨rfl, Or.inr (Or.inr ⟨rfl, hin⟩), fun _ _ => rfl⟩)
        | long => cases hz; exact va_newa (ty := .long) (a0 := (z.toNatClampNeg, .inr (.inl (fun _ => 0)))) hx hb (hts _ (in_gtbl (List.mem_of_getElem? (i := 1398) (by decide +kernel)) rfl)) rfl hK hP hD hS hA (fun _ => rfl) hc.1 rfl (by simp only [componentBytes]; omega) (by omega) (by omega) hd (fun q0 cA H1 g1 g2 g3 g4 => new1 rfl (hrl q0) g1 g2 g3 g4 ⟨rfl, ⟨rfl, hin⟩, fun _ _ => rfl⟩)
        | double => cases hz; exact va_newa (ty := .double) (a0 := (z.toNatClampNeg, .inr (.inr (.inr (.inl (fun _ => 0)))))) hx hb (hts _ (in_gtbl (List.mem_of_getElem? (i := 1399) (by decide +kernel)) rfl)) rfl hK hP hD hS hA (fun _ => rfl) hc.1 rfl (by simp only [componentBytes]; omega) (by omega) (by omega) hd (fun q0 cA H1 g1 g2 g3 g4 => new1 rfl (hrl q0) g1 g2 g3 g4 ⟨rfl, ⟨rfl, hin⟩, fun _ _ => rfl⟩)
        | _ => cases hz
      · cases hm
    · cases hm
  | anewarray ix =>
    simp only [mLen] at hn; subst hn
    simp only [mMem] at hm
    split at hm
    · next z r =>
      split at hm
      · next hc =>
        cases hm
        obtain ⟨_, cr, rfl, rfl, hr⟩ := hr
        have hcells : cells + (h.1 + 1 - h.1) ≤ R.cells := hcells
        have hslots : slots + (h.2.1 + z.toNatClampNeg - h.2.1) ≤ R.slots := hslots
        simp only [mLinkOk, Bool.and_eq_true, decide_eq_true_eq] at hl
        exact va_newq (C := mR8) hx hb hown (hts _ (in_gtbl_at hl.2 rfl)) hnw.1 hK hP hD hS hA hc.1 rfl (by omega) (by omega) (by omega) hd (fun q0 cA H1 g1 g2 g3 g4 => new1 rfl ⟨_, _, rfl, ⟨q0, by rw [← hH.1]; simp, rfl⟩, hr.app⟩ g1 g2 g3 g4 ⟨rfl, ⟨rfl, List.mem_append_right _ List.mem_cons_self⟩, fun _ _ => rfl⟩)
      · cases hm
    · cases hm
  | _ => simp only [mMem] at hm; cases hm
end SVC
end
section
/-! A run's state may be looked at from where it stands now. -/
theorem stand_rebase {p : Program} {l : Launch} {e : Env} {R : Room} {s : State} {m : MethodId} {args : Array Value} {below : List Frame} {meth : Method} {c : Code} {T : State} {locs : List Loc} {cells slots : Nat} (X : Stand p l e R s m args below meth c T locs cells slots) (h1 : cells ≤ R.cells) (h2 : slots ≤ R.slots) :
    Stand p l e { R with cells := R.cells - cells, slots := R.slots - slots } { s with heap := T.heap, slotsUsed := T.slotsUsed } m args below meth c T [] 0 0 := by
  have hr := X.room
  have hs := X.heapSize
  have hu := X.used
  have hb := X.book
  have hsame := X.same
  refine ⟨X.admits, X.cas, X.clock, X.frames, ?_, X.hears, X.method, X.code, X.here, X.tail, X.warmed, X.limits, X.bytes, ?_⟩
  · unfold State.hasRoom at hr ⊢
    simp only [Bool.and_eq_true, decide_eq_true_eq] at hr ⊢
    obtain ⟨⟨⟨⟨g1, g2⟩, g3⟩, g4⟩, g5⟩ := hr
    exact ⟨⟨⟨⟨g1, g2⟩, by show T.heap.size + (R.cells - cells) ≤ _; omega⟩, by show T.slotsUsed + (R.slots - slots) ≤ _; omega⟩, hb⟩
  · refine ⟨?_, Nat.le_refl _, Nat.le_refl _, ?_, ?_, fun a cl hc => ⟨cl, hc, rfl, rfl, fun _ _ => rfl⟩⟩
    · exact hsame.1
    · show T.slotsUsed = T.slotsUsed + ((T.heap.toList.drop T.heap.size).map (·.slots.size)).sum
      rw [List.drop_of_length_le (by simp)]
      rfl
    · show ((T.heap.toList.drop T.heap.size).map (·.slots.size)).sum ≤ 0
      rw [List.drop_of_length_le (by simp)]
      exact Nat.le_refl _
theorem same_old {s t : State} {k n : Nat} (h : s.sameButNew t [] k n) {q : Nat} (hq : q < s.heap.size) : t.heap[q]? = s.heap[q]? := by
  obtain ⟨-, -, -, -, -, h6⟩ := h
  obtain ⟨c', h1, h2, h3, h4⟩ := h6 q _ (Array.getElem?_eq_getElem hq)
  rw [h1, Array.getElem?_eq_getElem hq]
  have e : c'.slots = s.heap[q].slots := by
    apply Array.ext_getElem?
    intro i
    exact h4 i (by simp)
  rw [h2, e]
end
section
/-! What the making of an exception asks of the start, and the end of a method that throws one. -/
def excN (k : Nat) : String := ["java/lang/IllegalArgumentException", "java/util/NoSuchElementException", "java/lang/UnsupportedOperationException", "java/lang/IllegalStateException", "java/lang/IndexOutOfBoundsException"].getD k ""
def excR : List String := ["java/lang/RuntimeException", "java/lang/Exception"]
def excW (w : Cond) : Prop := (∃ a b, w = .castable a b) ∨ ∃ x, w = .declares x
def excWs : List Cond := [.castable (excN 0) (excN 0), .castable (excN 1) (excN 1), .castable (excN 2) (excN 2), .castable (excN 3) (excN 3), .castable (excN 4) (excN 4), .declares (Bundle.initS "java/lang/RuntimeException"), .declares (Bundle.initS "java/lang/Exception"), .declares (Bundle.initS "java/lang/Throwable")]
def strTab : List (Nat × String) := [(82, "the line is no expression"), (92, "a name is not bound"), (100, "the expression is ill typed"), (153, "nothing is worked out"), (166, "there is nothing else to ask of a value"), (177, "there is no such item")]
def excNo : List (Nat × Nat) := [(0, 1), (0, 2), (0, 3), (0, 4), (1, 0), (1, 2), (1, 3), (1, 4), (2, 0), (2, 1), (2, 3), (2, 4), (3, 0), (3, 1), (3, 2), (3, 4), (4, 0), (4, 1), (4, 2), (4, 3)]
def exOK (U : State) : Prop := (∀ w ∈ excWs, va_Nw w U) ∧ ((Cond.laysStatic Bundle.tN "UNASSIGNED_STACK" Bundle.steD).before #[] U = true ∧ (Cond.isRef (.static Bundle.tN "UNASSIGNED_STACK" Bundle.steD)).before #[] U = true) ∧ ((Cond.laysStatic Bundle.tN "SUPPRESSED_SENTINEL" Bundle.listD).before #[] U = true ∧ (Cond.isRef (.static Bundle.tN "SUPPRESSED_SENTINEL" Bundle.listD)).before #[] U = true) ∧ (∀ t ∈ strTab, ∃ q, vk_R "FunDesk" t.1 t.2 q U) ∧ (∀ t ∈ excNo, va_Nc (excN t.1) (excN t.2) U)
theorem lS_move {s U : State} {C n d : String} {A' : Array Value} (hv : U.vm = s.vm) (hk : ∀ (a : Nat) (cell : Cell), s.heap[a]? = some cell → cell.vm.isStatics = true → U.heap[a]? = some cell) (h : (Cond.laysStatic C n d).before #[] s = true) : (Cond.laysStatic C n d).before A' U = true := by
  obtain ⟨c, k, i, f, a, cell, hc, hf, h1, ha, hcell, h3, h4, h5, h6⟩ := Cond.laysStatic_spec h
  have hc' : U.vm.findClass C = some c := by rw [hv]; exact hc
  have hf' : U.fieldFound? C n d = some (c, k, i, f) := by unfold State.fieldFound? at hf ⊢; rw [hv]; exact hf
  have hcell' := hk a cell hcell h3
  unfold Cond.before Cond.holds
  simp [Cond.value, hc', hf', ha, hcell', h1, h3, h4, h5, h6]
theorem iR_move {s U : State} {C n d : String} {A' : Array Value} (hv : U.vm = s.vm) (hk : ∀ (a : Nat) (cell : Cell), s.heap[a]? = some cell → cell.vm.isStatics = true → U.heap[a]? = some cell) (hl : (Cond.laysStatic C n d).before #[] s = true) (h : (Cond.isRef (.static C n d)).before #[] s = true) : (Cond.isRef (.static C n d)).before A' U = true := by
  obtain ⟨c, k, i, f, a, cell, hc, hf, h1, ha, hcell, h3, h4, h5, h6⟩ := Cond.laysStatic_spec hl
  have hf' : U.fieldFound? C n d = some (c, k, i, f) := by unfold State.fieldFound? at hf ⊢; rw [hv]; exact hf
  have hcell' := hk a cell hcell h3
  have e1 : (Term.static C n d).eval #[] s none [] s = cell.slots[f.slot]? := by simp [Term.eval, State.fieldNamed?, hf, h1, ha, hcell, h3]
  have e2 : (Term.static C n d).eval A' U none [] U = cell.slots[f.slot]? := by simp [Term.eval, State.fieldNamed?, hf', h1, ha, hcell', h3]
  unfold Cond.before Cond.holds at h ⊢
  simp only [Cond.value, e1] at h
  simp only [Cond.value, e2]
  exact h
theorem exOK.move {s U : State} (hW : s.WarmedH U.vm) (hk : ∀ (a : Nat) (cell : Cell), s.heap[a]? = some cell → cell.vm.isStatics = true → U.heap[a]? = some cell) (h : exOK s) : exOK U := by
  obtain ⟨h1, ⟨h2, h3⟩, ⟨h4, h5⟩, h6, h7⟩ := h
  have sh : ∀ {w : Cond}, w.keeps = true → w.before #[] s = true → w.before #[] (s.setVm U.vm) = true := fun hw hb => Cond.holds_shifted (State.Shifted.of_warmed hW) _ [] hw hb
  refine ⟨fun w hw => ?_, ⟨lS_move (s := s.setVm U.vm) rfl hk (sh rfl h2), iR_move (s := s.setVm U.vm) rfl hk (sh rfl h2) (sh rfl h3)⟩, ⟨lS_move (s := s.setVm U.vm) rfl hk (sh rfl h4), iR_move (s := s.setVm U.vm) rfl hk (sh rfl h4) (sh rfl h5)⟩, fun t ht => ?_, fun t ht => (h7 t ht).moved hW.alike⟩
  · have h0 := h1 w hw
    have hs : (∃ a b, w = .castable a b) ∨ ∃ x, w = .declares x := by
      simp only [excWs, List.mem_cons, List.not_mem_nil, or_false] at hw
      rcases hw with rfl | rfl | rfl | rfl | rfl | rfl | rfl | rfl <;> first | exact Or.inl ⟨_, _, rfl⟩ | exact Or.inr ⟨_, rfl⟩
    rcases hs with ⟨a, b, rfl⟩ | ⟨x, rfl⟩
    · exact va_Nw.warmC hW h0
    · exact va_Nw.warmD hW h0
  · obtain ⟨q, hq⟩ := h6 t ht
    exact ⟨q, hq.warm hW⟩
theorem exOK.calling {U : State} {g : JFrame} {mk : MethodId} {a : Array Value} (h : exOK U) : exOK (U.calling g mk a) := exOK.move (s := U) (State.WarmedH.refl U) (fun _ _ h _ => h) h
end
section
/-! NoSuchElementException: its constructor passes its message on by another entry of its pool than the others'. -/
section SVN
variable {p : Program} {l : Launch} {e : Env} {R : Room} {s : State} {m : MethodId} {args : Array Value} {below : List Frame} {meth : Method} {c : Code} {T : State} {locs : List Loc} {cells slots : Nat}
def nseN : String := "java/util/NoSuchElementException"
def nseTail : List Cond := [.methodLink "FunDesk" 94 (Bundle.initS nseN), .instantiable nseN 6, .castable nseN nseN, .selects nseN Bundle.tFill0 Bundle.tFill0, .selects nseN Bundle.tFill Bundle.tFill,
   .lays nseN Bundle.tN "cause" "Ljava/lang/Throwable;", .lays nseN Bundle.tN "stackTrace" Bundle.steD, .lays nseN Bundle.tN "suppressedExceptions" Bundle.listD, .lays nseN Bundle.tN "detailMessage" "Ljava/lang/String;",
   .isRef (.static Bundle.tN "UNASSIGNED_STACK" Bundle.steD), .isRef (.static Bundle.tN "SUPPRESSED_SENTINEL" Bundle.listD),
   .fieldLink Bundle.tN 198 Bundle.tN "backtrace" "Ljava/lang/Object;", .lays Bundle.tN Bundle.tN "backtrace" "Ljava/lang/Object;", .lays nseN Bundle.tN "backtrace" "Ljava/lang/Object;"]
def nseWs : List Cond := Bundle.throwableAtoms ++ (Bundle.throwableSAtoms ++ (Bundle.passSAtoms nseN "java/lang/RuntimeException" 13 ⟨#[0x2a, 0x2b, 0xb7, 0x00, 0x0d, 0xb1]⟩ ++ (Bundle.chainSAtoms "java/lang/RuntimeException" ["java/lang/Exception"] ++ nseTail)))
set_option maxHeartbeats 4000000 in
theorem nse_thrown (X : Stand p l e R s m args below meth c T locs cells slots) (hexec : p.tables.exec = Jvm.exec) (htr : e.platform.stackTraces = false) (hown : s.vm.findClass "FunDesk" = some m.cls)
    (h : ∀ a ∈ nseWs, a.before args s = true) (hlocs : locs = []) {a : Addr} {cX : ClassId} {kX : Class} (hX : s.vm.findClass nseN = some cX) (hkX : s.vm.classes[cX]? = some kX) (hcell : T.heap[a]? = some (freshCell cX kX)) (hnew : s.heap.size ≤ a)
    {msg : Value} (hmsg : msg.isRef = true) {g : JFrame} (hg : g.method = m) (hsize : g.locals.size = c.maxLocals) (hlocked : g.locked = none) (hentered : g.entered = []) {rest : List Value} (hstack : g.stack = msg :: .ref a :: .ref a :: rest)
    (d6 : decode c.code g.pc = .ok (.invokespecial 94, 3)) (d9 : decode c.code (g.pc + 3) = .ok (.athrow, 1)) (hout : ∀ x ∈ c.exceptionTable.toList, covers x (g.pc + 3) = false)
    (hRf : 5 < R.frames) (hRl : 2 * g.monitorRoom + ((Value.ref a :: rest).map fun v => v.category).sum + 81 ≤ R.locals) (hlocks : meth.locks = false) :
    ∃ U : State, Steps p.tables e below (T.setTop g) U ∧ U.status = .running ∧ Ended U below (.threw a) ∧ s.WarmedH U.vm ∧ s.sameButNew ({ U with vm := s.vm } : State) locs cells slots ∧ ∃ ce, U.heap[a]? = some ce ∧ s.vm.findClass nseN = some ce.cls ∧ ce.vm = .none := by
  have hf1 : e.platform.frameOwnsMonitors = true := by rw [X.admits.platform]
  have hf2 : e.platform.finalization = false := by rw [X.admits.platform]
  have hpl : e.platform.magicAccessors = ({} : Platform).magicAccessors := by rw [X.admits.platform]
  have at1 : ∀ w ∈ Bundle.throwableAtoms, w.before args s = true := fun w hw => h w (List.mem_append_left _ hw)
  have at2 : ∀ w ∈ Bundle.throwableSAtoms, w.before args s = true := fun w hw => h w (List.mem_append_right _ (List.mem_append_left _ hw))
  have at3 : ∀ w ∈ Bundle.passSAtoms nseN "java/lang/RuntimeException" 13 ⟨#[0x2a, 0x2b, 0xb7, 0x00, 0x0d, 0xb1]⟩, w.before args s = true := fun w hw => h w (List.mem_append_right _ (List.mem_append_right _ (List.mem_append_left _ hw)))
  have at4 : ∀ w ∈ Bundle.chainSAtoms "java/lang/RuntimeException" ["java/lang/Exception"], w.before args s = true := fun w hw => h w (List.mem_append_right _ (List.mem_append_right _ (List.mem_append_right _ (List.mem_append_left _ hw))))
  have at5 : ∀ w ∈ nseTail, w.before args s = true := fun w hw => h w (List.mem_append_right _ (List.mem_append_right _ (List.mem_append_right _ (List.mem_append_right _ hw))))
  have tl : ∀ (j : Nat) (w : Cond), nseTail[j]? = some w → w.before args s = true := fun j w hw => at5 w (List.mem_of_getElem? hw)
  -- the constructors over it
  obtain ⟨TT, Z0, LT, -, Y⟩ := ThrowableC.of_atoms (args := args) hf1 hf2 hpl at1
  obtain ⟨Z, M, LZ, LM, hnZ⟩ := Init0T.ofS_atoms (args := args) hpl LT Y at2
  obtain ⟨P0, L0, hm0, hs0⟩ := PassC.ofS_atoms (args := args) (s := s) hpl (X := nseN) (Y := "java/lang/RuntimeException") (by decide +kernel) (by decide +kernel) (by decide +kernel) (by decide +kernel) (by decide +kernel) (by decide +kernel) at3
  obtain ⟨P1, Ps, hlen, L1, hL, hm1, hk1, hk2⟩ := Bundle.chainS (args := args) hpl hnZ ["java/lang/Exception"] "java/lang/RuntimeException" (by decide +kernel) (by decide +kernel) at4
  have hsup : P0.sup = P1.m := Option.some.inj (hs0.symm.trans hm1)
  have hfound : s.vm.findClass nseN = some P0.m.cls := findClass_of_methodNamed hm0
  cases Option.some.inj (hX.symm.trans hfound)
  obtain ⟨c1, kX', hc1, hk, hord, -, -, -⟩ := Cond.instantiable_spec (tl 1 _ rfl)
  cases Option.some.inj (hc1.symm.trans hfound)
  cases Option.some.inj (hkX.symm.trans hk)
  have sel0 : selectMethod e.platform s.vm P0.m.cls TT.fill0 = .method TT.fill0 := by
    obtain ⟨c2, r2, m2, q1, q2, q3, q4, -⟩ := Cond.selects_spec (tl 3 _ rfl)
    cases Option.some.inj (q1.symm.trans hfound)
    cases Option.some.inj (q2.symm.trans (State.methodFound?_of_named Y.fill0 (by decide)))
    cases Option.some.inj (q3.symm.trans Y.fill0)
    rw [Launch.admits_selectMethod X.admits]; exact q4
  have selF : selectMethod e.platform s.vm P0.m.cls TT.fill = .method TT.fill := by
    obtain ⟨c2, r2, m2, q1, q2, q3, q4, -⟩ := Cond.selects_spec (tl 4 _ rfl)
    cases Option.some.inj (q1.symm.trans hfound)
    cases Option.some.inj (q2.symm.trans (State.methodFound?_of_named Y.fill (by decide)))
    cases Option.some.inj (q3.symm.trans Y.fill)
    rw [Launch.admits_selectMethod X.admits]; exact q4
  -- the statics
  obtain ⟨cS, hcS, hiss⟩ := Y.statics
  obtain ⟨u0, hu0⟩ := Cond.staticRefV Y.unassigned LT.unassignedStatic LT.statics hcS hiss (tl 9 _ rfl)
  obtain ⟨sen, hsen⟩ := Cond.staticRefV Y.sentinel LT.sentinelStatic LT.statics hcS hiss (tl 10 _ rfl)
  have hcS1 : T.heap[TT.aS]? = some cS := by
    subst hlocs
    have := same_old X.same (q := TT.aS) (Array.getElem?_eq_some_iff.mp hcS).1
    have e2 : (T.setVm s.vm).heap = T.heap := rfl
    rw [e2] at this
    rw [this]; exact hcS
  have hknown : cS.vm ≠ .unknown := fun hu => by rw [hu] at hiss; cases hiss
  have hne : TT.aS ≠ a := Nat.ne_of_lt (Nat.lt_of_lt_of_le (Array.getElem?_eq_some_iff.mp hcS).1 hnew)
  -- the fields of the new object
  obtain ⟨iM, hfM⟩ := Y.msg
  obtain ⟨tC, dC, hdC, hnC⟩ := Cond.laysAt hfound hk Y.cause (tl 5 _ rfl)
  obtain ⟨tS, dS, hdS, hnS⟩ := Cond.laysAt hfound hk Y.stack (tl 6 _ rfl)
  obtain ⟨tP, dP, hdP, hnP⟩ := Cond.laysAt hfound hk Y.supp (tl 7 _ rfl)
  obtain ⟨tM, dM, hdM, hnM⟩ := Cond.laysAt hfound hk hfM (tl 8 _ rfl)
  obtain ⟨ciB, iB, fB, hkB, hgB, haB, hsB, -, hnmB, htyB, hfB⟩ := Cond.ownField (t := .object "java/lang/Object") Y.found LT.cls (by decide +kernel) (tl 11 _ rfl) (tl 12 _ rfl) e.platform hpl
  obtain ⟨tB, dB, hdB, hnB⟩ := Cond.laysAt hfound hk hfB (tl 13 _ rfl)
  have bC := Cond.laysApart hdB hdC hnB hnC (by rw [hnmB, Y.causeName]; decide)
  have bS := Cond.laysApart hdB hdS hnB hnS (by rw [hnmB, Y.stackName]; decide)
  have bP := Cond.laysApart hdB hdP hnB hnP (by rw [hnmB, Y.suppName]; decide)
  have hskip : SkipFacts TT e.platform s (fun u => u) u0 ((preparedCellV TT.toThrowableT (freshCell P0.m.cls kX) a u0 sen).withEntry T.cur) := by
    refine ⟨{ ci198 := ciB, i198 := iB, fBack := fB }, ⟨hkB, hgB, haB, hsB⟩, ?_, fun _ _ => rfl⟩
    have hd := fresh_default (c := P0.m.cls) tB
    rw [htyB] at hd
    simpa [preparedCellV, Cell.setSlot, Cell.withEntry, Array.getElem?_setIfInBounds, bC, bS, bP, bC.symm, bS.symm, bP.symm, defaultValue] using hd
  -- the call, the constructors, the throw
  obtain ⟨tm, mC, cdC, kC, vm1, hnmC, -, -, -, -, -, -, -, hW1, st1⟩ := Steps.initColdS (tb := p.tables) (e := e) (below := below) (s := s) (U := T) X.here hexec X.warmed hpl hown (t := Bundle.initS nseN) rfl rfl (by decide +kernel) (tl 0 _ rfl) (at3 _ List.mem_cons_self) (at3 _ (List.mem_cons_of_mem _ List.mem_cons_self)) (f := g) hg (a := a) (msg := msg) (rest := .ref a :: rest) hstack d6
  cases Option.some.inj (hnmC.symm.trans hm0)
  have X1 := X.noted hW1
  obtain ⟨vm2, X2, st2⟩ := X1.ctorMessageOffV hexec (g := { g with stack := .ref a :: rest }) hg hsize TT LT Z LZ M LM (P0 :: P1 :: Ps)
    (fun P hP => by
      rcases List.mem_cons.mp hP with rfl | hP
      · exact L0
      · rcases List.mem_cons.mp hP with rfl | hP
        · exact L1
        · exact hL P hP) ⟨hsup, hk1, hk2⟩ (u0 := u0) (sen := sen) (self := a) hmsg (cell := freshCell P0.m.cls kX) (cellS := cS)
    hcell (fun _ => by simp) (by simp) rfl rfl sel0 selF hcS1 hne hknown hu0 hsen
    (Takes.of_laid hk hord tC (by rw [Y.causeType]; rfl)) (Takes.of_laid hk hord tS (by rw [Y.stackType]; exact fits_refV_array _ u0)) (Takes.of_laid hk hord tP (by rw [Y.suppType]; exact fits_refV_object _ sen))
    (Takes.of_laid hk hord tM (by rw [Y.msgType]; exact fits_refV_object _ ⟨msg, hmsg⟩)) Y.objLocals hskip htr [] d6
    (by simp only [List.length_cons, hlen, List.length_nil]; omega) (by simp only [List.length_cons, hlen, List.length_nil]; omega)
  have X3 := X2.forget (locs := locs) (fun y hy => by
    simp only [List.mem_cons, List.not_mem_nil, or_false] at hy
    rcases hy with rfl | rfl | rfl | rfl | rfl <;> exact hnew)
  obtain ⟨hwalk, hrun, hended, hWU, hsame⟩ := X3.athrowLeaves hexec (g := { g with stack := .ref a :: rest, pc := g.pc + 3 }) hg hlocked hentered hout (a := a) (rest := rest) rfl d9
  have hlt : a < ((T.setVm vm1).setVm vm2).heap.size := (Array.getElem?_eq_some_iff.mp hcell).1
  have hU := heapAt_setCell_self (s := (T.setVm vm1).setVm vm2) (plainBareV TT.toThrowableT (freshCell P0.m.cls kX) a u0 sen msg) hlt
  refine ⟨_, st1 _ (fun acts => ?_), hrun, hended, hWU, hsame, _, hU, ?_, ?_⟩
  · rw [doInvoke_state]
    exact st2 _ hwalk
  · exact hfound
  · rfl
end SVN
end
section
/-! A method's end at 'throw new E("..")'. -/
/-- what a thrown end is: as MQ, for a throw -/
def MX (below : List Frame) (Qc : Array Value → State → Outcome → State → Prop) (a : Array Value) (s : State) (mc ms : Nat) (free : Addr → Prop) : State → Prop := fun t =>
  ∃ x, t.status = .running ∧ Ended t below (.threw x) ∧ Qc a s (.threw x) t ∧ ∃ L, s.WarmedH t.vm ∧ s.sameButNew ({ t with vm := s.vm } : State) L mc ms ∧ ∀ q ∈ L, free q.base
/-- the words that a throw of the class asks: its constructors, its fields, the statics -/
def thrAtoms (ic : Nat) (cls : String) : List Cond := if cls = nseN then nseWs else Bundle.ownAtoms "FunDesk" ic cls excR
section SVH
variable {p : Program} {l : Launch} {e : Env} {R : Room} {s : State} {m : MethodId} {args : Array Value} {below : List Frame} {meth : Method} {c : Code} {H : Heap} {locs : List Loc} {cells slots : Nat}
variable {pc : Nat} {ls : Array Slot} {cc : ByteArray}
/-- what stands behind the throw, seen from where it began -/
def thrEnd (below : List Frame) (cls : String) (s : State) : State → Prop := fun t => t.status = .running ∧ Ended t below (.threw s.heap.size) ∧ s.WarmedH t.vm ∧ s.sameButNew ({ t with vm := s.vm } : State) [] 1 6 ∧ ∃ ce, t.heap[s.heap.size]? = some ce ∧ s.vm.findClass cls = some ce.cls ∧ ce.vm = .none
theorem s_thr0 {cls tx : String} {ix si ic qs : Nat} {cst : List Value} (htr : e.platform.stackTraces = false) (hx : p.tables.exec = Jvm.exec) (hb : c.code = cc) (hown : s.vm.findClass "FunDesk" = some m.cls) (hlocks : meth.locks = false) (hml : ls.size = c.maxLocals)
    (hfit : Bundle.fit cls = true) (hic : cls = nseN → ic = 94) (hatoms : ∀ a ∈ thrAtoms ic cls, a.before args s = true)
    (hcl : (Cond.classLink "FunDesk" ix cls).before args s = true) (hini : (Cond.initialized cls).before args s = true) (hins : (Cond.instantiable cls 6).before args s = true) (hqs : vk_R "FunDesk" si tx qs s)
    (d0 : decode cc pc = .ok (.new ix, 3)) (d3 : decode cc (pc + 3) = .ok (.dup, 1)) (d4 : decode cc (pc + 4) = .ok (.ldc si, 2)) (d6 : decode cc (pc + 6) = .ok (.invokespecial ic, 3)) (d9 : decode cc (pc + 9) = .ok (.athrow, 1)) (hout : ∀ x ∈ c.exceptionTable.toList, covers x (pc + 9) = false)
    (hRf : 6 ≤ R.frames) (hRl : (cst.map fun v => v.category).sum + 100 ≤ R.locals) (hc1 : 1 ≤ R.cells) (hc2 : 6 ≤ R.slots) :
    W p l e R s m args below meth c s.heap [] 0 0 (thrEnd below cls s) (F0 m pc ls cst) := by
  refine W.newc (n := 6) hx hb hown hcl hins hini rfl d0 (by omega) (by omega) (fun cC kC f1 f2 f3 f4 => ?_)
  refine lv_dup hx hb d3 rfl ?_
  refine va_ldcS hx hb hown hqs d4 ?_
  intro T3 hT3 X3
  have hroom : 2 * (F0 m (pc + 6) ls (.ref qs :: .ref s.heap.size :: .ref s.heap.size :: cst)).monitorRoom + ((Value.ref s.heap.size :: cst).map fun v => v.category).sum + (13 * (excR.length + 1) + 42) ≤ R.locals := by
    have h0 := lv_room (m := m) (pc := pc + 6) (ls := ls) (rest := .ref qs :: .ref s.heap.size :: .ref s.heap.size :: cst) (st := []) (Nat.zero_le _)
    have e1 : (F0 m (pc + 6) ls (.ref qs :: .ref s.heap.size :: .ref s.heap.size :: cst)).monitorRoom = 0 := rfl
    have e2 : ((Value.ref s.heap.size :: cst).map fun v => v.category).sum = 1 + (cst.map fun v => v.category).sum := by rw [List.map_cons, List.sum_cons]; rfl
    have e3 : excR.length = 2 := rfl
    rw [e1, e2, e3]
    omega
  by_cases hn : cls = nseN
  · have hic := hic hn
    subst hic
    rw [hn] at f1
    have hat : ∀ a ∈ nseWs, a.before args s = true := fun a ha => hatoms a (by unfold thrAtoms; rw [if_pos hn]; exact ha)
    obtain ⟨U, st, hrun, hend, hWU, hsame, ce, hce, hoc1, hoc2⟩ := nse_thrown X3 hx htr hown hat rfl (a := s.heap.size) f1 f2 (by rw [hT3, Array.getElem?_push_size]) (Nat.le_refl _) (msg := .ref qs) rfl (g := F0 m (pc + 6) ls (.ref qs :: .ref s.heap.size :: .ref s.heap.size :: cst)) rfl hml rfl rfl (rest := cst) rfl (by rw [hb]; exact d6) (by rw [hb]; exact d9) hout (by omega) hroom hlocks
    exact ⟨U, st, hrun, hend, hWU, hsame, ce, hce, by rw [hn]; exact hoc1, hoc2⟩
  · have hat : ∀ a ∈ Bundle.ownAtoms "FunDesk" ic cls excR, a.before args s = true := fun a ha => hatoms a (by unfold thrAtoms; rw [if_neg hn]; exact ha)
    obtain ⟨U, st, hrun, hend, hWU, hsame, ce, hce, hoc⟩ := X3.ctorThrowS hx htr (own := "FunDesk") (cls := cls) (names := excR) (ic := ic) hown hfit (by decide +kernel) hat (fun x hx => by cases hx) (a := s.heap.size) f1 f2 (by rw [hT3, Array.getElem?_push_size]) (Nat.le_refl _) (msg := .ref qs) rfl (g := F0 m (pc + 6) ls (.ref qs :: .ref s.heap.size :: .ref s.heap.size :: cst)) rfl hml rfl rfl (rest := cst) rfl (by rw [hb]; exact d6) (by rw [hb]; exact d9) hout (by show 2 + 3 < R.frames; omega) hroom hlocks
    exact ⟨U, st, hrun, hend, hWU, hsame, ce, hce, hoc.cls, hoc.vm⟩
theorem same_rebase {T t : State} (e0 : s.sameButNew (T.setVm s.vm) locs cells slots) (h : ({ s with heap := T.heap, slotsUsed := T.slotsUsed } : State).sameButNew ({ t with vm := s.vm } : State) [] 1 6) : s.sameButNew ({ t with vm := s.vm } : State) locs (cells + 1) (slots + 6) := by
  have h1 : (T.setVm s.vm).sameButNew ({ t with vm := s.vm } : State) [] 1 6 := by
    obtain ⟨a1, a2, a3, a4, a5, a6⟩ := h
    refine ⟨?_, a2, a3, a4, a5, a6⟩
    have e1 : T.setVm s.vm = { s.setFrames (T.setVm s.vm).frames with heap := T.heap, slotsUsed := T.slotsUsed } := e0.1
    have e2 : (T.setVm s.vm).setFrames ({ t with vm := s.vm } : State).frames = ({ s with heap := T.heap, slotsUsed := T.slotsUsed } : State).setFrames ({ t with vm := s.vm } : State).frames := by
      rw [e1]
      exact congrArg (fun z : State => ({ z with heap := T.heap, slotsUsed := T.slotsUsed } : State)) (State.setFrames_setFrames s _ _)
    rw [e2]
    exact a1
  have := e0.trans h1
  rw [List.append_nil] at this
  exact this
theorem s_thr {cls tx : String} {ix si ic : Nat} {cst : List Value} {Qc : Array Value → State → Outcome → State → Prop} {free : Addr → Prop} (hnt : l.stackTraces = false) (hx : p.tables.exec = Jvm.exec) (hb : c.code = cc) (hown : s.vm.findClass "FunDesk" = some m.cls) (hlocks : meth.locks = false) (hml : ls.size = c.maxLocals)
    (hfit : Bundle.fit cls = true) (hic : cls = nseN → ic = 94) (hat : ∀ a ∈ thrAtoms ic cls, (a.onTables = true ∧ a.before args s = true) ∨ a = .laysStatic Bundle.tN "UNASSIGNED_STACK" Bundle.steD ∨ a = .isRef (.static Bundle.tN "UNASSIGNED_STACK" Bundle.steD) ∨ a = .laysStatic Bundle.tN "SUPPRESSED_SENTINEL" Bundle.listD ∨ a = .isRef (.static Bundle.tN "SUPPRESSED_SENTINEL" Bundle.listD))
    (hcl : (Cond.classLink "FunDesk" ix cls).before args s = true) (hini : (Cond.initialized cls).before args s = true) (hins : (Cond.instantiable cls 6).before args s = true)
    (hex : exOK s) (hst : ∃ q, vk_R "FunDesk" si tx q s) (hkeep : ∀ (a : Nat) (cell : Cell), s.heap[a]? = some cell → cell.vm.isStatics = true → H[a]? = some cell)
    (d0 : decode cc pc = .ok (.new ix, 3)) (d3 : decode cc (pc + 3) = .ok (.dup, 1)) (d4 : decode cc (pc + 4) = .ok (.ldc si, 2)) (d6 : decode cc (pc + 6) = .ok (.invokespecial ic, 3)) (d9 : decode cc (pc + 9) = .ok (.athrow, 1)) (hout : ∀ x ∈ c.exceptionTable.toList, covers x (pc + 9) = false)
    (hRf : 6 ≤ R.frames) (hRl : (cst.map fun v => v.category).sum + 100 ≤ R.locals) (hc1 : cells + 1 ≤ R.cells) (hc2 : slots + 6 ≤ R.slots) (hf : ∀ q ∈ locs, free q.base)
    (hQ : ∀ (t : State) (ce : Cell), t.heap.size = H.size + 1 → t.heap[H.size]? = some ce → s.vm.findClass cls = some ce.cls → ce.vm = .none → (∀ q, q < H.size → t.heap[q]? = H[q]?) → s.WarmedH t.vm → Qc args s (.threw H.size) t) :
    W p l e R s m args below meth c H locs cells slots (MX below Qc args s (cells + 1) (slots + 6) free) (F0 m pc ls cst) := by
  intro T hT X
  have X2 := stand_rebase X (by omega) (by omega)
  have htr : e.platform.stackTraces = false := by rw [X.admits.platform]; exact hnt
  have hsb := X.same
  obtain ⟨s2, hs2⟩ : ∃ s2 : State, s2 = { s with heap := T.heap, slotsUsed := T.slotsUsed } := ⟨_, rfl⟩
  have hv : s2.vm = s.vm := by rw [hs2]
  have hh : s2.heap = H := by rw [hs2]; exact hT
  rw [← hs2] at X2
  have tab : ∀ {w : Cond}, w.onTables = true → w.before args s = true → w.before args s2 = true := fun hw hb => va_tabs hw hv.symm hb
  have hk2 : ∀ (a : Nat) (cell : Cell), s.heap[a]? = some cell → cell.vm.isStatics = true → s2.heap[a]? = some cell := fun a cell h1 h2 => by rw [hh]; exact hkeep a cell h1 h2
  have hatoms : ∀ a ∈ thrAtoms ic cls, a.before args s2 = true := by
    intro a ha
    rcases hat a ha with ⟨h1, h2⟩ | rfl | rfl | rfl | rfl
    · exact tab h1 h2
    · exact lS_move hv hk2 hex.2.1.1
    · exact iR_move hv hk2 hex.2.1.1 hex.2.1.2
    · exact lS_move hv hk2 hex.2.2.1.1
    · exact iR_move hv hk2 hex.2.2.1.1 hex.2.2.1.2
  obtain ⟨qs, hqs⟩ := hst
  have K := s_thr0 (l := l) (R := { R with cells := R.cells - cells, slots := R.slots - slots }) (s := s2) (below := below) (ls := ls) (cst := cst) htr hx hb (by rw [hv]; exact hown) hlocks hml hfit hic hatoms (tab rfl hcl) (tab rfl hini) (tab rfl hins) (hqs.same hv) d0 d3 d4 d6 d9 hout hRf hRl (by show 1 ≤ R.cells - cells; omega) (by show 6 ≤ R.slots - slots; omega)
  obtain ⟨t, st, q1, q2, q3, q4, ce, q5, q6, q7⟩ := K T (by rw [hh, hT]) X2
  rw [hh] at q2 q5
  rw [hv] at q4 q6
  have hW : s.WarmedH t.vm := by rw [hs2] at q3; exact q3
  have hlt : H.size < t.heap.size := (Array.getElem?_eq_some_iff.mp q5).1
  have hle : t.heap.size ≤ s2.heap.size + 1 := q4.2.2.1
  rw [hh] at hle
  refine ⟨t, st, H.size, q1, q2, hQ t ce (by omega) q5 q6 q7 (fun q hq => ?_) hW, locs, hW, ?_, hf⟩
  · have := same_old q4 (q := q) (by rw [hh]; exact hq)
    rw [hh] at this
    exact this
  · rw [hs2] at q4
    exact same_rebase hsb q4
end SVH
end
section
/-! Calls. -/
def ro (ad : List Nat) (r v : Option Value) : Prop := match r with
  | none => v = none
  | some x => ∃ c, v = some c ∧ vr ad x c
def mRm (d : Nat) (h h' : mHp) : Room := { frames := d + 10, cells := h'.1 - h.1, slots := h'.2.1 - h.2.1, locals := 60 * (d + 4) }
def mQc (D : va_G) (ad : List Nat) (ws : va_W) (sz : Nat) (r : Option Value) (h' : mHp) : Array Value → State → Outcome → State → Prop := fun _ st oc t =>
  (∃ v, oc = .returned v ∧ ∃ (x : List Nat) (ws' : va_W) (tys' : List (ClassId × FieldType)), ro (ad ++ x) r v ∧ hR (ad ++ x) ws' tys' h' ∧ va_P D cls ws' t.heap ∧ va_K D cls tys' t ∧ va_D (va_A ws sz) ws') ∧ va_F (va_A ws sz) st t
def mPc (D : va_G) (ws : va_W) (tys : List (ClassId × FieldType)) (sz : Nat) : State → Prop := fun U => U.heap.size = sz ∧ va_P D cls ws U.heap ∧ va_K D cls tys U ∧ nwOK U ∧ exOK U ∧ va_D (fun _ => True) ws
/-- the contracts of the methods without an exception table, d deep, where they return -/
def mCt (l : Launch) (F d : Nat) : Prop := ∀ (y : Nat) (q : mMI), mTab[y]? = some q → y < mNC → ∀ (args : List Value) (h : mHp) (r : Option Value) (h' : mHp), mEx F d y args h = some (.inl r, h') →
  ∀ (D : va_G) (ad : List Nat) (ws : va_W) (tys : List (ClassId × FieldType)) (cargs : List Value) (sz : Nat), rl ad args cargs → hR ad ws tys h →
    Met l q.1 (Cond.code q.1 q.2.1 q.2.2.1 q.2.2.2.1 :: gtbl) (mRm d h h') (va_Pc cargs (mPc D ws tys sz)) (mQc D ad ws sz r h') (h'.1 - h.1) (h'.2.1 - h.2.1) (va_A ws sz)
theorem nwOK.calling {U : State} {g : JFrame} {mk : MethodId} {a : Array Value} (h : nwOK U) : nwOK (U.calling g mk a) := ⟨h.1.moved (Vm.Alike.refl U.vm), va_Nw.same rfl rfl h.2.1, va_Nw.same rfl rfl h.2.2.1, va_Nw.same rfl rfl h.2.2.2⟩
theorem mPc_blind {D : va_G} {ws : va_W} {tys : List (ClassId × FieldType)} {sz : Nat} {cargs : List Value} : FrameBlind (va_Pc cargs (mPc D ws tys sz)) := fun a U g mk q => by
  obtain ⟨q0, q1, qP, qK, qN, qE, qD⟩ := q
  exact ⟨q0, q1, qP, va_K.moved (u := U) (U := U.calling g mk a) (Vm.Alike.refl U.vm) qK, qN.calling, qE.calling, qD⟩
theorem mIO_at {b : Nat} {q : mMI} (h : mTab[b]? = some q) (hb : b < mNC) : mIO q ∧ mIC q := by
  have h2 : b < 224 := hb
  exact ⟨mTab_ok q (List.mem_of_getElem? (i := b) (by rw [List.getElem?_take_of_lt (by omega)]; exact h)), mTab_code q (List.mem_of_getElem? (i := b) (by rw [List.getElem?_take_of_lt h2]; exact h))⟩
theorem mInf_at {b : Nat} {q : mMI} (h : mTab[b]? = some q) : mInf b = q := by unfold mInf; rw [List.getD_eq_getElem?_getD, h]; rfl
theorem good_code {q : mMI} (h : mIC q) : GoodIn gtbl (Cond.code q.1 q.2.1 q.2.2.1 q.2.2.2.1 :: gtbl) := by
  intro w hw
  rcases List.mem_cons.mp hw with rfl | hw
  · exact ⟨in_gtbl h rfl, good_of_word rfl⟩
  · exact ⟨hw, good_of_word (List.mem_filter.mp hw).2⟩
/-- what the class tables' own cells are: nobody here writes them -/
def stF (A : Nat → Prop) (H0 : Heap) (s : State) : Prop := ∀ (a : Nat) (cell : Cell), s.heap[a]? = some cell → cell.vm.isStatics = true → H0[a]? = some cell ∧ ¬ A a
theorem stF.now {A : Nat → Prop} {H0 H : Heap} {s : State} {locs : List Loc} (h : stF A H0 s) (hS : va_S A H0 H locs) {a : Nat} {cell : Cell} (h1 : s.heap[a]? = some cell) (h2 : cell.vm.isStatics = true) : H[a]? = some cell := by
  obtain ⟨h3, h4⟩ := h a cell h1 h2
  rw [hS.2.1 a (Array.getElem?_eq_some_iff.mp h3).1 h4]
  exact h3
theorem stF.entry {D : va_G} {ws : va_W} {s : State} (hP : va_P D cls ws s.heap) : stF (va_A ws s.heap.size) s.heap s := by
  intro a cell h1 h2
  refine ⟨h1, fun hA => ?_⟩
  rcases hA with ⟨k, E, hk⟩ | hA
  · have hat := hP k (a, E) hk
    match E, hat with
    | .inl x, hat =>
      have : s.heap[a]? = some (vp_cell x.1 x.2) := hat
      rw [h1] at this
      cases this
      unfold vp_cell at h2
      split at h2 <;> cases h2
    | .inr o, hat =>
      obtain ⟨r, -, cell', h3, -, h5, -⟩ := hat
      rw [h1] at h3
      cases h3
      rw [h5] at h2
      cases h2
  · exact absurd (Array.getElem?_eq_some_iff.mp h1).1 (by omega)
section SVD
variable {p : Program} {l : Launch} {e : Env} {R : Room} {s : State} {m : MethodId} {args : Array Value} {below : List Frame} {meth : Method} {c : Code} {H : Heap} {locs : List Loc} {cells slots : Nat} {Q : State → Prop}
variable {pc : Nat} {ls : Array Slot} {cc : ByteArray} {D : va_G} {A : Nat → Prop} {H0 : Heap}
theorem s_back {mc ms sz : Nat} {st0 rest : List Value} {ad : List Nat} {ws : va_W} {hc : mHp} {r : Option Value} {a : Array Value} (hr : va_Run p l e R s m args below meth c H locs cells slots mc ms (F0 m pc ls st0) rest (mQc D ad ws sz r hc a) (va_A ws sz)) (hS : va_S A H0 H locs) (hf : ∀ q, va_A ws sz q → A q)
    (kk : ∀ (v : Option Value) (x : List Nat) (ws' : va_W) (tys' : List (ClassId × FieldType)) (H1 : Heap) (locs1 : List Loc), ro (ad ++ x) r v → hR (ad ++ x) ws' tys' hc → va_P D cls ws' H1 → va_K D cls tys' s → va_D (va_A ws sz) ws' → va_S A H0 H1 locs1 → W p l e R s m args below meth c H1 locs1 (cells + mc) (slots + ms) Q (F0 m (pc + 3) ls (v.toList ++ rest))) : W p l e R s m args below meth c H locs cells slots Q (F0 m pc ls st0) := by
  intro T hT X
  obtain ⟨v, st₀, t, T', L, h0, X', hL, e1, e2, ⟨⟨v2, hv, x, ws', tys', g1, g2, g3, g4, g5⟩, hz, hk⟩, st⟩ := hr T hT X
  cases hv
  rw [h0] at hz hk
  obtain ⟨t2, a1, b1⟩ := kk v x ws' tys' T'.heap (locs ++ L) g1 g2 (by rw [e1]; exact g3) (va_K.moved (show t.vm.Alike s.vm by rw [← e2]; exact X'.warmed.alike.symm) g4) g5
    ⟨Nat.le_trans hS.1 (by rw [e1]; exact hz), fun q h1 h2 => by rw [e1, hk q (Nat.lt_of_lt_of_le h1 hS.1) (fun z => h2 (hf q z))]; exact hS.2.1 q h1 h2, fun q hq => by
      rcases List.mem_append.mp hq with h | h
      · exact hS.2.2 q h
      · exact hf _ (hL q h)⟩ T' rfl X'
  exact ⟨t2, st t2 a1, b1⟩
theorem mBack_ret {y pc : Nat} {lv : List (Nat × Value)} {rest : List Value} {v : Option Value} {h : mHp} {S : mSt} (hh : mBack y pc lv rest (.inl v, h) = some S) : S = (pc + 3, lv, v.toList ++ rest, h) := (Option.some.inj hh).symm
theorem rl_ro {ad x : List Nat} {r v : Option Value} {rest crest : List Value} (h : ro (ad ++ x) r v) (hr : rl ad rest crest) : rl (ad ++ x) (r.toList ++ rest) (v.toList ++ crest) := by
  cases r with
  | none => rw [show v = none from h]; exact hr.app
  | some z => obtain ⟨c, rfl, hc⟩ := h; exact ⟨_, _, rfl, hc, hr.app⟩
/-- behind the instruction: what all three kinds of call share -/
theorem s_inv1 {F d b : Nat} {qb : mMI} {as cas rest crest st0 : List Value} {h hc : mHp} {r : Option Value} {ad : List Nat} {lv : List (Nat × Value)} {nL : Nat} (IH : mCt l F d) (hqb : mTab[b]? = some qb) (hbn : b < mNC) (hcall : mEx F d b as h = some (.inl r, hc)) (has : rl ad as cas) (hrest : rl ad rest crest)
    (hA : ∀ q, H0.size ≤ q → A q) (hnw : nwOK s) (hex : exOK s) (hSF : stF A H0 s) (hW : mW D A H0 s ad h H locs) (hL : lvR ad nL ls lv)
    (run : ∀ (ws : va_W) (tys : List (ClassId × FieldType)), va_K D cls tys s → va_P D cls ws H → hR ad ws tys h → Met l qb.1 (Cond.code qb.1 qb.2.1 qb.2.2.1 qb.2.2.2.1 :: gtbl) (mRm d h hc) (va_Pc cas (mPc D ws tys H.size)) (mQc D ad ws H.size r hc) (hc.1 - h.1) (hc.2.1 - h.2.1) (va_A ws H.size) → (∀ U : State, U.heap = H → s.WarmedH U.vm → va_Pc cas (mPc D ws tys H.size) cas.toArray U) →
      va_Run p l e R s m args below meth c H locs cells slots (hc.1 - h.1) (hc.2.1 - h.2.1) (F0 m pc ls st0) crest (mQc D ad ws H.size r hc cas.toArray) (va_A ws H.size))
    (k : ∀ ad' cst' H' locs', (∃ x, ad' = ad ++ x) → rl ad' (r.toList ++ rest) cst' → mW D A H0 s ad' hc H' locs' → lvR ad' nL ls lv → W p l e R s m args below meth c H' locs' (cells + (hc.1 - h.1)) (slots + (hc.2.1 - h.2.1)) Q (F0 m (pc + 3) ls cst')) : W p l e R s m args below meth c H locs cells slots Q (F0 m pc ls st0) := by
  obtain ⟨ws, tys, hK, hP, hD, hS, hH⟩ := hW
  have hM := IH b qb hqb hbn as h r hc hcall D ad ws tys cas H.size has hH
  have hf : ∀ q, va_A ws H.size q → A q := by
    intro q hq
    rcases hq with ⟨k', e', h'⟩ | h'
    · exact hD.2 k' (q, e') h'
    · exact hA q (Nat.le_trans hS.1 h')
  refine s_back (run ws tys hK hP hH hM (fun U hU hW => ⟨rfl, by rw [hU], by rw [hU]; exact hP, va_K.moved hW.alike hK, hnw.warm hW, hex.move hW (fun a cell g1 g2 => by rw [hU]; exact hSF.now hS g1 g2), hD.weaken (fun _ _ _ _ => trivial)⟩)) hS hf (fun v x ws' tys' H1 locs1 g1 g2 g3 g4 g5 g6 => ?_)
  exact k (ad ++ x) _ H1 locs1 ⟨x, rfl⟩ (rl_ro g1 hrest) ⟨ws', tys', g4, g3, g5.weaken (fun _ q _ h => hf q.1 h), g6, g2⟩ hL.app
end SVD
end
section
/-! The three kinds of call. -/
theorem obj_inst : Cond.instanceMethod Lib.objectInit ∈ gtbl := in_gtbl (List.mem_of_getElem? (i := 163) (by decide +kernel)) rfl
theorem obj_code : Cond.code Lib.objectInit ⟨#[0xb1]⟩ 1 none ∈ gtbl := in_gtbl (List.mem_of_getElem? (i := 164) (by decide +kernel)) rfl
theorem min_code : Cond.code Lib.Math.min.name Lib.Math.min.code 2 (some .int) ∈ gtbl := in_gtbl (List.mem_of_getElem? (i := 1014) (by decide +kernel)) rfl
theorem min_stat : Cond.static Lib.Math.min.name ∈ gtbl := in_gtbl (List.mem_of_getElem? (i := 1013) (by decide +kernel)) rfl
theorem min_ini : Cond.initialized "java/lang/Math" ∈ gtbl := in_gtbl (List.mem_of_getElem? (i := 150) (by decide +kernel)) rfl
theorem mBack_no {y pc k : Nat} {lv : List (Nat × Value)} {rest : List Value} {h : mHp} {S : mSt} (hy : mHand y = []) (hh : mBack y pc lv rest (.inr k, h) = some S) : False := by
  simp only [mBack, mCatch, hy] at hh
  cases hh
def nestWs : List Cond := [.methodLinkNest "FunDesk" 9 ⟨"FunDesk$Line", "<init>", "()V"⟩ "FunDesk", .methodLinkNest "FunDesk" 18 ⟨"FunDesk$Tree", "<init>", "()V"⟩ "FunDesk", .methodLinkNest "FunDesk" 37 ⟨"FunDesk$Types", "<init>", "()V"⟩ "FunDesk"]
def nestChk (w : Cond) : Bool := match w with
  | .methodLinkNest a b y h => decide (Cond.methodLinkNest a b y h ∈ nestWs)
  | _ => true
set_option maxRecDepth 100000 in
theorem nest_chk : lw_tbl.all nestChk = true := by decide +kernel
theorem nest_of {s : State} {a : String} {b : Nat} {y : MethodName} {h : String} (hnw : nwOK s) (hw : Cond.methodLinkNest a b y h ∈ lw_tbl) : va_Nw (.methodLinkNest a b y h) s := by
  have h1 := List.all_eq_true.mp nest_chk _ hw
  have h2 : Cond.methodLinkNest a b y h ∈ nestWs := of_decide_eq_true h1
  unfold nestWs at h2
  rcases List.mem_cons.mp h2 with q | h2
  · rw [q]; exact hnw.2.1
  · rcases List.mem_cons.mp h2 with q | h2
    · rw [q]; exact hnw.2.2.1
    · rcases List.mem_cons.mp h2 with q | h2
      · rw [q]; exact hnw.2.2.2
      · exact absurd h2 List.not_mem_nil
theorem drop_take {α : Type} (n : Nat) (l : List α) : ((l.take n).reverse).reverse ++ l.drop n = l := by rw [List.reverse_reverse, List.take_append_drop]
section SVE
variable {p : Program} {l : Launch} {e : Env} {R : Room} {s : State} {m : MethodId} {args : Array Value} {below : List Frame} {meth : Method} {c : Code} {H : Heap} {locs : List Loc} {cells slots : Nat} {Q : State → Prop}
variable {pc : Nat} {ls : Array Slot} {cc : ByteArray} {D : va_G} {A : Nat → Prop} {H0 : Heap}
set_option maxHeartbeats 4000000 in
theorem s_inv {F d : Nat} {own : String} {y a b w n nL : Nat} {i : Instr} {st cst : List Value} {h : mHp} {lv : List (Nat × Value)} {S' : mSt} {ad : List Nat} (IH : mCt l F d) (hbn : a = 4 ∨ a = 5 ∨ b < mNC) (hy : mHand y = [] ∨ ∃ ix, i = .invokevirtual ix)
    (hx : p.tables.exec = Jvm.exec) (hb : c.code = cc) (hml : c.maxLocals = nL) (hown : s.vm.findClass own = some m.cls) (hts : ∀ w ∈ gtbl, w.before args s = true) (hnw : nwOK s)
    (hA : ∀ q, H0.size ≤ q → A q) (hex : exOK s) (hSF : stF A H0 s) (hRf : d + 11 ≤ R.frames) (hRl : 60 * (d + 5) ≤ R.locals)
    (hd : decode cc pc = .ok (i, n)) (hn : n = mLen n i) (hl : mLinkOk own a b w i = true) (hm : mInv (mEx F d) y pc a b lv st h i = some S') (hr : rl ad st cst) (hL : lvR ad nL ls lv) (hW : mW D A H0 s ad h H locs)
    (hcells : cells + (S'.2.2.2.1 - h.1) ≤ R.cells) (hslots : slots + (S'.2.2.2.2.1 - h.2.1) ≤ R.slots)
    (hthr : ∀ (ix j kx : Nat) (hh : mHp) (rest : List Value) (qb : mMI), i = .invokevirtual ix → mTab[b]? = some qb → lw_tbl[w]? = some (.methodLink own ix qb.1) → qb.2.2.2.2.2.2 = 0 → qb.1.name ≠ "<init>" → st.drop (mArgN b) = .ref j :: rest → hTag h j = mOwn b → mOwn b < 12 → mRoom8 rest = true → mEx F d b (.ref j :: (st.take (mArgN b)).reverse) h = some (.inr kx, hh) → mBack y pc lv rest (.inr kx, hh) = some S' → W p l e R s m args below meth c H locs cells slots Q (F0 m pc ls cst))
    (k : ∀ ad' cst' H' locs', (∃ x, ad' = ad ++ x) → rl ad' S'.2.2.1 cst' → mW D A H0 s ad' S'.2.2.2 H' locs' → lvR ad' nL ls S'.2.1 → W p l e R s m args below meth c H' locs' (cells + (S'.2.2.2.1 - h.1)) (slots + (S'.2.2.2.2.1 - h.2.1)) Q (F0 m S'.1 ls cst')) : W p l e R s m args below meth c H locs cells slots Q (F0 m pc ls cst) := by
  have hsz : ls.size = nL := by obtain ⟨clv, h1, -⟩ := hL; exact h1.1
  have hroom : ∀ {rest crest : List Value}, mRoom8 rest = true → rl ad rest crest → (crest.map fun v => v.category).sum ≤ 8 := fun h1 h2 => by rw [h2.cats]; exact of_decide_eq_true h1
  have hRR : ∀ {q : mMI} {h' : mHp}, q.2.2.1 ≤ 30 → (mRm d h h').frames + 1 ≤ R.frames ∧ 8 + (q.2.2.1 + 11) + (mRm d h h').locals ≤ R.locals := by
    intro q h' hq
    have e1 : (mRm d h h').frames = d + 10 := rfl
    have e2 : (mRm d h h').locals = 60 * (d + 4) := rfl
    rw [e1, e2]
    omega
  have hmax : ∀ {j : Nat} {q : mMI}, mTab[j]? = some q → q.2.2.1 ≤ 30 := fun {j q} hj => by
    have := List.all_eq_true.mp (show (mTab.all (fun q => decide (q.2.2.1 ≤ 30))) = true by decide +kernel) q (List.mem_of_getElem? hj)
    exact of_decide_eq_true this
  cases i with
  | invokevirtual ix =>
    simp only [mLen] at hn; subst hn
    simp only [mLinkOk] at hl
    split at hl
    · next qb hqb =>
      simp only [Bool.and_eq_true, decide_eq_true_eq] at hl
      obtain ⟨⟨⟨ha, hlk⟩, hst⟩, hnm⟩ := hl
      have hbn : b < mNC := by omega
      obtain ⟨io, ic⟩ := mIO_at hqb hbn
      have hbi : mOwn b = qb.2.2.2.2.1 ∧ mArgN b = qb.2.2.2.2.2.1 := by unfold mOwn mArgN; rw [mInf_at hqb]; exact ⟨rfl, rfl⟩
      simp only [mInv] at hm
      split at hm
      · next j rest hdr =>
        split at hm
        · next hc =>
          obtain ⟨hc1, hc2, hc3⟩ := hc
          cases hcall : mEx F d b (.ref j :: (st.take (mArgN b)).reverse) h with
          | none => rw [hcall] at hm; cases hm
          | some o =>
            rw [hcall, Option.bind_some] at hm
            obtain ⟨r, hh⟩ := o
            cases r with
            | inr kx => exact hthr ix j kx hh rest qb rfl hqb hlk hst hnm hdr hc1 hc2 hc3 hcall hm
            | inl r =>
              have hS := mBack_ret hm
              subst hS
              have hdc := hr.drop (mArgN b)
              rw [hdr] at hdc
              obtain ⟨_, crest, hcd, ⟨a', hja, rfl⟩, hrest⟩ := hdc
              have hlen : mArgN b ≤ cst.length := by
                have : (cst.drop (mArgN b)).length = cst.length - mArgN b := List.length_drop
                rw [hcd] at this
                simp only [List.length_cons] at this
                omega
              have htk := (hr.take (mArgN b)).rev
              obtain ⟨qc, hqc⟩ : ∃ qc, cls[mOwn b]? = some qc := ⟨_, List.getElem?_eq_getElem (by exact hc2)⟩
              have hcn : qc.1 = qb.1.cls := cls_own hqc (by rw [hbi.1]; exact io.1)
              refine s_inv1 (as := .ref j :: (st.take (mArgN b)).reverse) (cas := .ref a' :: (cst.take (mArgN b)).reverse) IH hqb hbn hcall ⟨_, _, rfl, ⟨a', hja, rfl⟩, htk⟩ hrest hA hnw hex hSF hW hL (fun ws tys hK hP hH hM hPc => ?_) k
              obtain ⟨kw, E, hk, hE⟩ := hH.2.1 j a' hja (by omega)
              obtain ⟨fs, qc', rfl, hq', -, -, -⟩ := hE.obj (show (h.2.2 j).1 < 12 by have : (h.2.2 j).1 = mOwn b := hc1; omega)
              have e1 : (h.2.2 j).1 = mOwn b := hc1
              rw [e1] at hq' hk
              rw [hqc] at hq'
              cases hq'
              have hcw : CallW R s args own qb.1.cls ix qb.1 qb.2.1 qb.2.2.1 qb.2.2.2.1 (Cond.code qb.1 qb.2.1 qb.2.2.1 qb.2.2.2.1 :: gtbl) (mRm d h hh) (hh.1 - h.1) (hh.2.1 - h.2.1) (mArgN b) :=
                ⟨callB_of (Ts := gtbl) (mArgN b) hts (good_code ic) rfl rfl rfl (hts _ (in_gtbl io.2.2.2.1 rfl)) (hts _ (in_gtbl_at hlk rfl)) ⟨io.2.1.1, io.2.1.2.1, by rw [hbi.2]; exact io.2.1.2.2⟩ (hRR (hmax hqb)), hts _ (in_gtbl (io.2.2.2.2.2 hst).1 rfl), hts _ (in_gtbl ((io.2.2.2.2.2 hst).2 hnm) rfl)⟩
              have hrv := va_recv hK hP hqc hk
              rw [hcn] at hrv
              exact va_runV (As := (cst.take (mArgN b)).reverse) (rest := crest) ⟨hx, hb, hml, hown, hts⟩ hM hcw ⟨mPc_blind, hrv, hPc⟩ rfl (by rw [List.length_reverse, List.length_take]; omega) hsz (by show cst = _; rw [List.reverse_reverse, ← hcd, List.take_append_drop]) (lv_room (hroom hc3 hrest)) hd ⟨hcells, hslots⟩
        · cases hm
      · cases hm
    · cases hl
  | invokestatic ix =>
    simp only [mLen] at hn; subst hn
    simp only [mLinkOk] at hl
    simp only [mInv] at hm
    by_cases ha5 : a = 5
    · rw [if_pos ha5] at hl hm
      have hlk := of_decide_eq_true hl
      split at hm
      · next v u rest =>
        split at hm
        · next hc =>
          cases hm
          obtain ⟨_, _, rfl, rfl, _, crest, rfl, rfl, hrest⟩ := hr
          have h8 := hroom hc hrest
          refine va_mmin hx hb (hml.trans hsz.symm) hown (hts _ (in_gtbl_at hlk rfl)) (hts _ min_stat) (hts _ min_ini) (hts _ min_code) (by omega) (by omega) (by omega) (by omega) hd ?_
          exact W.widen (Nat.le_add_right _ _) (Nat.le_add_right _ _) (k ad _ H locs ⟨[], (List.append_nil _).symm⟩ ⟨_, _, rfl, rfl, hrest⟩ hW hL)
        · cases hm
      · cases hm
    · rw [if_neg ha5] at hl hm
      split at hl
      · next qb hqb =>
        simp only [Bool.and_eq_true, decide_eq_true_eq] at hl
        obtain ⟨⟨ha, hlk⟩, hst⟩ := hl
        have hbn : b < mNC := by omega
        obtain ⟨io, ic⟩ := mIO_at hqb hbn
        have hbi : mArgN b = qb.2.2.2.2.2.1 := by unfold mArgN; rw [mInf_at hqb]
        split at hm
        · next hc =>
          obtain ⟨hc1, hc3⟩ := hc
          cases hcall : mEx F d b (st.take (mArgN b)).reverse h with
          | none => rw [hcall] at hm; cases hm
          | some o =>
            rw [hcall, Option.bind_some] at hm
            obtain ⟨r, hh⟩ := o
            cases r with
            | inr kx => exact (hy.elim (fun hy => (mBack_no hy hm).elim) (fun hy => by obtain ⟨ix', hy⟩ := hy; cases hy))
            | inl r =>
              have hS := mBack_ret hm
              subst hS
              have hrest := hr.drop (mArgN b)
              have htk := (hr.take (mArgN b)).rev
              have hlen : mArgN b ≤ cst.length := by rw [hr.len]; exact hc1
              refine s_inv1 (as := (st.take (mArgN b)).reverse) (cas := (cst.take (mArgN b)).reverse) IH hqb hbn hcall htk hrest hA hnw hex hSF hW hL (fun ws tys hK hP hH hM hPc => ?_) k
              have hcw : CallB R s args own ix qb.1 qb.2.1 qb.2.2.1 qb.2.2.2.1 (Cond.code qb.1 qb.2.1 qb.2.2.1 qb.2.2.2.1 :: gtbl) (mRm d h hh) (hh.1 - h.1) (hh.2.1 - h.2.1) (mArgN b) ∧ (Cond.static qb.1).before args s = true :=
                ⟨callB_of (Ts := gtbl) (mArgN b) hts (good_code ic) rfl rfl rfl (hts _ (in_gtbl io.2.2.2.1 rfl)) (hts _ (in_gtbl_at hlk rfl)) ⟨io.2.1.1, io.2.1.2.1, by rw [hbi]; exact io.2.1.2.2⟩ (hRR (hmax hqb)), hts _ (in_gtbl (io.2.2.2.2.1 hst) rfl)⟩
              exact va_runS (As := (cst.take (mArgN b)).reverse) (rest := cst.drop (mArgN b)) ⟨hx, hb, hml, hown, hts⟩ hM hcw ⟨mPc_blind, hPc⟩ rfl (by rw [List.length_reverse, List.length_take]; omega) hsz (by show cst = _; rw [List.reverse_reverse, List.take_append_drop]) (lv_room (hroom hc3 hrest)) hd ⟨hcells, hslots⟩
        · cases hm
      · cases hl
  | invokespecial ix =>
    simp only [mLen] at hn; subst hn
    simp only [mLinkOk] at hl
    simp only [mInv] at hm
    by_cases ha4 : a = 4
    · rw [if_pos ha4] at hl hm
      have hlk := of_decide_eq_true hl
      split at hm
      · next j rest =>
        split at hm
        · next hc =>
          cases hm
          obtain ⟨_, crest, rfl, ⟨a', hja, rfl⟩, hrest⟩ := hr
          have h8 := hroom hc hrest
          have h9 := lv_room (m := m) (pc := pc) (ls := ls) (rest := .ref a' :: crest) h8
          refine W.objInit hx hb hown (hts _ (in_gtbl_at hlk rfl)) (hts _ obj_inst) (hts _ obj_code) rfl (hsz.trans hml.symm) (rest := crest) rfl hd (by omega) (by omega) ?_
          exact W.widen (Nat.le_add_right _ _) (Nat.le_add_right _ _) (k ad _ H locs ⟨[], (List.append_nil _).symm⟩ hrest hW hL)
        · cases hm
      · cases hm
    · rw [if_neg ha4] at hl hm
      by_cases ha9 : a = 9
      · rw [if_pos ha9] at hm; cases hm
      · rw [if_neg ha9] at hl hm
        split at hl
        · next qb hqb =>
          simp only [Bool.and_eq_true, decide_eq_true_eq] at hl
          obtain ⟨⟨⟨hnm, hst⟩, hret⟩, hlk⟩ := hl
          have ha5 : a ≠ 5 := by
            intro q
            subst q
            simp at hlk
          have hbn : b < mNC := by omega
          obtain ⟨io, ic⟩ := mIO_at hqb hbn
          have hbi : mOwn b = qb.2.2.2.2.1 ∧ mArgN b = qb.2.2.2.2.2.1 := by unfold mOwn mArgN; rw [mInf_at hqb]; exact ⟨rfl, rfl⟩
          split at hm
          · next j rest hdr =>
            split at hm
            · next hc =>
              obtain ⟨hc1, hc2, hc3⟩ := hc
              cases hcall : mEx F d b (.ref j :: (st.take (mArgN b)).reverse) h with
              | none => rw [hcall] at hm; cases hm
              | some o =>
                rw [hcall, Option.bind_some] at hm
                obtain ⟨r, hh⟩ := o
                cases r with
                | inr kx => exact (hy.elim (fun hy => (mBack_no hy hm).elim) (fun hy => by obtain ⟨ix', hy⟩ := hy; cases hy))
                | inl r =>
                  have hS := mBack_ret hm
                  subst hS
                  have hdc := hr.drop (mArgN b)
                  rw [hdr] at hdc
                  obtain ⟨_, crest, hcd, ⟨a', hja, rfl⟩, hrest⟩ := hdc
                  have hlen : mArgN b ≤ cst.length := by
                    have : (cst.drop (mArgN b)).length = cst.length - mArgN b := List.length_drop
                    rw [hcd] at this
                    simp only [List.length_cons] at this
                    omega
                  have htk := (hr.take (mArgN b)).rev
                  refine s_inv1 (as := .ref j :: (st.take (mArgN b)).reverse) (cas := .ref a' :: (cst.take (mArgN b)).reverse) IH hqb hbn hcall ⟨_, _, rfl, ⟨a', hja, rfl⟩, htk⟩ hrest hA hnw hex hSF hW hL (fun ws tys hK hP hH hM hPc => ?_) k
                  have hg := good_code ic
                  rw [hret] at hM hg
                  have hdd : qb.1.cls ≠ "java/lang/invoke/MethodHandle" ∧ qb.1.cls ≠ "java/lang/invoke/VarHandle" ∧ (parseMethodDescriptor qb.1.desc).map (fun d => d.parameters.length) = some (mArgN b) := ⟨io.2.1.1, io.2.1.2.1, by rw [hbi.2]; exact io.2.1.2.2⟩
                  by_cases ha2 : a = 2
                  · rw [if_pos ha2] at hlk
                    have hlk := of_decide_eq_true hlk
                    have hcw : CallB R s args own ix qb.1 qb.2.1 qb.2.2.1 none (Cond.code qb.1 qb.2.1 qb.2.2.1 none :: gtbl) (mRm d h hh) (hh.1 - h.1) (hh.2.1 - h.2.1) (mArgN b) ∧ qb.1.name = "<init>" ∧ (Cond.instanceMethod qb.1).before args s = true :=
                      ⟨callB_of (Ts := gtbl) (mArgN b) hts hg rfl rfl rfl (hts _ (in_gtbl io.2.2.2.1 rfl)) (hts _ (in_gtbl_at hlk rfl)) hdd (hRR (hmax hqb)), hnm, hts _ (in_gtbl (io.2.2.2.2.2 hst).1 rfl)⟩
                    exact va_runI (As := (cst.take (mArgN b)).reverse) (rest := crest) ⟨hx, hb, hml, hown, hts⟩ hM hcw ⟨mPc_blind, hPc⟩ rfl (by rw [List.length_reverse, List.length_take]; omega) hsz (by show cst = _; rw [List.reverse_reverse, ← hcd, List.take_append_drop]) (lv_room (hroom hc3 hrest)) hd ⟨hcells, hslots⟩
                  · rw [if_neg ha2] at hlk
                    simp only [Bool.and_eq_true, decide_eq_true_eq] at hlk
                    have hN : va_Nw (.methodLinkNest own ix qb.1 "FunDesk") s := nest_of hnw (List.mem_of_getElem? hlk.2)
                    exact va_runIN (As := (cst.take (mArgN b)).reverse) (rest := crest) ⟨hx, hb, hml, hown, hts⟩ hM ⟨va_cnB (Ts := gtbl) (mArgN b) hts hg rfl rfl rfl hN (hts _ (in_gtbl io.2.2.2.1 rfl)) hdd (hRR (hmax hqb)), hnm, hts _ (in_gtbl (io.2.2.2.2.2 hst).1 rfl)⟩ ⟨mPc_blind, hPc⟩ rfl (by rw [List.length_reverse, List.length_take]; omega) hsz (by show cst = _; rw [List.reverse_reverse, ← hcd, List.take_append_drop]) (lv_room (hroom hc3 hrest)) hd ⟨hcells, hslots⟩
            · cases hm
          · cases hm
        · cases hl
  | _ => simp only [mInv] at hm; cases hm
end SVE
end
section
/-! The heap grows, and a cell of tag 106 stays. -/
def le3 (h h' : mHp) : Prop := h.1 ≤ h'.1 ∧ h.2.1 ≤ h'.2.1 ∧ ∀ i, i < h.1 → hTag h i = 106 → h'.2.2 i = h.2.2 i
theorem le3.rf {h : mHp} : le3 h h := ⟨Nat.le_refl _, Nat.le_refl _, fun _ _ _ => rfl⟩
theorem le3.tr {h1 h2 h3 : mHp} (a : le3 h1 h2) (b : le3 h2 h3) : le3 h1 h3 := ⟨Nat.le_trans a.1 b.1, Nat.le_trans a.2.1 b.2.1, fun i hi ht => by
  have e := a.2.2 i hi ht
  rw [b.2.2 i (Nat.lt_of_lt_of_le hi a.1) (by unfold hTag at ht ⊢; rw [e]; exact ht), e]⟩
theorem le3.new {h : mHp} {t n : Nat} {f : Nat → Value} : le3 h (hNew h t n f) := ⟨Nat.le_succ _, Nat.le_add_right _ _, fun i hi _ => hNew_old h t n f hi⟩
theorem le3.set {h : mHp} {i k : Nat} {v : Value} (ht : hTag h i ≠ 106) : le3 h (hSet h i k v) := ⟨Nat.le_refl _, Nat.le_refl _, fun j _ hj => by
  unfold hSet
  dsimp only
  rw [if_neg]
  intro e
  subst e
  exact ht hj⟩
theorem le3.arrL {h : mHp} {st : List Value} {t : Nat} {q : List Value × mHp} (hm : mArrL h st t = some q) : le3 h q.2 := by
  obtain ⟨j, i, r, rfl, -, -, rfl⟩ := mArrL_spec hm
  exact le3.rf
theorem le3.arrS {h : mHp} {st : List Value} {t : Nat} {ok : Value → Bool} {q : List Value × mHp} (ht : t ≠ 106) (hm : mArrS h st t ok = some q) : le3 h q.2 := by
  obtain ⟨v, j, i, r, rfl, h1, -, -, rfl⟩ := mArrS_spec hm
  exact le3.set (by omega)
set_option maxHeartbeats 4000000 in
theorem le3.mem {y a b : Nat} {st : List Value} {h : mHp} {i : Instr} {q : List Value × mHp} (hm : mMem y a b st h i = some q) : le3 h q.2 := by
  cases i with
  | getfield ix =>
    simp only [mMem] at hm
    split at hm
    · split at hm
      · cases hm; exact le3.rf
      · cases hm
    · cases hm
  | putfield ix =>
    simp only [mMem] at hm
    split at hm
    · split at hm
      · next hc => cases hm; exact le3.set (by have := hc.1; have := hc.2.1; omega)
      · cases hm
    · cases hm
  | iaload => exact le3.arrL hm
  | caload => exact le3.arrL hm
  | baload => exact le3.arrL hm
  | laload => exact le3.arrL hm
  | daload => exact le3.arrL hm
  | aaload => exact le3.arrL hm
  | iastore => exact le3.arrS (by decide) hm
  | castore => exact le3.arrS (by decide) hm
  | bastore => exact le3.arrS (by decide) hm
  | lastore => exact le3.arrS (by decide) hm
  | dastore => exact le3.arrS (by decide) hm
  | aastore =>
    simp only [mMem] at hm
    split at hm
    · split at hm
      · next hc => cases hm; exact le3.set (by have := hc.1; omega)
      · cases hm
    · cases hm
  | arraylength =>
    simp only [mMem] at hm
    split at hm
    · split at hm
      · cases hm; exact le3.rf
      · cases hm
    · cases hm
  | new ix =>
    simp only [mMem] at hm
    split at hm
    · cases hm; exact le3.new
    · cases hm
  | newarray t =>
    simp only [mMem] at hm
    split at hm
    · split at hm
      · cases hm; exact le3.new
      · cases hm
    · cases hm
  | anewarray ix =>
    simp only [mMem] at hm
    split at hm
    · split at hm
      · cases hm; exact le3.new
      · cases hm
    · cases hm
  | _ => simp only [mMem] at hm; cases hm
def callLe (call : Nat → List Value → mHp → Option (mRes × mHp)) : Prop := ∀ b as h o, call b as h = some o → le3 h o.2
theorem mBack_heap {y pc : Nat} {lv : List (Nat × Value)} {rest : List Value} {o : mRes × mHp} {S : mSt} (hh : mBack y pc lv rest o = some S) : S.2.2.2 = o.2 := by
  obtain ⟨r, h⟩ := o
  cases r with
  | inl v => cases hh; rfl
  | inr k =>
    simp only [mBack] at hh
    obtain ⟨t, -, rfl⟩ := Option.map_eq_some_iff.mp hh
    rfl
theorem le3.inv {call : Nat → List Value → mHp → Option (mRes × mHp)} (hcl : callLe call) {y pc a b : Nat} {lv : List (Nat × Value)} {st : List Value} {h : mHp} {i : Instr} {S : mSt} (hm : mInv call y pc a b lv st h i = some S) : le3 h S.2.2.2 := by
  have bnd : ∀ {as rest : List Value}, (call b as h).bind (mBack y pc lv rest) = some S → le3 h S.2.2.2 := by
    intro as rest hb
    obtain ⟨o, h1, h2⟩ := Option.bind_eq_some_iff.mp hb
    rw [mBack_heap h2]
    exact hcl b as h o h1
  cases i with
  | invokevirtual ix =>
    simp only [mInv] at hm
    split at hm
    · split at hm
      · exact bnd hm
      · cases hm
    · cases hm
  | invokestatic ix =>
    simp only [mInv] at hm
    split at hm
    · split at hm
      · split at hm
        · cases hm; exact le3.rf
        · cases hm
      · cases hm
    · split at hm
      · exact bnd hm
      · cases hm
  | invokespecial ix =>
    simp only [mInv] at hm
    split at hm
    · split at hm
      · split at hm
        · cases hm; exact le3.rf
        · cases hm
      · cases hm
    · split at hm
      · cases hm
      · split at hm
        · split at hm
          · exact bnd hm
          · cases hm
        · cases hm
  | _ => simp only [mInv] at hm; cases hm
def outHp (X : mSt ⊕ (mRes × mHp)) : mHp := match X with
  | .inl S => S.2.2.2
  | .inr r => r.2
theorem le3.ins {call : Nat → List Value → mHp → Option (mRes × mHp)} (hcl : callLe call) {sc : Bool} {y pc n a b : Nat} {lv : List (Nat × Value)} {st : List Value} {h : mHp} {i : Instr} {X : mSt ⊕ (mRes × mHp)} (hm : mIns call sc y pc lv st h i n a b = some X) : le3 h (outHp X) := by
  unfold mIns at hm
  split at hm
  · obtain ⟨q, -, rfl⟩ := Option.map_eq_some_iff.mp hm; exact le3.rf
  · obtain ⟨q, -, rfl⟩ := Option.map_eq_some_iff.mp hm; exact le3.rf
  · obtain ⟨q, -, h2⟩ := Option.bind_eq_some_iff.mp hm
    obtain ⟨t, -, rfl⟩ := Option.map_eq_some_iff.mp h2
    exact le3.rf
  · split at hm
    · cases hm; exact le3.rf
    · obtain ⟨q, h1, rfl⟩ := Option.map_eq_some_iff.mp hm; exact le3.mem h1
  · obtain ⟨q, h1, rfl⟩ := Option.map_eq_some_iff.mp hm; exact le3.inv hcl h1
  · obtain ⟨q, -, rfl⟩ := Option.map_eq_some_iff.mp hm; exact le3.rf
  · split at hm
    · cases hm; exact le3.new
    · cases hm
theorem le3.step {call : Nat → List Value → mHp → Option (mRes × mHp)} (hcl : callLe call) {sc : Bool} {y : Nat} {S : mSt} {X : mSt ⊕ (mRes × mHp)} (hm : mStep call sc y S = some X) : le3 S.2.2.2 (outHp X) := by
  unfold mStep at hm
  split at hm
  · cases hm
  · exact le3.ins hcl hm
theorem le3.go {call : Nat → List Value → mHp → Option (mRes × mHp)} (hcl : callLe call) {sc : Bool} {y : Nat} : ∀ (k : Nat) {S : mSt} {r : mRes × mHp}, mGo call sc y k S = some r → le3 S.2.2.2 r.2
  | 0, _, _, h => by cases h
  | k + 1, S, r, h => by
    simp only [mGo] at h
    split at h
    · cases h
    · next S' hS => exact (le3.step hcl hS).tr (le3.go hcl k h)
    · next r' hS => cases h; exact le3.step hcl hS
theorem le3.ex {F : Nat} : ∀ (d : Nat), callLe (mEx F d)
  | 0, _, _, _, _, h => by cases h
  | d + 1, _, _, _, _, h => by
    simp only [mEx] at h
    split at h
    · exact le3.go (le3.ex d) F h
    · cases h
/-! What the code tables say of an entry. -/
theorem mChkAt_spec {own : String} {bytes : ByteArray} : ∀ {L : List (Option mEnt)} {k j : Nat} {i : Instr} {n a b w : Nat}, mChkAt own bytes k L = true → L[j]? = some (some (i, n, a, b, w)) → decode bytes (k + j) = .ok (i, n) ∧ n = mLen n i ∧ mLinkOk own a b w i = true
  | [], _, _, _, _, _, _, _, _, h => by simp at h
  | none :: L, k, 0, _, _, _, _, _, _, h => by simp at h
  | none :: L, k, j + 1, _, _, _, _, _, hc, h => by
    have := mChkAt_spec (L := L) (k := k + 1) (j := j) hc h
    rwa [show k + 1 + j = k + (j + 1) by omega] at this
  | some (i', n', a', b', w') :: L, k, 0, _, _, _, _, _, hc, h => by
    simp only [mChkAt, Bool.and_eq_true, decide_eq_true_eq] at hc
    cases h
    exact ⟨hc.1.1.1, hc.1.1.2, hc.1.2⟩
  | some (i', n', a', b', w') :: L, k, j + 1, _, _, _, _, _, hc, h => by
    simp only [mChkAt, Bool.and_eq_true] at hc
    have := mChkAt_spec (L := L) (k := k + 1) (j := j) hc.2 h
    rwa [show k + 1 + j = k + (j + 1) by omega] at this
theorem mcd_row {y pc : Nat} {x : mEnt} (h : mcd y pc = some x) : ∃ L q, cdT[y]? = some L ∧ mTab[y]? = some q ∧ L[pc]? = some (some x) ∧ mChkAt q.1.cls q.2.1 0 L = true := by
  unfold mcd at h
  rw [List.getD_eq_getElem?_getD, List.getD_eq_getElem?_getD] at h
  cases hL : cdT[y]? with
  | none => rw [hL] at h; simp at h
  | some L =>
    rw [hL] at h
    simp only [Option.getD_some] at h
    cases hx : L[pc]? with
    | none => rw [hx] at h; cases h
    | some z =>
      rw [hx] at h
      simp only [Option.getD_some] at h
      subst h
      rw [← mAll_2, List.getElem?_map] at hL
      obtain ⟨u, hu, rfl⟩ := Option.map_eq_some_iff.mp hL
      exact ⟨u.2, u.1, rfl, by rw [← mAll_1, List.getElem?_map, hu]; rfl, hx, mAll_ok u (List.mem_of_getElem? hu)⟩
theorem mcd_ok {y pc : Nat} {i : Instr} {n a b w : Nat} {q : mMI} (h : mcd y pc = some (i, n, a, b, w)) (hq : mTab[y]? = some q) : decode q.2.1 pc = .ok (i, n) ∧ n = mLen n i ∧ mLinkOk q.1.cls a b w i = true := by
  obtain ⟨L, q', -, hq', hx, hc⟩ := mcd_row h
  rw [hq] at hq'
  cases hq'
  have := mChkAt_spec hc hx
  rwa [Nat.zero_add] at this
def callChk (o : Option mEnt) : Bool := match o with
  | none => true
  | some (i, _, a, b, _) => !(mGrp a i == 4) || a == 4 || a == 5 || decide (b < mNC)
set_option maxRecDepth 100000 in
theorem call_chk : (cdT.take mNC).all (fun L => L.all callChk) = true := by decide +kernel
theorem call_in {y pc : Nat} {i : Instr} {n a b w : Nat} (h : mcd y pc = some (i, n, a, b, w)) (hy : y < mNC) (hg : mGrp a i = 4) : a = 4 ∨ a = 5 ∨ b < mNC := by
  obtain ⟨L, q', hL, -, hx, -⟩ := mcd_row h
  have h1 := List.all_eq_true.mp call_chk L (List.mem_of_getElem? (i := y) (by rw [List.getElem?_take_of_lt hy]; exact hL))
  have h2 := List.all_eq_true.mp h1 _ (List.mem_of_getElem? hx)
  simp only [callChk, hg, Bool.or_eq_true, Bool.not_eq_true', beq_iff_eq, decide_eq_true_eq] at h2
  rcases h2 with ((h2 | h2) | h2) | h2
  · simp at h2
  · exact Or.inl h2
  · exact Or.inr (Or.inl h2)
  · exact Or.inr (Or.inr h2)
theorem hand_none {y : Nat} (hy : y < mNC) : mHand y = [] := by
  have h : y < 224 := hy
  unfold mHand mHT
  simp only [List.lookup]
  repeat (first | rfl | (split; next e => (have := eq_of_beq e; omega)))
  all_goals (try rfl)
end
section
/-! A step, a run, a method. -/
theorem narrow_ret {t : FieldType} {x : Int32} (ho : okTy t = true ∨ t = .char) (h : fits t (.int x) = true) : narrow t (.int x) = .int x := by
  rcases ho with ho | rfl
  · exact narrow_fits ho h
  · simp only [fits, Bool.and_eq_true, decide_eq_true_eq] at h
    obtain ⟨j, hj0, rfl⟩ := nI_of (x := x) (fun q => absurd h.1 (by simpa using q))
    have hj : j < 65536 := by
      have h2 := h.2
      rw [Int32.le_iff_toInt_le] at h2
      rw [nI_toInt (by omega)] at h2
      have : (65535 : Int32).toInt = 65535 := by decide
      omega
    exact (pk_charN hj).1
/-- what the law's own script is, where a run may read it -/
def scF (sc : Bool) (s : State) (H0 : Heap) (A : Nat → Prop) (ad : List Nat) (h : mHp) : Prop := sc = true → ∃ bs L xs, va_X bs L xs s H0 ∧ bs < H0.size ∧ ¬ A bs ∧ ad[0]? = some bs ∧ h.2.2 0 = (106, L, fun j => .int (xs j))
theorem scF.next {sc : Bool} {s : State} {H0 : Heap} {A : Nat → Prop} {ad ad' : List Nat} {h h' : mHp} (g : scF sc s H0 A ad h) (hl : ad.length = h.1) (ha : ∃ x, ad' = ad ++ x) (hh : le3 h h') : scF sc s H0 A ad' h' := by
  intro hsc
  obtain ⟨bs, L, xs, g1, g2, g3, g4, g5⟩ := g hsc
  obtain ⟨x, rfl⟩ := ha
  have h0 : 0 < h.1 := by rw [← hl]; exact (List.getElem?_eq_some_iff.mp g4).1
  exact ⟨bs, L, xs, g1, g2, g3, getElem?_app g4, by rw [hh.2.2 0 h0 (by unfold hTag; rw [g5]), g5]⟩
section SVF
variable {p : Program} {l : Launch} {e : Env} {R : Room} {s : State} {m : MethodId} {args : Array Value} {below : List Frame} {meth : Method} {c : Code} {Q : State → Prop}
variable {cc : ByteArray} {D : va_G} {A : Nat → Prop} {H0 : Heap}
/-- what a run knows of its state -/
def mAt (D : va_G) (A : Nat → Prop) (H0 : Heap) (s : State) (sc : Bool) (nL : Nat) (h0 : Nat × Nat) (ad0 : List Nat) (S : mSt) (H : Heap) (locs : List Loc) (cells slots : Nat) (ls : Array Slot) (cst : List Value) (ad : List Nat) : Prop :=
  (∃ x, ad = ad0 ++ x) ∧ lvR ad nL ls S.2.1 ∧ rl ad S.2.2.1 cst ∧ mW D A H0 s ad S.2.2.2 H locs ∧ scF sc s H0 A ad S.2.2.2 ∧ h0.1 + cells = S.2.2.2.1 ∧ h0.2 + slots = S.2.2.2.2.1
theorem mW.len {ad : List Nat} {h : mHp} {H : Heap} {locs : List Loc} (hW : mW D A H0 s ad h H locs) : ad.length = h.1 := by
  obtain ⟨ws, tys, -, -, -, -, hH⟩ := hW
  exact hH.1
set_option maxHeartbeats 4000000 in
theorem s_step {F d y : Nat} {q : mMI} {sc : Bool} {h0 : Nat × Nat} {ad0 : List Nat} {S S' : mSt} {H : Heap} {locs : List Loc} {cells slots : Nat} {ls : Array Slot} {cst : List Value} {ad : List Nat} (hq : mTab[y]? = some q)
    (hx : p.tables.exec = Jvm.exec) (hb : c.code = q.2.1) (hown : s.vm.findClass q.1.cls = some m.cls) (hoy : ownN[mOwn y]? = some q.1.cls) (hts : ∀ w ∈ gtbl, w.before args s = true) (hnw : nwOK s)
    (hA : ∀ q, H0.size ≤ q → A q) (hinit : (mInf y).1.name = "<init>" → meth.name = "<init>")
    (hst : mStep (mEx F d) sc y S = some (.inl S')) (hAt : mAt D A H0 s sc q.2.2.1 h0 ad0 S H locs cells slots ls cst ad) (hcells : S'.2.2.2.1 ≤ h0.1 + R.cells) (hslots : S'.2.2.2.2.1 ≤ h0.2 + R.slots)
    (hinv : ∀ (i : Instr) (n a b w : Nat), mcd y S.1 = some (i, n, a, b, w) → mGrp a i = 4 → mInv (mEx F d) y S.1 a b S.2.1 S.2.2.1 S.2.2.2 i = some S' →
      (∀ ad' cst' H' locs', (∃ x, ad' = ad ++ x) → rl ad' S'.2.2.1 cst' → mW D A H0 s ad' S'.2.2.2 H' locs' → lvR ad' q.2.2.1 ls S'.2.1 → W p l e R s m args below meth c H' locs' (cells + (S'.2.2.2.1 - S.2.2.2.1)) (slots + (S'.2.2.2.2.1 - S.2.2.2.2.1)) Q (F0 m S'.1 ls cst')) → W p l e R s m args below meth c H locs cells slots Q (F0 m S.1 ls cst))
    (k : ∀ (H' : Heap) (locs' : List Loc) (cells' slots' : Nat) (ls' : Array Slot) (cst' : List Value) (ad' : List Nat), mAt D A H0 s sc q.2.2.1 h0 ad0 S' H' locs' cells' slots' ls' cst' ad' → W p l e R s m args below meth c H' locs' cells' slots' Q (F0 m S'.1 ls' cst')) : W p l e R s m args below meth c H locs cells slots Q (F0 m S.1 ls cst) := by
  obtain ⟨a1, a2, a3, a4, a5, a6, a7⟩ := hAt
  have hle := le3.step (le3.ex d) hst
  have hlen := a4.len
  have next : ∀ {H' locs' ls' cst' ad'}, (∃ x, ad' = ad ++ x) → lvR ad' q.2.2.1 ls' S'.2.1 → rl ad' S'.2.2.1 cst' → mW D A H0 s ad' S'.2.2.2 H' locs' → W p l e R s m args below meth c H' locs' (cells + (S'.2.2.2.1 - S.2.2.2.1)) (slots + (S'.2.2.2.2.1 - S.2.2.2.2.1)) Q (F0 m S'.1 ls' cst') := by
    intro H' locs' ls' cst' ad' b1 b2 b3 b4
    refine k _ _ _ _ _ _ ad' ⟨?_, b2, b3, b4, a5.next hlen b1 hle, ?_, ?_⟩
    · obtain ⟨x, rfl⟩ := a1
      obtain ⟨x', rfl⟩ := b1
      exact ⟨x ++ x', List.append_assoc _ _ _⟩
    · have := hle.1; have e0 : outHp (.inl S') = S'.2.2.2 := rfl; rw [e0] at this; omega
    · have := hle.2.1; have e0 : outHp (.inl S') = S'.2.2.2 := rfl; rw [e0] at this; omega
  have nil : ∃ x, ad = ad ++ x := ⟨[], (List.append_nil _).symm⟩
  obtain ⟨pc, lv, st, h⟩ := S
  dsimp only at *
  unfold mStep at hst
  dsimp only at hst
  cases hcd : mcd y pc with
  | none => rw [hcd] at hst; cases hst
  | some en =>
    obtain ⟨i, n, a, b, w⟩ := en
    rw [hcd] at hst
    dsimp only at hst
    obtain ⟨hd, hn, hl⟩ := mcd_ok hcd hq
    have hst0 := hst
    unfold mIns at hst
    split at hst
    · obtain ⟨st', h1, h2⟩ := Option.map_eq_some_iff.mp hst
      cases h2
      exact s_pure hx hb hown hts hd hn hl h1 a3 (fun cst' hr' => W.widen (Nat.le_add_right _ _) (Nat.le_add_right _ _) (next nil a2 hr' a4))
    · obtain ⟨q', h1, h2⟩ := Option.map_eq_some_iff.mp hst
      cases h2
      have hnL : mMaxL y = q.2.2.1 := by unfold mMaxL; rw [mInf_at hq]
      rw [hnL] at h1
      exact s_loc hx hb hd hn h1 a2 a3 (fun ls' cst' hL' hr' => W.widen (Nat.le_add_right _ _) (Nat.le_add_right _ _) (next nil hL' hr' a4))
    · obtain ⟨q', h1, h2⟩ := Option.bind_eq_some_iff.mp hst
      obtain ⟨t, h3, h4⟩ := Option.map_eq_some_iff.mp h2
      cases h4
      exact s_br hx hb hd hn h1 h3 a3 (fun cst' hr' => W.widen (Nat.le_add_right _ _) (Nat.le_add_right _ _) (next nil a2 hr' a4))
    · split at hst
      · next st' hs =>
        cases hst
        cases sc with
        | false => simp at hs
        | true =>
          simp only [if_true] at hs
          obtain ⟨bs, L, xs, g1, g2, g3, g4, g5⟩ := a5 rfl
          obtain ⟨ws, tys, hK, hP, hD, hS, hH⟩ := a4
          have a4 : mW D A H0 s ad h H locs := ⟨ws, tys, hK, hP, hD, hS, hH⟩
          have e1 : hLen h 0 = L := by unfold hLen; rw [g5]
          have e2 : ∀ j, hAt h 0 j = .int (xs j) := fun j => by unfold hAt; rw [g5]
          cases i with
          | iaload =>
            simp only [mLen] at hn; subst hn
            simp only [mScr] at hs
            split at hs
            · next j r =>
              split at hs
              · next hc =>
                cases hs
                obtain ⟨_, _, rfl, rfl, _, cr, rfl, ⟨a', hia, rfl⟩, hr⟩ := a3
                rw [g4] at hia
                cases hia
                exact va_sld hx hb g1 g2 g3 hS (show vp_in j L by rw [← e1]; exact hc.2) hd (W.widen (Nat.le_add_right _ _) (Nat.le_add_right _ _) (next nil a2 ⟨_, _, rfl, by rw [e2]; rfl, hr⟩ a4))
              · cases hs
            · cases hs
          | arraylength =>
            simp only [mLen] at hn; subst hn
            simp only [mScr] at hs
            split at hs
            · next r =>
              split at hs
              · next hc =>
                cases hs
                obtain ⟨_, cr, rfl, ⟨a', hia, rfl⟩, hr⟩ := a3
                rw [g4] at hia
                cases hia
                exact va_slen hx hb g1 g2 g3 hS hd (W.widen (Nat.le_add_right _ _) (Nat.le_add_right _ _) (next nil a2 ⟨_, _, rfl, by rw [e1]; rfl, hr⟩ a4))
              · cases hs
            · cases hs
          | _ => simp only [mScr] at hs; cases hs
      · obtain ⟨q', h1, h2⟩ := Option.map_eq_some_iff.mp hst
        cases h2
        have m1 := (le3.mem h1).1
        have m2 := (le3.mem h1).2.1
        dsimp only [mGoOn] at hcells hslots next
        exact s_mem hx hb hown hts hnw hA hinit hoy hd hn hl h1 a3 a4 (by omega) (by omega) (fun ad' cst' H' locs' b1 b2 b3 => next b1 (by obtain ⟨x, rfl⟩ := b1; exact a2.app) b2 b3)
    · next hg =>
      obtain ⟨q', h1, h2⟩ := Option.map_eq_some_iff.mp hst
      cases h2
      exact hinv i n a b w hcd hg h1 (fun ad' cst' H' locs' b1 b2 b3 b4 => next b1 b4 b2 b3)
    · obtain ⟨q', h1, h2⟩ := Option.map_eq_some_iff.mp hst
      cases h2
    · split at hst
      · cases hst
      · cases hst
end SVF
end
section
/-! Runs and contracts. -/
section SVG
variable {p : Program} {l : Launch} {e : Env} {R : Room} {s : State} {m : MethodId} {args : Array Value} {below : List Frame} {meth : Method} {c : Code} {Q : State → Prop}
variable {D : va_G} {A : Nat → Prop} {H0 : Heap}
/-- a run, up to the step that ends it -/
theorem s_go {F d y : Nat} {q : mMI} {sc : Bool} {h0 : Nat × Nat} {ad0 : List Nat} {r : mRes} {h' : mHp} (hq : mTab[y]? = some q)
    (hx : p.tables.exec = Jvm.exec) (hb : c.code = q.2.1) (hown : s.vm.findClass q.1.cls = some m.cls) (hoy : ownN[mOwn y]? = some q.1.cls) (hts : ∀ w ∈ gtbl, w.before args s = true) (hnw : nwOK s)
    (hA : ∀ q, H0.size ≤ q → A q) (hinit : (mInf y).1.name = "<init>" → meth.name = "<init>") (hcells : h'.1 ≤ h0.1 + R.cells) (hslots : h'.2.1 ≤ h0.2 + R.slots)
    (hinv : ∀ {S S' : mSt} {H : Heap} {locs : List Loc} {cells slots : Nat} {ls : Array Slot} {cst : List Value} {ad : List Nat} (i : Instr) (n a b w : Nat), mcd y S.1 = some (i, n, a, b, w) → mGrp a i = 4 → mInv (mEx F d) y S.1 a b S.2.1 S.2.2.1 S.2.2.2 i = some S' →
      S'.2.2.2.1 ≤ h0.1 + R.cells → S'.2.2.2.2.1 ≤ h0.2 + R.slots → mAt D A H0 s sc q.2.2.1 h0 ad0 S H locs cells slots ls cst ad →
      (∀ ad' cst' H' locs', (∃ x, ad' = ad ++ x) → rl ad' S'.2.2.1 cst' → mW D A H0 s ad' S'.2.2.2 H' locs' → lvR ad' q.2.2.1 ls S'.2.1 → W p l e R s m args below meth c H' locs' (cells + (S'.2.2.2.1 - S.2.2.2.1)) (slots + (S'.2.2.2.2.1 - S.2.2.2.2.1)) Q (F0 m S'.1 ls cst')) → W p l e R s m args below meth c H locs cells slots Q (F0 m S.1 ls cst))
    (kend : ∀ (S : mSt) (H : Heap) (locs : List Loc) (cells slots : Nat) (ls : Array Slot) (cst : List Value) (ad : List Nat), mStep (mEx F d) sc y S = some (.inr (r, h')) → mAt D A H0 s sc q.2.2.1 h0 ad0 S H locs cells slots ls cst ad → W p l e R s m args below meth c H locs cells slots Q (F0 m S.1 ls cst)) :
    ∀ (k : Nat) (S : mSt) (H : Heap) (locs : List Loc) (cells slots : Nat) (ls : Array Slot) (cst : List Value) (ad : List Nat), mGo (mEx F d) sc y k S = some (r, h') → mAt D A H0 s sc q.2.2.1 h0 ad0 S H locs cells slots ls cst ad → W p l e R s m args below meth c H locs cells slots Q (F0 m S.1 ls cst)
  | 0, _, _, _, _, _, _, _, _, h, _ => by cases h
  | k + 1, S, H, locs, cells, slots, ls, cst, ad, h, hAt => by
    simp only [mGo] at h
    split at h
    · cases h
    · next S' hS =>
      have hle := le3.go (le3.ex d) k h
      have c1 : S'.2.2.2.1 ≤ h0.1 + R.cells := Nat.le_trans hle.1 hcells
      have c2 : S'.2.2.2.2.1 ≤ h0.2 + R.slots := Nat.le_trans hle.2.1 hslots
      exact s_step hq hx hb hown hoy hts hnw hA hinit hS hAt c1 c2 (fun i n a b w g1 g2 g3 g4 => hinv i n a b w g1 g2 g3 c1 c2 hAt g4) (fun H' locs' cells' slots' ls' cst' ad' g => s_go hq hx hb hown hoy hts hnw hA hinit hcells hslots hinv kend k S' H' locs' cells' slots' ls' cst' ad' h g)
    · next r' hS => cases h; exact kend S H locs cells slots ls cst ad hS hAt
theorem s_ret {y n : Nat} {q : mMI} {i : Instr} {st cst : List Value} {v : Option Value} {ad : List Nat} {H : Heap} {locs : List Loc} {cells slots pc : Nat} {ls : Array Slot} {Qc : Array Value → State → Outcome → State → Prop} {free : Addr → Prop} (hx : p.tables.exec = Jvm.exec) (hb : c.code = q.2.1) (hr : meth.sig.returnType = q.2.2.2.1) (hlocks : meth.locks = false)
    (hq : mInf y = q) (hd : decode q.2.1 pc = .ok (i, n)) (hn : n = mLen n i) (hm : mRet y st i = some v) (hrl : rl ad st cst) (hQ : ∀ (cv : Option Value) (t : State), ro ad v cv → t.heap = H → s.WarmedH t.vm → Qc args s (.returned cv) t) (hf : ∀ q ∈ locs, free q.base) :
    W p l e R s m args below meth c H locs cells slots (MQ below Qc args s cells slots free) (F0 m pc ls cst) := by
  have hrt : mRetT y = q.2.2.2.1 := by unfold mRetT; rw [hq]
  cases i with
  | return_ =>
    simp only [mLen] at hn; subst hn
    simp only [mRet, hrt] at hm
    split at hm
    · next hret =>
      cases hm
      rw [show cst = [] from hrl]
      exact W.vret hx hb (hr.trans hret) (fun t h1 h2 => hQ none t rfl h1 h2) hf hd hlocks
    · cases hm
  | ireturn =>
    simp only [mLen] at hn; subst hn
    simp only [mRet, hrt] at hm
    split at hm
    · next x t hret =>
      split at hm
      · next hc =>
        cases hm
        obtain ⟨_, cr, rfl, rfl, hrl⟩ := hrl
        rw [show cr = [] from hrl]
        exact W.zret hx hb (hr.trans hret) (narrow_ret hc.1 hc.2) (fun t h1 h2 => hQ (some (.int x)) t ⟨_, rfl, rfl⟩ h1 h2) hf hd hlocks
      · cases hm
    · cases hm
  | dreturn =>
    simp only [mLen] at hn; subst hn
    simp only [mRet, hrt] at hm
    split at hm
    · next x hret =>
      cases hm
      obtain ⟨_, cr, rfl, rfl, hrl⟩ := hrl
      rw [show cr = [] from hrl]
      exact W.dret hx hb (hr.trans hret) (fun t h1 h2 => hQ (some (.double x)) t ⟨_, rfl, rfl⟩ h1 h2) hf hd hlocks
    · cases hm
  | areturn =>
    simp only [mLen] at hn; subst hn
    simp only [mRet, hrt] at hm
    split at hm
    · next j nm hret =>
      cases hm
      obtain ⟨_, cr, rfl, ⟨a', hja, rfl⟩, hrl⟩ := hrl
      rw [show cr = [] from hrl]
      exact W.aret hx hb (hr.trans hret) (Or.inl ⟨_, rfl⟩) (Or.inr ⟨_, rfl⟩) (fun t h1 h2 => hQ (some (.ref a')) t ⟨_, rfl, a', hja, rfl⟩ h1 h2) hf hd hlocks
    · next nm hret =>
      cases hm
      obtain ⟨_, cr, rfl, rfl, hrl⟩ := hrl
      rw [show cr = [] from hrl]
      exact W.aret hx hb (hr.trans hret) (Or.inl ⟨_, rfl⟩) (Or.inl rfl) (fun t h1 h2 => hQ (some .null) t ⟨_, rfl, rfl⟩ h1 h2) hf hd hlocks
    · cases hm
  | _ => simp only [mRet] at hm; cases hm
end SVG
/-- the step that answers -/
theorem step_ret {call : Nat → List Value → mHp → Option (mRes × mHp)} {sc : Bool} {y : Nat} {S : mSt} {v : Option Value} {h' : mHp} (h : mStep call sc y S = some (.inr (.inl v, h'))) : ∃ i n a b w, mcd y S.1 = some (i, n, a, b, w) ∧ mRet y S.2.2.1 i = some v ∧ S.2.2.2 = h' := by
  unfold mStep at h
  split at h
  · cases h
  · next i n a b w hcd =>
    refine ⟨i, n, a, b, w, hcd, ?_⟩
    unfold mIns at h
    split at h
    · obtain ⟨q, -, h2⟩ := Option.map_eq_some_iff.mp h; cases h2
    · obtain ⟨q, -, h2⟩ := Option.map_eq_some_iff.mp h; cases h2
    · obtain ⟨q, -, h2⟩ := Option.bind_eq_some_iff.mp h
      obtain ⟨t, -, h3⟩ := Option.map_eq_some_iff.mp h2
      cases h3
    · split at h
      · cases h
      · obtain ⟨q, -, h2⟩ := Option.map_eq_some_iff.mp h; cases h2
    · obtain ⟨q, -, h2⟩ := Option.map_eq_some_iff.mp h; cases h2
    · obtain ⟨q, h1, h2⟩ := Option.map_eq_some_iff.mp h; cases h2; exact ⟨h1, rfl⟩
    · split at h
      · cases h
      · cases h
set_option maxHeartbeats 4000000 in
theorem mCt_all (l : Launch) (F : Nat) : ∀ d, mCt l F d
  | 0 => fun y q _ _ args h r h' hex => by cases hex
  | d + 1 => fun y q hq hy args h r h' hex D ad ws tys cargs sz hargs hH => by
    obtain ⟨io, ic⟩ := mIO_at hq hy
    have hnL : mMaxL y = q.2.2.1 := by unfold mMaxL; rw [mInf_at hq]
    have hoy : ownN[mOwn y]? = some q.1.cls := by unfold mOwn; rw [mInf_at hq]; exact io.1
    simp only [mEx] at hex
    split at hex
    · next hlen =>
      refine Met.ofW (cc := q.2.1) (maxL := q.2.2.1) (ret := q.2.2.2.1) io.2.2.1 rfl ?_
      intro p e s m args' below meth c s₁ B hml hv
      obtain ⟨rfl, hsz, hP, hK, hN, hE, hD0⟩ := hv
      have hts := atoms_spec (ws := Cond.code q.1 q.2.1 q.2.2.1 q.2.2.2.1 :: gtbl) B.pre
      have hown : s.vm.findClass q.1.cls = some m.cls := findClass_of_methodNamed B.named
      have hin : meth.name = q.1.name := (name_of_methodNamed B.named B.method).1
      subst hsz
      have hD := hD0.self (sz := s.heap.size)
      have hlen2 : (lg_sl cargs).length ≤ q.2.2.1 := by
        have e1 : ∀ {vs cs : List Value}, rl ad vs cs → (lg_sl cs).length = (lg_sl vs).length := by
          intro vs
          induction vs with
          | nil => intro cs h; rw [show cs = [] from h]
          | cons v t ih =>
            intro cs h
            obtain ⟨c, cs', rfl, h2, h3⟩ := h
            have := ih h3
            unfold lg_sl at this ⊢
            simp only [List.flatMap_cons, List.length_append, h2.cat]
            rw [this]
            split <;> rfl
        rw [e1 hargs, ← hnL]
        exact hlen
      have hl := lv_entry cargs (n := q.2.2.1) hlen2
      rw [lg_entry_eq]
      generalize ((lg_sl cargs) ++ List.replicate (q.2.2.1 - (lg_sl cargs).length) Slot.unset).toArray = ls at hl ⊢
      have hge := le3.go (le3.ex d) F hex
      refine s_go (R := (headSpec (Cond.code q.1 q.2.1 q.2.2.1 q.2.2.2.1 :: gtbl) (mRm (d + 1) h h')).room) (A := va_A ws s.heap.size) (H0 := s.heap) (h0 := (h.1, h.2.1)) (ad0 := ad) (D := D) (sc := false) hq B.exec B.bytes hown hoy (fun w hw => hts w (List.mem_cons_of_mem _ hw)) hN (fun q hq => Or.inr hq) (fun hh => by rw [hin, ← mInf_at hq]; exact hh)
        (by have := hge.1; show h'.1 ≤ h.1 + (h'.1 - h.1); omega) (by have := hge.2.1; show h'.2.1 ≤ h.2.1 + (h'.2.1 - h.2.1); omega) ?_ ?_ F _ s.heap [] 0 0 ls [] ad hex ⟨⟨[], (List.append_nil _).symm⟩, ⟨_, hl, rll.args 0 hargs⟩, rfl, ⟨ws, tys, hK, hP, hD, va_S.rf, hH⟩, (fun hh => absurd hh (by decide)), rfl, rfl⟩
      · intro S S' H locs cells slots ls cst ad' i n a b w g1 g2 g3 g4 g5 hAt g6
        obtain ⟨a1, a2, a3, a4, a5, a6, a7⟩ := hAt
        obtain ⟨hd, hn, hlk⟩ := mcd_ok g1 hq
        have hle := le3.inv (le3.ex d) g3
        have l1 := hle.1
        have l2 := hle.2.1
        dsimp only at a6 a7 g4 g5
        exact s_inv (mCt_all l F d) (call_in g1 hy g2) (Or.inl (hand_none hy)) B.exec B.bytes hml hown (fun w hw => hts w (List.mem_cons_of_mem _ hw)) hN (fun q hq => Or.inr hq) hE (stF.entry hP) (by show d + 11 ≤ d + 1 + 10; omega) (by show 60 * (d + 5) ≤ 60 * (d + 1 + 4); omega) hd hn hlk g3 a3 a2 a4 (by omega) (by omega) (fun _ _ _ _ _ _ _ _ _ _ _ _ _ _ _ _ hm => (mBack_no (hand_none hy) hm).elim) g6
      · intro S H locs cells slots ls cst ad' hst hAt
        obtain ⟨⟨x, rfl⟩, a2, a3, a4, a5, a6, a7⟩ := hAt
        obtain ⟨i, n, a, b, w, hcd, hm, rfl⟩ := step_ret hst
        obtain ⟨hd, hn, hlk⟩ := mcd_ok hcd hq
        obtain ⟨ws', tys', hK', hP', hD', hS', hH'⟩ := a4
        dsimp only at a6 a7
        have e1 : cells = S.2.2.2.1 - h.1 := by omega
        have e2 : slots = S.2.2.2.2.1 - h.2.1 := by omega
        subst e1
        subst e2
        exact s_ret (y := y) B.exec B.bytes B.returns B.notSynchronized (mInf_at hq) hd hn hm a3 (fun cv t hro ht hW => ⟨⟨cv, rfl, x, ws', tys', hro, hH', by rw [ht]; exact hP', va_K.moved hW.alike hK', hD'⟩, hS'.F ht⟩) hS'.2.2
    · cases hex
end
section
/-! The methods that throw: where, and their contracts there. -/
def thrSites : List (Nat × Nat × Nat) := [(54, 10, 100), (54, 30, 101), (54, 50, 102), (137, 9, 103), (137, 94, 104), (138, 9, 103), (139, 9, 103), (139, 29, 104), (141, 7, 103)]
def thrChk (y : Nat) (pc : Nat) (o : Option mEnt) : Bool := match o with
  | none => true
  | some (i, _, a, _, _) => !(mGrp a i == 6) || decide ((y, pc, a) ∈ thrSites)
set_option maxRecDepth 100000 in
theorem thr_chk : ((cdT.take mNC).zipIdx.all fun q => q.1.zipIdx.all fun o => thrChk q.2 o.2 o.1) = true := by decide +kernel
theorem thr_in {y pc : Nat} {i : Instr} {n a b w : Nat} (h : mcd y pc = some (i, n, a, b, w)) (hy : y < mNC) (hg : mGrp a i = 6) : (y, pc, a) ∈ thrSites := by
  obtain ⟨L, q', hL, -, hx, -⟩ := mcd_row h
  have h1 := List.all_eq_true.mp thr_chk (L, y) (List.mem_of_getElem? (i := y) (by rw [List.getElem?_zipIdx, List.getElem?_take_of_lt hy, hL]; simp))
  have h2 := List.all_eq_true.mp h1 (some (i, n, a, b, w), pc) (List.mem_of_getElem? (i := pc) (by rw [List.getElem?_zipIdx, hx]; simp))
  simp only [thrChk, hg, Bool.or_eq_true, Bool.not_eq_true', decide_eq_true_eq] at h2
  rcases h2 with h2 | h2
  · simp at h2
  · exact h2
/-- what a place of a throw needs of the tables: k its kind, ix, si, ic the entries of new, ldc, invokespecial -/
def thrOK (q : mMI) (pc k ix si ic : Nat) (tx : String) : Prop := q.1.cls = "FunDesk" ∧ (decode q.2.1 pc = .ok (.new ix, 3) ∧ decode q.2.1 (pc + 3) = .ok (.dup, 1) ∧ decode q.2.1 (pc + 4) = .ok (.ldc si, 2) ∧ decode q.2.1 (pc + 6) = .ok (.invokespecial ic, 3) ∧ decode q.2.1 (pc + 9) = .ok (.athrow, 1)) ∧ Cond.classLink "FunDesk" ix (excN k) ∈ gtbl ∧ Cond.initialized (excN k) ∈ gtbl ∧ Cond.instantiable (excN k) 6 ∈ gtbl ∧ (si, tx) ∈ strTab ∧ Bundle.fit (excN k) = true ∧ (excN k = nseN → ic = 94)
def thrWs (ic k : Nat) : Prop := ∀ a ∈ thrAtoms ic (excN k), (a.onTables = true ∧ (a ∈ gtbl ∨ a ∈ excWs)) ∨ a = .laysStatic Bundle.tN "UNASSIGNED_STACK" Bundle.steD ∨ a = .isRef (.static Bundle.tN "UNASSIGNED_STACK" Bundle.steD) ∨ a = .laysStatic Bundle.tN "SUPPRESSED_SENTINEL" Bundle.listD ∨ a = .isRef (.static Bundle.tN "SUPPRESSED_SENTINEL" Bundle.listD)
def thrWc (a : Cond) : Bool := (a.onTables && ((goodWord a && decide (a ∈ lw_tbl)) || decide (a ∈ excWs))) || decide (a = .laysStatic Bundle.tN "UNASSIGNED_STACK" Bundle.steD) || decide (a = .isRef (.static Bundle.tN "UNASSIGNED_STACK" Bundle.steD)) || decide (a = .laysStatic Bundle.tN "SUPPRESSED_SENTINEL" Bundle.listD) || decide (a = .isRef (.static Bundle.tN "SUPPRESSED_SENTINEL" Bundle.listD))
theorem thrWs_of {ic k : Nat} (h : (thrAtoms ic (excN k)).all thrWc = true) : thrWs ic k := by
  intro a ha
  have h1 := List.all_eq_true.mp h a ha
  simp only [thrWc, Bool.or_eq_true, Bool.and_eq_true, decide_eq_true_eq] at h1
  rcases h1 with (((⟨h1, h2⟩ | h1) | h1) | h1) | h1
  · exact Or.inl ⟨h1, h2.imp (fun z => in_gtbl z.2 z.1) id⟩
  · exact Or.inr (Or.inl h1)
  · exact Or.inr (Or.inr (Or.inl h1))
  · exact Or.inr (Or.inr (Or.inr (Or.inl h1)))
  · exact Or.inr (Or.inr (Or.inr (Or.inr h1)))
set_option maxRecDepth 100000 in
theorem thrW0 : thrWs 84 0 := thrWs_of (by decide +kernel)
set_option maxRecDepth 100000 in
theorem thrW1 : thrWs 94 1 := thrWs_of (by decide +kernel)
set_option maxRecDepth 100000 in
theorem thrW2 : thrWs 102 2 := thrWs_of (by decide +kernel)
set_option maxRecDepth 100000 in
theorem thrW3 : thrWs 155 3 := thrWs_of (by decide +kernel)
set_option maxRecDepth 100000 in
theorem thrW4 : thrWs 168 4 := thrWs_of (by decide +kernel)
theorem thr54_10 : thrOK mI54 10 0 80 82 84 "the line is no expression" := ⟨rfl, ⟨by decide +kernel, by decide +kernel, by decide +kernel, by decide +kernel, by decide +kernel⟩, in_gtbl (List.mem_of_getElem? (i := 821) (by decide +kernel)) rfl, in_gtbl (List.mem_of_getElem? (i := 148) (by decide +kernel)) rfl, in_gtbl (List.mem_of_getElem? (i := 822) (by decide +kernel)) rfl, by decide +kernel, by decide +kernel, by decide +kernel⟩
theorem thr54_30 : thrOK mI54 30 1 90 92 94 "a name is not bound" := ⟨rfl, ⟨by decide +kernel, by decide +kernel, by decide +kernel, by decide +kernel, by decide +kernel⟩, in_gtbl (List.mem_of_getElem? (i := 895) (by decide +kernel)) rfl, in_gtbl (List.mem_of_getElem? (i := 149) (by decide +kernel)) rfl, in_gtbl (List.mem_of_getElem? (i := 896) (by decide +kernel)) rfl, by decide +kernel, by decide +kernel, by decide +kernel⟩
theorem thr54_50 : thrOK mI54 50 2 98 100 102 "the expression is ill typed" := ⟨rfl, ⟨by decide +kernel, by decide +kernel, by decide +kernel, by decide +kernel, by decide +kernel⟩, in_gtbl (List.mem_of_getElem? (i := 1062) (by decide +kernel)) rfl, in_gtbl (List.mem_of_getElem? (i := 151) (by decide +kernel)) rfl, in_gtbl (List.mem_of_getElem? (i := 1063) (by decide +kernel)) rfl, by decide +kernel, by decide +kernel, by decide +kernel⟩
theorem thr137_9 : thrOK mI137 9 3 151 153 155 "nothing is worked out" := ⟨rfl, ⟨by decide +kernel, by decide +kernel, by decide +kernel, by decide +kernel, by decide +kernel⟩, in_gtbl (List.mem_of_getElem? (i := 1115) (by decide +kernel)) rfl, in_gtbl (List.mem_of_getElem? (i := 155) (by decide +kernel)) rfl, in_gtbl (List.mem_of_getElem? (i := 1116) (by decide +kernel)) rfl, by decide +kernel, by decide +kernel, by decide +kernel⟩
theorem thr137_94 : thrOK mI137 94 4 164 166 168 "there is nothing else to ask of a value" := ⟨rfl, ⟨by decide +kernel, by decide +kernel, by decide +kernel, by decide +kernel, by decide +kernel⟩, in_gtbl (List.mem_of_getElem? (i := 1131) (by decide +kernel)) rfl, in_gtbl (List.mem_of_getElem? (i := 156) (by decide +kernel)) rfl, in_gtbl (List.mem_of_getElem? (i := 1132) (by decide +kernel)) rfl, by decide +kernel, by decide +kernel, by decide +kernel⟩
theorem thr138_9 : thrOK mI138 9 3 151 153 155 "nothing is worked out" := ⟨rfl, ⟨by decide +kernel, by decide +kernel, by decide +kernel, by decide +kernel, by decide +kernel⟩, in_gtbl (List.mem_of_getElem? (i := 1115) (by decide +kernel)) rfl, in_gtbl (List.mem_of_getElem? (i := 155) (by decide +kernel)) rfl, in_gtbl (List.mem_of_getElem? (i := 1116) (by decide +kernel)) rfl, by decide +kernel, by decide +kernel, by decide +kernel⟩
theorem thr139_9 : thrOK mI139 9 3 151 153 155 "nothing is worked out" := ⟨rfl, ⟨by decide +kernel, by decide +kernel, by decide +kernel, by decide +kernel, by decide +kernel⟩, in_gtbl (List.mem_of_getElem? (i := 1115) (by decide +kernel)) rfl, in_gtbl (List.mem_of_getElem? (i := 155) (by decide +kernel)) rfl, in_gtbl (List.mem_of_getElem? (i := 1116) (by decide +kernel)) rfl, by decide +kernel, by decide +kernel, by decide +kernel⟩
theorem thr139_29 : thrOK mI139 29 4 164 177 168 "there is no such item" := ⟨rfl, ⟨by decide +kernel, by decide +kernel, by decide +kernel, by decide +kernel, by decide +kernel⟩, in_gtbl (List.mem_of_getElem? (i := 1131) (by decide +kernel)) rfl, in_gtbl (List.mem_of_getElem? (i := 156) (by decide +kernel)) rfl, in_gtbl (List.mem_of_getElem? (i := 1132) (by decide +kernel)) rfl, by decide +kernel, by decide +kernel, by decide +kernel⟩
theorem thr141_7 : thrOK mI141 7 3 151 153 155 "nothing is worked out" := ⟨rfl, ⟨by decide +kernel, by decide +kernel, by decide +kernel, by decide +kernel, by decide +kernel⟩, in_gtbl (List.mem_of_getElem? (i := 1115) (by decide +kernel)) rfl, in_gtbl (List.mem_of_getElem? (i := 155) (by decide +kernel)) rfl, in_gtbl (List.mem_of_getElem? (i := 1116) (by decide +kernel)) rfl, by decide +kernel, by decide +kernel, by decide +kernel⟩
theorem thr_at {y pc a : Nat} {q : mMI} (hq : mTab[y]? = some q) (h : (y, pc, a) ∈ thrSites) : ∃ ix si ic tx, thrOK q pc (a - 100) ix si ic tx ∧ thrWs ic (a - 100) := by
  simp only [thrSites, List.mem_cons, List.not_mem_nil, or_false, Prod.mk.injEq] at h
  rcases h with ⟨rfl, rfl, rfl⟩ | ⟨rfl, rfl, rfl⟩ | ⟨rfl, rfl, rfl⟩ | ⟨rfl, rfl, rfl⟩ | ⟨rfl, rfl, rfl⟩ | ⟨rfl, rfl, rfl⟩ | ⟨rfl, rfl, rfl⟩ | ⟨rfl, rfl, rfl⟩ | ⟨rfl, rfl, rfl⟩
  · cases (show mI54 = q from Option.some.inj hq); exact ⟨_, _, _, _, thr54_10, thrW0⟩
  · cases (show mI54 = q from Option.some.inj hq); exact ⟨_, _, _, _, thr54_30, thrW1⟩
  · cases (show mI54 = q from Option.some.inj hq); exact ⟨_, _, _, _, thr54_50, thrW2⟩
  · cases (show mI137 = q from Option.some.inj hq); exact ⟨_, _, _, _, thr137_9, thrW3⟩
  · cases (show mI137 = q from Option.some.inj hq); exact ⟨_, _, _, _, thr137_94, thrW4⟩
  · cases (show mI138 = q from Option.some.inj hq); exact ⟨_, _, _, _, thr138_9, thrW3⟩
  · cases (show mI139 = q from Option.some.inj hq); exact ⟨_, _, _, _, thr139_9, thrW3⟩
  · cases (show mI139 = q from Option.some.inj hq); exact ⟨_, _, _, _, thr139_29, thrW4⟩
  · cases (show mI141 = q from Option.some.inj hq); exact ⟨_, _, _, _, thr141_7, thrW3⟩
end
section
/-! The contracts of methods that throw. -/
theorem step_thr {call : Nat → List Value → mHp → Option (mRes × mHp)} {sc : Bool} {y : Nat} {S : mSt} {k : Nat} {h' : mHp} (h : mStep call sc y S = some (.inr (.inr k, h'))) : ∃ i n a b w, mcd y S.1 = some (i, n, a, b, w) ∧ mGrp a i = 6 ∧ (a < 105 ∧ mRoom8 S.2.2.1 = true) ∧ k = a - 100 ∧ h' = hNew S.2.2.2 200 6 (fun _ => .null) := by
  unfold mStep at h
  split at h
  · cases h
  · next i n a b w hcd =>
    refine ⟨i, n, a, b, w, hcd, ?_⟩
    unfold mIns at h
    split at h
    · obtain ⟨q, -, h2⟩ := Option.map_eq_some_iff.mp h; cases h2
    · obtain ⟨q, -, h2⟩ := Option.map_eq_some_iff.mp h; cases h2
    · obtain ⟨q, -, h2⟩ := Option.bind_eq_some_iff.mp h
      obtain ⟨t, -, h3⟩ := Option.map_eq_some_iff.mp h2
      cases h3
    · split at h
      · cases h
      · obtain ⟨q, -, h2⟩ := Option.map_eq_some_iff.mp h; cases h2
    · obtain ⟨q, -, h2⟩ := Option.map_eq_some_iff.mp h; cases h2
    · obtain ⟨q, h1, h2⟩ := Option.map_eq_some_iff.mp h; cases h2
    · next hg1 hg2 hg3 hg4 hg5 hg6 =>
      split at h
      · next ha =>
        cases h
        refine ⟨?_, ha, rfl, rfl⟩
        have h6 : mGrp a i ≤ 6 := by unfold mGrp; split <;> (try split) <;> omega
        have n0 := hg1
        have n1 := hg2
        have n2 := hg3
        have n3 := hg4
        have n4 := hg5
        have n5 := hg6
        generalize mGrp a i = g at *
        match g, h6 with
        | 0, _ => exact absurd rfl n0
        | 1, _ => exact absurd rfl n1
        | 2, _ => exact absurd rfl n2
        | 3, _ => exact absurd rfl n3
        | 4, _ => exact absurd rfl n4
        | 5, _ => exact absurd rfl n5
        | 6, _ => rfl
      · cases h
def mQx (D : va_G) (ad : List Nat) (ws : va_W) (sz k : Nat) (h' : mHp) : Array Value → State → Outcome → State → Prop := fun _ st oc t =>
  (∃ (x : Nat) (ce : Cell), oc = .threw x ∧ t.heap[x]? = some ce ∧ st.vm.findClass (excN k) = some ce.cls ∧ ce.vm = .none ∧ ∃ (y : List Nat) (ws' : va_W) (tys' : List (ClassId × FieldType)), hR (ad ++ y) ws' tys' h' ∧ va_P D cls ws' t.heap ∧ va_K D cls tys' t ∧ va_D (va_A ws sz) ws') ∧ va_F (va_A ws sz) st t
/-- the contract of a method that ends with a throw -/
def MetX (l : Launch) (y : MethodName) (ws : List Cond) (rm : Room) (Pc : Array Value → State → Prop) (Qc : Array Value → State → Outcome → State → Prop) (mc ms : Nat) (free : Addr → Prop) : Prop :=
  MetFree l y (headSpec ws rm) Pc (fun _ _ _ _ _ => True) (fun a st o t => (∃ x, o = .threw x) ∧ Qc a st o t ∧ ∃ L, st.WarmedH t.vm ∧ st.sameButNew ({ t with vm := st.vm } : State) L mc ms ∧ ∀ q ∈ L, free q.base)
theorem MetX.ofW {l : Launch} {y : MethodName} {ws ws' : List Cond} {rm : Room} {Pc : Array Value → State → Prop} {Qc : Array Value → State → Outcome → State → Prop} {mc ms : Nat} {free : Addr → Prop} {cc : ByteArray} {maxL : Nat} {ret : Option FieldType}
    (hy : plainName y.cls = true) (hw : ws = Cond.code y cc maxL ret :: ws')
    (body : ∀ p e s m args below meth c s₁, BodyLoose p l y (headSpec ws rm) cc maxL ret e s m args below meth c s₁ → c.maxLocals = maxL → Pc args s →
      W p l e (headSpec ws rm).room s m args below meth c s.heap [] 0 0 (MX below Qc args s mc ms free) (entryFrame m args maxL)) : MetX l y ws rm Pc Qc mc ms free := by
  refine MetFree.of_bodyS (code := cc) (maxLocals := maxL) (ret := ret) hy ?_ ?_
  · intro args s m h hn
    obtain ⟨meth, c, h1, h2, h3, h4, h5, h6, -, -⟩ := Cond.code_spec hn (atoms_spec (ws := ws) h _ (by rw [hw]; exact List.mem_cons_self))
    exact ⟨meth, c, h1, h2, h3, h4, h5, h6⟩
  · intro p e s m args below meth c s₁ B hml hP _
    have hh0 : s₁.heap = s.heap := by rw [B.state]; rfl
    obtain ⟨t, a1, x, b1, b2, b3, b4⟩ := body p e s m args below meth c s₁ B hml hP s₁ hh0 (Stand.of_body B)
    exact ⟨t, .threw x, a1, b1, b2, ⟨x, rfl⟩, b3, b4⟩
def mCtX (l : Launch) (F d : Nat) : Prop := ∀ (y : Nat) (q : mMI), mTab[y]? = some q → y < mNC → ∀ (args : List Value) (h : mHp) (k : Nat) (h' : mHp), mEx F d y args h = some (.inr k, h') →
  ∀ (D : va_G) (ad : List Nat) (ws : va_W) (tys : List (ClassId × FieldType)) (cargs : List Value) (sz : Nat), rl ad args cargs → hR ad ws tys h →
    MetX l q.1 (Cond.code q.1 q.2.1 q.2.2.1 q.2.2.2.1 :: gtbl) (mRm d h h') (va_Pc cargs (mPc D ws tys sz)) (mQx D ad ws sz k h') (h'.1 - h.1) (h'.2.1 - h.2.1) (va_A ws sz)
theorem lg_len {ad : List Nat} : ∀ {vs cs : List Value}, rl ad vs cs → (lg_sl cs).length = (lg_sl vs).length
  | [], _, h => by rw [show _ = [] from h]
  | v :: t, _, ⟨c, cs', h1, h2, h3⟩ => by
    subst h1
    have := lg_len h3
    unfold lg_sl at this ⊢
    simp only [List.flatMap_cons, List.length_append, h2.cat]
    rw [this]
    split <;> rfl
set_option maxHeartbeats 4000000 in
theorem mCtX_all (l : Launch) (hnt : l.stackTraces = false) (F : Nat) : ∀ d, mCtX l F d
  | 0 => fun y q _ _ args h r h' hex => by cases hex
  | d + 1 => fun y q hq hy args h k h' hex D ad ws tys cargs sz hargs hH => by
    obtain ⟨io, ic⟩ := mIO_at hq hy
    have hnL : mMaxL y = q.2.2.1 := by unfold mMaxL; rw [mInf_at hq]
    have hoy : ownN[mOwn y]? = some q.1.cls := by unfold mOwn; rw [mInf_at hq]; exact io.1
    simp only [mEx] at hex
    split at hex
    · next hlen =>
      refine MetX.ofW (cc := q.2.1) (maxL := q.2.2.1) (ret := q.2.2.2.1) io.2.2.1 rfl ?_
      intro p e s m args' below meth c s₁ B hml hv
      obtain ⟨rfl, hsz, hP, hK, hN, hE, hD0⟩ := hv
      have hts := atoms_spec (ws := Cond.code q.1 q.2.1 q.2.2.1 q.2.2.2.1 :: gtbl) B.pre
      have hown : s.vm.findClass q.1.cls = some m.cls := findClass_of_methodNamed B.named
      have hin : meth.name = q.1.name := (name_of_methodNamed B.named B.method).1
      have hnoh := B.noHandlers (hts _ List.mem_cons_self)
      subst hsz
      have hD := hD0.self (sz := s.heap.size)
      have hl := lv_entry cargs (n := q.2.2.1) (by rw [lg_len hargs, ← hnL]; exact hlen)
      rw [lg_entry_eq]
      generalize ((lg_sl cargs) ++ List.replicate (q.2.2.1 - (lg_sl cargs).length) Slot.unset).toArray = ls at hl ⊢
      have hge := le3.go (le3.ex d) F hex
      refine s_go (R := (headSpec (Cond.code q.1 q.2.1 q.2.2.1 q.2.2.2.1 :: gtbl) (mRm (d + 1) h h')).room) (A := va_A ws s.heap.size) (H0 := s.heap) (h0 := (h.1, h.2.1)) (ad0 := ad) (D := D) (sc := false) hq B.exec B.bytes hown hoy (fun w hw => hts w (List.mem_cons_of_mem _ hw)) hN (fun q hq => Or.inr hq) (fun hh => by rw [hin, ← mInf_at hq]; exact hh)
        (by have := hge.1; show h'.1 ≤ h.1 + (h'.1 - h.1); omega) (by have := hge.2.1; show h'.2.1 ≤ h.2.1 + (h'.2.1 - h.2.1); omega) ?_ ?_ F _ s.heap [] 0 0 ls [] ad hex ⟨⟨[], (List.append_nil _).symm⟩, ⟨_, hl, rll.args 0 hargs⟩, rfl, ⟨ws, tys, hK, hP, hD, va_S.rf, hH⟩, (fun hh => absurd hh (by decide)), rfl, rfl⟩
      · intro S S' H locs cells slots ls cst ad' i n a b w g1 g2 g3 g4 g5 hAt g6
        obtain ⟨a1, a2, a3, a4, a5, a6, a7⟩ := hAt
        obtain ⟨hd, hn, hlk⟩ := mcd_ok g1 hq
        have hle := le3.inv (le3.ex d) g3
        have l1 := hle.1
        have l2 := hle.2.1
        dsimp only at a6 a7 g4 g5
        exact s_inv (mCt_all l F d) (call_in g1 hy g2) (Or.inl (hand_none hy)) B.exec B.bytes hml hown (fun w hw => hts w (List.mem_cons_of_mem _ hw)) hN (fun q hq => Or.inr hq) hE (stF.entry hP) (by show d + 11 ≤ d + 1 + 10; omega) (by show 60 * (d + 5) ≤ 60 * (d + 1 + 4); omega) hd hn hlk g3 a3 a2 a4 (by omega) (by omega) (fun _ _ _ _ _ _ _ _ _ _ _ _ _ _ _ _ hm => (mBack_no (hand_none hy) hm).elim) g6
      · intro S H locs cells slots ls cst ad' hst hAt
        obtain ⟨⟨x, rfl⟩, ⟨clv, b1, b2⟩, a3, a4, a5, a6, a7⟩ := hAt
        obtain ⟨i, n, a, b, w, hcd, hg, ha, rfl, rfl⟩ := step_thr hst
        obtain ⟨ws', tys', hK', hP', hD', hS', hH'⟩ := a4
        obtain ⟨ix, si, icx, tx, hok, hws⟩ := thr_at hq (thr_in hcd hy hg)
        obtain ⟨ok1, ⟨d0, d3, d4, d6, d9⟩, ok3, ok4, ok5, ok6, ok7, ok8⟩ := hok
        have hts' : ∀ w ∈ gtbl, w.before cargs.toArray s = true := fun w hw => hts w (List.mem_cons_of_mem _ hw)
        dsimp only at a6 a7
        have h8 : (cst.map fun v => v.category).sum ≤ 8 := by rw [a3.cats]; exact of_decide_eq_true ha.2
        have c1 : (hNew S.2.2.2 200 6 (fun _ => Value.null)).1 - h.1 = cells + 1 := by unfold hNew; dsimp only; omega
        have c2 : (hNew S.2.2.2 200 6 (fun _ => Value.null)).2.1 - h.2.1 = slots + 6 := by unfold hNew; dsimp only; omega
        have hR1 : (headSpec (Cond.code q.1 q.2.1 q.2.2.1 q.2.2.2.1 :: gtbl) (mRm (d + 1) h (hNew S.2.2.2 200 6 (fun _ => Value.null)))).room.cells = cells + 1 := c1
        have hR2 : (headSpec (Cond.code q.1 q.2.1 q.2.2.1 q.2.2.2.1 :: gtbl) (mRm (d + 1) h (hNew S.2.2.2 200 6 (fun _ => Value.null)))).room.slots = slots + 6 := c2
        have hR3 : (headSpec (Cond.code q.1 q.2.1 q.2.2.1 q.2.2.2.1 :: gtbl) (mRm (d + 1) h (hNew S.2.2.2 200 6 (fun _ => Value.null)))).room.frames = d + 1 + 10 := rfl
        have hR4 : (headSpec (Cond.code q.1 q.2.1 q.2.2.1 q.2.2.2.1 :: gtbl) (mRm (d + 1) h (hNew S.2.2.2 200 6 (fun _ => Value.null)))).room.locals = 60 * (d + 1 + 4) := rfl
        rw [c1, c2]
        have hno : ∀ z ∈ c.exceptionTable.toList, covers z (S.1 + 9) = false := by
          intro z hz
          rw [Array.isEmpty_iff] at hnoh
          rw [hnoh] at hz
          simp at hz
        have hat : ∀ a' ∈ thrAtoms icx (excN (a - 100)), (a'.onTables = true ∧ a'.before cargs.toArray s = true) ∨ a' = .laysStatic Bundle.tN "UNASSIGNED_STACK" Bundle.steD ∨ a' = .isRef (.static Bundle.tN "UNASSIGNED_STACK" Bundle.steD) ∨ a' = .laysStatic Bundle.tN "SUPPRESSED_SENTINEL" Bundle.listD ∨ a' = .isRef (.static Bundle.tN "SUPPRESSED_SENTINEL" Bundle.listD) := by
          intro a' ha'
          rcases hws a' ha' with ⟨z1, z2 | z2⟩ | z
          · exact Or.inl ⟨z1, hts' a' z2⟩
          · exact Or.inl ⟨z1, va_Nw.use z1 (hE.1 a' z2)⟩
          · exact Or.inr z
        refine s_thr (tx := tx) hnt B.exec B.bytes (by rw [← ok1]; exact hown) B.notSynchronized (by rw [b1.1, hml]) ok7 ok8 hat (hts' _ ok3) (hts' _ ok4) (hts' _ ok5) hE (hE.2.2.2.1 (si, tx) ok6) (fun a cell g1 g2 => (stF.entry hP).now hS' g1 g2) d0 d3 d4 d6 d9 hno (by rw [hR3]; omega) (by rw [hR4]; omega) (by rw [hR1]; exact Nat.le_refl _) (by rw [hR2]; exact Nat.le_refl _) hS'.2.2 (fun t ce g1 g2 g3 g4 g5 g6 => ?_)
        refine ⟨⟨H.size, ce, rfl, g2, g3, g4, x ++ [H.size], ws', tys', by rw [← List.append_assoc]; exact hH'.dead (by decide), fun k z hk => (hP' k z hk).kept (g5 z.1 (hP' k z hk).lt), va_K.moved g6.alike hK', hD'⟩, ?_, fun z z1 z2 => ?_⟩
        · have := hS'.1
          omega
        · rw [g5 z (Nat.lt_of_lt_of_le z1 hS'.1)]
          exact hS'.2.1 z z1 z2
    · cases hex
end
section
/-! A callee that throws, and the handler that catches it; the handler's class may be linked there for the first time. -/
section SVI
variable {p : Program} {l : Launch} {e : Env} {R : Room} {s : State} {m : MethodId} {args : Array Value} {below : List Frame} {meth : Method} {c : Code}
theorem go_cold {T : State} {f : JFrame} {a : Addr} {x : ExceptionTableEntry} {t : List ExceptionTableEntry} {cC : ClassId} {vm' : Vm} {Q : Handler → Pre} {E : CtlPost} {d : Bool} {acts : List Action} (hx : covers x f.pc = true) (h0 : x.catchType ≠ 0)
    (hg : (Jvm.resolveClass f.method.cls x.catchType).Gives e.toSetting T.vm (.ok cC) vm') (hr : vm'.classReady f.method.cls x.catchType cC) (hsz : vm'.classes.size ≤ T.vm.classes.size) :
    wp (findHandler.go f a (x :: t)) Q E e d acts T ↔ wp (findHandler.go f a (x :: t)) Q E e d acts (T.setVm vm') := by
  obtain ⟨ha, ht⟩ := hg.op (op := VmOp.resolveClass f.method.cls x.catchType) rfl
  obtain ⟨k, hkd, hres⟩ := hr
  simp only [covers] at hx
  simp [findHandler.go, hx, h0, ha, ht, hsz, resolveClass_memo e hkd hres, VmOp.dirties, VmOp.acts]
  exact Iff.rfl
theorem go_next {T : State} {f : JFrame} {a : Addr} {x : ExceptionTableEntry} {t : List ExceptionTableEntry} {own C X : String} {ce : Cell} (hpl : e.platform.magicAccessors = ({} : Platform).magicAccessors) (hW : s.WarmedH T.vm) (hown : s.vm.findClass own = some f.method.cls) (hx : covers x f.pc = true) (h0 : x.catchType ≠ 0)
    (hcl : (Cond.classLink own x.catchType C).before args s = true) (hcell : T.heap[a]? = some ce) (hvm : ce.vm = .none) (hX : s.vm.findClass X = some ce.cls) :
    ∃ (vm' : Vm) (cC : ClassId), s.WarmedH vm' ∧ s.vm.findClass C = some cC ∧ ∀ (Q : Handler → Pre) (E : CtlPost) (d : Bool) (acts : List Action), wp (findHandler.go f a (x :: t)) Q E e d acts T ↔
      if s.vm.assignable ce.cls cC = true then Q (.found x.handlerPc) d acts (T.setVm vm') else wp (findHandler.go f a t) Q E e d acts (T.setVm vm') := by
  obtain ⟨cC, hfC, hlk⟩ := Cond.classLink_spec hown hcl e.platform hpl
  obtain ⟨hg, hw, hr⟩ := State.classEntry (e := e) hW hlk
  generalize T.vm.noted f.method.cls x.catchType (.cls cC) = vm' at hg hw hr
  have hsz : vm'.classes.size ≤ T.vm.classes.size := by rw [hw.2.1, hW.2.1]; exact Nat.le_refl _
  have cls1 : ∀ {n : String} {i : ClassId}, s.vm.findClass n = some i → ∃ k, vm'.classes[i]? = some k := by
    intro n i hi
    exact Vm.classAt_of_findClass (by rw [hw.alike.findClass]; exact hi)
  refine ⟨vm', cC, hw, hfC, fun Q E d acts => ?_⟩
  rw [go_cold hx h0 hg hr hsz, W.findHandler_go_class (s := T.setVm vm') hx h0 hr hcell (fun k hk => by rw [hvm] at hk; cases hk) (cls1 hX) (cls1 hfC)]
  have ea : (T.setVm vm').vm.assignable ce.cls cC = s.vm.assignable ce.cls cC := hw.alike.assignable _ _
  rw [ea]
def FindsW (e : Env) (T : State) (f : JFrame) (a : Addr) (h : Handler) (vm' : Vm) : Prop :=
  ∀ (Q : Handler → Pre) (E : CtlPost) (d : Bool) (acts : List Action), wp (findHandler f a) Q E e d acts T ↔ Q h d acts (T.setVm vm')
theorem stepThrowing_catchW {T : State} {a : Addr} {f : JFrame} {r : List Frame} {pc : Nat} {vm' : Vm} (hfind : FindsW e T f a (.found pc) vm') :
    (stepThrowing e T a (.java f :: r)).Is ((T.setVm vm').setFrames (.java { f with pc := pc, stack := [.ref a] } :: r)) [] := by
  simp only [stepThrowing, searchFrame, vmDo]
  generalize hr : Sem.go _ e false [] T = res
  obtain ⟨as, rfl, ha⟩ := Sem.eq_ok_of hr (a := Handler.found pc) (s' := T.setVm vm') (acts' := []) (by simp [hfind _ _ _ _])
  exact ⟨rfl, ha⟩
theorem catchAtW {T : State} {locs : List Loc} {cells slots : Nat} (X : Stand p l e R s m args below meth c T locs cells slots) (a : Addr) {g : JFrame} (hg : g.method = m) {pc : Nat} {vm' : Vm} (hfind : FindsW e ((T.setTop g).pushFrame (.throwing a)) g a (.found pc) vm') {target : State}
    (hrest : Steps p.tables e below ((T.setVm vm').setTop { g with pc := pc, stack := [.ref a] }) target) : Steps p.tables e below ((T.setTop g).pushFrame (.throwing a)) target := by
  have h : At T g.method c below := by rw [hg]; exact X.here
  obtain ⟨hgo, hw⟩ := h.throwing a
  refine Steps.head hgo hw ?_
  rw [stepThread_throwing (frames_entered h.top _), (stepThrowing_catchW (T := (T.setTop g).pushFrame (.throwing a)) hfind).1]
  obtain ⟨g₀, hg0⟩ := Option.isSome_iff_exists.mp h.top
  obtain ⟨r, hr⟩ := State.topJava?_eq_some.mp hg0
  have hr' : (T.setVm vm').frames = .java g₀ :: r := hr
  have e1 : ((T.setTop g).pushFrame (.throwing a)).setVm vm' = ((T.setVm vm').setTop g).pushFrame (.throwing a) := by
    rw [State.setTop_of_frames _ hr, State.setTop_of_frames _ hr']
    rfl
  rw [e1, State.pushFrame, State.setFrames_setFrames, State.setTop_of_frames _ hr', State.setFrames_setFrames]
  rw [State.setTop_of_frames _ hr'] at hrest
  rw [hr]
  exact hrest
theorem backT {y : MethodName} {len Wd : Nat} {ws : List Cond} {rm : Room} {Pc : Array Value → State → Prop} {Qc : Array Value → State → Outcome → State → Prop} {mc ms : Nat} {free : Addr → Prop} {bytes : ByteArray} {maxL : Nat} {ret : Option FieldType}
    (hM : MetX l y ws rm Pc Qc mc ms free) (hblind : FrameBlind Pc) (hrc : rm.cells = mc) (hrs : rm.slots = ms) (hframes : rm.frames + 1 ≤ R.frames) (hlocals : Wd + (maxL + 11) + rm.locals ≤ R.locals)
    (hws : ∀ w ∈ ws, ∀ a' U, s.WarmedH U.vm → w.before a' U = true) (hcode : Cond.code y bytes maxL ret ∈ ws) (hinit : ∀ a' U, s.WarmedH U.vm → (Cond.initialized y.cls).before a' U = true)
    {T : State} {locs : List Loc} {cells slots : Nat} (X : Stand p l e R s m args below meth c T locs cells slots) {g : JFrame} (hg : g.method = m) (hsize : g.locals.size = c.maxLocals) {ig : Instr} (hdg : decode c.code g.pc = .ok (ig, len)) (hW : 2 * g.monitorRoom + (g.stack.map fun v => v.category).sum ≤ Wd) {mk : MethodId} (hn : T.methodNamed? y = some mk) (h4 : cells + mc ≤ R.cells) (h5 : slots + ms ≤ R.slots) {a : Array Value} (hP : Pc a T) :
    ∃ (x : Addr) (t T' : State) (L : List Loc), Qc a (T.calling g mk a) (.threw x) t ∧ Stand p l e R s m args below meth c T' (locs ++ L) (cells + mc) (slots + ms) ∧ (∀ q ∈ L, free q.base) ∧ T'.heap = t.heap ∧ T'.vm = t.vm ∧ Steps p.tables e below (doInvoke e (T.setTop g) [] mk a).1 ((T'.setTop g).pushFrame (.throwing x)) := by
  have h1 : (headSpec ws rm).pre.before a T = true := atoms_intro fun w hw => hws w hw _ _ X.warmed
  have h2 := hws _ hcode a T X.warmed
  have h3 := hinit a T X.warmed
  obtain ⟨methY, cY, hmY, hcY, -, hlY, -, -, -, -⟩ := Cond.code_spec hn h2
  obtain ⟨kY, hkY, -⟩ := className_of_methodNamed hn
  have hinitY : kY.init = .initialized := Cond.initialized_spec (findClass_of_methodNamed hn) hkY h3
  have h : At T g.method c below := by rw [hg]; exact X.here
  have happ : (headSpec ws rm).appliesLoose y e.platform (T.calling g mk a) = true :=
    Spec.appliesLoose_calling (g := g) h hdg hn hkY hinitY
      (X.room_calling (g := g) (R' := (headSpec ws rm).room) hsize hmY hcY hframes (by rw [hlY]; show 2 * _ + _ + (_ + 11) + rm.locals ≤ _; omega) (by show cells + rm.cells ≤ _; omega) (by show slots + rm.slots ≤ _; omega)) h1
  obtain ⟨mid, hmid⟩ := h.above
  have hfr : (T.setTop g).frames = (.java g :: mid) ++ below := by rw [State.frames_setTop' g h.top, hmid]; rfl
  obtain ⟨o, s₂, hsteps, -, hend, hq⟩ := Steps.callFree hM p X.admits X.cas X.clock (acts := []) hfr happ (hblind _ _ _ _ hP) trivial
  rw [State.frames_setTop' g h.top, X.tail] at hend
  obtain ⟨⟨x, rfl⟩, hqc, L, hW₂, hsame, hL⟩ := hq
  obtain ⟨T', X', hW', hs', ht⟩ := X.outOfThrown hg (mk := mk) (a := a) hend hW₂ hsame
  refine ⟨x, s₂, T', L, hqc, X', hL, ?_, ?_, ?_⟩
  · rw [ht, Stand.throwing_heap]
  · rw [ht, Stand.throwing_vm]
  · rw [← ht]; exact hsteps
end SVI
end
section
/-! The law's own small methods, with their handlers. -/
def tup (h : ExceptionTableEntry) : Nat × Nat × Nat × Nat := (h.startPc, h.endPc, h.handlerPc, h.catchType)
def kindOf (cp : Nat) : Nat := ([(13, 0), (15, 1), (17, 2), (23, 3), (25, 4)].lookup cp).getD 9
def hhT (y : Nat) : List (Nat × Nat × Nat × Nat) := ([(224, [(0, 8, 11, 13), (0, 8, 14, 15), (0, 8, 17, 17)]), (225, [(0, 9, 12, 23), (0, 9, 15, 25)]), (226, [(0, 7, 10, 23)]), (227, [(0, 5, 8, 23), (0, 5, 11, 25)]), (228, [(0, 4, 7, 23)])].lookup y).getD []
theorem cw224 : Cond.codeWith mI224.1 mI224.2.1 mI224.2.2.1 mI224.2.2.2.1 (hhT 224) ∈ gtbl := in_gtbl (List.mem_of_getElem? (i := 644) (by decide +kernel)) rfl
theorem cw225 : Cond.codeWith mI225.1 mI225.2.1 mI225.2.2.1 mI225.2.2.2.1 (hhT 225) ∈ gtbl := in_gtbl (List.mem_of_getElem? (i := 1108) (by decide +kernel)) rfl
theorem cw226 : Cond.codeWith mI226.1 mI226.2.1 mI226.2.2.1 mI226.2.2.2.1 (hhT 226) ∈ gtbl := in_gtbl (List.mem_of_getElem? (i := 1149) (by decide +kernel)) rfl
theorem cw227 : Cond.codeWith mI227.1 mI227.2.1 mI227.2.2.1 mI227.2.2.2.1 (hhT 227) ∈ gtbl := in_gtbl (List.mem_of_getElem? (i := 1156) (by decide +kernel)) rfl
theorem cw228 : Cond.codeWith mI228.1 mI228.2.1 mI228.2.2.1 mI228.2.2.2.1 (hhT 228) ∈ gtbl := in_gtbl (List.mem_of_getElem? (i := 1168) (by decide +kernel)) rfl
theorem hand_hh0 : ((List.range 5).all fun j => decide (mHand (224 + j) = (hhT (224 + j)).map (fun q => (q.1, q.2.1, q.2.2.1, kindOf q.2.2.2))) && (hhT (224 + j)).all (fun q => decide (q.2.2.2 ∈ [13, 15, 17, 23, 25]))) = true := by decide +kernel
theorem hand_hh (y : Nat) (h1 : y < 229) (h2 : 224 ≤ y) : mHand y = (hhT y).map (fun q => (q.1, q.2.1, q.2.2.1, kindOf q.2.2.2)) ∧ ∀ q ∈ hhT y, q.2.2.2 ∈ [13, 15, 17, 23, 25] := by
  have h := List.all_eq_true.mp hand_hh0 (y - 224) (List.mem_range.mpr (by omega))
  rw [show 224 + (y - 224) = y by omega, Bool.and_eq_true, decide_eq_true_eq] at h
  exact ⟨h.1, fun q hq => of_decide_eq_true (List.all_eq_true.mp h.2 q hq)⟩
theorem hl13 : Cond.classLink "FunDeskLaw" 13 (excN (kindOf 13)) ∈ gtbl := in_gtbl (List.mem_of_getElem? (i := 645) (by decide +kernel)) rfl
theorem hl15 : Cond.classLink "FunDeskLaw" 15 (excN (kindOf 15)) ∈ gtbl := in_gtbl (List.mem_of_getElem? (i := 646) (by decide +kernel)) rfl
theorem hl17 : Cond.classLink "FunDeskLaw" 17 (excN (kindOf 17)) ∈ gtbl := in_gtbl (List.mem_of_getElem? (i := 647) (by decide +kernel)) rfl
theorem hl23 : Cond.classLink "FunDeskLaw" 23 (excN (kindOf 23)) ∈ gtbl := in_gtbl (List.mem_of_getElem? (i := 1109) (by decide +kernel)) rfl
theorem hl25 : Cond.classLink "FunDeskLaw" 25 (excN (kindOf 25)) ∈ gtbl := in_gtbl (List.mem_of_getElem? (i := 1110) (by decide +kernel)) rfl
theorem hl_all : ∀ cp ∈ [13, 15, 17, 23, 25], Cond.classLink "FunDeskLaw" cp (excN (kindOf cp)) ∈ gtbl := by
  intro cp h
  simp only [List.mem_cons, List.not_mem_nil, or_false] at h
  rcases h with rfl | rfl | rfl | rfl | rfl
  · exact hl13
  · exact hl15
  · exact hl17
  · exact hl23
  · exact hl25
theorem kind_no : ∀ k, k < 5 → ∀ cp ∈ [13, 15, 17, 23, 25], kindOf cp ≠ k → (k, kindOf cp) ∈ excNo := by decide +kernel
theorem cast_self : ∀ k, k < 5 → Cond.castable (excN k) (excN k) ∈ excWs := by decide +kernel
section SVJ
variable {p : Program} {l : Launch} {e : Env} {R : Room} {s : State} {m : MethodId} {args : Array Value} {below : List Frame} {meth : Method} {c : Code} {H : Heap} {locs : List Loc} {cells slots : Nat} {Q : State → Prop}
variable {pc : Nat} {ls : Array Slot} {cc : ByteArray} {D : va_G} {A : Nat → Prop} {H0 : Heap}
theorem go_list {f : JFrame} {a k : Nat} {ce : Cell} (hk5 : k < 5) (hpl : e.platform.magicAccessors = ({} : Platform).magicAccessors) (hown : s.vm.findClass "FunDeskLaw" = some f.method.cls) (hts : ∀ w ∈ gtbl, w.before args s = true) (hex : exOK s) (hvm : ce.vm = .none) (hX : s.vm.findClass (excN k) = some ce.cls) :
    ∀ (L : List ExceptionTableEntry) (T : State) (t : Nat), s.WarmedH T.vm → T.heap[a]? = some ce → (∀ x ∈ L, x.catchType ∈ [13, 15, 17, 23, 25]) → (((L.map tup).map (fun q => (q.1, q.2.1, q.2.2.1, kindOf q.2.2.2))).find? (fun q => decide (q.1 ≤ f.pc) && decide (f.pc < q.2.1) && q.2.2.2 == k)).map (fun q => q.2.2.1) = some t →
      ∃ vm' : Vm, s.WarmedH vm' ∧ ∀ (Q : Handler → Pre) (E : CtlPost) (d : Bool) (acts : List Action), wp (findHandler.go f a L) Q E e d acts T ↔ Q (.found t) d acts (T.setVm vm')
  | [], _, _, _, _, _, h => by cases h
  | x :: L, T, t, hW, hcell, hL, h => by
    have hcp := hL x List.mem_cons_self
    have hL' : ∀ x ∈ L, x.catchType ∈ [13, 15, 17, 23, 25] := fun z hz => hL z (List.mem_cons_of_mem _ hz)
    simp only [List.map_cons, List.find?_cons, tup] at h
    by_cases hc : covers x f.pc = true
    · have h0 : x.catchType ≠ 0 := by intro q; rw [q] at hcp; revert hcp; decide
      obtain ⟨vm1, cC, hw1, hfC, hiff⟩ := go_next (f := f) (a := a) (x := x) (t := L) (X := excN k) hpl hW hown hc h0 (hts _ (hl_all _ hcp)) hcell hvm hX
      have hc' : (decide (x.startPc ≤ f.pc) && decide (f.pc < x.endPc)) = true := hc
      rw [hc'] at h
      by_cases hk : kindOf x.catchType = k
      · have hb : (kindOf x.catchType == k) = true := by simpa using hk
        rw [hb] at h
        simp only [Bool.and_self, Option.map_some, Option.some.injEq] at h
        subst h
        rw [hk] at hfC
        rw [hX] at hfC
        cases hfC
        obtain ⟨c3, c4, hc3, hc4, hasg⟩ := Cond.castable_spec (show (Cond.castable (excN k) (excN k)).before #[] s = true from hex.1 _ (cast_self k hk5))
        cases hX.symm.trans hc3
        cases hX.symm.trans hc4
        exact ⟨vm1, hw1, fun Q E d acts => by rw [hiff, if_pos hasg]⟩
      · have hb : (kindOf x.catchType == k) = false := by simpa using hk
        rw [hb] at h
        simp only [Bool.and_false] at h
        obtain ⟨c1, c2, n1, n2, n3⟩ := hex.2.2.2.2 _ (kind_no k hk5 _ hcp hk)
        cases hX.symm.trans n1
        cases hfC.symm.trans n2
        obtain ⟨vm2, hw2, hiff2⟩ := go_list hk5 hpl hown hts hex hvm hX L (T.setVm vm1) t hw1 hcell hL' h
        exact ⟨vm2, hw2, fun Q E d acts => by rw [hiff, if_neg (by rw [n3]; decide), hiff2]; exact Iff.rfl⟩
    · have hc' : covers x f.pc = false := by simpa using hc
      have hc2 : (decide (x.startPc ≤ f.pc) && decide (f.pc < x.endPc)) = false := hc'
      rw [hc2] at h
      simp only [Bool.false_and] at h
      obtain ⟨vm2, hw2, hiff2⟩ := go_list hk5 hpl hown hts hex hvm hX L T t hW hcell hL' h
      exact ⟨vm2, hw2, fun Q E d acts => by rw [W.findHandler_go_skip hc', hiff2]⟩
end SVJ
end
section
section SVK
variable {p : Program} {l : Launch} {e : Env} {R : Room} {s : State} {m : MethodId} {args : Array Value} {below : List Frame} {meth : Method} {c : Code} {H : Heap} {locs : List Loc} {cells slots : Nat} {Q : State → Prop}
variable {pc : Nat} {ls : Array Slot} {cc : ByteArray} {D : va_G} {A : Nat → Prop} {H0 : Heap}
set_option maxHeartbeats 4000000 in
/-- a virtual call of the law's small methods that throws, and is caught there -/
theorem s_invT {F d : Nat} {y b w nL ix j kx : Nat} {st cst rest : List Value} {h hh : mHp} {lv : List (Nat × Value)} {S' : mSt} {ad : List Nat} {qb : mMI} (IX : mCtX l F d) (hbn : b < mNC) (hk5 : kx < 5) (hy1 : 224 ≤ y) (hy2 : y < 229) (hEx : c.exceptionTable.toList.map tup = hhT y)
    (hx : p.tables.exec = Jvm.exec) (hb : c.code = cc) (hml : c.maxLocals = nL) (hown : s.vm.findClass "FunDeskLaw" = some m.cls) (hts : ∀ w ∈ gtbl, w.before args s = true) (hnw : nwOK s)
    (hA : ∀ q, H0.size ≤ q → A q) (hex : exOK s) (hSF : stF A H0 s) (hRf : d + 11 ≤ R.frames) (hRl : 60 * (d + 5) ≤ R.locals)
    (hd : decode cc pc = .ok (.invokevirtual ix, 3)) (hqb : mTab[b]? = some qb) (hlk : lw_tbl[w]? = some (.methodLink "FunDeskLaw" ix qb.1)) (hst : qb.2.2.2.2.2.2 = 0) (hnm : qb.1.name ≠ "<init>") (hdr : st.drop (mArgN b) = .ref j :: rest) (hc1 : hTag h j = mOwn b) (hc2 : mOwn b < 12) (hc3 : mRoom8 rest = true)
    (hcall : mEx F d b (.ref j :: (st.take (mArgN b)).reverse) h = some (.inr kx, hh)) (hm : mBack y pc lv rest (.inr kx, hh) = some S') (hr : rl ad st cst) (hL : lvR ad nL ls lv) (hW : mW D A H0 s ad h H locs)
    (hcells : cells + (S'.2.2.2.1 - h.1) ≤ R.cells) (hslots : slots + (S'.2.2.2.2.1 - h.2.1) ≤ R.slots)
    (k : ∀ ad' cst' H' locs', (∃ x, ad' = ad ++ x) → rl ad' S'.2.2.1 cst' → mW D A H0 s ad' S'.2.2.2 H' locs' → lvR ad' nL ls S'.2.1 → W p l e R s m args below meth c H' locs' (cells + (S'.2.2.2.1 - h.1)) (slots + (S'.2.2.2.2.1 - h.2.1)) Q (F0 m S'.1 ls cst')) : W p l e R s m args below meth c H locs cells slots Q (F0 m pc ls cst) := by
  have hsz : ls.size = nL := by obtain ⟨clv, h1, -⟩ := hL; exact h1.1
  obtain ⟨io, ic⟩ := mIO_at hqb hbn
  have hbi : mOwn b = qb.2.2.2.2.1 ∧ mArgN b = qb.2.2.2.2.2.1 := by unfold mOwn mArgN; rw [mInf_at hqb]; exact ⟨rfl, rfl⟩
  have hmx : qb.2.2.1 ≤ 30 := by
    have := List.all_eq_true.mp (show (mTab.all (fun q => decide (q.2.2.1 ≤ 30))) = true by decide +kernel) qb (List.mem_of_getElem? hqb)
    exact of_decide_eq_true this
  have hdc := hr.drop (mArgN b)
  rw [hdr] at hdc
  obtain ⟨_, crest, hcd, ⟨a', hja, rfl⟩, hrest⟩ := hdc
  have hlen : mArgN b ≤ cst.length := by
    have : (cst.drop (mArgN b)).length = cst.length - mArgN b := List.length_drop
    rw [hcd] at this
    simp only [List.length_cons] at this
    omega
  have htk := (hr.take (mArgN b)).rev
  obtain ⟨qc, hqc⟩ : ∃ qc, cls[mOwn b]? = some qc := ⟨_, List.getElem?_eq_getElem (by exact hc2)⟩
  have hcn : qc.1 = qb.1.cls := cls_own hqc (by rw [hbi.1]; exact io.1)
  obtain ⟨t0, ht0, hS'⟩ := Option.map_eq_some_iff.mp (show (mCatch y pc kx).map (fun t => ((t, lv, [.retAddr 0], hh) : mSt)) = some S' from hm)
  subst hS'
  obtain ⟨ws, tys, hK, hP, hD, hS, hH⟩ := hW
  have hM := IX b qb hqb hbn _ h kx hh hcall D ad ws tys (.ref a' :: (cst.take (mArgN b)).reverse) H.size ⟨_, _, rfl, ⟨a', hja, rfl⟩, htk⟩ hH
  obtain ⟨kw, E, hk, hE⟩ := hH.2.1 j a' hja (by omega)
  have e1 : (h.2.2 j).1 = mOwn b := hc1
  obtain ⟨fs, qc', rfl, hq', -, -, -⟩ := hE.obj (by omega)
  rw [e1] at hq' hk
  rw [hqc] at hq'
  cases hq'
  have hrv := va_recv hK hP hqc hk
  rw [hcn] at hrv
  obtain ⟨cellB, hcB, hoB, hclB⟩ := hrv
  have hf : ∀ q, va_A ws H.size q → A q := by
    intro q hq
    rcases hq with ⟨k', e', h'⟩ | h'
    · exact hD.2 k' (q, e') h'
    · exact hA q (Nat.le_trans hS.1 h')
  have hRR : (mRm d h hh).frames + 1 ≤ R.frames ∧ 8 + (qb.2.2.1 + 11) + (mRm d h hh).locals ≤ R.locals := by
    have e1 : (mRm d h hh).frames = d + 10 := rfl
    have e2 : (mRm d h hh).locals = 60 * (d + 4) := rfl
    rw [e1, e2]
    omega
  have hcb : CallB R s args "FunDeskLaw" ix qb.1 qb.2.1 qb.2.2.1 qb.2.2.2.1 (Cond.code qb.1 qb.2.1 qb.2.2.1 qb.2.2.2.1 :: gtbl) (mRm d h hh) (hh.1 - h.1) (hh.2.1 - h.2.1) (mArgN b) := callB_of (Ts := gtbl) (mArgN b) hts (good_code ic) rfl rfl rfl (hts _ (in_gtbl io.2.2.2.1 rfl)) (hts _ (in_gtbl_at hlk rfl)) ⟨io.2.1.1, io.2.1.2.1, by rw [hbi.2]; exact io.2.1.2.2⟩ hRR
  obtain ⟨-, -, hfr, hlo, hws, hcw, hcode, hini, hyy, hlenP, hlink⟩ := hcb
  have hinst := hts _ (in_gtbl (io.2.2.2.2.2 hst).1 rfl)
  have hsel := hts _ (in_gtbl ((io.2.2.2.2.2 hst).2 hnm) rfl)
  intro T hT X
  obtain ⟨mk, methM, hnamed, hmethM, hstM, habM⟩ := Cond.instanceMethod_spec hinst
  obtain ⟨methM', cM, hmethM', -, -, -, -, -, -, hsigM⟩ := Cond.code_spec hnamed hcode
  cases hmethM.symm.trans hmethM'
  obtain ⟨c2, r2, m2, q1, q2, q3, q4, kP, hkP, hkPi⟩ := Cond.selects_spec hsel
  cases hclB.symm.trans q1
  cases (State.methodFound?_of_named hnamed hyy).symm.trans q2
  cases hnamed.symm.trans q3
  have hselP : selectMethod e.platform s.vm cellB.cls mk = .method mk := by rw [Launch.admits_selectMethod X.admits]; exact q4
  have hAl : (cst.take (mArgN b)).reverse.length = mArgN b := by rw [List.length_reverse, List.length_take]; omega
  obtain ⟨vm₁, X₁, hstep₁⟩ := X.invokevirtual hx hown hlink hnamed hmethM hstM hkP hkPi hyy (a := a') (cell := cellB) (by rw [hT]; exact hcB)
    (fun z hz => by rw [hz] at hoB; cases hoB) hselP hmethM habM hkP hkPi (g := F0 m pc ls cst) rfl (argsL := (cst.take (mArgN b)).reverse) (rest := crest) (hAl.trans (hlenP _ hsigM)) (by show cst = _; rw [List.reverse_reverse, ← hcd, List.take_append_drop]) (by rw [hb]; exact hd)
  have h8 : (crest.map fun v => v.category).sum ≤ 8 := by rw [hrest.cats]; exact of_decide_eq_true hc3
  obtain ⟨x, t, T', L, hqx, X', hLf, e2, e3, hsteps⟩ := backT (Wd := 8) (len := 3) hM mPc_blind rfl rfl hfr hlo hws hcw (fun a' U hW => word_at hW (Or.inl (by first | rfl | simp [Cond.onTables, Cond.keeps, Cond.steady])) hini) X₁ (g := F0 m pc ls crest) rfl (hsz.trans hml.symm) (by rw [hb]; exact hd) (lv_room h8) (X₁.named hnamed) hcells hslots (a := (Value.ref a' :: (cst.take (mArgN b)).reverse).toArray)
    ⟨rfl, by show T.heap.size = _; rw [hT], by show va_P D cls ws T.heap; rw [hT]; exact hP, va_K.moved X₁.warmed.alike hK, hnw.warm X₁.warmed, hex.move X₁.warmed (fun a cell g1 g2 => by show T.heap[a]? = _; rw [hT]; exact hSF.now hS g1 g2), hD.weaken (fun _ _ _ _ => trivial)⟩
  obtain ⟨⟨x', ce, hxx, hce, hcX, hcv, y', ws', tys', g1, g2, g3, g4⟩, hz, hkp⟩ := hqx
  cases hxx
  have hh0 : ((T.setVm vm₁).calling (F0 m pc ls crest) mk (Value.ref a' :: (cst.take (mArgN b)).reverse).toArray).heap = H := hT
  rw [hh0] at hz hkp
  have hcX' : s.vm.findClass (excN kx) = some ce.cls := by rw [← X₁.warmed.alike.findClass]; exact hcX
  have hpl : e.platform.magicAccessors = ({} : Platform).magicAccessors := by rw [X.admits.platform]
  have hhand := hand_hh y hy2 hy1
  have hL9 : ∀ z ∈ c.exceptionTable.toList, z.catchType ∈ [13, 15, 17, 23, 25] := by
    intro z hz9
    have : tup z ∈ hhT y := by rw [← hEx]; exact List.mem_map.mpr ⟨z, hz9, rfl⟩
    exact hhand.2 _ this
  obtain ⟨vm2, hw2, hiff⟩ := go_list (f := F0 m pc ls crest) (a := x) (k := kx) (e := e) hk5 hpl hown hts hex hcv hcX' c.exceptionTable.toList (((T'.setTop (F0 m pc ls crest)).pushFrame (.throwing x))) t0 (by rw [Stand.throwing_vm]; exact X'.warmed) (by rw [Stand.throwing_heap, e2]; exact hce) hL9 (by
    rw [hEx, ← hhand.1]
    exact ht0)
  have hfind : FindsW e ((T'.setTop (F0 m pc ls crest)).pushFrame (.throwing x)) (F0 m pc ls crest) x (.found t0) vm2 := by
    intro Q E d acts
    rw [W.findHandler_eq (s := (T'.setTop (F0 m pc ls crest)).pushFrame (.throwing x)) (f := F0 m pc ls crest) (meth := meth) (code := c) (by rw [Stand.throwing_vm]; exact X'.method') X'.code]
    exact hiff Q E d acts
  have X2 := X'.noted hw2
  have hK' : va_K D cls tys' s := va_K.moved (show t.vm.Alike s.vm by rw [← e3]; exact X'.warmed.alike.symm) g3
  have kk := k (ad ++ y') [.ref x] T'.heap (locs ++ L) ⟨y', rfl⟩ ⟨_, _, rfl, ⟨x, rfl⟩, rfl⟩ ⟨ws', tys', hK', by rw [e2]; exact g2, g4.weaken (fun _ q _ hq => hf q.1 hq), ⟨Nat.le_trans hS.1 (by rw [e2]; exact hz), fun q h1 h2 => by rw [e2, hkp q (Nat.lt_of_lt_of_le h1 hS.1) (fun z => h2 (hf q z))]; exact hS.2.1 q h1 h2, fun q hq => by
      rcases List.mem_append.mp hq with hq | hq
      · exact hS.2.2 q hq
      · exact hf _ (hLf q hq)⟩, g1⟩ hL.app
  obtain ⟨tt, a1, b1⟩ := kk (T'.setVm vm2) rfl X2
  exact ⟨tt, hstep₁ _ (fun acts => by rw [doInvoke_state]; exact hsteps.trans (catchAtW X' x rfl hfind a1)), b1⟩
end SVK
end
section
/-! The contracts of the law's own small methods. -/
theorem go_kind {call : Nat → List Value → mHp → Option (mRes × mHp)} {sc : Bool} {y k : Nat} {hh : mHp} : ∀ (n : Nat) {S : mSt}, mGo call sc y n S = some (.inr k, hh) → k < 5
  | 0, _, h => by cases h
  | n + 1, S, h => by
    simp only [mGo] at h
    split at h
    · cases h
    · next S' hS => exact go_kind n h
    · next r hS =>
      cases h
      obtain ⟨i, n, a, b, w, -, -, ha, rfl, -⟩ := step_thr hS
      omega
theorem ex_kind {F d y k : Nat} {as : List Value} {h hh : mHp} (hx : mEx F d y as h = some (.inr k, hh)) : k < 5 := by
  cases d with
  | zero => cases hx
  | succ d =>
    simp only [mEx] at hx
    split at hx
    · exact go_kind F hx
    · cases hx
def wrapChk (o : Option mEnt) : Bool := match o with
  | none => true
  | some (i, _, a, b, _) => !(mGrp a i == 4) || (match i with | .invokevirtual _ => decide (b < mNC) | _ => false)
theorem wrap_chk : ((cdT.drop 224).take 5).all (fun L => L.all wrapChk) = true := by decide +kernel
theorem wrap_in {y pc : Nat} {i : Instr} {n a b w : Nat} (h : mcd y pc = some (i, n, a, b, w)) (hy1 : 224 ≤ y) (hy2 : y < 229) (hg : mGrp a i = 4) : (∃ ix, i = .invokevirtual ix) ∧ b < mNC := by
  obtain ⟨L, q', hL, -, hx, -⟩ := mcd_row h
  have h1 := List.all_eq_true.mp wrap_chk L (List.mem_of_getElem? (i := y - 224) (by rw [List.getElem?_take_of_lt (by omega), List.getElem?_drop, show 224 + (y - 224) = y by omega]; exact hL))
  have h2 := List.all_eq_true.mp h1 _ (List.mem_of_getElem? hx)
  simp only [wrapChk, hg, Bool.or_eq_true, Bool.not_eq_true'] at h2
  rcases h2 with h2 | h2
  · simp at h2
  · split at h2
    · next ix => exact ⟨⟨_, rfl⟩, of_decide_eq_true h2⟩
    · cases h2
theorem wrap_own : ((mTab.drop 224).take 5).all (fun q => decide (q.1.cls = "FunDeskLaw") && decide (q.2.2.2.2.2.2 = 1)) = true := by decide +kernel
theorem wrap_code (y : Nat) (q : mMI) (hq : mTab[y]? = some q) (hy1 : 224 ≤ y) (hy2 : y < 229) : Cond.codeWith q.1 q.2.1 q.2.2.1 q.2.2.2.1 (hhT y) ∈ gtbl ∧ q.1.cls = "FunDeskLaw" ∧ q.2.2.2.2.2.2 = 1 := by
  have h1 := List.all_eq_true.mp wrap_own q (List.mem_of_getElem? (i := y - 224) (by rw [List.getElem?_take_of_lt (by omega), List.getElem?_drop, show 224 + (y - 224) = y by omega]; exact hq))
  simp only [Bool.and_eq_true, decide_eq_true_eq] at h1
  refine ⟨?_, h1⟩
  rcases (show y = 224 ∨ y = 225 ∨ y = 226 ∨ y = 227 ∨ y = 228 by omega) with rfl | rfl | rfl | rfl | rfl
  · cases (show mI224 = q from Option.some.inj hq); exact cw224
  · cases (show mI225 = q from Option.some.inj hq); exact cw225
  · cases (show mI226 = q from Option.some.inj hq); exact cw226
  · cases (show mI227 = q from Option.some.inj hq); exact cw227
  · cases (show mI228 = q from Option.some.inj hq); exact cw228
def mCtW (l : Launch) (F d : Nat) : Prop := ∀ (y : Nat) (q : mMI), mTab[y]? = some q → 224 ≤ y → y < 229 → ∀ (args : List Value) (h : mHp) (r : Option Value) (h' : mHp), mEx F d y args h = some (.inl r, h') →
  ∀ (D : va_G) (ad : List Nat) (ws : va_W) (tys : List (ClassId × FieldType)) (cargs : List Value) (sz : Nat), rl ad args cargs → hR ad ws tys h →
    Met l q.1 (Cond.codeWith q.1 q.2.1 q.2.2.1 q.2.2.2.1 (hhT y) :: gtbl) (mRm d h h') (va_Pc cargs (mPc D ws tys sz)) (mQc D ad ws sz r h') (h'.1 - h.1) (h'.2.1 - h.2.1) (va_A ws sz)
set_option maxHeartbeats 4000000 in
theorem mCtW_all (l : Launch) (hnt : l.stackTraces = false) (F : Nat) : ∀ d, mCtW l F d
  | 0 => fun y q _ _ _ args h r h' hex => by cases hex
  | d + 1 => fun y q hq hy1 hy2 args h r h' hex D ad ws tys cargs sz hargs hH => by
    have io := mTab_ok q (List.mem_of_getElem? (i := y) (by rw [List.getElem?_take_of_lt (by omega)]; exact hq))
    obtain ⟨wc, wo, -⟩ := wrap_code y q hq hy1 hy2
    have hnL : mMaxL y = q.2.2.1 := by unfold mMaxL; rw [mInf_at hq]
    have hoy : ownN[mOwn y]? = some q.1.cls := by unfold mOwn; rw [mInf_at hq]; exact io.1
    simp only [mEx] at hex
    split at hex
    · next hlen =>
      refine va_MetW (cc := q.2.1) (maxL := q.2.2.1) (ret := q.2.2.2.1) (hh := hhT y) io.2.2.1 rfl ?_
      intro p e s m args' below meth c s₁ B hml hv
      obtain ⟨rfl, hsz, hP, hK, hN, hE, hD0⟩ := hv
      have hts := atoms_spec (ws := Cond.codeWith q.1 q.2.1 q.2.2.1 q.2.2.2.1 (hhT y) :: gtbl) B.pre
      have hts' : ∀ w ∈ gtbl, w.before cargs.toArray s = true := fun w hw => hts w (List.mem_cons_of_mem _ hw)
      have hown : s.vm.findClass q.1.cls = some m.cls := findClass_of_methodNamed B.named
      have hin : meth.name = q.1.name := (name_of_methodNamed B.named B.method).1
      have hEx : c.exceptionTable.toList.map tup = hhT y := by
        obtain ⟨m9, meth9, c9, hn9, g1, g2, -, -, g5, -⟩ := Cond.codeWith_spec (hts _ List.mem_cons_self)
        cases B.named.symm.trans hn9
        cases B.method.symm.trans g1
        cases (Stand.of_body B).code.symm.trans g2
        exact g5
      subst hsz
      have hD := hD0.self (sz := s.heap.size)
      have hl := lv_entry cargs (n := q.2.2.1) (by rw [lg_len hargs, ← hnL]; exact hlen)
      rw [lg_entry_eq]
      generalize ((lg_sl cargs) ++ List.replicate (q.2.2.1 - (lg_sl cargs).length) Slot.unset).toArray = ls at hl ⊢
      have hge := le3.go (le3.ex d) F hex
      refine s_go (R := (headSpec (Cond.codeWith q.1 q.2.1 q.2.2.1 q.2.2.2.1 (hhT y) :: gtbl) (mRm (d + 1) h h')).room) (A := va_A ws s.heap.size) (H0 := s.heap) (h0 := (h.1, h.2.1)) (ad0 := ad) (D := D) (sc := false) hq B.exec B.bytes hown hoy hts' hN (fun q hq => Or.inr hq) (fun hh => by rw [hin, ← mInf_at hq]; exact hh)
        (by have := hge.1; show h'.1 ≤ h.1 + (h'.1 - h.1); omega) (by have := hge.2.1; show h'.2.1 ≤ h.2.1 + (h'.2.1 - h.2.1); omega) ?_ ?_ F _ s.heap [] 0 0 ls [] ad hex ⟨⟨[], (List.append_nil _).symm⟩, ⟨_, hl, rll.args 0 hargs⟩, rfl, ⟨ws, tys, hK, hP, hD, va_S.rf, hH⟩, (fun hh => absurd hh (by decide)), rfl, rfl⟩
      · intro S S' H locs cells slots ls cst ad' i n a b w g1 g2 g3 g4 g5 hAt g6
        obtain ⟨a1, a2, a3, a4, a5, a6, a7⟩ := hAt
        obtain ⟨hd, hn, hlk⟩ := mcd_ok g1 hq
        obtain ⟨⟨ix0, rfl⟩, hbn⟩ := wrap_in g1 hy1 hy2 g2
        have hle := le3.inv (le3.ex d) g3
        have l1 := hle.1
        have l2 := hle.2.1
        dsimp only at a6 a7 g4 g5
        have hn3 : n = 3 := hn
        refine s_inv (mCt_all l F d) (Or.inr (Or.inr hbn)) (Or.inr ⟨_, rfl⟩) B.exec B.bytes hml hown hts' hN (fun q hq => Or.inr hq) hE (stF.entry hP) (by show d + 11 ≤ d + 1 + 10; omega) (by show 60 * (d + 5) ≤ 60 * (d + 1 + 4); omega) hd hn hlk g3 a3 a2 a4 (by omega) (by omega) (fun ix j kx hh rest qb e1 hqb hlk2 hst hnm hdr hc1 hc2 hc3 hcall hm => ?_) g6
        cases e1
        subst hn3
        exact s_invT (mCtX_all l hnt F d) hbn (ex_kind hcall) hy1 hy2 hEx B.exec B.bytes hml (by rw [← wo]; exact hown) hts' hN (fun q hq => Or.inr hq) hE (stF.entry hP) (by show d + 11 ≤ d + 1 + 10; omega) (by show 60 * (d + 5) ≤ 60 * (d + 1 + 4); omega) hd hqb (by rw [wo] at hlk2; exact hlk2) hst hnm hdr hc1 hc2 hc3 hcall hm a3 a2 a4 (by omega) (by omega) g6
      · intro S H locs cells slots ls cst ad' hst hAt
        obtain ⟨⟨x, rfl⟩, a2, a3, a4, a5, a6, a7⟩ := hAt
        obtain ⟨i, n, a, b, w, hcd, hm, rfl⟩ := step_ret hst
        obtain ⟨hd, hn, hlk⟩ := mcd_ok hcd hq
        obtain ⟨ws', tys', hK', hP', hD', hS', hH'⟩ := a4
        dsimp only at a6 a7
        have e1 : cells = S.2.2.2.1 - h.1 := by omega
        have e2 : slots = S.2.2.2.2.1 - h.2.1 := by omega
        subst e1
        subst e2
        exact s_ret (y := y) B.exec B.bytes B.returns B.notSynchronized (mInf_at hq) hd hn hm a3 (fun cv t hro ht hW => ⟨⟨cv, rfl, x, ws', tys', hro, hH', by rw [ht]; exact hP', va_K.moved hW.alike hK', hD'⟩, hS'.F ht⟩) hS'.2.2
    · cases hex
end
section
/-! The law: its calls, its run. -/
section SVL
variable {p : Program} {l : Launch} {e : Env} {R : Room} {s : State} {m : MethodId} {args : Array Value} {below : List Frame} {meth : Method} {c : Code} {H : Heap} {locs : List Loc} {cells slots : Nat} {Q : State → Prop}
variable {pc : Nat} {ls : Array Slot} {cc : ByteArray} {D : va_G} {A : Nat → Prop} {H0 : Heap}
/-- a call of a static method that has an exception table -/
theorem va_runSW {y : MethodName} {bytes : ByteArray} {maxL nL mc ms n index : Nat} {ret : Option FieldType} {hh : List (Nat × Nat × Nat × Nat)} {ws : List Cond} {rm : Room} {Pc : Array Value → State → Prop} {Qc : Array Value → State → Outcome → State → Prop} {free : Addr → Prop} {own : String} {As rest : List Value} {g : JFrame}
    (hx : p.tables.exec = Jvm.exec) (hb : c.code = cc) (hml : c.maxLocals = nL) (hown : s.vm.findClass own = some m.cls) (hM : Met l y ws rm Pc Qc mc ms free) (hrc : rm.cells = mc) (hrs : rm.slots = ms) (hfr : rm.frames + 1 ≤ R.frames) (hlo : 8 + (maxL + 11) + rm.locals ≤ R.locals)
    (hws : ∀ w ∈ ws, ∀ (a' : Array Value) (U : State), s.WarmedH U.vm → w.before a' U = true) (hcw : Cond.codeWith y bytes maxL ret hh ∈ ws) (hcode : (Cond.codeWith y bytes maxL ret hh).before args s = true) (hini : (Cond.initialized y.cls).before args s = true) (hyy : y.cls ≠ "java/lang/invoke/MethodHandle" ∧ y.cls ≠ "java/lang/invoke/VarHandle") (hlenP : ∀ sig, parseMethodDescriptor y.desc = some sig → n = sig.parameters.length) (hlink : (Cond.methodLink own index y).before args s = true) (hstt : (Cond.static y).before args s = true)
    (hp : PreS s H Pc As) (hg : g.method = m) (hn : As.length = n) (hsize : g.locals.size = nL) (hstack : g.stack = As.reverse ++ rest) (hW : 2 * g.monitorRoom + (rest.map fun v => v.category).sum ≤ 8) (hdg : decode cc g.pc = .ok (.invokestatic index, 3)) (hf : cells + mc ≤ R.cells ∧ slots + ms ≤ R.slots) :
    va_Run p l e R s m args below meth c H locs cells slots mc ms g rest (Qc As.toArray) (free) := by
  have hK : Back l R p e below s args y 3 8 (PreOf R mc ms Pc) (PostOf Qc mc ms free) := va_backW (hh := hh) hM hp.1 hrc hrs hfr hlo hws hcw (fun a' U hW => word_at hW (Or.inl (by first | rfl | simp [Cond.onTables, Cond.keeps, Cond.steady])) hini)
  intro T hT X
  obtain ⟨mk, methM, cM, hnamed, hmethM, -, -, -, -, -, -, hsigM⟩ := Cond.codeWith_spec hcode
  have hstatic : methM.isStatic = true := Cond.static_spec hnamed hmethM hstt
  obtain ⟨kP, hkP, -⟩ := className_of_methodNamed hnamed
  have hinitP : kP.init = .initialized := Cond.initialized_spec (findClass_of_methodNamed hnamed) hkP hini
  obtain ⟨vm₁, X₁, hstep₁⟩ := X.invokestatic hx hown hlink hnamed hmethM hstatic hkP hinitP hyy (g := g) hg (argsL := As) (rest := rest) (hn.trans (hlenP _ hsigM)) hstack (by rw [hb]; exact hdg)
  obtain ⟨v, B, X', hpost, hsteps⟩ := hK m meth c ⟨T.setVm vm₁, locs, cells, slots⟩ { g with stack := rest } (.invokestatic index) mk As.toArray X₁ hg (hsize.trans hml.symm) (by rw [hb]; exact hdg) hW (X₁.named hnamed) ⟨hf.1, hf.2, hp.2 (T.setVm vm₁) hT X₁.warmed⟩
  obtain ⟨g', mk', t, L, e1, e2, hq, h1, hL, h2, h3⟩ := hpost
  obtain ⟨U', l2, c2, s2⟩ := B
  dsimp only [Pt.U, Pt.locs, Pt.cells, Pt.slots] at X' e1 e2 h1 h2 h3 hsteps
  subst h1; subst h2; subst h3
  exact ⟨v, (T.setVm vm₁).calling g' mk' As.toArray, t, U', L, hT, X', hL, e1, e2, hq, fun target h => hstep₁ _ fun acts => by rw [doInvoke_state]; exact hsteps.trans h⟩
set_option maxHeartbeats 4000000 in
theorem s_invW {F d : Nat} {b w nL ix : Nat} {st cst : List Value} {h hh : mHp} {lv : List (Nat × Value)} {r : Option Value} {ad : List Nat} {qb : mMI} (IW : mCtW l F d) (hb1 : 224 ≤ b) (hb2 : b < 229)
    (hx : p.tables.exec = Jvm.exec) (hb : c.code = cc) (hml : c.maxLocals = nL) (hown : s.vm.findClass "FunDeskLaw" = some m.cls) (hts : ∀ w ∈ gtbl, w.before args s = true) (hnw : nwOK s)
    (hA : ∀ q, H0.size ≤ q → A q) (hex : exOK s) (hSF : stF A H0 s) (hRf : d + 11 ≤ R.frames) (hRl : 60 * (d + 5) ≤ R.locals)
    (hd : decode cc pc = .ok (.invokestatic ix, 3)) (hqb : mTab[b]? = some qb) (hlk : lw_tbl[w]? = some (.methodLink "FunDeskLaw" ix qb.1)) (hc1 : mArgN b ≤ st.length) (hc3 : mRoom8 (st.drop (mArgN b)) = true)
    (hcall : mEx F d b (st.take (mArgN b)).reverse h = some (.inl r, hh)) (hr : rl ad st cst) (hL : lvR ad nL ls lv) (hW : mW D A H0 s ad h H locs)
    (hcells : cells + (hh.1 - h.1) ≤ R.cells) (hslots : slots + (hh.2.1 - h.2.1) ≤ R.slots)
    (k : ∀ ad' cst' H' locs', (∃ x, ad' = ad ++ x) → rl ad' (r.toList ++ st.drop (mArgN b)) cst' → mW D A H0 s ad' hh H' locs' → lvR ad' nL ls lv → W p l e R s m args below meth c H' locs' (cells + (hh.1 - h.1)) (slots + (hh.2.1 - h.2.1)) Q (F0 m (pc + 3) ls cst')) : W p l e R s m args below meth c H locs cells slots Q (F0 m pc ls cst) := by
  have hsz : ls.size = nL := by obtain ⟨clv, h1, -⟩ := hL; exact h1.1
  have io := mTab_ok qb (List.mem_of_getElem? (i := b) (by rw [List.getElem?_take_of_lt (by omega)]; exact hqb))
  obtain ⟨wc, wo, wst⟩ := wrap_code b qb hqb hb1 hb2
  have hbi : mArgN b = qb.2.2.2.2.2.1 := by unfold mArgN; rw [mInf_at hqb]
  have hmx : qb.2.2.1 ≤ 30 := by
    have := List.all_eq_true.mp (show (mTab.all (fun q => decide (q.2.2.1 ≤ 30))) = true by decide +kernel) qb (List.mem_of_getElem? hqb)
    exact of_decide_eq_true this
  have hrest := hr.drop (mArgN b)
  have htk := (hr.take (mArgN b)).rev
  have hlen : mArgN b ≤ cst.length := by rw [hr.len]; exact hc1
  have h8 : ((cst.drop (mArgN b)).map fun v => v.category).sum ≤ 8 := by rw [hrest.cats]; exact of_decide_eq_true hc3
  obtain ⟨ws, tys, hK, hP, hD, hS, hH⟩ := hW
  have hM := IW b qb hqb hb1 hb2 _ h r hh hcall D ad ws tys (cst.take (mArgN b)).reverse H.size htk hH
  have hf : ∀ q, va_A ws H.size q → A q := by
    intro q hq
    rcases hq with ⟨k', e', h'⟩ | h'
    · exact hD.2 k' (q, e') h'
    · exact hA q (Nat.le_trans hS.1 h')
  have hgood : GoodIn gtbl (Cond.codeWith qb.1 qb.2.1 qb.2.2.1 qb.2.2.2.1 (hhT b) :: gtbl) := by
    intro w hw
    rcases List.mem_cons.mp hw with rfl | hw
    · exact ⟨wc, good_of_word rfl⟩
    · exact ⟨hw, good_of_word (List.mem_filter.mp hw).2⟩
  have hfr : (mRm d h hh).frames + 1 ≤ R.frames ∧ 8 + (qb.2.2.1 + 11) + (mRm d h hh).locals ≤ R.locals := by
    have e1 : (mRm d h hh).frames = d + 10 := rfl
    have e2 : (mRm d h hh).locals = 60 * (d + 4) := rfl
    rw [e1, e2]
    omega
  have hrun := va_runSW (cells := cells) (slots := slots) (locs := locs) (e := e) (below := below) (meth := meth) (As := (cst.take (mArgN b)).reverse) (rest := cst.drop (mArgN b)) (g := F0 m pc ls cst) (n := mArgN b) (H := H) (hh := hhT b) hx hb hml hown hM rfl rfl hfr.1 hfr.2 (pay_in hts hgood) List.mem_cons_self (hts _ wc) (hts _ (in_gtbl io.2.2.2.1 rfl)) ⟨io.2.1.1, io.2.1.2.1⟩ (fun sig hsig => by have h2 := io.2.1.2.2; rw [hsig] at h2; rw [hbi]; exact (Option.some.inj h2).symm) (hts _ (in_gtbl_at hlk rfl)) (hts _ (in_gtbl (io.2.2.2.2.1 wst) rfl))
    ⟨mPc_blind, fun U hU hW => ⟨rfl, by rw [hU], by rw [hU]; exact hP, va_K.moved hW.alike hK, hnw.warm hW, hex.move hW (fun a cell g1 g2 => by rw [hU]; exact hSF.now hS g1 g2), hD.weaken (fun _ _ _ _ => trivial)⟩⟩ rfl (by rw [List.length_reverse, List.length_take]; omega) hsz (by show cst = _; rw [List.reverse_reverse, List.take_append_drop]) (lv_room h8) hd ⟨hcells, hslots⟩
  refine s_back hrun hS hf (fun v x ws' tys' H1 locs1 g1 g2 g3 g4 g5 g6 => ?_)
  exact k (ad ++ x) _ H1 locs1 ⟨x, rfl⟩ (rl_ro g1 hrest) ⟨ws', tys', g4, g3, g5.weaken (fun _ q _ h => hf q.1 h), g6, g2⟩ hL.app
end SVL
def lawChk (o : Option mEnt) : Bool := match o with
  | none => true
  | some (i, _, a, b, _) => !(mGrp a i == 4) || a == 4 || a == 5 || decide (b < mNC) || (match i with | .invokestatic _ => a == 1 && decide (224 ≤ b) && decide (b < 229) | _ => false)
theorem law_chk : ((cdT.drop 229).all (fun L => L.all lawChk)) = true := by decide +kernel
theorem law_in {pc : Nat} {i : Instr} {n a b w : Nat} (h : mcd 229 pc = some (i, n, a, b, w)) (hg : mGrp a i = 4) : (a = 4 ∨ a = 5 ∨ b < mNC) ∨ ((∃ ix, i = .invokestatic ix) ∧ a = 1 ∧ 224 ≤ b ∧ b < 229) := by
  obtain ⟨L, q', hL, -, hx, -⟩ := mcd_row h
  have h1 := List.all_eq_true.mp law_chk L (List.mem_of_getElem? (i := 0) (by rw [List.getElem?_drop]; exact hL))
  have h2 := List.all_eq_true.mp h1 _ (List.mem_of_getElem? hx)
  simp only [lawChk, hg, Bool.or_eq_true, Bool.not_eq_true', beq_iff_eq, decide_eq_true_eq] at h2
  rcases h2 with (((h2 | h2) | h2) | h2) | h2
  · simp at h2
  · exact Or.inl (Or.inl h2)
  · exact Or.inl (Or.inr (Or.inl h2))
  · exact Or.inl (Or.inr (Or.inr h2))
  · split at h2
    · next ix => simp only [Bool.and_eq_true, beq_iff_eq, decide_eq_true_eq] at h2; exact Or.inr ⟨⟨_, rfl⟩, h2.1.1, h2.1.2, h2.2⟩
    · cases h2
theorem law_hand : mHand 229 = [] := by decide +kernel
end
section
/-! THE CLAIM OUT OF ONE WALK OF THE LAW'S BODY. Your part is whole_start (and what it stands on); all else here is the same for every law, but numbers. -/
def R_law : String := "FunDeskLaw"
def lw_P (b : Addr) (xs : List Int32) (args : Array Value) (s : State) : Prop := args = #[.ref b] ∧ s.IntsAt b xs ∧ xs.length ≤ 2 ∧ (Jvm.Cond.and given_1 narrow_1).before args s = true
def lw_Q (_ : Array Value) (s : State) (o : Outcome) (t : State) : Prop := o = .returned (some (.int 1)) ∧ Framed s o t [] 600002 7302232
def lw_Z (below : List Frame) (a : Array Value) (s : State) : State → Prop := fun t => ∃ o, t.status = .running ∧ Ended t below o ∧ lw_Q a s o t
/-- the law's own end, with 1 on the stack, nothing written that was there before, its room as the claim has it -/
theorem lw_ret {p : Program} {l : Launch} {e : Env} {s : State} {m : MethodId} {below : List Frame} {meth : Method} {c : Code} {b : Nat} (hx : p.tables.exec = Jvm.exec) (hb : c.code = code) (hr : meth.sig.returnType = ret) (hlocks : meth.locks = false) {pc : Nat} {H : Heap} {ls : Array Slot} (hdg : decode code pc = .ok (.ireturn, 1)) : W p l e room_1 s m #[Value.ref b] below meth c H [] 600002 7302232 (lw_Z below #[Value.ref b] s) (F0 m pc ls [.int 1]) := by
  intro T hT X
  obtain ⟨fs, hret, hrun, hended, hW, hframe⟩ := X.leave (v := some (.int 1)) (hlocks := hlocks) (fun h => by rw [hr] at h; cases h)
  have hmeth' : T.vm.method? m = some meth := X.method'
  refine ⟨T.setFrames fs, ?_, .returned (some (.int 1)), hrun, hended, rfl, ⟨_, rfl⟩, hW, hframe⟩
  jvm_step X.here [X.here.top, hx, hb, hdg, hmeth', hr, ret, narrow_b1]
  (try refine ⟨rfl, ?_⟩); (try refine ⟨rfl, ?_⟩)
  first | (intro acts; rw [hret _ acts rfl rfl rfl]) | rw [hret _ _ rfl rfl rfl]
  exact Steps.refl _
/-- what holds at the law's entry: the machine, the code, the tables' words (any of lw_tbl by 'hts w (by decide +kernel)'), the script of L ints xs at the cell b, what the Statement gives of the start (any of its parts by flat_of_before) -/
def lw_At (p : Program) (s : State) (m : MethodId) (meth : Method) (c : Code) (b L : Nat) (xs : Nat → Int32) : Prop :=
  p.tables.exec = Jvm.exec ∧ c.code = code ∧ meth.sig.returnType = ret ∧ c.maxLocals = 9 ∧ s.vm.findClass R_law = some m.cls ∧ (∀ w ∈ lw_tbl, w.before #[Value.ref b] s = true) ∧ va_X b L xs s s.heap ∧ b < s.heap.size ∧ meth.locks = false ∧ (Jvm.Cond.and given_1 narrow_1).before #[Value.ref b] s = true
theorem start_D {s : State} {aa : Array Value} (hts : ∀ w ∈ lw_tbl, w.before aa s = true) : ∃ D : va_G, ∀ (k : Nat) (q : vw_C), cls[k]? = some q → u_Kn s q.1 q.2.1 q.2.2 (D.1 k) (D.2 k) := by
  have one : ∀ (k : Nat) (q : vw_C), cls[k]? = some q → ∃ (cC : ClassId) (iS : Nat → Nat), u_Kn s q.1 q.2.1 q.2.2 cC iS := fun k q hq => by
    have ok := cls_ok k q hq
    exact u_known (n := q.2.2) hts ok.2.2.1 (hts _ ok.2.2.2.1)
  obtain ⟨c0, i0, -⟩ := one 0 _ rfl
  have any : ∀ k : Nat, ∃ x : ClassId × (Nat → Nat), ∀ q : vw_C, cls[k]? = some q → u_Kn s q.1 q.2.1 q.2.2 x.1 x.2 := fun k => by
    cases hk : cls[k]? with
    | none => exact ⟨(c0, i0), fun q hq => by cases hq⟩
    | some q0 =>
      obtain ⟨cC, iS, h⟩ := one k q0 hk
      exact ⟨(cC, iS), fun q hq => by cases hq; exact h⟩
  exact ⟨(fun k => (Classical.choose (any k)).1, fun k => (Classical.choose (any k)).2), fun k q hq => Classical.choose_spec (any k) q hq⟩
theorem start_nw {s : State} {aa : Array Value} (hts : ∀ w ∈ lw_tbl, w.before aa s = true) : nwOK s :=
  ⟨va_AO.of (A := aa) (hts _ (List.mem_of_getElem? (i := 325) (by decide +kernel))), va_Nw.of (A := aa) rfl (hts _ (List.mem_of_getElem? (i := 167) (by decide +kernel))), va_Nw.of (A := aa) rfl (hts _ (List.mem_of_getElem? (i := 191) (by decide +kernel))), va_Nw.of (A := aa) rfl (hts _ (List.mem_of_getElem? (i := 257) (by decide +kernel)))⟩
theorem start_exw : ∀ w ∈ excWs, w.onTables = true ∧ w ∈ lw_tbl := by
  intro w hw
  simp only [excWs, List.mem_cons, List.not_mem_nil, or_false] at hw
  rcases hw with rfl | rfl | rfl | rfl | rfl | rfl | rfl | rfl
  · exact ⟨rfl, List.mem_of_getElem? (i := 823) (by decide +kernel)⟩
  · exact ⟨rfl, List.mem_of_getElem? (i := 897) (by decide +kernel)⟩
  · exact ⟨rfl, List.mem_of_getElem? (i := 1064) (by decide +kernel)⟩
  · exact ⟨rfl, List.mem_of_getElem? (i := 1117) (by decide +kernel)⟩
  · exact ⟨rfl, List.mem_of_getElem? (i := 1133) (by decide +kernel)⟩
  · exact ⟨rfl, List.mem_of_getElem? (i := 825) (by decide +kernel)⟩
  · exact ⟨rfl, List.mem_of_getElem? (i := 827) (by decide +kernel)⟩
  · exact ⟨rfl, List.mem_of_getElem? (i := 829) (by decide +kernel)⟩
theorem start_s0 {s : State} {aa : Array Value} (hts : ∀ w ∈ lw_tbl, w.before aa s = true) (hs : ∀ w ∈ flatC (Jvm.Cond.and given_1 narrow_1), w.before aa s = true) : ∃ q, vk_R "FunDesk" 82 "the line is no expression" q s := by
  obtain ⟨a, -, -, -, h, -⟩ := Cond.exactly_spec (show (Cond.exactly (.string "FunDesk" 82) "java/lang/String").holds aa s none s [] = true from hs _ (by decide +kernel))
  exact ⟨a, vk_R.of (A := aa) (hts _ (List.mem_of_getElem? (i := 864) (by decide +kernel))) h⟩
theorem start_s1 {s : State} {aa : Array Value} (hts : ∀ w ∈ lw_tbl, w.before aa s = true) (hs : ∀ w ∈ flatC (Jvm.Cond.and given_1 narrow_1), w.before aa s = true) : ∃ q, vk_R "FunDesk" 92 "a name is not bound" q s := by
  obtain ⟨a, -, -, -, h, -⟩ := Cond.exactly_spec (show (Cond.exactly (.string "FunDesk" 92) "java/lang/String").holds aa s none s [] = true from hs _ (by decide +kernel))
  exact ⟨a, vk_R.of (A := aa) (hts _ (List.mem_of_getElem? (i := 904) (by decide +kernel))) h⟩
theorem start_s2 {s : State} {aa : Array Value} (hts : ∀ w ∈ lw_tbl, w.before aa s = true) (hs : ∀ w ∈ flatC (Jvm.Cond.and given_1 narrow_1), w.before aa s = true) : ∃ q, vk_R "FunDesk" 100 "the expression is ill typed" q s := by
  obtain ⟨a, -, -, -, h, -⟩ := Cond.exactly_spec (show (Cond.exactly (.string "FunDesk" 100) "java/lang/String").holds aa s none s [] = true from hs _ (by decide +kernel))
  exact ⟨a, vk_R.of (A := aa) (hts _ (List.mem_of_getElem? (i := 1071) (by decide +kernel))) h⟩
theorem start_s3 {s : State} {aa : Array Value} (hts : ∀ w ∈ lw_tbl, w.before aa s = true) (hs : ∀ w ∈ flatC (Jvm.Cond.and given_1 narrow_1), w.before aa s = true) : ∃ q, vk_R "FunDesk" 153 "nothing is worked out" q s := by
  obtain ⟨a, -, -, -, h, -⟩ := Cond.exactly_spec (show (Cond.exactly (.string "FunDesk" 153) "java/lang/String").holds aa s none s [] = true from hs _ (by decide +kernel))
  exact ⟨a, vk_R.of (A := aa) (hts _ (List.mem_of_getElem? (i := 1124) (by decide +kernel))) h⟩
theorem start_s4 {s : State} {aa : Array Value} (hts : ∀ w ∈ lw_tbl, w.before aa s = true) (hs : ∀ w ∈ flatC (Jvm.Cond.and given_1 narrow_1), w.before aa s = true) : ∃ q, vk_R "FunDesk" 166 "there is nothing else to ask of a value" q s := by
  obtain ⟨a, -, -, -, h, -⟩ := Cond.exactly_spec (show (Cond.exactly (.string "FunDesk" 166) "java/lang/String").holds aa s none s [] = true from hs _ (by decide +kernel))
  exact ⟨a, vk_R.of (A := aa) (hts _ (List.mem_of_getElem? (i := 1140) (by decide +kernel))) h⟩
theorem start_s5 {s : State} {aa : Array Value} (hts : ∀ w ∈ lw_tbl, w.before aa s = true) (hs : ∀ w ∈ flatC (Jvm.Cond.and given_1 narrow_1), w.before aa s = true) : ∃ q, vk_R "FunDesk" 177 "there is no such item" q s := by
  obtain ⟨a, -, -, -, h, -⟩ := Cond.exactly_spec (show (Cond.exactly (.string "FunDesk" 177) "java/lang/String").holds aa s none s [] = true from hs _ (by decide +kernel))
  exact ⟨a, vk_R.of (A := aa) (hts _ (List.mem_of_getElem? (i := 1165) (by decide +kernel))) h⟩
def excNoW : List Cond := [.not (.castable (excN 0) (excN 1)), .not (.castable (excN 0) (excN 2)), .not (.castable (excN 0) (excN 3)), .not (.castable (excN 0) (excN 4)), .not (.castable (excN 1) (excN 0)), .not (.castable (excN 1) (excN 2)), .not (.castable (excN 1) (excN 3)), .not (.castable (excN 1) (excN 4)), .not (.castable (excN 2) (excN 0)), .not (.castable (excN 2) (excN 1)), .not (.castable (excN 2) (excN 3)), .not (.castable (excN 2) (excN 4)), .not (.castable (excN 3) (excN 0)), .not (.castable (excN 3) (excN 1)), .not (.castable (excN 3) (excN 2)), .not (.castable (excN 3) (excN 4)), .not (.castable (excN 4) (excN 0)), .not (.castable (excN 4) (excN 1)), .not (.castable (excN 4) (excN 2)), .not (.castable (excN 4) (excN 3))]
set_option maxRecDepth 100000 in
theorem start_no0 : excNoW.all (fun w => decide (w ∈ flatC (Jvm.Cond.and given_1 narrow_1))) = true := by decide +kernel
theorem start_no {s : State} {aa : Array Value} (hs : ∀ w ∈ flatC (Jvm.Cond.and given_1 narrow_1), w.before aa s = true) : ∀ t ∈ excNo, va_Nc (excN t.1) (excN t.2) s := by
  intro t ht
  have hm : Cond.not (.castable (excN t.1) (excN t.2)) ∈ excNoW := by
    revert t
    decide +kernel
  exact va_Nc.of (hs _ (of_decide_eq_true (List.all_eq_true.mp start_no0 _ hm)))
theorem start_ex {s : State} {aa : Array Value} (hts : ∀ w ∈ lw_tbl, w.before aa s = true) (hs : ∀ w ∈ flatC (Jvm.Cond.and given_1 narrow_1), w.before aa s = true) : exOK s := by
  have self : ∀ (a : Nat) (cell : Cell), s.heap[a]? = some cell → cell.vm.isStatics = true → s.heap[a]? = some cell := fun _ _ h _ => h
  have l1 : (Cond.laysStatic Bundle.tN "UNASSIGNED_STACK" Bundle.steD).before #[] s = true := hts (Cond.laysStatic Bundle.tN "UNASSIGNED_STACK" Bundle.steD) (List.mem_of_getElem? (i := 848) (by decide +kernel))
  have l2 : (Cond.laysStatic Bundle.tN "SUPPRESSED_SENTINEL" Bundle.listD).before #[] s = true := hts (Cond.laysStatic Bundle.tN "SUPPRESSED_SENTINEL" Bundle.listD) (List.mem_of_getElem? (i := 850) (by decide +kernel))
  have i1 : (Cond.isRef (.static Bundle.tN "UNASSIGNED_STACK" Bundle.steD)).before aa s = true := hs _ (by decide +kernel)
  have i2 : (Cond.isRef (.static Bundle.tN "SUPPRESSED_SENTINEL" Bundle.listD)).before aa s = true := hs _ (by decide +kernel)
  refine ⟨fun w hw => va_Nw.of (A := aa) (start_exw w hw).1 (hts w (start_exw w hw).2), ⟨l1, i1⟩, ⟨l2, i2⟩, ?_, start_no hs⟩
  intro t ht
  simp only [strTab, List.mem_cons, List.not_mem_nil, or_false] at ht
  rcases ht with rfl | rfl | rfl | rfl | rfl | rfl
  · exact start_s0 hts hs
  · exact start_s1 hts hs
  · exact start_s2 hts hs
  · exact start_s3 hts hs
  · exact start_s4 hts hs
  · exact start_s5 hts hs
/-- the abstract heap at the law's entry: the script alone -/
def lawH (L : Nat) (xs : Nat → Int32) : mHp := (1, 0, fun i => if i = 0 then (106, L, fun j => .int (xs j)) else (200, 0, fun _ => .null))
theorem lawH_tag {L : Nat} {xs : Nat → Int32} {b i a : Nat} (h : ([b] : List Nat)[i]? = some a) : hTag (lawH L xs) i = 106 := by
  cases i with
  | zero => rfl
  | succ n => simp at h
set_option maxRecDepth 100000 in
theorem mTab_229 : mTab[229]? = some mI229 := rfl
set_option maxHeartbeats 4000000 in
theorem start_of {p : Program} {e : Env} {s : State} {m : MethodId} {below : List Frame} {meth : Method} {c : Code} (l : Launch) (hnt : l.stackTraces = false) {b L : Nat} {xs : Nat → Int32} (C0 : lw_At p s m meth c b L xs) {F : Nat} {h' : mHp}
    (hgo : mGo (mEx F 400) true 229 F (0, [(0, .ref 0)], [], lawH L xs) = some (.inl (some (.int 1)), h')) (hc : h'.1 ≤ 1 + 600002) (hs : h'.2.1 ≤ 7302232) : W p l e room_1 s m #[Value.ref b] below meth c s.heap [] 0 0 (lw_Z below #[Value.ref b] s) (entryFrame m ([Value.ref b] : List Value).toArray 9) := by
  obtain ⟨hx, hb, hr, hml, hown, hts, hX, hbl, hlocks, hgv⟩ := id C0
  obtain ⟨D, hD0⟩ := start_D hts
  have hgt : ∀ w ∈ gtbl, w.before #[Value.ref b] s = true := fun w hw => hts w (List.mem_filter.mp hw).1
  have hnw := start_nw hts
  have hex := start_ex hts (flat_of_before _ hgv)
  have hq := mTab_229
  have hSF : stF (fun q : Nat => s.heap.size ≤ q) s.heap s := fun a cell h1 _ => ⟨h1, Nat.not_le.mpr (Array.getElem?_eq_some_iff.mp h1).1⟩
  have hl := lv_entry ([.ref b]) (n := 9) (Nat.le_of_ble_eq_true rfl)
  rw [lg_entry_eq]
  generalize (lg_sl ([.ref b]) ++ List.replicate (9 - (lg_sl ([.ref b])).length) Slot.unset).toArray = ls at hl ⊢
  have hK : va_K D cls [] s := ⟨hD0, fun k q h => by simp at h⟩
  refine s_go (R := room_1) (A := fun q : Nat => s.heap.size ≤ q) (H0 := s.heap) (h0 := (1, 0)) (ad0 := [b]) (D := D) (sc := true) (q := mI229) hq hx hb hown (by decide +kernel) hgt hnw (fun _ h => h) (fun hh => absurd hh (by decide +kernel)) hc (by show h'.2.1 ≤ 0 + 7302232; omega) ?_ ?_ F _ s.heap [] 0 0 ls [] [b] hgo
    ⟨⟨[], (List.append_nil _).symm⟩, ⟨_, hl, _, [], rfl, ⟨b, rfl, rfl⟩, rfl⟩, rfl, ⟨[], [], hK, (fun k q h => by simp at h), ⟨fun i j p q h => by simp at h, fun k q h => by simp at h⟩, va_S.rf, rfl, (fun i a h1 h2 => absurd h2 (by rw [lawH_tag h1]; omega)), (fun i j a h1 h2 h3 => absurd h3 (by rw [lawH_tag h1]; omega))⟩, (fun _ => ⟨b, L, xs, hX, hbl, Nat.not_le.mpr hbl, rfl, rfl⟩), rfl, rfl⟩
  · intro S S' H locs cells slots ls cst ad' i n a b' w g1 g2 g3 g4 g5 hAt g6
    obtain ⟨a1, a2, a3, a4, a5, a6, a7⟩ := hAt
    obtain ⟨hd, hn, hlk⟩ := mcd_ok g1 hq
    have hle := le3.inv (le3.ex 400) g3
    have l1 := hle.1
    have l2 := hle.2.1
    dsimp only at a6 a7 g4 g5
    have hRf : 400 + 11 ≤ room_1.frames := by decide
    have hRl : 60 * (400 + 5) ≤ room_1.locals := by decide
    rcases law_in g1 g2 with hbn | ⟨⟨ix, rfl⟩, rfl, hb1, hb2⟩
    · exact s_inv (mCt_all l F 400) hbn (Or.inl law_hand) hx hb hml hown hgt hnw (fun _ h => h) hex hSF hRf hRl hd hn hlk g3 a3 a2 a4 (by omega) (by omega) (fun _ _ _ _ _ _ _ _ _ _ _ _ _ _ _ _ hm => (mBack_no law_hand hm).elim) g6
    · have hn3 : n = 3 := hn
      subst hn3
      simp only [mInv] at g3
      rw [if_neg (by decide)] at g3
      simp only [mLinkOk] at hlk
      rw [if_neg (by decide)] at hlk
      split at hlk
      · next qb hqb =>
        simp only [Bool.and_eq_true, decide_eq_true_eq] at hlk
        split at g3
        · next hc =>
          cases hcall : mEx F 400 b' (S.2.2.1.take (mArgN b')).reverse S.2.2.2 with
          | none => rw [hcall] at g3; cases g3
          | some o =>
            rw [hcall, Option.bind_some] at g3
            obtain ⟨r, hh⟩ := o
            cases r with
            | inr kx => exact (mBack_no law_hand g3).elim
            | inl r =>
              have hS := mBack_ret g3
              subst hS
              dsimp only at g4 g5 l1 l2
              exact s_invW (mCtW_all l hnt F 400) hb1 hb2 hx hb hml hown hgt hnw (fun _ h => h) hex hSF hRf hRl hd hqb hlk.1.2 hc.1 hc.2 hcall a3 a2 a4 (by omega) (by omega) g6
        · cases g3
      · cases hlk
  · intro S H locs cells slots ls cst ad' hst hAt
    obtain ⟨a1, a2, a3, a4, a5, a6, a7⟩ := hAt
    obtain ⟨i, n, a, b', w, hcd, hm, rfl⟩ := step_ret hst
    obtain ⟨hd, hn, -⟩ := mcd_ok hcd hq
    obtain ⟨ws', tys', hK', hP', hD', hS', hH'⟩ := a4
    dsimp only at a6 a7
    have hret : i = .ireturn ∧ S.2.2.1 = [.int 1] := by
      have hrt : mRetT 229 = some .boolean := by decide +kernel
      cases i with
      | return_ => simp only [mRet, hrt] at hm; split at hm <;> cases hm
      | ireturn =>
        simp only [mRet, hrt] at hm
        split at hm
        · next x t h1 h2 =>
          split at hm
          · cases hm; exact ⟨rfl, h1⟩
          · cases hm
        · cases hm
      | dreturn => simp only [mRet, hrt] at hm; split at hm <;> cases hm
      | areturn => simp only [mRet, hrt] at hm; split at hm <;> cases hm
      | _ => simp only [mRet] at hm; cases hm
    obtain ⟨rfl, hst1⟩ := hret
    have hn1 : n = 1 := hn
    subst hn1
    rw [hst1] at a3
    obtain ⟨_, cr, rfl, rfl, hcr⟩ := a3
    rw [show cr = [] from hcr]
    refine va_forget hS'.2.2 ?_
    refine W.widen (k := 600002) (n := 7302232) (by omega) (by omega) ?_
    exact lw_ret hx hb hr hlocks hd
/-- THE PURE SIDE: on every script of at most 2 ints the abstract machine's run of the law answers 1, in the claim's room -/
def lawPure : Prop := ∀ (L : Nat) (xs : Nat → Int32), L ≤ 2 → ∃ (F : Nat) (h' : mHp), mGo (mEx F 400) true 229 F (0, [(0, .ref 0)], [], lawH L xs) = some (.inl (some (.int 1)), h') ∧ h'.1 ≤ 1 + 600002 ∧ h'.2.1 ≤ 7302232
end
section
set_option maxHeartbeats 4000000 in
theorem lw_walk (HP : lawPure) (l : Launch) (hnt : l.stackTraces = false) (b : Addr) (xs : List Int32) : MetFree l x (headSpec (Jvm.Cond.code x code maxLocals ret :: tables_1) room_1) (lw_P b xs) (fun _ _ _ _ _ => True) lw_Q := by
  refine MetFree.of_bodyS (code := code) (maxLocals := maxLocals) (ret := ret) (by decide) ?_ ?_
  · intro args s m h hn
    obtain ⟨meth, c, h1, h2, h3, h4, h5, h6, -, -⟩ := Cond.code_spec hn (atoms_spec (ws := Jvm.Cond.code x code maxLocals ret :: tables_1) h _ List.mem_cons_self)
    exact ⟨meth, c, h1, h2, h3, h4, h5, h6⟩
  · intro p e s m args below meth c s₁ B hml0 hP _
    obtain ⟨rfl, hx, hbd, hgv⟩ := hP
    obtain ⟨scr, harrAt, hlist, hof, hsmall⟩ := hx
    obtain ⟨hcb, hkn, -, -⟩ := State.arrayAt?_spec harrAt
    have hown : s.vm.findClass R_law = some m.cls := findClass_of_methodNamed B.named
    have hts0 : ∀ c ∈ (Jvm.Cond.code x code maxLocals ret :: tables_1), c.before #[Value.ref b] s = true := atoms_spec (ws := Jvm.Cond.code x code maxLocals ret :: tables_1) B.pre
    have hts : ∀ w ∈ lw_tbl, w.before #[Value.ref b] s = true := k2_hts_sels lw_privs (fun w hw => hts0 w (List.mem_cons_of_mem _ hw)) lw_privs_ok
    have hml : c.maxLocals = 9 := B.maxLocals_eq (hts0 _ List.mem_cons_self)
    have X₀ : Stand p l e room_1 s m #[Value.ref b] below meth c s₁ [] 0 0 := Stand.of_body B
    have hh0 : s₁.heap = s.heap := by rw [B.state]; rfl
    have hsz : scr.slots.size = xs.length := by rw [← Array.length_toList, hlist, List.length_map]
    have hval : ∀ j : Nat, j < xs.length → scr.slots[j]? = some (.int (xs.getD j 0)) := fun j hj => by
      rw [← Array.getElem?_toList, hlist]
      simp [hj]
    have hbl : b < s.heap.size := (Array.getElem?_eq_some_iff.mp hcb).1
    have hX : va_X b xs.length (fun j => xs.getD j 0) s s.heap := ⟨scr, hcb, hof, hkn, hsz, hval⟩
    have K : W p l e room_1 s m #[Value.ref b] below meth c s₁.heap [] 0 0 (lw_Z below #[Value.ref b] s) (entryFrame m ([Value.ref b] : List Value).toArray 9) := by
      rw [hh0]
      obtain ⟨F, h', g1, g2, g3⟩ := HP xs.length (fun j => xs.getD j 0) hbd
      exact start_of l hnt ⟨B.exec, B.bytes, B.returns, hml, hown, hts, hX, hbl, B.notSynchronized, hgv⟩ g1 g2 g3
    obtain ⟨t, a1, o, b1, b2, b3⟩ := K s₁ rfl X₀
    exact ⟨t, o, a1, b1, b2, b3⟩
theorem lw_pre_spec {args : Array Value} {s : State} (h : (Jvm.Cond.and given_1 narrow_1).before args s = true) (hr : rest_1_c.before args s = true) : ∃ (b : Addr) (xs : List Int32), lw_P b xs args s := by
  have hs := flat_of_before _ h
  have hq := flat_of_before _ hr
  have hc : (Cond.count 1).before args s = true := hs _ (by decide +kernel)
  have harr : (Cond.arrayOf (.arg 0) .int).before args s = true := hs _ (by decide +kernel)
  have hle : (Cond.le (.length (.arg 0)) (.int 2)).before args s = true := hs _ (by decide +kernel)
  have hlen : (Cond.isInt (.length (.arg 0))).before args s = true := hq _ (by decide +kernel)
  have hall : (Cond.all (.arg 0) (.isInt (.elem (.arg 0) (.index 0)))).before args s = true := hq _ (by decide +kernel)
  obtain ⟨b, xs, hb, hx⟩ := State.ints_of_pre rfl harr hlen hall
  have hsm : xs.length < 2 ^ 31 := hx.choose_spec.2.2.2
  have hev : (Term.length (.arg 0)).eval args s none [] s = some (.int xs.length.toInt32) := hx.length_eval hb
  have hv := Cond.le_ints hev (show (Term.int 2).eval args s none [] s = some (.int 2) from rfl)
  have hd : xs.length.toInt32 ≤ 2 := by
    simpa [Cond.before, Cond.holds, hv] using hle
  have hN : xs.length ≤ 2 := (Int32.ofNat_le_ofNat hsm (by decide)).mp (show Int32.ofNat xs.length ≤ Int32.ofNat 2 from hd)
  exact ⟨b, xs, Cond.one_arg hc (show args[0]? = some (.ref b) from hb), hx, hN, h⟩
theorem lw_comes (HP : lawPure) (l : Launch) (hnt : l.stackTraces = false) : Comes l x (Jvm.Cond.code x code maxLocals ret :: tables_1) room_1 (fun tb e args s => Calls_1 tb e args s ∧ rest_1 tb e args s ∧ Pre_1 tb e args s)
    (fun _ _ args s o t => lw_Q args s o t) := by
  intro p e ha hc hk s m args below hf hfit hheap happ hpre
  obtain ⟨b, xs, hP⟩ := lw_pre_spec hpre.2.2 hpre.2.1
  obtain ⟨k, o, h1, h2, h3, hQ⟩ := lw_walk HP l hnt b xs p e ha hc hk s m args below hf ((Spec.applies_iff_loose hf).mp happ).1 hP trivial
  exact ⟨k, o, h1, h2, h3, hQ⟩
theorem lw_frame {s t : State} {o : Outcome} {args : Array Value} (h : Framed s o t [] 600002 7302232) :
    Framed s o t (fieldLocs frame_1_writes args s ++ arrayLocs frame_1_arrays args s ++ staticLocs frame_1_statics s) 600002 7302232 := h
theorem lw_limb (HP : lawPure) (L : Cond) (hL : ∀ (args : Array Value) (s t : State), L.after args s (.returned (some (.int 1))) t = true) :
    ArmFor flags0 classFile x code maxLocals ret World_1 tables_1 room_1 Calls_1 rest_1 Pre_1
      (fun tb e a s o t => postC L tb e a s o t ∧ Framed s o t (fieldLocs frame_1_writes a s ++ arrayLocs frame_1_arrays a s ++ staticLocs frame_1_statics s) 600002 7302232) := by
  intro l hfl _ _ p e ha hc hk s m args below hf hfit hheap happ hpre
  have hnt : l.stackTraces = false := by unfold Launch.stackTraces; rw [hfl]; decide +kernel
  obtain ⟨k, o, h1, h2, h3, rfl, hF⟩ := lw_comes HP l hnt p e ha hc hk s m args below hf hfit hheap happ hpre
  exact ⟨k, _, h1, h2, h3, hL args s _, lw_frame hF⟩
theorem i_vc_of (HP : lawPure) : Claimed_1_1 ∧ Claimed_1_2 := ⟨lw_limb HP limb_1_1 (fun args s t => by simp [limb_1_1, Cond.after, Cond.holds, Cond.value]), lw_limb HP limb_1_2 (fun args s t => Cond.after_iff.mpr (by
  first | (rw [show limb_1_2 = Cond.eq .result (.int 1) from rfl, Cond.eq_ints (x := 1) (y := 1) rfl rfl]; simp; done) | (simp [limb_1_2, Cond.value, Term.eval]; done)))⟩
end
section
/-! A run that doesn't read the script is the same whatever the script is. -/
def swp (c : mCell) (h : mHp) : mHp := (h.1, h.2.1, fun j => if j = 0 then c else h.2.2 j)
def swI (h : mHp) : Prop := hTag h 0 = 106 ∧ 0 < h.1
theorem swI.le {h h' : mHp} (a : swI h) (b : le3 h h') : swI h' := ⟨by unfold hTag; rw [b.2.2 0 a.2 a.1]; exact a.1, Nat.lt_of_lt_of_le a.2 b.1⟩
section SW
variable {c : mCell} {h : mHp}
theorem swp_at {i : Nat} (hi : i ≠ 0) : (swp c h).2.2 i = h.2.2 i := by unfold swp; dsimp only; rw [if_neg hi]
theorem swp_tag (hc : c.1 = 106) (hI : swI h) (i : Nat) : hTag (swp c h) i = hTag h i := by
  by_cases hi : i = 0
  · subst hi
    rw [hI.1]
    unfold hTag swp
    dsimp only
    rw [if_pos rfl, hc]
  · unfold hTag; rw [swp_at hi]
theorem swp_len {i : Nat} (hi : i ≠ 0) : hLen (swp c h) i = hLen h i := by unfold hLen; rw [swp_at hi]
theorem swp_get {i k : Nat} (hi : i ≠ 0) : hAt (swp c h) i k = hAt h i k := by unfold hAt; rw [swp_at hi]
theorem swp_set {i k : Nat} {v : Value} (hi : i ≠ 0) : hSet (swp c h) i k v = swp c (hSet h i k v) := by
  unfold hSet
  rw [swp_at hi]
  unfold swp
  dsimp only
  congr 2
  funext j
  by_cases q : j = i
  · subst q; rw [if_pos rfl, if_neg hi, if_pos rfl]
  · rw [if_neg q, if_neg q]
theorem swp_new {t n : Nat} {f : Nat → Value} (hI : swI h) : hNew (swp c h) t n f = swp c (hNew h t n f) := by
  unfold hNew swp
  dsimp only
  congr 2
  funext j
  by_cases q : j = h.1
  · have : j ≠ 0 := by have := hI.2; omega
    rw [if_pos q, if_neg this, if_pos q]
  · rw [if_neg q, if_neg q]
theorem swp_fst : (swp c h).1 = h.1 := rfl
theorem swp_L {st : List Value} {t : Nat} {q : List Value × mHp} (hc : c.1 = 106) (hI : swI h) (ht : t ≠ 106) (hm : mArrL h st t = some q) : mArrL (swp c h) st t = some (q.1, swp c q.2) := by
  obtain ⟨j, i, r, rfl, h1, h2, rfl⟩ := mArrL_spec hm
  have hi : i ≠ 0 := fun e => by rw [e, hI.1] at h1; exact ht h1.symm
  simp only [mArrL]
  rw [swp_tag hc hI, swp_len hi, swp_get hi]
  exact if_pos ⟨h1, h2⟩
theorem swp_S {st : List Value} {t : Nat} {ok : Value → Bool} {q : List Value × mHp} (hc : c.1 = 106) (hI : swI h) (ht : t ≠ 106) (hm : mArrS h st t ok = some q) : mArrS (swp c h) st t ok = some (q.1, swp c q.2) := by
  obtain ⟨v, j, i, r, rfl, h1, h2, h3, rfl⟩ := mArrS_spec hm
  have hi : i ≠ 0 := fun e => by rw [e, hI.1] at h1; exact ht h1.symm
  simp only [mArrS]
  rw [swp_tag hc hI, swp_len hi, swp_set hi]
  exact if_pos ⟨h1, h2, h3⟩
set_option maxHeartbeats 4000000 in
theorem swp_mem {y a b : Nat} {st : List Value} {i : Instr} {q : List Value × mHp} (hc : c.1 = 106) (hI : swI h) (hm : mMem y a b st h i = some q) : mMem y a b st (swp c h) i = some (q.1, swp c q.2) := by
  have nz : ∀ {j t : Nat}, hTag h j = t → t ≠ 106 → j ≠ 0 := fun h1 h2 e => by rw [e, hI.1] at h1; exact h2 h1.symm
  cases i with
  | getfield ix =>
    simp only [mMem] at hm ⊢
    split at hm
    · next j r =>
      split at hm
      · next hcd => cases hm; rw [swp_tag hc hI, swp_get (nz hcd.1 (by omega)), if_pos hcd]
      · cases hm
    · cases hm
  | putfield ix =>
    simp only [mMem] at hm ⊢
    split at hm
    · next v j r =>
      split at hm
      · next hcd => cases hm; rw [swp_tag hc hI, swp_set (nz hcd.1 (by have := hcd.2.1; omega)), if_pos hcd]
      · cases hm
    · cases hm
  | iaload => exact swp_L hc hI (by decide) hm
  | caload => exact swp_L hc hI (by decide) hm
  | baload => exact swp_L hc hI (by decide) hm
  | laload => exact swp_L hc hI (by decide) hm
  | daload => exact swp_L hc hI (by decide) hm
  | aaload => exact swp_L hc hI (by decide) hm
  | iastore => exact swp_S hc hI (by decide) hm
  | castore => exact swp_S hc hI (by decide) hm
  | bastore => exact swp_S hc hI (by decide) hm
  | lastore => exact swp_S hc hI (by decide) hm
  | dastore => exact swp_S hc hI (by decide) hm
  | aastore =>
    simp only [mMem] at hm ⊢
    split at hm
    · next v j i r =>
      split at hm
      · next hcd => cases hm; rw [swp_tag hc hI, swp_tag hc hI, swp_len (nz hcd.1 (by decide)), swp_set (nz hcd.1 (by decide)), if_pos hcd]
      · cases hm
    · cases hm
  | arraylength =>
    simp only [mMem] at hm ⊢
    split at hm
    · next i r =>
      split at hm
      · next hcd => cases hm; rw [swp_tag hc hI, swp_len (nz rfl (by omega)), if_pos hcd]
      · cases hm
    · cases hm
  | new ix =>
    simp only [mMem] at hm ⊢
    split at hm
    · next hcd => cases hm; rw [if_pos hcd, swp_new hI]; rfl
    · cases hm
  | newarray t =>
    simp only [mMem] at hm ⊢
    split at hm
    · next n r k ft hz =>
      split at hm
      · next hcd => cases hm; rw [if_pos hcd, swp_new hI]; rfl
      · cases hm
    · cases hm
  | anewarray ix =>
    simp only [mMem] at hm ⊢
    split at hm
    · next n r =>
      split at hm
      · next hcd => cases hm; rw [if_pos hcd, swp_new hI]; rfl
      · cases hm
    · cases hm
  | _ => simp only [mMem] at hm; cases hm
def swpO (c : mCell) (X : mSt ⊕ (mRes × mHp)) : mSt ⊕ (mRes × mHp) := match X with
  | .inl S => .inl (S.1, S.2.1, S.2.2.1, swp c S.2.2.2)
  | .inr r => .inr (r.1, swp c r.2)
def swC (c : mCell) (call : Nat → List Value → mHp → Option (mRes × mHp)) : Prop := ∀ b as h o, swI h → call b as h = some o → call b as (swp c h) = some (o.1, swp c o.2)
theorem swp_back {y pc : Nat} {lv : List (Nat × Value)} {rest : List Value} {o : mRes × mHp} {S : mSt} (hh : mBack y pc lv rest o = some S) : mBack y pc lv rest (o.1, swp c o.2) = some (S.1, S.2.1, S.2.2.1, swp c S.2.2.2) := by
  obtain ⟨r, h⟩ := o
  cases r with
  | inl v => cases hh; rfl
  | inr k =>
    simp only [mBack] at hh ⊢
    obtain ⟨t, ht, rfl⟩ := Option.map_eq_some_iff.mp hh
    rw [ht]
    rfl
theorem swp_inv {call : Nat → List Value → mHp → Option (mRes × mHp)} (hcl : swC c call) (hc : c.1 = 106) (hI : swI h) {y pc a b : Nat} {lv : List (Nat × Value)} {st : List Value} {i : Instr} {S : mSt} (hm : mInv call y pc a b lv st h i = some S) : mInv call y pc a b lv st (swp c h) i = some (S.1, S.2.1, S.2.2.1, swp c S.2.2.2) := by
  have bnd : ∀ {as rest : List Value}, (call b as h).bind (mBack y pc lv rest) = some S → (call b as (swp c h)).bind (mBack y pc lv rest) = some (S.1, S.2.1, S.2.2.1, swp c S.2.2.2) := by
    intro as rest hb
    obtain ⟨o, h1, h2⟩ := Option.bind_eq_some_iff.mp hb
    rw [hcl b as h o hI h1, Option.bind_some]
    exact swp_back h2
  cases i with
  | invokevirtual ix =>
    simp only [mInv] at hm ⊢
    split at hm
    · split at hm
      · next hcd => rw [swp_tag hc hI, if_pos hcd]; exact bnd hm
      · cases hm
    · cases hm
  | invokestatic ix =>
    simp only [mInv] at hm ⊢
    split at hm
    · next ha =>
      rw [if_pos ha]
      split at hm
      · split at hm
        · next hcd => cases hm; rw [if_pos hcd]
        · cases hm
      · cases hm
    · next ha =>
      rw [if_neg ha]
      split at hm
      · next hcd => rw [if_pos hcd]; exact bnd hm
      · cases hm
  | invokespecial ix =>
    simp only [mInv] at hm ⊢
    split at hm
    · next ha =>
      rw [if_pos ha]
      split at hm
      · split at hm
        · next hcd => cases hm; rw [if_pos hcd]
        · cases hm
      · cases hm
    · next ha =>
      rw [if_neg ha]
      split at hm
      · cases hm
      · next ha9 =>
        rw [if_neg ha9]
        split at hm
        · split at hm
          · next hcd => rw [swp_tag hc hI, if_pos hcd]; exact bnd hm
          · cases hm
        · cases hm
  | _ => simp only [mInv] at hm; cases hm
theorem swp_step {call : Nat → List Value → mHp → Option (mRes × mHp)} (hcl : swC c call) (hc : c.1 = 106) {y : Nat} {S : mSt} {X : mSt ⊕ (mRes × mHp)} (hI : swI S.2.2.2) (hm : mStep call false y S = some X) : mStep call false y (S.1, S.2.1, S.2.2.1, swp c S.2.2.2) = some (swpO c X) := by
  unfold mStep at hm ⊢
  dsimp only
  split at hm
  · cases hm
  · next i n a b w hcd =>
    unfold mIns at hm ⊢
    split at hm
    · obtain ⟨q, h1, rfl⟩ := Option.map_eq_some_iff.mp hm; rw [h1]; rfl
    · obtain ⟨q, h1, rfl⟩ := Option.map_eq_some_iff.mp hm; rw [h1]; rfl
    · obtain ⟨q, h1, h2⟩ := Option.bind_eq_some_iff.mp hm
      obtain ⟨t, h3, rfl⟩ := Option.map_eq_some_iff.mp h2
      rw [h1, Option.bind_some, h3]
      rfl
    · have e1 : (if false = true then mScr S.2.2.2 S.2.2.1 i else none) = none := rfl
      have e2 : (if false = true then mScr (swp c S.2.2.2) S.2.2.1 i else none) = none := rfl
      rw [e1] at hm
      rw [e2]
      dsimp only at hm ⊢
      obtain ⟨q, h1, rfl⟩ := Option.map_eq_some_iff.mp hm
      rw [swp_mem hc hI h1]
      rfl
    · obtain ⟨q, h1, rfl⟩ := Option.map_eq_some_iff.mp hm; rw [swp_inv hcl hc hI h1]; rfl
    · obtain ⟨q, h1, rfl⟩ := Option.map_eq_some_iff.mp hm; rw [h1]; rfl
    · split at hm
      · next hcd2 => cases hm; rw [if_pos hcd2, swp_new hI]; rfl
      · cases hm
theorem swp_go {call : Nat → List Value → mHp → Option (mRes × mHp)} (hcl : swC c call) (hle : callLe call) (hc : c.1 = 106) {y : Nat} : ∀ (k : Nat) {S : mSt} {r : mRes × mHp}, swI S.2.2.2 → mGo call false y k S = some r → mGo call false y k (S.1, S.2.1, S.2.2.1, swp c S.2.2.2) = some (r.1, swp c r.2)
  | 0, _, _, _, h => by cases h
  | k + 1, S, r, hI, h => by
    simp only [mGo] at h ⊢
    split at h
    · cases h
    · next S' hS =>
      rw [swp_step hcl hc hI hS]
      exact swp_go hcl hle hc k (hI.le (le3.step hle hS)) h
    · next r' hS =>
      cases h
      rw [swp_step hcl hc hI hS]
      rfl
theorem swp_ex (hc : c.1 = 106) {F : Nat} : ∀ d, swC c (mEx F d)
  | 0 => fun _ _ _ _ _ h => by cases h
  | d + 1 => fun b as h o hI hx => by
    simp only [mEx] at hx ⊢
    split at hx
    · next hl =>
      rw [if_pos hl]
      exact swp_go (swp_ex hc d) (le3.ex d) hc F (S := (0, lv_args 0 as, [], h)) hI hx
    · cases hx
end SW
end
section
/-! Single steps of the abstract machine, to walk its code with. -/
section SX
variable {call : Nat → List Value → mHp → Option (mRes × mHp)} {sc : Bool} {y k pc n a b w : Nat} {lv lv' : List (Nat × Value)} {st st' : List Value} {h h' : mHp} {i : Instr} {r : Option (mRes × mHp)}
theorem go_nx {S S' : mSt} (hs : mStep call sc y S = some (.inl S')) (K : mGo call sc y k S' = r) : mGo call sc y (k + 1) S = r := by
  simp only [mGo, hs]; exact K
theorem sx_p (hc : mcd y pc = some (i, n, a, b, w)) (hg : mGrp a i = 0) (hp : mPure a b st i = some st') (K : mGo call sc y k (pc + n, lv, st', h) = r) : mGo call sc y (k + 1) (pc, lv, st, h) = r := by
  refine go_nx ?_ K
  simp only [mStep, hc, mIns, hg, hp, Option.map_some]
theorem sx_l (hc : mcd y pc = some (i, n, a, b, w)) (hg : mGrp a i = 1) (hp : mLoc (mMaxL y) lv st i = some (lv', st')) (K : mGo call sc y k (pc + n, lv', st', h) = r) : mGo call sc y (k + 1) (pc, lv, st, h) = r := by
  refine go_nx ?_ K
  simp only [mStep, hc, mIns, hg, hp, Option.map_some]
theorem sx_b {o : Option Int} {t : Nat} (hc : mcd y pc = some (i, n, a, b, w)) (hg : mGrp a i = 2) (hp : mBr pc st i = some (o, st')) (ht : mOff pc n o = some t) (K : mGo call sc y k (t, lv, st', h) = r) : mGo call sc y (k + 1) (pc, lv, st, h) = r := by
  refine go_nx ?_ K
  simp only [mStep, hc, mIns, hg, hp, Option.bind_some, ht, Option.map_some]
theorem sx_z {cn : ClassFile.Cond} {d : Int} {x : Int32} {q : Bool} {t : Nat} (hc : mcd y pc = some (.ifCond cn d, n, a, b, w)) (hd : 0 ≤ (pc : Int) + d) (hq : mCnd x 0 cn = q) (ht : mOff pc n (if q = true then some d else none) = some t) (K : mGo call sc y k (t, lv, st, h) = r) : mGo call sc y (k + 1) (pc, lv, .int x :: st, h) = r := by
  refine sx_b (o := if q = true then some d else none) (st' := st) hc rfl ?_ ht K
  simp only [mBr, if_pos hd, hq]
theorem sx_c {cn : ClassFile.Cond} {d : Int} {x z : Int32} {q : Bool} {t : Nat} (hc : mcd y pc = some (.if_icmp cn d, n, a, b, w)) (hd : 0 ≤ (pc : Int) + d) (hq : mCnd x z cn = q) (ht : mOff pc n (if q = true then some d else none) = some t) (K : mGo call sc y k (t, lv, st, h) = r) : mGo call sc y (k + 1) (pc, lv, .int z :: .int x :: st, h) = r := by
  refine sx_b (o := if q = true then some d else none) (st' := st) hc rfl ?_ ht K
  simp only [mBr, if_pos hd, hq]
theorem sx_m (hc : mcd y pc = some (i, n, a, b, w)) (hg : mGrp a i = 3) (hs : (if sc = true then mScr h st i else none) = none) (hp : mMem y a b st h i = some (st', h')) (K : mGo call sc y k (pc + n, lv, st', h') = r) : mGo call sc y (k + 1) (pc, lv, st, h) = r := by
  refine go_nx ?_ K
  simp only [mStep, hc, mIns, hg, hs, hp, Option.map_some, mGoOn]
theorem sx_sc (hc : mcd y pc = some (i, n, a, b, w)) (hg : mGrp a i = 3) (hp : mScr h st i = some st') (K : mGo call true y k (pc + n, lv, st', h) = r) : mGo call true y (k + 1) (pc, lv, st, h) = r := by
  refine go_nx ?_ K
  simp only [mStep, hc, mIns, hg, if_true, hp]
theorem no_scr {ix : Nat} : (if sc = true then mScr h st (.getfield ix) else none) = none := by cases sc <;> rfl
theorem no_scrp {ix : Nat} : (if sc = true then mScr h st (.putfield ix) else none) = none := by cases sc <;> rfl
theorem sx_gf {ix j : Nat} {v : Value} (hc : mcd y pc = some (.getfield ix, n, a, b, w)) (ht : hTag h j = a) (ha : a < 12) (hv : hAt h j b = v) (K : mGo call sc y k (pc + n, lv, v :: st, h) = r) : mGo call sc y (k + 1) (pc, lv, .ref j :: st, h) = r := by
  subst hv
  refine sx_m hc rfl no_scr ?_ K
  simp only [mMem, if_pos (show hTag h j = a ∧ a < 12 from ⟨ht, ha⟩)]
theorem sx_i {S' : mSt} (hc : mcd y pc = some (i, n, a, b, w)) (hg : mGrp a i = 4) (hp : mInv call y pc a b lv st h i = some S') (K : mGo call sc y k S' = r) : mGo call sc y (k + 1) (pc, lv, st, h) = r := by
  refine go_nx ?_ K
  simp only [mStep, hc, mIns, hg, hp, Option.map_some]
theorem sx_iv {ix j : Nat} {as rest : List Value} {o : Option Value} (hc : mcd y pc = some (.invokevirtual ix, n, a, b, w)) (hst : st.drop (mArgN b) = .ref j :: rest) (has : (st.take (mArgN b)).reverse = as) (ht : hTag h j = mOwn b) (ho : mOwn b < 12) (h8 : mRoom8 rest = true) (hcl : call b (.ref j :: as) h = some (.inl o, h')) (K : mGo call sc y k (pc + 3, lv, o.toList ++ rest, h') = r) : mGo call sc y (k + 1) (pc, lv, st, h) = r := by
  subst has
  refine sx_i hc rfl ?_ K
  simp only [mInv, hst, if_pos (show hTag h j = mOwn b ∧ mOwn b < 12 ∧ mRoom8 rest = true from ⟨ht, ho, h8⟩), hcl, Option.bind_some, mBack]
theorem sx_is {ix : Nat} {as rest : List Value} {o : Option Value} (hc : mcd y pc = some (.invokestatic ix, n, a, b, w)) (ha : a ≠ 5) (hl : mArgN b ≤ st.length) (hst : st.drop (mArgN b) = rest) (has : (st.take (mArgN b)).reverse = as) (h8 : mRoom8 rest = true) (hcl : call b as h = some (.inl o, h')) (K : mGo call sc y k (pc + 3, lv, o.toList ++ rest, h') = r) : mGo call sc y (k + 1) (pc, lv, st, h) = r := by
  subst has; subst hst
  refine sx_i hc rfl ?_ K
  simp only [mInv, if_neg ha, if_pos (show mArgN b ≤ st.length ∧ mRoom8 (st.drop (mArgN b)) = true from ⟨hl, h8⟩), hcl, Option.bind_some, mBack]
theorem sx_r {o : Option Value} (hc : mcd y pc = some (i, n, a, b, w)) (hg : mGrp a i = 5) (hp : mRet y st i = some o) : mGo call sc y (k + 1) (pc, lv, st, h) = some (.inl o, h) := by
  simp only [mGo, mStep, hc, mIns, hg, hp, Option.map_some]
theorem sx_ivx {ix j kx t : Nat} {as rest : List Value} (hc : mcd y pc = some (.invokevirtual ix, n, a, b, w)) (hst : st.drop (mArgN b) = .ref j :: rest) (has : (st.take (mArgN b)).reverse = as) (ht : hTag h j = mOwn b) (ho : mOwn b < 12) (h8 : mRoom8 rest = true) (hcl : call b (.ref j :: as) h = some (.inr kx, h')) (hx : mCatch y pc kx = some t) (K : mGo call sc y k (t, lv, [.retAddr 0], h') = r) : mGo call sc y (k + 1) (pc, lv, st, h) = r := by
  subst has
  refine sx_i (S' := (t, lv, [.retAddr 0], h')) hc rfl ?_ K
  simp only [mInv, hst, if_pos (show hTag h j = mOwn b ∧ mOwn b < 12 ∧ mRoom8 rest = true from ⟨ht, ho, h8⟩), hcl, Option.bind_some, mBack, hx, Option.map_some]
theorem sx_pf {ix j : Nat} {v : Value} (hc : mcd y pc = some (.putfield ix, n, a, b, w)) (ht : hTag h j = a) (ha : a < 12) (h1 : okTy (clsTy a b) = true) (h2 : fits (clsTy a b) v = true) (h3 : ((cls.getD a (mR0, mT0, 0)).2.1 b).2.2.2 = false) (K : mGo call sc y k (pc + n, lv, st, hSet h j b v) = r) : mGo call sc y (k + 1) (pc, lv, v :: .ref j :: st, h) = r := by
  refine sx_m hc rfl no_scrp ?_ K
  simp only [mMem, if_pos (show hTag h j = a ∧ a < 12 ∧ (okTy (clsTy a b) = true ∧ fits (clsTy a b) v = true) ∧ ((((cls.getD a (mR0, mT0, 0)).2.1 b).2.2.2 = false) ∨ ((mInf y).1.name = "<init>" ∧ mOwn y = a)) from ⟨ht, ha, ⟨h1, h2⟩, Or.inl h3⟩)]
theorem sx_al {t j : Nat} {x : Int32} {v : Value} (hc : mcd y pc = some (i, n, a, b, w)) (hg : mGrp a i = 3) (hs : (if sc = true then mScr h (.int x :: .ref j :: st) i else none) = none) (hm : mMem y a b (.int x :: .ref j :: st) h i = mArrL h (.int x :: .ref j :: st) t) (ht : hTag h j = t) (hb : vp_in x (hLen h j)) (hv : hAt h j x.toNatClampNeg = v) (K : mGo call sc y k (pc + n, lv, v :: st, h) = r) : mGo call sc y (k + 1) (pc, lv, .int x :: .ref j :: st, h) = r := by
  subst hv
  refine sx_m hc hg hs (hm.trans ?_) K
  simp only [mArrL, if_pos (show hTag h j = t ∧ ¬ (x < 0 ∨ hLen h j ≤ x.toNatClampNeg) from ⟨ht, hb⟩)]
theorem sx_as {t j : Nat} {x : Int32} {v : Value} {ok : Value → Bool} (hc : mcd y pc = some (i, n, a, b, w)) (hg : mGrp a i = 3) (hs : (if sc = true then mScr h (v :: .int x :: .ref j :: st) i else none) = none) (hm : mMem y a b (v :: .int x :: .ref j :: st) h i = mArrS h (v :: .int x :: .ref j :: st) t ok) (ht : hTag h j = t) (hb : vp_in x (hLen h j)) (hv : ok v = true) (K : mGo call sc y k (pc + n, lv, st, hSet h j x.toNatClampNeg v) = r) : mGo call sc y (k + 1) (pc, lv, v :: .int x :: .ref j :: st, h) = r := by
  refine sx_m hc hg hs (hm.trans ?_) K
  simp only [mArrS, if_pos (show hTag h j = t ∧ ¬ (x < 0 ∨ hLen h j ≤ x.toNatClampNeg) ∧ ok v = true from ⟨ht, hb, hv⟩)]
theorem sx_len {j : Nat} (hc : mcd y pc = some (.arraylength, n, a, b, w)) (hs : (if sc = true then mScr h (.ref j :: st) .arraylength else none) = none) (h1 : 100 ≤ hTag h j) (h2 : hTag h j ≤ 105) (K : mGo call sc y k (pc + n, lv, .int (Int32.ofNat (hLen h j)) :: st, h) = r) : mGo call sc y (k + 1) (pc, lv, .ref j :: st, h) = r := by
  refine sx_m hc rfl hs ?_ K
  simp only [mMem, if_pos (show 100 ≤ hTag h j ∧ hTag h j ≤ 105 from ⟨h1, h2⟩)]
theorem sx_t (hc : mcd y pc = some (i, n, a, b, w)) (hg : mGrp a i = 6) (ha : a < 105) (h8 : mRoom8 st = true) : mGo call sc y (k + 1) (pc, lv, st, h) = some (.inr (a - 100), hNew h 200 6 (fun _ => .null)) := by
  simp only [mGo, mStep, hc, mIns, hg, if_pos (show a < 105 ∧ mRoom8 st = true from ⟨ha, h8⟩)]
theorem at_ne {j j' q : Nat} {v : Value} (hj : j' ≠ j) (x : Nat) : hAt (hSet h j q v) j' x = hAt h j' x := by unfold hAt hSet; dsimp only; rw [if_neg hj]
theorem at_nk {j j' q x : Nat} {v : Value} (hx : x ≠ q) : hAt (hSet h j q v) j' x = hAt h j' x := by
  unfold hAt hSet
  dsimp only
  by_cases q' : j' = j
  · subst q'; rw [if_pos rfl]; exact if_neg hx
  · rw [if_neg q']
theorem at_eq {j q : Nat} {v : Value} : hAt (hSet h j q v) j q = v := by unfold hAt hSet; dsimp only; rw [if_pos rfl]; exact if_pos rfl
theorem tag_set {j j' q : Nat} {v : Value} : hTag (hSet h j q v) j' = hTag h j' := by
  unfold hTag hSet
  dsimp only
  by_cases q' : j' = j
  · subst q'; rw [if_pos rfl]
  · rw [if_neg q']
theorem len_set {j j' q : Nat} {v : Value} : hLen (hSet h j q v) j' = hLen h j' := by
  unfold hLen hSet
  dsimp only
  by_cases q' : j' = j
  · subst q'; rw [if_pos rfl]
  · rw [if_neg q']
theorem at_new {t m j : Nat} {f : Nat → Value} (hj : j < h.1) (x : Nat) : hAt (hNew h t m f) j x = hAt h j x := by unfold hAt hNew; dsimp only; rw [if_neg (Nat.ne_of_lt hj)]
theorem tag_new {t m j : Nat} {f : Nat → Value} (hj : j < h.1) : hTag (hNew h t m f) j = hTag h j := by unfold hTag hNew; dsimp only; rw [if_neg (Nat.ne_of_lt hj)]
theorem len_new {t m j : Nat} {f : Nat → Value} (hj : j < h.1) : hLen (hNew h t m f) j = hLen h j := by unfold hLen hNew; dsimp only; rw [if_neg (Nat.ne_of_lt hj)]
theorem ex_go {F d : Nat} {args : List Value} (hl : (lg_sl args).length ≤ mMaxL y) (K : mGo (mEx F d) false y F (0, lv_args 0 args, [], h) = r) : mEx F (d + 1) y args h = r := by
  simp only [mEx, if_pos hl]; exact K
end SX
end
section
/-! One call on a fresh object. -/
theorem shown_c {F d : Nat} {h : mHp} {w : Int32} (h1 : hTag h 1 = 0) (h2 : hAt h 1 8 = .int 0) : mEx (F+60) (d+1) 13 [.ref 1, .int w] h = some (.inl (some (.int (-1))), h) := by
  refine ex_go (Nat.le_of_ble_eq_true rfl) ?_
  by_cases q : w < 0
  · have q1 : mCnd w 0 .lt = true := decide_eq_true q
    refine sx_l rfl rfl rfl ?_
    refine sx_z rfl (by decide) q1 rfl ?_
    refine sx_p rfl rfl rfl ?_
    exact sx_r rfl rfl rfl
  · have q1 : mCnd w 0 .lt = false := decide_eq_false q
    have q2 : mCnd w 0 .ge = true := decide_eq_true (Int32.not_lt.mp q)
    refine sx_l rfl rfl rfl ?_
    refine sx_z rfl (by decide) q1 rfl ?_
    refine sx_l rfl rfl rfl ?_
    refine sx_l rfl rfl rfl ?_
    refine sx_gf rfl h1 (by decide) h2 ?_
    refine sx_c rfl (by decide) q2 rfl ?_
    refine sx_p rfl rfl rfl ?_
    exact sx_r rfl rfl rfl
theorem phase_c {F d : Nat} {h : mHp} (h3 : hTag h 54 = 7) (h4 : hAt h 54 7 = .int 0) : mEx (F+60) (d+1) 16 [.ref 54] h = some (.inl (some (.int 0)), h) := by
  refine ex_go (Nat.le_of_ble_eq_true rfl) ?_
  refine sx_l rfl rfl rfl ?_
  refine sx_gf rfl h3 (by decide) h4 ?_
  exact sx_r rfl rfl rfl
theorem fail_c {F d : Nat} {h : mHp} (h3 : hTag h 54 = 7) (h4 : hAt h 54 8 = .int 0) : mEx (F+60) (d+1) 51 [.ref 54] h = some (.inl (some (.int 0)), h) := by
  refine ex_go (Nat.le_of_ble_eq_true rfl) ?_
  refine sx_l rfl rfl rfl ?_
  refine sx_gf rfl h3 (by decide) h4 ?_
  exact sx_r rfl rfl rfl
theorem steps_c {F d : Nat} {h : mHp} (h3 : hTag h 54 = 7) (h4 : hAt h 54 9 = .int 0) : mEx (F+60) (d+1) 52 [.ref 54] h = some (.inl (some (.int 0)), h) := by
  refine ex_go (Nat.le_of_ble_eq_true rfl) ?_
  refine sx_l rfl rfl rfl ?_
  refine sx_gf rfl h3 (by decide) h4 ?_
  exact sx_r rfl rfl rfl
theorem all_c {F d : Nat} {h : mHp} (h3 : hTag h 54 = 7) (h4 : hAt h 54 10 = .int 0) : mEx (F+60) (d+1) 53 [.ref 54] h = some (.inl (some (.int 0)), h) := by
  refine ex_go (Nat.le_of_ble_eq_true rfl) ?_
  refine sx_l rfl rfl rfl ?_
  refine sx_gf rfl h3 (by decide) h4 ?_
  exact sx_r rfl rfl rfl
theorem run_c {F d : Nat} {h : mHp} {w : Int32} (h1 : hTag h 1 = 0) (h2 : hAt h 1 6 = .ref 54) (h3 : hTag h 54 = 7) (h4 : hAt h 54 7 = .int 0) : mEx (F+60) (d+2) 15 [.ref 1, .int w] h = some (.inl (some (.int (-1))), h) := by
  refine ex_go (Nat.le_of_ble_eq_true rfl) ?_
  by_cases q : w < 0
  · have q1 : mCnd w 0 .lt = true := decide_eq_true q
    refine sx_l rfl rfl rfl ?_
    refine sx_z rfl (by decide) q1 rfl ?_
    refine sx_p rfl rfl rfl ?_
    exact sx_r rfl rfl rfl
  · have q1 : mCnd w 0 .lt = false := decide_eq_false q
    by_cases q3 : w > 100
    · have q2 : mCnd w 100 .gt = true := decide_eq_true q3
      refine sx_l rfl rfl rfl ?_
      refine sx_z rfl (by decide) q1 rfl ?_
      refine sx_l rfl rfl rfl ?_
      refine sx_p rfl rfl rfl ?_
      refine sx_c rfl (by decide) q2 rfl ?_
      refine sx_p rfl rfl rfl ?_
      exact sx_r rfl rfl rfl
    · have q2 : mCnd w 100 .gt = false := decide_eq_false q3
      refine sx_l rfl rfl rfl ?_
      refine sx_z rfl (by decide) q1 rfl ?_
      refine sx_l rfl rfl rfl ?_
      refine sx_p rfl rfl rfl ?_
      refine sx_c rfl (by decide) q2 rfl ?_
      refine sx_l rfl rfl rfl ?_
      refine sx_gf rfl h1 (by decide) h2 ?_
      refine sx_iv rfl rfl rfl (as := []) h3 (by decide) rfl (phase_c h3 h4) ?_
      refine sx_p rfl rfl rfl ?_
      refine sx_c rfl (by decide) (show mCnd _ _ _ = false by decide) rfl ?_
      refine sx_p rfl rfl rfl ?_
      exact sx_r rfl rfl rfl
theorem state_c0 {F d : Nat} {h : mHp} (h1 : hTag h 1 = 0) (h2 : hAt h 1 6 = .ref 54) (h3 : hTag h 54 = 7) (h4 : hAt h 54 7 = .int 0) (h5 : hAt h 54 8 = .int 0) (h6 : hAt h 54 9 = .int 0) (h7 : hAt h 54 10 = .int 0) : mEx (F+60) (d+2) 50 [.ref 1, .int 0] h = some (.inl (some (.int 0)), h) := by
  refine ex_go (Nat.le_of_ble_eq_true rfl) ?_
  refine sx_l rfl rfl rfl ?_
  refine sx_b rfl rfl rfl rfl ?_
  refine sx_l rfl rfl rfl ?_
  refine sx_gf rfl h1 (by decide) h2 ?_
  refine sx_iv rfl rfl rfl (as := []) h3 (by decide) rfl (phase_c h3 h4) ?_
  exact sx_r rfl rfl rfl
theorem state_c1 {F d : Nat} {h : mHp} (h1 : hTag h 1 = 0) (h2 : hAt h 1 6 = .ref 54) (h3 : hTag h 54 = 7) (h4 : hAt h 54 7 = .int 0) (h5 : hAt h 54 8 = .int 0) (h6 : hAt h 54 9 = .int 0) (h7 : hAt h 54 10 = .int 0) : mEx (F+60) (d+2) 50 [.ref 1, .int 1] h = some (.inl (some (.int 0)), h) := by
  refine ex_go (Nat.le_of_ble_eq_true rfl) ?_
  refine sx_l rfl rfl rfl ?_
  refine sx_b rfl rfl rfl rfl ?_
  refine sx_l rfl rfl rfl ?_
  refine sx_gf rfl h1 (by decide) h2 ?_
  refine sx_iv rfl rfl rfl (as := []) h3 (by decide) rfl (fail_c h3 h5) ?_
  exact sx_r rfl rfl rfl
theorem state_c2 {F d : Nat} {h : mHp} (h1 : hTag h 1 = 0) (h2 : hAt h 1 6 = .ref 54) (h3 : hTag h 54 = 7) (h4 : hAt h 54 7 = .int 0) (h5 : hAt h 54 8 = .int 0) (h6 : hAt h 54 9 = .int 0) (h7 : hAt h 54 10 = .int 0) : mEx (F+60) (d+2) 50 [.ref 1, .int 2] h = some (.inl (some (.int 0)), h) := by
  refine ex_go (Nat.le_of_ble_eq_true rfl) ?_
  refine sx_l rfl rfl rfl ?_
  refine sx_b rfl rfl rfl rfl ?_
  refine sx_l rfl rfl rfl ?_
  refine sx_gf rfl h1 (by decide) h2 ?_
  refine sx_iv rfl rfl rfl (as := []) h3 (by decide) rfl (steps_c h3 h6) ?_
  exact sx_r rfl rfl rfl
theorem state_c3 {F d : Nat} {h : mHp} (h1 : hTag h 1 = 0) (h2 : hAt h 1 6 = .ref 54) (h3 : hTag h 54 = 7) (h4 : hAt h 54 7 = .int 0) (h5 : hAt h 54 8 = .int 0) (h6 : hAt h 54 9 = .int 0) (h7 : hAt h 54 10 = .int 0) : mEx (F+60) (d+2) 50 [.ref 1, .int 3] h = some (.inl (some (.int 0)), h) := by
  refine ex_go (Nat.le_of_ble_eq_true rfl) ?_
  refine sx_l rfl rfl rfl ?_
  refine sx_b rfl rfl rfl rfl ?_
  refine sx_l rfl rfl rfl ?_
  refine sx_gf rfl h1 (by decide) h2 ?_
  refine sx_iv rfl rfl rfl (as := []) h3 (by decide) rfl (all_c h3 h7) ?_
  exact sx_r rfl rfl rfl
theorem state_cd {F d : Nat} {h : mHp} {w : Int32} (q0 : w ≠ 0) (q1 : w ≠ 1) (q2 : w ≠ 2) (q3 : w ≠ 3) : mEx (F+60) (d+2) 50 [.ref 1, .int w] h = some (.inl (some (.int (-1))), h) := by
  refine ex_go (Nat.le_of_ble_eq_true rfl) ?_
  have q : w.toInt < 0 ∨ 3 < w.toInt := by
    apply Decidable.byContradiction
    intro hn
    have e : w.toInt = 0 ∨ w.toInt = 1 ∨ w.toInt = 2 ∨ w.toInt = 3 := by omega
    rcases e with e | e | e | e
    · exact q0 (Int32.toInt_inj.mp e)
    · exact q1 (Int32.toInt_inj.mp e)
    · exact q2 (Int32.toInt_inj.mp e)
    · exact q3 (Int32.toInt_inj.mp e)
  refine sx_l rfl rfl rfl ?_
  refine sx_b rfl rfl (show mBr _ _ _ = some (some _, _) from if_pos q) rfl ?_
  refine sx_p rfl rfl rfl ?_
  exact sx_r rfl rfl rfl
theorem value_c {F d : Nat} {h : mHp} {w : Int32} (h1 : hTag h 1 = 0) (h2 : hAt h 1 9 = .null) : mEx (F+60) (d+1) 137 [.ref 1, .int w] h = some (.inr 3, hNew h 200 6 (fun _ => .null)) := by
  refine ex_go (Nat.le_of_ble_eq_true rfl) ?_
  refine sx_l rfl rfl rfl ?_
  refine sx_gf rfl h1 (by decide) h2 ?_
  refine sx_l rfl rfl rfl ?_
  refine sx_l rfl rfl rfl ?_
  refine sx_b rfl rfl rfl rfl ?_
  exact sx_t (a := 103) rfl rfl (by decide) rfl
theorem item_c {F d : Nat} {h : mHp} {w : Int32} (h1 : hTag h 1 = 0) (h2 : hAt h 1 9 = .null) : mEx (F+60) (d+1) 139 [.ref 1, .int w] h = some (.inr 3, hNew h 200 6 (fun _ => .null)) := by
  refine ex_go (Nat.le_of_ble_eq_true rfl) ?_
  refine sx_l rfl rfl rfl ?_
  refine sx_gf rfl h1 (by decide) h2 ?_
  refine sx_l rfl rfl rfl ?_
  refine sx_l rfl rfl rfl ?_
  refine sx_b rfl rfl rfl rfl ?_
  exact sx_t (a := 103) rfl rfl (by decide) rfl
theorem value_w {F d : Nat} {h : mHp} {w : Int32} {o : Nat} (h1 : hTag h 1 = 0) (h2 : hAt h 1 9 = .null) : mEx (F+60) (d+2) 225 [.ref 1, .int w, .ref o] h = some (.inl (some (.int 1)), hNew h 200 6 (fun _ => .null)) := by
  refine ex_go (Nat.le_of_ble_eq_true rfl) ?_
  refine sx_l rfl rfl rfl ?_
  refine sx_p rfl rfl rfl ?_
  refine sx_l rfl rfl rfl ?_
  refine sx_l rfl rfl rfl ?_
  refine sx_ivx rfl rfl rfl h1 (by decide) rfl (value_c h1 h2) (t := 12) (by decide +kernel) ?_
  refine sx_l rfl rfl rfl ?_
  refine sx_p rfl rfl rfl ?_
  exact sx_r rfl rfl rfl
theorem item_w {F d : Nat} {h : mHp} {w : Int32} (h1 : hTag h 1 = 0) (h2 : hAt h 1 9 = .null) : mEx (F+60) (d+2) 227 [.ref 1, .int w] h = some (.inl (some (.int 1)), hNew h 200 6 (fun _ => .null)) := by
  refine ex_go (Nat.le_of_ble_eq_true rfl) ?_
  refine sx_l rfl rfl rfl ?_
  refine sx_l rfl rfl rfl ?_
  refine sx_ivx rfl rfl rfl h1 (by decide) rfl (item_c h1 h2) (t := 8) (by decide +kernel) ?_
  refine sx_l rfl rfl rfl ?_
  refine sx_p rfl rfl rfl ?_
  exact sx_r rfl rfl rfl
theorem set_c {F d : Nat} {h : mHp} {v : Int32} (h1 : hTag h 3 = 2) (h2 : hAt h 3 0 = .ref 4) (h3 : hTag h 4 = 100) (h4 : hLen h 4 = 60) : mEx (F+60) (d+1) 10 [.ref 3, .int 0, .int v] h = some (.inl none, hSet h 4 0 (.int v)) := by
  refine ex_go (Nat.le_of_ble_eq_true rfl) ?_
  refine sx_l rfl rfl rfl ?_
  refine sx_z rfl (by decide) (show mCnd _ _ _ = false by decide) rfl ?_
  refine sx_l rfl rfl rfl ?_
  refine sx_l rfl rfl rfl ?_
  refine sx_gf rfl h1 (by decide) h2 ?_
  refine sx_len rfl rfl (by rw [h3]; decide) (by rw [h3]; decide) ?_
  refine sx_c rfl (by decide) (show mCnd _ _ _ = false by rw [h4]; decide) rfl ?_
  refine sx_l rfl rfl rfl ?_
  refine sx_gf rfl h1 (by decide) h2 ?_
  refine sx_l rfl rfl rfl ?_
  refine sx_l rfl rfl rfl ?_
  refine sx_as rfl rfl rfl rfl h3 (by rw [h4]; exact (show ¬ ((0 : Int32) < 0 ∨ 60 ≤ (0 : Int32).toNatClampNeg) by decide)) rfl ?_
  exact sx_r rfl rfl rfl
theorem append_c {F d : Nat} {h : mHp} {w : Int32} (h1 : hTag h 2 = 1) (h2 : hAt h 2 0 = .ref 3) (h3 : hAt h 2 1 = .int 0) (h4 : hTag h 3 = 2) (h5 : hAt h 3 0 = .ref 4) (h6 : hTag h 4 = 100) (h7 : hLen h 4 = 60) : mEx (F+60) (d+2) 9 [.ref 2, .int w] h = some (.inl (some (.int (if w < 32 ∨ w > 126 then 0 else 1))), if w < 32 ∨ w > 126 then h else hSet (hSet h 4 0 (.int w)) 2 1 (.int 1)) := by
  refine ex_go (Nat.le_of_ble_eq_true rfl) ?_
  by_cases q : w < 32
  · have q1 : mCnd w 32 .lt = true := decide_eq_true q
    simp only [if_pos (Or.inl q : w < 32 ∨ w > 126)]
    refine sx_l rfl rfl rfl ?_
    refine sx_p rfl rfl rfl ?_
    refine sx_c rfl (by decide) q1 rfl ?_
    refine sx_p rfl rfl rfl ?_
    exact sx_r rfl rfl rfl
  · have q1 : mCnd w 32 .lt = false := decide_eq_false q
    by_cases q3 : w > 126
    · have q2 : mCnd w 126 .gt = true := decide_eq_true q3
      simp only [if_pos (Or.inr q3 : w < 32 ∨ w > 126)]
      refine sx_l rfl rfl rfl ?_
      refine sx_p rfl rfl rfl ?_
      refine sx_c rfl (by decide) q1 rfl ?_
      refine sx_l rfl rfl rfl ?_
      refine sx_p rfl rfl rfl ?_
      refine sx_c rfl (by decide) q2 rfl ?_
      refine sx_p rfl rfl rfl ?_
      exact sx_r rfl rfl rfl
    · have q2 : mCnd w 126 .gt = false := decide_eq_false q3
      simp only [if_neg (not_or.mpr ⟨q, q3⟩ : ¬ (w < 32 ∨ w > 126))]
      refine sx_l rfl rfl rfl ?_
      refine sx_p rfl rfl rfl ?_
      refine sx_c rfl (by decide) q1 rfl ?_
      refine sx_l rfl rfl rfl ?_
      refine sx_p rfl rfl rfl ?_
      refine sx_c rfl (by decide) q2 rfl ?_
      refine sx_l rfl rfl rfl ?_
      refine sx_gf rfl h1 (by decide) h3 ?_
      refine sx_p rfl rfl rfl ?_
      refine sx_c rfl (by decide) (show mCnd _ _ _ = true by decide) rfl ?_
      refine sx_l rfl rfl rfl ?_
      refine sx_gf rfl h1 (by decide) h2 ?_
      refine sx_l rfl rfl rfl ?_
      refine sx_gf rfl h1 (by decide) h3 ?_
      refine sx_l rfl rfl rfl ?_
      refine sx_iv rfl rfl rfl h4 (by decide) rfl (set_c h4 h5 h6 h7) ?_
      refine sx_l rfl rfl rfl ?_
      refine sx_p rfl rfl rfl ?_
      refine sx_gf rfl (tag_set.trans h1) (by decide) ((at_ne (by decide) _).trans h3) ?_
      refine sx_p rfl rfl rfl ?_
      refine sx_p rfl rfl rfl ?_
      refine sx_pf rfl (tag_set.trans h1) (by decide) rfl rfl rfl ?_
      refine sx_p rfl rfl rfl ?_
      exact sx_r rfl rfl rfl
theorem type_c {F d : Nat} {h : mHp} {w : Int32} (g1 : hTag h 1 = 0) (g2 : hAt h 1 0 = .ref 2) (h1 : hTag h 2 = 1) (h2 : hAt h 2 0 = .ref 3) (h3 : hAt h 2 1 = .int 0) (h4 : hTag h 3 = 2) (h5 : hAt h 3 0 = .ref 4) (h6 : hTag h 4 = 100) (h7 : hLen h 4 = 60) : mEx (F+60) (d+3) 8 [.ref 1, .int w] h = some (.inl (some (.int (if w < 32 ∨ w > 126 then 0 else 1))), if w < 32 ∨ w > 126 then h else hSet (hSet h 4 0 (.int w)) 2 1 (.int 1)) := by
  have ha := append_c (F := F) (d := d) (w := w) h1 h2 h3 h4 h5 h6 h7
  refine ex_go (Nat.le_of_ble_eq_true rfl) ?_
  by_cases q : w < 32 ∨ w > 126
  · simp only [if_pos q] at ha ⊢
    refine sx_l rfl rfl rfl ?_
    refine sx_gf rfl g1 (by decide) g2 ?_
    refine sx_l rfl rfl rfl ?_
    refine sx_iv rfl rfl rfl h1 (by decide) rfl ha ?_
    exact sx_r rfl rfl rfl
  · simp only [if_neg q] at ha ⊢
    refine sx_l rfl rfl rfl ?_
    refine sx_gf rfl g1 (by decide) g2 ?_
    refine sx_l rfl rfl rfl ?_
    refine sx_iv rfl rfl rfl h1 (by decide) rfl ha ?_
    exact sx_r rfl rfl rfl
theorem shown_m {F d : Nat} {h : mHp} {w : Int32} (h1 : hTag h 58 = 11) (h2 : hAt h 58 49 = .int 0) : mEx (F+60) (d+1) 197 [.ref 58, .int w] h = some (.inl (some (.int (-1))), hSet h 58 0 (.int 0)) := by
  refine ex_go (Nat.le_of_ble_eq_true rfl) ?_
  by_cases q : w < 0
  · have q1 : mCnd w 0 .lt = true := decide_eq_true q
    refine sx_l rfl rfl rfl ?_
    refine sx_p rfl rfl rfl ?_
    refine sx_pf rfl h1 (by decide) rfl rfl rfl ?_
    refine sx_l rfl rfl rfl ?_
    refine sx_z rfl (by decide) q1 rfl ?_
    refine sx_p rfl rfl rfl ?_
    refine sx_b rfl rfl rfl rfl ?_
    exact sx_r rfl rfl rfl
  · have q1 : mCnd w 0 .lt = false := decide_eq_false q
    refine sx_l rfl rfl rfl ?_
    refine sx_p rfl rfl rfl ?_
    refine sx_pf rfl h1 (by decide) rfl rfl rfl ?_
    refine sx_l rfl rfl rfl ?_
    refine sx_z rfl (by decide) q1 rfl ?_
    refine sx_l rfl rfl rfl ?_
    refine sx_l rfl rfl rfl ?_
    refine sx_gf rfl (tag_set.trans h1) (by decide) ((at_nk (by decide)).trans h2) ?_
    refine sx_c rfl (by decide) q1 rfl ?_
    refine sx_p rfl rfl rfl ?_
    refine sx_b rfl rfl rfl rfl ?_
    exact sx_r rfl rfl rfl
theorem run_m {F d : Nat} {h : mHp} {w : Int32} (h1 : hTag h 58 = 11) (h2 : hAt h 58 65 = .int 0) : mEx (F+60) (d+1) 198 [.ref 58, .int w] h = some (.inl (some (.int (-1))), hSet h 58 0 (.int 0)) := by
  refine ex_go (Nat.le_of_ble_eq_true rfl) ?_
  by_cases q : w < 0
  · have q1 : mCnd w 0 .lt = true := decide_eq_true q
    refine sx_l rfl rfl rfl ?_
    refine sx_p rfl rfl rfl ?_
    refine sx_pf rfl h1 (by decide) rfl rfl rfl ?_
    refine sx_l rfl rfl rfl ?_
    refine sx_z rfl (by decide) q1 rfl ?_
    refine sx_p rfl rfl rfl ?_
    exact sx_r rfl rfl rfl
  · have q1 : mCnd w 0 .lt = false := decide_eq_false q
    by_cases q3 : w > 100
    · have q2 : mCnd w 100 .gt = true := decide_eq_true q3
      refine sx_l rfl rfl rfl ?_
      refine sx_p rfl rfl rfl ?_
      refine sx_pf rfl h1 (by decide) rfl rfl rfl ?_
      refine sx_l rfl rfl rfl ?_
      refine sx_z rfl (by decide) q1 rfl ?_
      refine sx_l rfl rfl rfl ?_
      refine sx_p rfl rfl rfl ?_
      refine sx_c rfl (by decide) q2 rfl ?_
      refine sx_p rfl rfl rfl ?_
      exact sx_r rfl rfl rfl
    · have q2 : mCnd w 100 .gt = false := decide_eq_false q3
      refine sx_l rfl rfl rfl ?_
      refine sx_p rfl rfl rfl ?_
      refine sx_pf rfl h1 (by decide) rfl rfl rfl ?_
      refine sx_l rfl rfl rfl ?_
      refine sx_z rfl (by decide) q1 rfl ?_
      refine sx_l rfl rfl rfl ?_
      refine sx_p rfl rfl rfl ?_
      refine sx_c rfl (by decide) q2 rfl ?_
      refine sx_l rfl rfl rfl ?_
      refine sx_gf rfl (tag_set.trans h1) (by decide) ((at_nk (by decide)).trans h2) ?_
      refine sx_p rfl rfl rfl ?_
      refine sx_c rfl (by decide) (show mCnd _ _ _ = false by decide) rfl ?_
      refine sx_p rfl rfl rfl ?_
      exact sx_r rfl rfl rfl
theorem state_m0 {F d : Nat} {h : mHp} (h1 : hTag h 58 = 11) (h2 : hAt h 58 65 = .int 0) : mEx (F+60) (d+1) 218 [.ref 58, .int 0] h = some (.inl (some (.int 0)), hSet h 58 0 (.int 0)) := by
  refine ex_go (Nat.le_of_ble_eq_true rfl) ?_
  refine sx_l rfl rfl rfl ?_
  refine sx_p rfl rfl rfl ?_
  refine sx_pf rfl h1 (by decide) rfl rfl rfl ?_
  refine sx_l rfl rfl rfl ?_
  refine sx_z rfl (by decide) (show mCnd _ _ _ = false by decide) rfl ?_
  refine sx_l rfl rfl rfl ?_
  refine sx_gf rfl (tag_set.trans h1) (by decide) ((at_nk (by decide)).trans h2) ?_
  refine sx_b rfl rfl rfl rfl ?_
  exact sx_r rfl rfl rfl
theorem state_m1 {F d : Nat} {h : mHp} (h1 : hTag h 58 = 11) (h2 : hAt h 58 66 = .int 0) : mEx (F+60) (d+1) 218 [.ref 58, .int 1] h = some (.inl (some (.int 0)), hSet h 58 0 (.int 0)) := by
  refine ex_go (Nat.le_of_ble_eq_true rfl) ?_
  refine sx_l rfl rfl rfl ?_
  refine sx_p rfl rfl rfl ?_
  refine sx_pf rfl h1 (by decide) rfl rfl rfl ?_
  refine sx_l rfl rfl rfl ?_
  refine sx_z rfl (by decide) (show mCnd _ _ _ = true by decide) rfl ?_
  refine sx_l rfl rfl rfl ?_
  refine sx_p rfl rfl rfl ?_
  refine sx_c rfl (by decide) (show mCnd _ _ _ = false by decide) rfl ?_
  refine sx_l rfl rfl rfl ?_
  refine sx_gf rfl (tag_set.trans h1) (by decide) ((at_nk (by decide)).trans h2) ?_
  refine sx_b rfl rfl rfl rfl ?_
  exact sx_r rfl rfl rfl
theorem state_m2 {F d : Nat} {h : mHp} (h1 : hTag h 58 = 11) (h2 : hAt h 58 67 = .int 0) : mEx (F+60) (d+1) 218 [.ref 58, .int 2] h = some (.inl (some (.int 0)), hSet h 58 0 (.int 0)) := by
  refine ex_go (Nat.le_of_ble_eq_true rfl) ?_
  refine sx_l rfl rfl rfl ?_
  refine sx_p rfl rfl rfl ?_
  refine sx_pf rfl h1 (by decide) rfl rfl rfl ?_
  refine sx_l rfl rfl rfl ?_
  refine sx_z rfl (by decide) (show mCnd _ _ _ = true by decide) rfl ?_
  refine sx_l rfl rfl rfl ?_
  refine sx_p rfl rfl rfl ?_
  refine sx_c rfl (by decide) (show mCnd _ _ _ = true by decide) rfl ?_
  refine sx_l rfl rfl rfl ?_
  refine sx_p rfl rfl rfl ?_
  refine sx_c rfl (by decide) (show mCnd _ _ _ = false by decide) rfl ?_
  refine sx_l rfl rfl rfl ?_
  refine sx_gf rfl (tag_set.trans h1) (by decide) ((at_nk (by decide)).trans h2) ?_
  refine sx_b rfl rfl rfl rfl ?_
  exact sx_r rfl rfl rfl
theorem state_m3 {F d : Nat} {h : mHp} (h1 : hTag h 58 = 11) (h2 : hAt h 58 68 = .int 0) : mEx (F+60) (d+1) 218 [.ref 58, .int 3] h = some (.inl (some (.int 0)), hSet h 58 0 (.int 0)) := by
  refine ex_go (Nat.le_of_ble_eq_true rfl) ?_
  refine sx_l rfl rfl rfl ?_
  refine sx_p rfl rfl rfl ?_
  refine sx_pf rfl h1 (by decide) rfl rfl rfl ?_
  refine sx_l rfl rfl rfl ?_
  refine sx_z rfl (by decide) (show mCnd _ _ _ = true by decide) rfl ?_
  refine sx_l rfl rfl rfl ?_
  refine sx_p rfl rfl rfl ?_
  refine sx_c rfl (by decide) (show mCnd _ _ _ = true by decide) rfl ?_
  refine sx_l rfl rfl rfl ?_
  refine sx_p rfl rfl rfl ?_
  refine sx_c rfl (by decide) (show mCnd _ _ _ = true by decide) rfl ?_
  refine sx_l rfl rfl rfl ?_
  refine sx_p rfl rfl rfl ?_
  refine sx_c rfl (by decide) (show mCnd _ _ _ = false by decide) rfl ?_
  refine sx_l rfl rfl rfl ?_
  refine sx_gf rfl (tag_set.trans h1) (by decide) ((at_nk (by decide)).trans h2) ?_
  refine sx_b rfl rfl rfl rfl ?_
  exact sx_r rfl rfl rfl
theorem state_md {F d : Nat} {h : mHp} {w : Int32} (h1 : hTag h 58 = 11) (q0 : w ≠ 0) (q1 : w ≠ 1) (q2 : w ≠ 2) (q3 : w ≠ 3) : mEx (F+60) (d+1) 218 [.ref 58, .int w] h = some (.inl (some (.int (-1))), hSet h 58 0 (.int 0)) := by
  refine ex_go (Nat.le_of_ble_eq_true rfl) ?_
  refine sx_l rfl rfl rfl ?_
  refine sx_p rfl rfl rfl ?_
  refine sx_pf rfl h1 (by decide) rfl rfl rfl ?_
  refine sx_l rfl rfl rfl ?_
  refine sx_z rfl (by decide) (show mCnd w 0 .ne = true from decide_eq_true q0) rfl ?_
  refine sx_l rfl rfl rfl ?_
  refine sx_p rfl rfl rfl ?_
  refine sx_c rfl (by decide) (show mCnd w 1 .ne = true from decide_eq_true q1) rfl ?_
  refine sx_l rfl rfl rfl ?_
  refine sx_p rfl rfl rfl ?_
  refine sx_c rfl (by decide) (show mCnd w 2 .ne = true from decide_eq_true q2) rfl ?_
  refine sx_l rfl rfl rfl ?_
  refine sx_p rfl rfl rfl ?_
  refine sx_c rfl (by decide) (show mCnd w 3 .ne = true from decide_eq_true q3) rfl ?_
  refine sx_p rfl rfl rfl ?_
  exact sx_r rfl rfl rfl
theorem value_m {F d : Nat} {h : mHp} {w : Int32} (h1 : hTag h 58 = 11) (h2 : hAt h 58 65 = .int 0) : mEx (F+60) (d+1) 219 [.ref 58, .int w] h = some (.inl (some (.int 0)), hSet h 58 0 (.int 1)) := by
  refine ex_go (Nat.le_of_ble_eq_true rfl) ?_
  refine sx_l rfl rfl rfl ?_
  refine sx_l rfl rfl rfl ?_
  refine sx_gf rfl h1 (by decide) h2 ?_
  refine sx_p rfl rfl rfl ?_
  refine sx_c rfl (by decide) (show mCnd _ _ _ = false by decide) rfl ?_
  refine sx_p rfl rfl rfl ?_
  refine sx_b rfl rfl rfl rfl ?_
  refine sx_pf rfl h1 (by decide) rfl rfl rfl ?_
  refine sx_l rfl rfl rfl ?_
  refine sx_gf rfl (tag_set.trans h1) (by decide) at_eq ?_
  refine sx_z rfl (by decide) (show mCnd _ _ _ = false by decide) rfl ?_
  refine sx_p rfl rfl rfl ?_
  exact sx_r rfl rfl rfl
theorem item_m {F d : Nat} {h : mHp} {w : Int32} (h1 : hTag h 58 = 11) (h2 : hAt h 58 65 = .int 0) : mEx (F+60) (d+1) 222 [.ref 58, .int w] h = some (.inl none, hSet h 58 0 (.int 1)) := by
  refine ex_go (Nat.le_of_ble_eq_true rfl) ?_
  refine sx_l rfl rfl rfl ?_
  refine sx_l rfl rfl rfl ?_
  refine sx_gf rfl h1 (by decide) h2 ?_
  refine sx_p rfl rfl rfl ?_
  refine sx_c rfl (by decide) (show mCnd _ _ _ = false by decide) rfl ?_
  refine sx_p rfl rfl rfl ?_
  refine sx_b rfl rfl rfl rfl ?_
  refine sx_pf rfl h1 (by decide) rfl rfl rfl ?_
  refine sx_l rfl rfl rfl ?_
  refine sx_gf rfl (tag_set.trans h1) (by decide) at_eq ?_
  refine sx_z rfl (by decide) (show mCnd _ _ _ = false by decide) rfl ?_
  exact sx_r rfl rfl rfl
theorem thrown_m {F d : Nat} {h : mHp} {w : Int32} (h1 : hTag h 58 = 11) (h2 : hAt h 58 0 = .int w) : mEx (F+60) (d+1) 143 [.ref 58] h = some (.inl (some (.int w)), h) := by
  refine ex_go (Nat.le_of_ble_eq_true rfl) ?_
  refine sx_l rfl rfl rfl ?_
  refine sx_gf rfl h1 (by decide) h2 ?_
  exact sx_r rfl rfl rfl
theorem chr_fits {w : Int32} (q : ¬ w < 32) (q3 : ¬ w > 126) : fits .char (.int w) = true := by
  have a1 : (32 : Int32) ≤ w := Int32.not_lt.mp q
  have a2 : w ≤ 126 := Int32.not_lt.mp q3
  rw [Int32.le_iff_toInt_le] at a1 a2
  have b1 : (32 : Int32).toInt = 32 := rfl
  have b2 : (126 : Int32).toInt = 126 := rfl
  have b0 : (0 : Int32).toInt = 0 := rfl
  have b3 : (65535 : Int32).toInt = 65535 := rfl
  simp only [fits, Bool.and_eq_true, decide_eq_true_eq, Int32.le_iff_toInt_le]
  omega
theorem type_m {F d : Nat} {h : mHp} {w : Int32} (h1 : hTag h 58 = 11) (h2 : hAt h 58 2 = .int 0) (h3 : hAt h 58 1 = .ref 59) (h4 : hTag h 59 = 101) (h5 : hLen h 59 = 60) : mEx (F+60) (d+1) 144 [.ref 58, .int w] h = some (.inl (some (.int (if w < 32 ∨ w > 126 then 0 else 1))), if w < 32 ∨ w > 126 then hSet h 58 0 (.int 0) else hSet (hSet (hSet h 58 0 (.int 0)) 59 0 (.int w)) 58 2 (.int 1)) := by
  refine ex_go (Nat.le_of_ble_eq_true rfl) ?_
  by_cases q : w < 32
  · have q1 : mCnd w 32 .lt = true := decide_eq_true q
    simp only [if_pos (Or.inl q : w < 32 ∨ w > 126)]
    refine sx_l rfl rfl rfl ?_
    refine sx_p rfl rfl rfl ?_
    refine sx_pf rfl h1 (by decide) rfl rfl rfl ?_
    refine sx_l rfl rfl rfl ?_
    refine sx_p rfl rfl rfl ?_
    refine sx_c rfl (by decide) q1 rfl ?_
    refine sx_p rfl rfl rfl ?_
    exact sx_r rfl rfl rfl
  · have q1 : mCnd w 32 .lt = false := decide_eq_false q
    by_cases q3 : w > 126
    · have q2 : mCnd w 126 .gt = true := decide_eq_true q3
      simp only [if_pos (Or.inr q3 : w < 32 ∨ w > 126)]
      refine sx_l rfl rfl rfl ?_
      refine sx_p rfl rfl rfl ?_
      refine sx_pf rfl h1 (by decide) rfl rfl rfl ?_
      refine sx_l rfl rfl rfl ?_
      refine sx_p rfl rfl rfl ?_
      refine sx_c rfl (by decide) q1 rfl ?_
      refine sx_l rfl rfl rfl ?_
      refine sx_p rfl rfl rfl ?_
      refine sx_c rfl (by decide) q2 rfl ?_
      refine sx_p rfl rfl rfl ?_
      exact sx_r rfl rfl rfl
    · have q2 : mCnd w 126 .gt = false := decide_eq_false q3
      simp only [if_neg (not_or.mpr ⟨q, q3⟩ : ¬ (w < 32 ∨ w > 126))]
      refine sx_l rfl rfl rfl ?_
      refine sx_p rfl rfl rfl ?_
      refine sx_pf rfl h1 (by decide) rfl rfl rfl ?_
      refine sx_l rfl rfl rfl ?_
      refine sx_p rfl rfl rfl ?_
      refine sx_c rfl (by decide) q1 rfl ?_
      refine sx_l rfl rfl rfl ?_
      refine sx_p rfl rfl rfl ?_
      refine sx_c rfl (by decide) q2 rfl ?_
      refine sx_l rfl rfl rfl ?_
      refine sx_gf rfl (tag_set.trans h1) (by decide) ((at_nk (by decide)).trans h2) ?_
      refine sx_p rfl rfl rfl ?_
      refine sx_c rfl (by decide) (show mCnd _ _ _ = true by decide) rfl ?_
      refine sx_l rfl rfl rfl ?_
      refine sx_gf rfl (tag_set.trans h1) (by decide) ((at_nk (by decide)).trans h3) ?_
      refine sx_l rfl rfl rfl ?_
      refine sx_gf rfl (tag_set.trans h1) (by decide) ((at_nk (by decide)).trans h2) ?_
      refine sx_l rfl rfl rfl ?_
      refine sx_as (t := 101) (ok := fun v => fits .char v) rfl rfl rfl rfl (tag_set.trans h4) (by rw [len_set, h5]; exact (show ¬ ((0 : Int32) < 0 ∨ 60 ≤ (0 : Int32).toNatClampNeg) by decide)) (chr_fits q q3) ?_
      refine sx_l rfl rfl rfl ?_
      refine sx_p rfl rfl rfl ?_
      refine sx_gf rfl (tag_set.trans (tag_set.trans h1)) (by decide) ((at_ne (by decide) _).trans ((at_nk (by decide)).trans h2)) ?_
      refine sx_p rfl rfl rfl ?_
      refine sx_p rfl rfl rfl ?_
      refine sx_pf rfl (tag_set.trans (tag_set.trans h1)) (by decide) rfl rfl rfl ?_
      refine sx_p rfl rfl rfl ?_
      exact sx_r rfl rfl rfl
end
section
/-! The law up to its loop, on a script that isn't looked at; closed runs behind it. -/
def noScr (o : Option mEnt) : Bool := match o with
  | some (.iaload, _, _, _, _) => false
  | some (.arraylength, _, _, _, _) => false
  | some _ => true
  | none => false
def stN (call : Nat → List Value → mHp → Option (mRes × mHp)) (y : Nat) : Nat → mSt → Option mSt
  | 0, S => some S
  | k + 1, S => if noScr (mcd y S.1) = true then match mStep call false y S with
      | some (.inl S') => stN call y k S'
      | _ => none
    else none
def swS (c : mCell) (S : mSt) : mSt := (S.1, S.2.1, S.2.2.1, swp c S.2.2.2)
section FR
variable {call : Nat → List Value → mHp → Option (mRes × mHp)} {y : Nat} {c : mCell}
theorem noScr_step {S : mSt} (hn : noScr (mcd y S.1) = true) : mStep call true y S = mStep call false y S := by
  unfold mStep
  split
  · rfl
  · next i n a b w hcd =>
    rw [hcd] at hn
    unfold mIns
    split
    · rfl
    · rfl
    · rfl
    · have e : (if true = true then mScr S.2.2.2 S.2.2.1 i else none) = none := by
        rw [if_pos rfl]
        cases i with
        | iaload => cases hn
        | arraylength => cases hn
        | _ => rfl
      rw [e, if_neg (by decide)]
    · rfl
    · rfl
    · rfl
theorem stN_go : ∀ (k : Nat) {j : Nat} {S S' : mSt} {r : Option (mRes × mHp)}, stN call y k S = some S' → mGo call true y j S' = r → mGo call true y (k + j) S = r
  | 0, j, S, S', r, h, K => by cases h; rw [Nat.zero_add]; exact K
  | k + 1, j, S, S', r, h, K => by
    rw [Nat.succ_add]
    simp only [stN] at h
    split at h
    · next hn =>
      split at h
      · next S1 hS => exact go_nx ((noScr_step hn).trans hS) (stN_go k h K)
      · cases h
    · cases h
theorem stN_swp (hcl : swC c call) (hle : callLe call) (hc : c.1 = 106) : ∀ (k : Nat) {S S' : mSt}, swI S.2.2.2 → stN call y k S = some S' → stN call y k (swS c S) = some (swS c S') ∧ swI S'.2.2.2
  | 0, S, S', hI, h => by cases h; exact ⟨rfl, hI⟩
  | k + 1, S, S', hI, h => by
    simp only [stN] at h ⊢
    split at h
    · next hn =>
      split at h
      · next S1 hS =>
        have e := swp_step hcl hc hI hS
        rw [if_pos (show noScr (mcd y (swS c S).1) = true from hn)]
        rw [show mStep call false y (swS c S) = some (.inl (swS c S1)) from e]
        exact stN_swp hcl hle hc k (hI.le (le3.step hle hS)) h
      · cases h
    · cases h
end FR
def frC : Nat → List Value → mHp → Option (mRes × mHp) := mEx (99940 + 60) (396 + 4)
def frH0 : mHp := lawH 0 (fun _ => 0)
def frL : List (Nat × Value) := [(5, .int 0), (4, .ref 99), (3, .ref 98), (2, .ref 58), (1, .ref 1), (0, .ref 0)]
def frO : Option mSt := stN frC 229 16 (0, [(0, .ref 0)], [], frH0)
def frS : mSt := frO.getD (0, [], [], frH0)
theorem frO_some : frO.isSome = true := by decide +kernel
theorem frS_1 : (frS.1, frS.2.1, frS.2.2.1) = (28, frL, []) := by decide +kernel
def frH : mHp := frS.2.2.2
theorem frH_n : frH.1 ≤ 1000 ∧ frH.2.1 ≤ 100000 ∧ swI frH := by unfold swI; decide +kernel
theorem frH_c : (hTag frH 1 = 0 ∧ hAt frH 1 0 = .ref 2 ∧ hAt frH 1 6 = .ref 54 ∧ hAt frH 1 8 = .int 0 ∧ hAt frH 1 9 = .null) ∧ (hTag frH 2 = 1 ∧ hAt frH 2 0 = .ref 3 ∧ hAt frH 2 1 = .int 0) ∧ (hTag frH 3 = 2 ∧ hAt frH 3 0 = .ref 4 ∧ hTag frH 4 = 100 ∧ hLen frH 4 = 60) ∧ (hTag frH 54 = 7 ∧ hAt frH 54 7 = .int 0 ∧ hAt frH 54 8 = .int 0 ∧ hAt frH 54 9 = .int 0 ∧ hAt frH 54 10 = .int 0) := by decide +kernel
theorem frH_m : hTag frH 58 = 11 ∧ hAt frH 58 1 = .ref 59 ∧ hTag frH 59 = 101 ∧ hLen frH 59 = 60 ∧ hAt frH 58 2 = .int 0 ∧ hAt frH 58 49 = .int 0 ∧ hAt frH 58 65 = .int 0 ∧ hAt frH 58 66 = .int 0 ∧ hAt frH 58 67 = .int 0 ∧ hAt frH 58 68 = .int 0 := by decide +kernel
def frX' (H : mHp) (pc k : Nat) : Bool := match stN frC 229 k (pc, frL, [], H) with
  | some S => decide (S.1 = 438) && decide (S.2.1.lookup 5 = some (.int 0)) && decide (S.2.1.lookup 0 = some (.ref 0)) && decide (S.2.2.1 = []) && decide (S.2.2.2.1 ≤ 1000) && decide (S.2.2.2.2.1 ≤ 100000)
  | none => false
theorem frX_1 : frX' frH 127 5 = true := by decide +kernel
theorem frX_2 : frX' frH 138 14 = true := by decide +kernel
theorem frX_7 : frX' frH 313 14 = true := by decide +kernel
theorem frX_9 : frX' frH 414 10 = true := by decide +kernel
end
section
/-! The law on a script of at most two ints. -/
def scr (h : mHp) (w : Int32) : Prop := 0 < h.1 ∧ hTag h 0 = 106 ∧ hLen h 0 = 2 ∧ hAt h 0 1 = .int w
theorem scr.set {h : mHp} {w : Int32} {j q : Nat} {v : Value} (hs : scr h w) (hj : 0 ≠ j) : scr (hSet h j q v) w := ⟨hs.1, tag_set.trans hs.2.1, len_set.trans hs.2.2.1, (at_ne hj _).trans hs.2.2.2⟩
theorem scr.new {h : mHp} {w : Int32} {t m : Nat} {f : Nat → Value} (hs : scr h w) : scr (hNew h t m f) w := ⟨Nat.succ_pos _, (tag_new hs.1).trans hs.2.1, (len_new hs.1).trans hs.2.2.1, (at_new hs.1 _).trans hs.2.2.2⟩
theorem cnd_rr {x : Int32} : mCnd x x .eq = true := decide_eq_true rfl
section OP
variable {call : Nat → List Value → mHp → Option (mRes × mHp)} {y k pc n a b w : Nat} {lv : List (Nat × Value)} {st : List Value} {h : mHp} {i : Instr} {r : Option (mRes × mHp)}
theorem sx_s1 {v : Int32} (hc : mcd y pc = some (.iaload, n, a, b, w)) (hs : scr h v) (K : mGo call true y k (pc + n, lv, .int v :: st, h) = r) : mGo call true y (k + 1) (pc, lv, .int (0 + Int32.ofInt 1) :: .ref 0 :: st, h) = r := by
  refine sx_sc hc rfl ?_ K
  simp only [mScr]
  rw [if_pos ⟨hs.2.1, by rw [hs.2.2.1]; decide⟩, show (0 + Int32.ofInt 1 : Int32).toNatClampNeg = 1 from by decide, hs.2.2.2]
theorem sx_s0 {x v : Int32} (hc : mcd y pc = some (.iaload, n, a, b, w)) (ht : hTag h 0 = 106) (hb : vp_in x (hLen h 0)) (hv : hAt h 0 x.toNatClampNeg = .int v) (K : mGo call true y k (pc + n, lv, .int v :: st, h) = r) : mGo call true y (k + 1) (pc, lv, .int x :: .ref 0 :: st, h) = r := by
  refine sx_sc hc rfl ?_ K
  simp only [mScr]
  rw [if_pos ⟨ht, hb⟩, hv]
theorem sx_sl {L : Nat} (hc : mcd y pc = some (.arraylength, n, a, b, w)) (ht : hTag h 0 = 106) (hl : hLen h 0 = L) (K : mGo call true y k (pc + n, lv, .int (Int32.ofNat L) :: st, h) = r) : mGo call true y (k + 1) (pc, lv, .ref 0 :: st, h) = r := by
  refine sx_sc hc rfl ?_ K
  simp only [mScr]
  rw [if_pos ht, hl]
theorem lookup_filter {p : Nat × Value → Bool} {j : Nat} (hp : ∀ v, p (j, v) = true) : ∀ (l : List (Nat × Value)), (l.filter p).lookup j = l.lookup j
  | [] => rfl
  | (x, v) :: l => by
    by_cases e : p (x, v) = true
    · rw [List.filter_cons_of_pos e, List.lookup_cons, List.lookup_cons, lookup_filter hp l]
    · rw [List.filter_cons_of_neg e, lookup_filter hp l, List.lookup_cons]
      have : (j == x) = false := by
        rw [beq_eq_false_iff_ne]
        intro q
        subst q
        exact e (hp v)
      rw [this]
theorem fin2 (ht : hTag h 0 = 106) (hl : hLen h 0 = 2) (h5 : lv.lookup 5 = some (.int 0)) (h0 : lv.lookup 0 = some (.ref 0)) : mGo call true 229 (k + 20) (438, lv, [], h) = some (.inl (some (.int 1)), h) := by
  refine sx_l rfl rfl (lv' := mSto1 lv 5 (.int (0 + Int32.ofInt 2))) (st' := []) ?_ ?_
  · simp only [mLoc, h5]; rfl
  refine sx_b rfl rfl rfl rfl ?_
  refine sx_l rfl rfl rfl ?_
  refine sx_l rfl rfl (lv' := mSto1 lv 5 (.int (0 + Int32.ofInt 2))) (st' := .ref 0 :: [.int (0 + Int32.ofInt 2)]) ?_ ?_
  · show mLd (mSto1 lv 5 (.int (0 + Int32.ofInt 2))) _ 0 isA = _
    unfold mLd
    rw [show (mSto1 lv 5 (.int (0 + Int32.ofInt 2))).lookup 0 = some (.ref 0) from (lookup_filter (fun v => rfl) lv).trans h0]
    rfl
  refine sx_sl rfl ht hl ?_
  refine sx_p rfl rfl rfl ?_
  refine sx_p rfl rfl rfl ?_
  refine sx_c rfl (by decide) (show mCnd _ _ _ = true by decide) rfl ?_
  refine sx_p rfl rfl rfl ?_
  exact sx_r rfl rfl rfl
end OP
/-- what is known of a heap that the script v w stands in, and the two fresh objects -/
def frK (h : mHp) (w : Int32) : Prop := scr h w ∧ 59 < h.1 ∧ h.1 ≤ 1000 ∧ h.2.1 ≤ 100000 ∧ (∀ i, i ≠ 0 → ∀ x, hAt h i x = hAt frH i x) ∧ (∀ i, hTag h i = hTag frH i) ∧ (∀ i, i ≠ 0 → hLen h i = hLen frH i)
def frG (h h' : mHp) : Prop := h'.1 ≤ h.1 + 1 ∧ h'.2.1 ≤ h.2.1 + 6

theorem op3 {k : Nat} {h : mHp} {w : Int32} (H : frK h w) : ∃ h2, mGo frC true 229 (k + 60) (182, frL, [], h) = some (.inl (some (.int 1)), h2) ∧ frG h h2 := by
  obtain ⟨hs, hn, -, -, hA, hT, hL⟩ := H
  have c1 : hTag h 1 = 0 := (hT 1).trans frH_c.1.1
  have c2 : hAt h 1 0 = .ref 2 := (hA 1 (by decide) 0).trans frH_c.1.2.1
  have c3 : hAt h 1 6 = .ref 54 := (hA 1 (by decide) 6).trans frH_c.1.2.2.1
  have c4 : hAt h 1 8 = .int 0 := (hA 1 (by decide) 8).trans frH_c.1.2.2.2.1
  have c5 : hAt h 1 9 = .null := (hA 1 (by decide) 9).trans frH_c.1.2.2.2.2
  have l1 : hTag h 2 = 1 := (hT 2).trans frH_c.2.1.1
  have l2 : hAt h 2 0 = .ref 3 := (hA 2 (by decide) 0).trans frH_c.2.1.2.1
  have l3 : hAt h 2 1 = .int 0 := (hA 2 (by decide) 1).trans frH_c.2.1.2.2
  have l4 : hTag h 3 = 2 := (hT 3).trans frH_c.2.2.1.1
  have l5 : hAt h 3 0 = .ref 4 := (hA 3 (by decide) 0).trans frH_c.2.2.1.2.1
  have l6 : hTag h 4 = 100 := (hT 4).trans frH_c.2.2.1.2.2.1
  have l7 : hLen h 4 = 60 := (hL 4 (by decide)).trans frH_c.2.2.1.2.2.2
  have m1 : hTag h 54 = 7 := (hT 54).trans frH_c.2.2.2.1
  have m2 : hAt h 54 7 = .int 0 := (hA 54 (by decide) 7).trans frH_c.2.2.2.2.1
  have m3 : hAt h 54 8 = .int 0 := (hA 54 (by decide) 8).trans frH_c.2.2.2.2.2.1
  have m4 : hAt h 54 9 = .int 0 := (hA 54 (by decide) 9).trans frH_c.2.2.2.2.2.2.1
  have m5 : hAt h 54 10 = .int 0 := (hA 54 (by decide) 10).trans frH_c.2.2.2.2.2.2.2
  have r1 : hTag h 58 = 11 := (hT 58).trans frH_m.1
  have r2 : hAt h 58 1 = .ref 59 := (hA 58 (by decide) 1).trans frH_m.2.1
  have r3 : hTag h 59 = 101 := (hT 59).trans frH_m.2.2.1
  have r4 : hLen h 59 = 60 := (hL 59 (by decide)).trans frH_m.2.2.2.1
  have r5 : hAt h 58 2 = .int 0 := (hA 58 (by decide) 2).trans frH_m.2.2.2.2.1
  have r6 : hAt h 58 49 = .int 0 := (hA 58 (by decide) 49).trans frH_m.2.2.2.2.2.1
  have r7 : hAt h 58 65 = .int 0 := (hA 58 (by decide) 65).trans frH_m.2.2.2.2.2.2.1
  have r8 : hAt h 58 66 = .int 0 := (hA 58 (by decide) 66).trans frH_m.2.2.2.2.2.2.2.1
  have r9 : hAt h 58 67 = .int 0 := (hA 58 (by decide) 67).trans frH_m.2.2.2.2.2.2.2.2.1
  have r0 : hAt h 58 68 = .int 0 := (hA 58 (by decide) 68).trans frH_m.2.2.2.2.2.2.2.2.2
  apply Exists.intro
  apply And.intro
  · refine sx_l rfl rfl rfl ?_
    refine sx_l rfl rfl rfl ?_
    refine sx_l rfl rfl rfl ?_
    refine sx_p rfl rfl rfl ?_
    refine sx_p rfl rfl rfl ?_
    refine sx_s1 rfl hs ?_
    refine sx_iv rfl rfl rfl c1 (by decide) rfl (shown_c c1 c4) ?_
    refine sx_l rfl rfl rfl ?_
    refine sx_l rfl rfl rfl ?_
    refine sx_l rfl rfl rfl ?_
    refine sx_p rfl rfl rfl ?_
    refine sx_p rfl rfl rfl ?_
    refine sx_s1 rfl hs ?_
    refine sx_iv rfl rfl rfl r1 (by decide) rfl (shown_m r1 r6) ?_
    refine sx_c rfl (by decide) cnd_rr rfl ?_
    exact fin2 (hs.set (by decide)).2.1 (hs.set (by decide)).2.2.1 rfl rfl
  · constructor <;> simp only [hSet, hNew] <;> omega
theorem op4 {k : Nat} {h : mHp} {w : Int32} (H : frK h w) : ∃ h2, mGo frC true 229 (k + 60) (207, frL, [], h) = some (.inl (some (.int 1)), h2) ∧ frG h h2 := by
  obtain ⟨hs, hn, -, -, hA, hT, hL⟩ := H
  have c1 : hTag h 1 = 0 := (hT 1).trans frH_c.1.1
  have c2 : hAt h 1 0 = .ref 2 := (hA 1 (by decide) 0).trans frH_c.1.2.1
  have c3 : hAt h 1 6 = .ref 54 := (hA 1 (by decide) 6).trans frH_c.1.2.2.1
  have c4 : hAt h 1 8 = .int 0 := (hA 1 (by decide) 8).trans frH_c.1.2.2.2.1
  have c5 : hAt h 1 9 = .null := (hA 1 (by decide) 9).trans frH_c.1.2.2.2.2
  have l1 : hTag h 2 = 1 := (hT 2).trans frH_c.2.1.1
  have l2 : hAt h 2 0 = .ref 3 := (hA 2 (by decide) 0).trans frH_c.2.1.2.1
  have l3 : hAt h 2 1 = .int 0 := (hA 2 (by decide) 1).trans frH_c.2.1.2.2
  have l4 : hTag h 3 = 2 := (hT 3).trans frH_c.2.2.1.1
  have l5 : hAt h 3 0 = .ref 4 := (hA 3 (by decide) 0).trans frH_c.2.2.1.2.1
  have l6 : hTag h 4 = 100 := (hT 4).trans frH_c.2.2.1.2.2.1
  have l7 : hLen h 4 = 60 := (hL 4 (by decide)).trans frH_c.2.2.1.2.2.2
  have m1 : hTag h 54 = 7 := (hT 54).trans frH_c.2.2.2.1
  have m2 : hAt h 54 7 = .int 0 := (hA 54 (by decide) 7).trans frH_c.2.2.2.2.1
  have m3 : hAt h 54 8 = .int 0 := (hA 54 (by decide) 8).trans frH_c.2.2.2.2.2.1
  have m4 : hAt h 54 9 = .int 0 := (hA 54 (by decide) 9).trans frH_c.2.2.2.2.2.2.1
  have m5 : hAt h 54 10 = .int 0 := (hA 54 (by decide) 10).trans frH_c.2.2.2.2.2.2.2
  have r1 : hTag h 58 = 11 := (hT 58).trans frH_m.1
  have r2 : hAt h 58 1 = .ref 59 := (hA 58 (by decide) 1).trans frH_m.2.1
  have r3 : hTag h 59 = 101 := (hT 59).trans frH_m.2.2.1
  have r4 : hLen h 59 = 60 := (hL 59 (by decide)).trans frH_m.2.2.2.1
  have r5 : hAt h 58 2 = .int 0 := (hA 58 (by decide) 2).trans frH_m.2.2.2.2.1
  have r6 : hAt h 58 49 = .int 0 := (hA 58 (by decide) 49).trans frH_m.2.2.2.2.2.1
  have r7 : hAt h 58 65 = .int 0 := (hA 58 (by decide) 65).trans frH_m.2.2.2.2.2.2.1
  have r8 : hAt h 58 66 = .int 0 := (hA 58 (by decide) 66).trans frH_m.2.2.2.2.2.2.2.1
  have r9 : hAt h 58 67 = .int 0 := (hA 58 (by decide) 67).trans frH_m.2.2.2.2.2.2.2.2.1
  have r0 : hAt h 58 68 = .int 0 := (hA 58 (by decide) 68).trans frH_m.2.2.2.2.2.2.2.2.2
  apply Exists.intro
  apply And.intro
  · refine sx_l rfl rfl rfl ?_
    refine sx_l rfl rfl rfl ?_
    refine sx_l rfl rfl rfl ?_
    refine sx_p rfl rfl rfl ?_
    refine sx_p rfl rfl rfl ?_
    refine sx_s1 rfl hs ?_
    refine sx_iv rfl rfl rfl c1 (by decide) rfl (run_c c1 c3 m1 m2) ?_
    refine sx_l rfl rfl rfl ?_
    refine sx_l rfl rfl rfl ?_
    refine sx_l rfl rfl rfl ?_
    refine sx_p rfl rfl rfl ?_
    refine sx_p rfl rfl rfl ?_
    refine sx_s1 rfl hs ?_
    refine sx_iv rfl rfl rfl r1 (by decide) rfl (run_m r1 r7) ?_
    refine sx_c rfl (by decide) cnd_rr rfl ?_
    exact fin2 (hs.set (by decide)).2.1 (hs.set (by decide)).2.2.1 rfl rfl
  · constructor <;> simp only [hSet, hNew] <;> omega
theorem op5_0 {k : Nat} {h : mHp} (H : frK h 0) : ∃ h2, mGo frC true 229 (k + 60) (232, frL, [], h) = some (.inl (some (.int 1)), h2) ∧ frG h h2 := by
  obtain ⟨hs, hn, -, -, hA, hT, hL⟩ := H
  have c1 : hTag h 1 = 0 := (hT 1).trans frH_c.1.1
  have c2 : hAt h 1 0 = .ref 2 := (hA 1 (by decide) 0).trans frH_c.1.2.1
  have c3 : hAt h 1 6 = .ref 54 := (hA 1 (by decide) 6).trans frH_c.1.2.2.1
  have c4 : hAt h 1 8 = .int 0 := (hA 1 (by decide) 8).trans frH_c.1.2.2.2.1
  have c5 : hAt h 1 9 = .null := (hA 1 (by decide) 9).trans frH_c.1.2.2.2.2
  have l1 : hTag h 2 = 1 := (hT 2).trans frH_c.2.1.1
  have l2 : hAt h 2 0 = .ref 3 := (hA 2 (by decide) 0).trans frH_c.2.1.2.1
  have l3 : hAt h 2 1 = .int 0 := (hA 2 (by decide) 1).trans frH_c.2.1.2.2
  have l4 : hTag h 3 = 2 := (hT 3).trans frH_c.2.2.1.1
  have l5 : hAt h 3 0 = .ref 4 := (hA 3 (by decide) 0).trans frH_c.2.2.1.2.1
  have l6 : hTag h 4 = 100 := (hT 4).trans frH_c.2.2.1.2.2.1
  have l7 : hLen h 4 = 60 := (hL 4 (by decide)).trans frH_c.2.2.1.2.2.2
  have m1 : hTag h 54 = 7 := (hT 54).trans frH_c.2.2.2.1
  have m2 : hAt h 54 7 = .int 0 := (hA 54 (by decide) 7).trans frH_c.2.2.2.2.1
  have m3 : hAt h 54 8 = .int 0 := (hA 54 (by decide) 8).trans frH_c.2.2.2.2.2.1
  have m4 : hAt h 54 9 = .int 0 := (hA 54 (by decide) 9).trans frH_c.2.2.2.2.2.2.1
  have m5 : hAt h 54 10 = .int 0 := (hA 54 (by decide) 10).trans frH_c.2.2.2.2.2.2.2
  have r1 : hTag h 58 = 11 := (hT 58).trans frH_m.1
  have r2 : hAt h 58 1 = .ref 59 := (hA 58 (by decide) 1).trans frH_m.2.1
  have r3 : hTag h 59 = 101 := (hT 59).trans frH_m.2.2.1
  have r4 : hLen h 59 = 60 := (hL 59 (by decide)).trans frH_m.2.2.2.1
  have r5 : hAt h 58 2 = .int 0 := (hA 58 (by decide) 2).trans frH_m.2.2.2.2.1
  have r6 : hAt h 58 49 = .int 0 := (hA 58 (by decide) 49).trans frH_m.2.2.2.2.2.1
  have r7 : hAt h 58 65 = .int 0 := (hA 58 (by decide) 65).trans frH_m.2.2.2.2.2.2.1
  have r8 : hAt h 58 66 = .int 0 := (hA 58 (by decide) 66).trans frH_m.2.2.2.2.2.2.2.1
  have r9 : hAt h 58 67 = .int 0 := (hA 58 (by decide) 67).trans frH_m.2.2.2.2.2.2.2.2.1
  have r0 : hAt h 58 68 = .int 0 := (hA 58 (by decide) 68).trans frH_m.2.2.2.2.2.2.2.2.2
  apply Exists.intro
  apply And.intro
  · refine sx_l rfl rfl rfl ?_
    refine sx_l rfl rfl rfl ?_
    refine sx_l rfl rfl rfl ?_
    refine sx_p rfl rfl rfl ?_
    refine sx_p rfl rfl rfl ?_
    refine sx_s1 rfl hs ?_
    refine sx_iv rfl rfl rfl c1 (by decide) rfl (state_c0 c1 c3 m1 m2 m3 m4 m5) ?_
    refine sx_l rfl rfl rfl ?_
    refine sx_l rfl rfl rfl ?_
    refine sx_l rfl rfl rfl ?_
    refine sx_p rfl rfl rfl ?_
    refine sx_p rfl rfl rfl ?_
    refine sx_s1 rfl hs ?_
    refine sx_iv rfl rfl rfl r1 (by decide) rfl (state_m0 r1 r7) ?_
    refine sx_c rfl (by decide) cnd_rr rfl ?_
    exact fin2 (hs.set (by decide)).2.1 (hs.set (by decide)).2.2.1 rfl rfl
  · constructor <;> simp only [hSet, hNew] <;> omega
theorem op5_1 {k : Nat} {h : mHp} (H : frK h 1) : ∃ h2, mGo frC true 229 (k + 60) (232, frL, [], h) = some (.inl (some (.int 1)), h2) ∧ frG h h2 := by
  obtain ⟨hs, hn, -, -, hA, hT, hL⟩ := H
  have c1 : hTag h 1 = 0 := (hT 1).trans frH_c.1.1
  have c2 : hAt h 1 0 = .ref 2 := (hA 1 (by decide) 0).trans frH_c.1.2.1
  have c3 : hAt h 1 6 = .ref 54 := (hA 1 (by decide) 6).trans frH_c.1.2.2.1
  have c4 : hAt h 1 8 = .int 0 := (hA 1 (by decide) 8).trans frH_c.1.2.2.2.1
  have c5 : hAt h 1 9 = .null := (hA 1 (by decide) 9).trans frH_c.1.2.2.2.2
  have l1 : hTag h 2 = 1 := (hT 2).trans frH_c.2.1.1
  have l2 : hAt h 2 0 = .ref 3 := (hA 2 (by decide) 0).trans frH_c.2.1.2.1
  have l3 : hAt h 2 1 = .int 0 := (hA 2 (by decide) 1).trans frH_c.2.1.2.2
  have l4 : hTag h 3 = 2 := (hT 3).trans frH_c.2.2.1.1
  have l5 : hAt h 3 0 = .ref 4 := (hA 3 (by decide) 0).trans frH_c.2.2.1.2.1
  have l6 : hTag h 4 = 100 := (hT 4).trans frH_c.2.2.1.2.2.1
  have l7 : hLen h 4 = 60 := (hL 4 (by decide)).trans frH_c.2.2.1.2.2.2
  have m1 : hTag h 54 = 7 := (hT 54).trans frH_c.2.2.2.1
  have m2 : hAt h 54 7 = .int 0 := (hA 54 (by decide) 7).trans frH_c.2.2.2.2.1
  have m3 : hAt h 54 8 = .int 0 := (hA 54 (by decide) 8).trans frH_c.2.2.2.2.2.1
  have m4 : hAt h 54 9 = .int 0 := (hA 54 (by decide) 9).trans frH_c.2.2.2.2.2.2.1
  have m5 : hAt h 54 10 = .int 0 := (hA 54 (by decide) 10).trans frH_c.2.2.2.2.2.2.2
  have r1 : hTag h 58 = 11 := (hT 58).trans frH_m.1
  have r2 : hAt h 58 1 = .ref 59 := (hA 58 (by decide) 1).trans frH_m.2.1
  have r3 : hTag h 59 = 101 := (hT 59).trans frH_m.2.2.1
  have r4 : hLen h 59 = 60 := (hL 59 (by decide)).trans frH_m.2.2.2.1
  have r5 : hAt h 58 2 = .int 0 := (hA 58 (by decide) 2).trans frH_m.2.2.2.2.1
  have r6 : hAt h 58 49 = .int 0 := (hA 58 (by decide) 49).trans frH_m.2.2.2.2.2.1
  have r7 : hAt h 58 65 = .int 0 := (hA 58 (by decide) 65).trans frH_m.2.2.2.2.2.2.1
  have r8 : hAt h 58 66 = .int 0 := (hA 58 (by decide) 66).trans frH_m.2.2.2.2.2.2.2.1
  have r9 : hAt h 58 67 = .int 0 := (hA 58 (by decide) 67).trans frH_m.2.2.2.2.2.2.2.2.1
  have r0 : hAt h 58 68 = .int 0 := (hA 58 (by decide) 68).trans frH_m.2.2.2.2.2.2.2.2.2
  apply Exists.intro
  apply And.intro
  · refine sx_l rfl rfl rfl ?_
    refine sx_l rfl rfl rfl ?_
    refine sx_l rfl rfl rfl ?_
    refine sx_p rfl rfl rfl ?_
    refine sx_p rfl rfl rfl ?_
    refine sx_s1 rfl hs ?_
    refine sx_iv rfl rfl rfl c1 (by decide) rfl (state_c1 c1 c3 m1 m2 m3 m4 m5) ?_
    refine sx_l rfl rfl rfl ?_
    refine sx_l rfl rfl rfl ?_
    refine sx_l rfl rfl rfl ?_
    refine sx_p rfl rfl rfl ?_
    refine sx_p rfl rfl rfl ?_
    refine sx_s1 rfl hs ?_
    refine sx_iv rfl rfl rfl r1 (by decide) rfl (state_m1 r1 r8) ?_
    refine sx_c rfl (by decide) cnd_rr rfl ?_
    exact fin2 (hs.set (by decide)).2.1 (hs.set (by decide)).2.2.1 rfl rfl
  · constructor <;> simp only [hSet, hNew] <;> omega
theorem op5_2 {k : Nat} {h : mHp} (H : frK h 2) : ∃ h2, mGo frC true 229 (k + 60) (232, frL, [], h) = some (.inl (some (.int 1)), h2) ∧ frG h h2 := by
  obtain ⟨hs, hn, -, -, hA, hT, hL⟩ := H
  have c1 : hTag h 1 = 0 := (hT 1).trans frH_c.1.1
  have c2 : hAt h 1 0 = .ref 2 := (hA 1 (by decide) 0).trans frH_c.1.2.1
  have c3 : hAt h 1 6 = .ref 54 := (hA 1 (by decide) 6).trans frH_c.1.2.2.1
  have c4 : hAt h 1 8 = .int 0 := (hA 1 (by decide) 8).trans frH_c.1.2.2.2.1
  have c5 : hAt h 1 9 = .null := (hA 1 (by decide) 9).trans frH_c.1.2.2.2.2
  have l1 : hTag h 2 = 1 := (hT 2).trans frH_c.2.1.1
  have l2 : hAt h 2 0 = .ref 3 := (hA 2 (by decide) 0).trans frH_c.2.1.2.1
  have l3 : hAt h 2 1 = .int 0 := (hA 2 (by decide) 1).trans frH_c.2.1.2.2
  have l4 : hTag h 3 = 2 := (hT 3).trans frH_c.2.2.1.1
  have l5 : hAt h 3 0 = .ref 4 := (hA 3 (by decide) 0).trans frH_c.2.2.1.2.1
  have l6 : hTag h 4 = 100 := (hT 4).trans frH_c.2.2.1.2.2.1
  have l7 : hLen h 4 = 60 := (hL 4 (by decide)).trans frH_c.2.2.1.2.2.2
  have m1 : hTag h 54 = 7 := (hT 54).trans frH_c.2.2.2.1
  have m2 : hAt h 54 7 = .int 0 := (hA 54 (by decide) 7).trans frH_c.2.2.2.2.1
  have m3 : hAt h 54 8 = .int 0 := (hA 54 (by decide) 8).trans frH_c.2.2.2.2.2.1
  have m4 : hAt h 54 9 = .int 0 := (hA 54 (by decide) 9).trans frH_c.2.2.2.2.2.2.1
  have m5 : hAt h 54 10 = .int 0 := (hA 54 (by decide) 10).trans frH_c.2.2.2.2.2.2.2
  have r1 : hTag h 58 = 11 := (hT 58).trans frH_m.1
  have r2 : hAt h 58 1 = .ref 59 := (hA 58 (by decide) 1).trans frH_m.2.1
  have r3 : hTag h 59 = 101 := (hT 59).trans frH_m.2.2.1
  have r4 : hLen h 59 = 60 := (hL 59 (by decide)).trans frH_m.2.2.2.1
  have r5 : hAt h 58 2 = .int 0 := (hA 58 (by decide) 2).trans frH_m.2.2.2.2.1
  have r6 : hAt h 58 49 = .int 0 := (hA 58 (by decide) 49).trans frH_m.2.2.2.2.2.1
  have r7 : hAt h 58 65 = .int 0 := (hA 58 (by decide) 65).trans frH_m.2.2.2.2.2.2.1
  have r8 : hAt h 58 66 = .int 0 := (hA 58 (by decide) 66).trans frH_m.2.2.2.2.2.2.2.1
  have r9 : hAt h 58 67 = .int 0 := (hA 58 (by decide) 67).trans frH_m.2.2.2.2.2.2.2.2.1
  have r0 : hAt h 58 68 = .int 0 := (hA 58 (by decide) 68).trans frH_m.2.2.2.2.2.2.2.2.2
  apply Exists.intro
  apply And.intro
  · refine sx_l rfl rfl rfl ?_
    refine sx_l rfl rfl rfl ?_
    refine sx_l rfl rfl rfl ?_
    refine sx_p rfl rfl rfl ?_
    refine sx_p rfl rfl rfl ?_
    refine sx_s1 rfl hs ?_
    refine sx_iv rfl rfl rfl c1 (by decide) rfl (state_c2 c1 c3 m1 m2 m3 m4 m5) ?_
    refine sx_l rfl rfl rfl ?_
    refine sx_l rfl rfl rfl ?_
    refine sx_l rfl rfl rfl ?_
    refine sx_p rfl rfl rfl ?_
    refine sx_p rfl rfl rfl ?_
    refine sx_s1 rfl hs ?_
    refine sx_iv rfl rfl rfl r1 (by decide) rfl (state_m2 r1 r9) ?_
    refine sx_c rfl (by decide) cnd_rr rfl ?_
    exact fin2 (hs.set (by decide)).2.1 (hs.set (by decide)).2.2.1 rfl rfl
  · constructor <;> simp only [hSet, hNew] <;> omega
theorem op5_3 {k : Nat} {h : mHp} (H : frK h 3) : ∃ h2, mGo frC true 229 (k + 60) (232, frL, [], h) = some (.inl (some (.int 1)), h2) ∧ frG h h2 := by
  obtain ⟨hs, hn, -, -, hA, hT, hL⟩ := H
  have c1 : hTag h 1 = 0 := (hT 1).trans frH_c.1.1
  have c2 : hAt h 1 0 = .ref 2 := (hA 1 (by decide) 0).trans frH_c.1.2.1
  have c3 : hAt h 1 6 = .ref 54 := (hA 1 (by decide) 6).trans frH_c.1.2.2.1
  have c4 : hAt h 1 8 = .int 0 := (hA 1 (by decide) 8).trans frH_c.1.2.2.2.1
  have c5 : hAt h 1 9 = .null := (hA 1 (by decide) 9).trans frH_c.1.2.2.2.2
  have l1 : hTag h 2 = 1 := (hT 2).trans frH_c.2.1.1
  have l2 : hAt h 2 0 = .ref 3 := (hA 2 (by decide) 0).trans frH_c.2.1.2.1
  have l3 : hAt h 2 1 = .int 0 := (hA 2 (by decide) 1).trans frH_c.2.1.2.2
  have l4 : hTag h 3 = 2 := (hT 3).trans frH_c.2.2.1.1
  have l5 : hAt h 3 0 = .ref 4 := (hA 3 (by decide) 0).trans frH_c.2.2.1.2.1
  have l6 : hTag h 4 = 100 := (hT 4).trans frH_c.2.2.1.2.2.1
  have l7 : hLen h 4 = 60 := (hL 4 (by decide)).trans frH_c.2.2.1.2.2.2
  have m1 : hTag h 54 = 7 := (hT 54).trans frH_c.2.2.2.1
  have m2 : hAt h 54 7 = .int 0 := (hA 54 (by decide) 7).trans frH_c.2.2.2.2.1
  have m3 : hAt h 54 8 = .int 0 := (hA 54 (by decide) 8).trans frH_c.2.2.2.2.2.1
  have m4 : hAt h 54 9 = .int 0 := (hA 54 (by decide) 9).trans frH_c.2.2.2.2.2.2.1
  have m5 : hAt h 54 10 = .int 0 := (hA 54 (by decide) 10).trans frH_c.2.2.2.2.2.2.2
  have r1 : hTag h 58 = 11 := (hT 58).trans frH_m.1
  have r2 : hAt h 58 1 = .ref 59 := (hA 58 (by decide) 1).trans frH_m.2.1
  have r3 : hTag h 59 = 101 := (hT 59).trans frH_m.2.2.1
  have r4 : hLen h 59 = 60 := (hL 59 (by decide)).trans frH_m.2.2.2.1
  have r5 : hAt h 58 2 = .int 0 := (hA 58 (by decide) 2).trans frH_m.2.2.2.2.1
  have r6 : hAt h 58 49 = .int 0 := (hA 58 (by decide) 49).trans frH_m.2.2.2.2.2.1
  have r7 : hAt h 58 65 = .int 0 := (hA 58 (by decide) 65).trans frH_m.2.2.2.2.2.2.1
  have r8 : hAt h 58 66 = .int 0 := (hA 58 (by decide) 66).trans frH_m.2.2.2.2.2.2.2.1
  have r9 : hAt h 58 67 = .int 0 := (hA 58 (by decide) 67).trans frH_m.2.2.2.2.2.2.2.2.1
  have r0 : hAt h 58 68 = .int 0 := (hA 58 (by decide) 68).trans frH_m.2.2.2.2.2.2.2.2.2
  apply Exists.intro
  apply And.intro
  · refine sx_l rfl rfl rfl ?_
    refine sx_l rfl rfl rfl ?_
    refine sx_l rfl rfl rfl ?_
    refine sx_p rfl rfl rfl ?_
    refine sx_p rfl rfl rfl ?_
    refine sx_s1 rfl hs ?_
    refine sx_iv rfl rfl rfl c1 (by decide) rfl (state_c3 c1 c3 m1 m2 m3 m4 m5) ?_
    refine sx_l rfl rfl rfl ?_
    refine sx_l rfl rfl rfl ?_
    refine sx_l rfl rfl rfl ?_
    refine sx_p rfl rfl rfl ?_
    refine sx_p rfl rfl rfl ?_
    refine sx_s1 rfl hs ?_
    refine sx_iv rfl rfl rfl r1 (by decide) rfl (state_m3 r1 r0) ?_
    refine sx_c rfl (by decide) cnd_rr rfl ?_
    exact fin2 (hs.set (by decide)).2.1 (hs.set (by decide)).2.2.1 rfl rfl
  · constructor <;> simp only [hSet, hNew] <;> omega
theorem op5_d {k : Nat} {h : mHp} {w : Int32} (q0 : w ≠ 0) (q1 : w ≠ 1) (q2 : w ≠ 2) (q3 : w ≠ 3) (H : frK h w) : ∃ h2, mGo frC true 229 (k + 60) (232, frL, [], h) = some (.inl (some (.int 1)), h2) ∧ frG h h2 := by
  obtain ⟨hs, hn, -, -, hA, hT, hL⟩ := H
  have c1 : hTag h 1 = 0 := (hT 1).trans frH_c.1.1
  have c2 : hAt h 1 0 = .ref 2 := (hA 1 (by decide) 0).trans frH_c.1.2.1
  have c3 : hAt h 1 6 = .ref 54 := (hA 1 (by decide) 6).trans frH_c.1.2.2.1
  have c4 : hAt h 1 8 = .int 0 := (hA 1 (by decide) 8).trans frH_c.1.2.2.2.1
  have c5 : hAt h 1 9 = .null := (hA 1 (by decide) 9).trans frH_c.1.2.2.2.2
  have l1 : hTag h 2 = 1 := (hT 2).trans frH_c.2.1.1
  have l2 : hAt h 2 0 = .ref 3 := (hA 2 (by decide) 0).trans frH_c.2.1.2.1
  have l3 : hAt h 2 1 = .int 0 := (hA 2 (by decide) 1).trans frH_c.2.1.2.2
  have l4 : hTag h 3 = 2 := (hT 3).trans frH_c.2.2.1.1
  have l5 : hAt h 3 0 = .ref 4 := (hA 3 (by decide) 0).trans frH_c.2.2.1.2.1
  have l6 : hTag h 4 = 100 := (hT 4).trans frH_c.2.2.1.2.2.1
  have l7 : hLen h 4 = 60 := (hL 4 (by decide)).trans frH_c.2.2.1.2.2.2
  have m1 : hTag h 54 = 7 := (hT 54).trans frH_c.2.2.2.1
  have m2 : hAt h 54 7 = .int 0 := (hA 54 (by decide) 7).trans frH_c.2.2.2.2.1
  have m3 : hAt h 54 8 = .int 0 := (hA 54 (by decide) 8).trans frH_c.2.2.2.2.2.1
  have m4 : hAt h 54 9 = .int 0 := (hA 54 (by decide) 9).trans frH_c.2.2.2.2.2.2.1
  have m5 : hAt h 54 10 = .int 0 := (hA 54 (by decide) 10).trans frH_c.2.2.2.2.2.2.2
  have r1 : hTag h 58 = 11 := (hT 58).trans frH_m.1
  have r2 : hAt h 58 1 = .ref 59 := (hA 58 (by decide) 1).trans frH_m.2.1
  have r3 : hTag h 59 = 101 := (hT 59).trans frH_m.2.2.1
  have r4 : hLen h 59 = 60 := (hL 59 (by decide)).trans frH_m.2.2.2.1
  have r5 : hAt h 58 2 = .int 0 := (hA 58 (by decide) 2).trans frH_m.2.2.2.2.1
  have r6 : hAt h 58 49 = .int 0 := (hA 58 (by decide) 49).trans frH_m.2.2.2.2.2.1
  have r7 : hAt h 58 65 = .int 0 := (hA 58 (by decide) 65).trans frH_m.2.2.2.2.2.2.1
  have r8 : hAt h 58 66 = .int 0 := (hA 58 (by decide) 66).trans frH_m.2.2.2.2.2.2.2.1
  have r9 : hAt h 58 67 = .int 0 := (hA 58 (by decide) 67).trans frH_m.2.2.2.2.2.2.2.2.1
  have r0 : hAt h 58 68 = .int 0 := (hA 58 (by decide) 68).trans frH_m.2.2.2.2.2.2.2.2.2
  apply Exists.intro
  apply And.intro
  · refine sx_l rfl rfl rfl ?_
    refine sx_l rfl rfl rfl ?_
    refine sx_l rfl rfl rfl ?_
    refine sx_p rfl rfl rfl ?_
    refine sx_p rfl rfl rfl ?_
    refine sx_s1 rfl hs ?_
    refine sx_iv rfl rfl rfl c1 (by decide) rfl (state_cd q0 q1 q2 q3) ?_
    refine sx_l rfl rfl rfl ?_
    refine sx_l rfl rfl rfl ?_
    refine sx_l rfl rfl rfl ?_
    refine sx_p rfl rfl rfl ?_
    refine sx_p rfl rfl rfl ?_
    refine sx_s1 rfl hs ?_
    refine sx_iv rfl rfl rfl r1 (by decide) rfl (state_md r1 q0 q1 q2 q3) ?_
    refine sx_c rfl (by decide) cnd_rr rfl ?_
    exact fin2 (hs.set (by decide)).2.1 (hs.set (by decide)).2.2.1 rfl rfl
  · constructor <;> simp only [hSet, hNew] <;> omega
theorem op6 {k : Nat} {h : mHp} {w : Int32} (H : frK h w) : ∃ h2, mGo frC true 229 (k + 60) (257, frL, [], h) = some (.inl (some (.int 1)), h2) ∧ frG h h2 := by
  obtain ⟨hs, hn, -, -, hA, hT, hL⟩ := H
  have c1 : hTag h 1 = 0 := (hT 1).trans frH_c.1.1
  have c2 : hAt h 1 0 = .ref 2 := (hA 1 (by decide) 0).trans frH_c.1.2.1
  have c3 : hAt h 1 6 = .ref 54 := (hA 1 (by decide) 6).trans frH_c.1.2.2.1
  have c4 : hAt h 1 8 = .int 0 := (hA 1 (by decide) 8).trans frH_c.1.2.2.2.1
  have c5 : hAt h 1 9 = .null := (hA 1 (by decide) 9).trans frH_c.1.2.2.2.2
  have l1 : hTag h 2 = 1 := (hT 2).trans frH_c.2.1.1
  have l2 : hAt h 2 0 = .ref 3 := (hA 2 (by decide) 0).trans frH_c.2.1.2.1
  have l3 : hAt h 2 1 = .int 0 := (hA 2 (by decide) 1).trans frH_c.2.1.2.2
  have l4 : hTag h 3 = 2 := (hT 3).trans frH_c.2.2.1.1
  have l5 : hAt h 3 0 = .ref 4 := (hA 3 (by decide) 0).trans frH_c.2.2.1.2.1
  have l6 : hTag h 4 = 100 := (hT 4).trans frH_c.2.2.1.2.2.1
  have l7 : hLen h 4 = 60 := (hL 4 (by decide)).trans frH_c.2.2.1.2.2.2
  have m1 : hTag h 54 = 7 := (hT 54).trans frH_c.2.2.2.1
  have m2 : hAt h 54 7 = .int 0 := (hA 54 (by decide) 7).trans frH_c.2.2.2.2.1
  have m3 : hAt h 54 8 = .int 0 := (hA 54 (by decide) 8).trans frH_c.2.2.2.2.2.1
  have m4 : hAt h 54 9 = .int 0 := (hA 54 (by decide) 9).trans frH_c.2.2.2.2.2.2.1
  have m5 : hAt h 54 10 = .int 0 := (hA 54 (by decide) 10).trans frH_c.2.2.2.2.2.2.2
  have r1 : hTag h 58 = 11 := (hT 58).trans frH_m.1
  have r2 : hAt h 58 1 = .ref 59 := (hA 58 (by decide) 1).trans frH_m.2.1
  have r3 : hTag h 59 = 101 := (hT 59).trans frH_m.2.2.1
  have r4 : hLen h 59 = 60 := (hL 59 (by decide)).trans frH_m.2.2.2.1
  have r5 : hAt h 58 2 = .int 0 := (hA 58 (by decide) 2).trans frH_m.2.2.2.2.1
  have r6 : hAt h 58 49 = .int 0 := (hA 58 (by decide) 49).trans frH_m.2.2.2.2.2.1
  have r7 : hAt h 58 65 = .int 0 := (hA 58 (by decide) 65).trans frH_m.2.2.2.2.2.2.1
  have r8 : hAt h 58 66 = .int 0 := (hA 58 (by decide) 66).trans frH_m.2.2.2.2.2.2.2.1
  have r9 : hAt h 58 67 = .int 0 := (hA 58 (by decide) 67).trans frH_m.2.2.2.2.2.2.2.2.1
  have r0 : hAt h 58 68 = .int 0 := (hA 58 (by decide) 68).trans frH_m.2.2.2.2.2.2.2.2.2
  have u1 : hTag (hNew h 200 6 (fun _ => .null)) 58 = 11 := (tag_new (by omega)).trans r1
  have u2 : hAt (hNew h 200 6 (fun _ => .null)) 58 65 = .int 0 := (at_new (by omega) _).trans r7
  apply Exists.intro
  apply And.intro
  · refine sx_l rfl rfl rfl ?_
    refine sx_l rfl rfl rfl ?_
    refine sx_l rfl rfl rfl ?_
    refine sx_p rfl rfl rfl ?_
    refine sx_p rfl rfl rfl ?_
    refine sx_s1 rfl hs ?_
    refine sx_l rfl rfl rfl ?_
    refine sx_is rfl (by decide) (Nat.le_of_ble_eq_true rfl) rfl rfl rfl (value_w c1 c5) ?_
    refine sx_l rfl rfl rfl ?_
    refine sx_l rfl rfl rfl ?_
    refine sx_l rfl rfl rfl ?_
    refine sx_l rfl rfl rfl ?_
    refine sx_p rfl rfl rfl ?_
    refine sx_p rfl rfl rfl ?_
    refine sx_s1 rfl hs.new ?_
    refine sx_iv rfl rfl rfl u1 (by decide) rfl (value_m u1 u2) ?_
    refine sx_l rfl rfl rfl ?_
    refine sx_l rfl rfl rfl ?_
    refine sx_iv rfl rfl rfl (tag_set.trans u1) (by decide) rfl (thrown_m (tag_set.trans u1) at_eq) ?_
    refine sx_l rfl rfl rfl ?_
    refine sx_c rfl (by decide) cnd_rr rfl ?_
    refine sx_l rfl rfl rfl ?_
    refine sx_z rfl (by decide) (show mCnd _ _ _ = true by decide) rfl ?_
    refine sx_b rfl rfl rfl rfl ?_
    exact fin2 (hs.new.set (by decide)).2.1 (hs.new.set (by decide)).2.2.1 rfl rfl
  · constructor <;> simp only [hSet, hNew] <;> omega
theorem op8 {k : Nat} {h : mHp} {w : Int32} (H : frK h w) : ∃ h2, mGo frC true 229 (k + 60) (378, frL, [], h) = some (.inl (some (.int 1)), h2) ∧ frG h h2 := by
  obtain ⟨hs, hn, -, -, hA, hT, hL⟩ := H
  have c1 : hTag h 1 = 0 := (hT 1).trans frH_c.1.1
  have c2 : hAt h 1 0 = .ref 2 := (hA 1 (by decide) 0).trans frH_c.1.2.1
  have c3 : hAt h 1 6 = .ref 54 := (hA 1 (by decide) 6).trans frH_c.1.2.2.1
  have c4 : hAt h 1 8 = .int 0 := (hA 1 (by decide) 8).trans frH_c.1.2.2.2.1
  have c5 : hAt h 1 9 = .null := (hA 1 (by decide) 9).trans frH_c.1.2.2.2.2
  have l1 : hTag h 2 = 1 := (hT 2).trans frH_c.2.1.1
  have l2 : hAt h 2 0 = .ref 3 := (hA 2 (by decide) 0).trans frH_c.2.1.2.1
  have l3 : hAt h 2 1 = .int 0 := (hA 2 (by decide) 1).trans frH_c.2.1.2.2
  have l4 : hTag h 3 = 2 := (hT 3).trans frH_c.2.2.1.1
  have l5 : hAt h 3 0 = .ref 4 := (hA 3 (by decide) 0).trans frH_c.2.2.1.2.1
  have l6 : hTag h 4 = 100 := (hT 4).trans frH_c.2.2.1.2.2.1
  have l7 : hLen h 4 = 60 := (hL 4 (by decide)).trans frH_c.2.2.1.2.2.2
  have m1 : hTag h 54 = 7 := (hT 54).trans frH_c.2.2.2.1
  have m2 : hAt h 54 7 = .int 0 := (hA 54 (by decide) 7).trans frH_c.2.2.2.2.1
  have m3 : hAt h 54 8 = .int 0 := (hA 54 (by decide) 8).trans frH_c.2.2.2.2.2.1
  have m4 : hAt h 54 9 = .int 0 := (hA 54 (by decide) 9).trans frH_c.2.2.2.2.2.2.1
  have m5 : hAt h 54 10 = .int 0 := (hA 54 (by decide) 10).trans frH_c.2.2.2.2.2.2.2
  have r1 : hTag h 58 = 11 := (hT 58).trans frH_m.1
  have r2 : hAt h 58 1 = .ref 59 := (hA 58 (by decide) 1).trans frH_m.2.1
  have r3 : hTag h 59 = 101 := (hT 59).trans frH_m.2.2.1
  have r4 : hLen h 59 = 60 := (hL 59 (by decide)).trans frH_m.2.2.2.1
  have r5 : hAt h 58 2 = .int 0 := (hA 58 (by decide) 2).trans frH_m.2.2.2.2.1
  have r6 : hAt h 58 49 = .int 0 := (hA 58 (by decide) 49).trans frH_m.2.2.2.2.2.1
  have r7 : hAt h 58 65 = .int 0 := (hA 58 (by decide) 65).trans frH_m.2.2.2.2.2.2.1
  have r8 : hAt h 58 66 = .int 0 := (hA 58 (by decide) 66).trans frH_m.2.2.2.2.2.2.2.1
  have r9 : hAt h 58 67 = .int 0 := (hA 58 (by decide) 67).trans frH_m.2.2.2.2.2.2.2.2.1
  have r0 : hAt h 58 68 = .int 0 := (hA 58 (by decide) 68).trans frH_m.2.2.2.2.2.2.2.2.2
  have u1 : hTag (hNew h 200 6 (fun _ => .null)) 58 = 11 := (tag_new (by omega)).trans r1
  have u2 : hAt (hNew h 200 6 (fun _ => .null)) 58 65 = .int 0 := (at_new (by omega) _).trans r7
  apply Exists.intro
  apply And.intro
  · refine sx_l rfl rfl rfl ?_
    refine sx_l rfl rfl rfl ?_
    refine sx_l rfl rfl rfl ?_
    refine sx_p rfl rfl rfl ?_
    refine sx_p rfl rfl rfl ?_
    refine sx_s1 rfl hs ?_
    refine sx_is rfl (by decide) (Nat.le_of_ble_eq_true rfl) rfl rfl rfl (item_w c1 c5) ?_
    refine sx_l rfl rfl rfl ?_
    refine sx_l rfl rfl rfl ?_
    refine sx_l rfl rfl rfl ?_
    refine sx_l rfl rfl rfl ?_
    refine sx_p rfl rfl rfl ?_
    refine sx_p rfl rfl rfl ?_
    refine sx_s1 rfl hs.new ?_
    refine sx_iv rfl rfl rfl u1 (by decide) rfl (item_m u1 u2) ?_
    refine sx_l rfl rfl rfl ?_
    refine sx_iv rfl rfl rfl (tag_set.trans u1) (by decide) rfl (thrown_m (tag_set.trans u1) at_eq) ?_
    refine sx_l rfl rfl rfl ?_
    refine sx_c rfl (by decide) cnd_rr rfl ?_
    refine sx_b rfl rfl rfl rfl ?_
    exact fin2 (hs.new.set (by decide)).2.1 (hs.new.set (by decide)).2.2.1 rfl rfl
  · constructor <;> simp only [hSet, hNew] <;> omega
theorem op0_t {k : Nat} {h : mHp} {w : Int32} (q : (w.toUInt32 % 65536).toInt32 < 32 ∨ (w.toUInt32 % 65536).toInt32 > 126) (H : frK h w) : ∃ h2, mGo frC true 229 (k + 60) (100, frL, [], h) = some (.inl (some (.int 1)), h2) ∧ frG h h2 := by
  obtain ⟨hs, hn, -, -, hA, hT, hL⟩ := H
  have c1 : hTag h 1 = 0 := (hT 1).trans frH_c.1.1
  have c2 : hAt h 1 0 = .ref 2 := (hA 1 (by decide) 0).trans frH_c.1.2.1
  have c3 : hAt h 1 6 = .ref 54 := (hA 1 (by decide) 6).trans frH_c.1.2.2.1
  have c4 : hAt h 1 8 = .int 0 := (hA 1 (by decide) 8).trans frH_c.1.2.2.2.1
  have c5 : hAt h 1 9 = .null := (hA 1 (by decide) 9).trans frH_c.1.2.2.2.2
  have l1 : hTag h 2 = 1 := (hT 2).trans frH_c.2.1.1
  have l2 : hAt h 2 0 = .ref 3 := (hA 2 (by decide) 0).trans frH_c.2.1.2.1
  have l3 : hAt h 2 1 = .int 0 := (hA 2 (by decide) 1).trans frH_c.2.1.2.2
  have l4 : hTag h 3 = 2 := (hT 3).trans frH_c.2.2.1.1
  have l5 : hAt h 3 0 = .ref 4 := (hA 3 (by decide) 0).trans frH_c.2.2.1.2.1
  have l6 : hTag h 4 = 100 := (hT 4).trans frH_c.2.2.1.2.2.1
  have l7 : hLen h 4 = 60 := (hL 4 (by decide)).trans frH_c.2.2.1.2.2.2
  have m1 : hTag h 54 = 7 := (hT 54).trans frH_c.2.2.2.1
  have m2 : hAt h 54 7 = .int 0 := (hA 54 (by decide) 7).trans frH_c.2.2.2.2.1
  have m3 : hAt h 54 8 = .int 0 := (hA 54 (by decide) 8).trans frH_c.2.2.2.2.2.1
  have m4 : hAt h 54 9 = .int 0 := (hA 54 (by decide) 9).trans frH_c.2.2.2.2.2.2.1
  have m5 : hAt h 54 10 = .int 0 := (hA 54 (by decide) 10).trans frH_c.2.2.2.2.2.2.2
  have r1 : hTag h 58 = 11 := (hT 58).trans frH_m.1
  have r2 : hAt h 58 1 = .ref 59 := (hA 58 (by decide) 1).trans frH_m.2.1
  have r3 : hTag h 59 = 101 := (hT 59).trans frH_m.2.2.1
  have r4 : hLen h 59 = 60 := (hL 59 (by decide)).trans frH_m.2.2.2.1
  have r5 : hAt h 58 2 = .int 0 := (hA 58 (by decide) 2).trans frH_m.2.2.2.2.1
  have r6 : hAt h 58 49 = .int 0 := (hA 58 (by decide) 49).trans frH_m.2.2.2.2.2.1
  have r7 : hAt h 58 65 = .int 0 := (hA 58 (by decide) 65).trans frH_m.2.2.2.2.2.2.1
  have r8 : hAt h 58 66 = .int 0 := (hA 58 (by decide) 66).trans frH_m.2.2.2.2.2.2.2.1
  have r9 : hAt h 58 67 = .int 0 := (hA 58 (by decide) 67).trans frH_m.2.2.2.2.2.2.2.2.1
  have r0 : hAt h 58 68 = .int 0 := (hA 58 (by decide) 68).trans frH_m.2.2.2.2.2.2.2.2.2
  have ha := type_c (F := 99940) (d := 397) (w := (w.toUInt32 % 65536).toInt32) c1 c2 l1 l2 l3 l4 l5 l6 l7
  simp only [if_pos q] at ha
  have hb := type_m (F := 99940) (d := 399) (w := (w.toUInt32 % 65536).toInt32) r1 r5 r2 r3 r4
  simp only [if_pos q] at hb
  apply Exists.intro
  apply And.intro
  · refine sx_l rfl rfl rfl ?_
    refine sx_l rfl rfl rfl ?_
    refine sx_l rfl rfl rfl ?_
    refine sx_p rfl rfl rfl ?_
    refine sx_p rfl rfl rfl ?_
    refine sx_s1 rfl hs ?_
    refine sx_p rfl rfl rfl ?_
    refine sx_iv rfl rfl rfl c1 (by decide) rfl ha ?_
    refine sx_l rfl rfl rfl ?_
    refine sx_l rfl rfl rfl ?_
    refine sx_l rfl rfl rfl ?_
    refine sx_p rfl rfl rfl ?_
    refine sx_p rfl rfl rfl ?_
    refine sx_s1 rfl hs ?_
    refine sx_p rfl rfl rfl ?_
    refine sx_iv rfl rfl rfl r1 (by decide) rfl hb ?_
    refine sx_c rfl (by decide) cnd_rr rfl ?_
    exact fin2 (hs.set (by decide)).2.1 (hs.set (by decide)).2.2.1 rfl rfl
  · constructor <;> simp only [hSet, hNew] <;> omega
theorem op0_f {k : Nat} {h : mHp} {w : Int32} (q : ¬ ((w.toUInt32 % 65536).toInt32 < 32 ∨ (w.toUInt32 % 65536).toInt32 > 126)) (H : frK h w) : ∃ h2, mGo frC true 229 (k + 60) (100, frL, [], h) = some (.inl (some (.int 1)), h2) ∧ frG h h2 := by
  obtain ⟨hs, hn, -, -, hA, hT, hL⟩ := H
  have c1 : hTag h 1 = 0 := (hT 1).trans frH_c.1.1
  have c2 : hAt h 1 0 = .ref 2 := (hA 1 (by decide) 0).trans frH_c.1.2.1
  have c3 : hAt h 1 6 = .ref 54 := (hA 1 (by decide) 6).trans frH_c.1.2.2.1
  have c4 : hAt h 1 8 = .int 0 := (hA 1 (by decide) 8).trans frH_c.1.2.2.2.1
  have c5 : hAt h 1 9 = .null := (hA 1 (by decide) 9).trans frH_c.1.2.2.2.2
  have l1 : hTag h 2 = 1 := (hT 2).trans frH_c.2.1.1
  have l2 : hAt h 2 0 = .ref 3 := (hA 2 (by decide) 0).trans frH_c.2.1.2.1
  have l3 : hAt h 2 1 = .int 0 := (hA 2 (by decide) 1).trans frH_c.2.1.2.2
  have l4 : hTag h 3 = 2 := (hT 3).trans frH_c.2.2.1.1
  have l5 : hAt h 3 0 = .ref 4 := (hA 3 (by decide) 0).trans frH_c.2.2.1.2.1
  have l6 : hTag h 4 = 100 := (hT 4).trans frH_c.2.2.1.2.2.1
  have l7 : hLen h 4 = 60 := (hL 4 (by decide)).trans frH_c.2.2.1.2.2.2
  have m1 : hTag h 54 = 7 := (hT 54).trans frH_c.2.2.2.1
  have m2 : hAt h 54 7 = .int 0 := (hA 54 (by decide) 7).trans frH_c.2.2.2.2.1
  have m3 : hAt h 54 8 = .int 0 := (hA 54 (by decide) 8).trans frH_c.2.2.2.2.2.1
  have m4 : hAt h 54 9 = .int 0 := (hA 54 (by decide) 9).trans frH_c.2.2.2.2.2.2.1
  have m5 : hAt h 54 10 = .int 0 := (hA 54 (by decide) 10).trans frH_c.2.2.2.2.2.2.2
  have r1 : hTag h 58 = 11 := (hT 58).trans frH_m.1
  have r2 : hAt h 58 1 = .ref 59 := (hA 58 (by decide) 1).trans frH_m.2.1
  have r3 : hTag h 59 = 101 := (hT 59).trans frH_m.2.2.1
  have r4 : hLen h 59 = 60 := (hL 59 (by decide)).trans frH_m.2.2.2.1
  have r5 : hAt h 58 2 = .int 0 := (hA 58 (by decide) 2).trans frH_m.2.2.2.2.1
  have r6 : hAt h 58 49 = .int 0 := (hA 58 (by decide) 49).trans frH_m.2.2.2.2.2.1
  have r7 : hAt h 58 65 = .int 0 := (hA 58 (by decide) 65).trans frH_m.2.2.2.2.2.2.1
  have r8 : hAt h 58 66 = .int 0 := (hA 58 (by decide) 66).trans frH_m.2.2.2.2.2.2.2.1
  have r9 : hAt h 58 67 = .int 0 := (hA 58 (by decide) 67).trans frH_m.2.2.2.2.2.2.2.2.1
  have r0 : hAt h 58 68 = .int 0 := (hA 58 (by decide) 68).trans frH_m.2.2.2.2.2.2.2.2.2
  have ha := type_c (F := 99940) (d := 397) (w := (w.toUInt32 % 65536).toInt32) c1 c2 l1 l2 l3 l4 l5 l6 l7
  simp only [if_neg q] at ha
  have v1 : ∀ {a b : Value}, hTag (hSet (hSet h 4 0 a) 2 1 b) 58 = 11 := tag_set.trans (tag_set.trans r1)
  have v2 : ∀ {a b : Value}, hAt (hSet (hSet h 4 0 a) 2 1 b) 58 2 = .int 0 := (at_ne (by decide) _).trans ((at_ne (by decide) _).trans r5)
  have v3 : ∀ {a b : Value}, hAt (hSet (hSet h 4 0 a) 2 1 b) 58 1 = .ref 59 := (at_ne (by decide) _).trans ((at_ne (by decide) _).trans r2)
  have v4 : ∀ {a b : Value}, hTag (hSet (hSet h 4 0 a) 2 1 b) 59 = 101 := tag_set.trans (tag_set.trans r3)
  have v5 : ∀ {a b : Value}, hLen (hSet (hSet h 4 0 a) 2 1 b) 59 = 60 := len_set.trans (len_set.trans r4)
  have hb := type_m (F := 99940) (d := 399) (h := hSet (hSet h 4 0 (.int (w.toUInt32 % 65536).toInt32)) 2 1 (.int 1)) (w := (w.toUInt32 % 65536).toInt32) v1 v2 v3 v4 v5
  simp only [if_neg q] at hb
  apply Exists.intro
  apply And.intro
  · refine sx_l rfl rfl rfl ?_
    refine sx_l rfl rfl rfl ?_
    refine sx_l rfl rfl rfl ?_
    refine sx_p rfl rfl rfl ?_
    refine sx_p rfl rfl rfl ?_
    refine sx_s1 rfl hs ?_
    refine sx_p rfl rfl rfl ?_
    refine sx_iv rfl rfl rfl c1 (by decide) rfl ha ?_
    refine sx_l rfl rfl rfl ?_
    refine sx_l rfl rfl rfl ?_
    refine sx_l rfl rfl rfl ?_
    refine sx_p rfl rfl rfl ?_
    refine sx_p rfl rfl rfl ?_
    refine sx_s1 rfl ((hs.set (by decide)).set (by decide)) ?_
    refine sx_p rfl rfl rfl ?_
    refine sx_iv rfl rfl rfl v1 (by decide) rfl hb ?_
    refine sx_c rfl (by decide) cnd_rr rfl ?_
    exact fin2 (((((hs.set (by decide)).set (by decide)).set (by decide)).set (by decide)).set (by decide)).2.1 (((((hs.set (by decide)).set (by decide)).set (by decide)).set (by decide)).set (by decide)).2.2.1 rfl rfl
  · constructor <;> simp only [hSet, hNew] <;> omega
end
section
/-! The law on every script of at most two ints. -/
theorem frH_swp {L : Nat} {xs : Nat → Int32} : swp (106, L, fun j => .int (xs j)) frH0 = lawH L xs := by
  unfold swp frH0 lawH
  dsimp only
  congr 2
  funext j
  by_cases q : j = 0
  · rw [if_pos q, if_pos q]
  · rw [if_neg q, if_neg q, if_neg q]
theorem frO_S : stN frC 229 16 (0, [(0, .ref 0)], [], frH0) = some frS := by
  have h := frO_some
  unfold frS
  cases e : frO with
  | none => rw [e] at h; cases h
  | some S => exact e
theorem frS_e : frS = (28, frL, [], frH) := by
  have h := frS_1
  simp only [Prod.mk.injEq] at h
  obtain ⟨h1, h2, h3⟩ := h
  unfold frH
  rw [← h1, ← h2, ← h3]
theorem frB : stN frC 229 16 (0, [(0, .ref 0)], [], frH0) = some (28, frL, [], frH) := by rw [← frS_e]; exact frO_S
theorem frK_g {H : mHp} (eH : H = frH) : (H.1 ≤ 1000 ∧ H.2.1 ≤ 100000 ∧ swI H) ∧ 59 < H.1 ∧ stN frC 229 16 (0, [(0, .ref 0)], [], frH0) = some (28, frL, [], H) := by
  rw [eH]
  have : decide (59 < frH.1) = true := by decide +kernel
  exact ⟨frH_n, of_decide_eq_true this, frB⟩
theorem frX_g {H : mHp} (eH : H = frH) : frX' H 127 5 = true ∧ frX' H 138 14 = true ∧ frX' H 313 14 = true ∧ frX' H 414 10 = true := by rw [eH]; exact ⟨frX_1, frX_2, frX_7, frX_9⟩
/-- the law's run from its start to its loop -/
theorem fr_begin {H : mHp} (eH : H = frH) {L k : Nat} {xs : Nat → Int32} {r : Option (mRes × mHp)} (K : mGo frC true 229 k (28, frL, [], swp (106, L, fun j => .int (xs j)) H) = r) : mGo frC true 229 (16 + k) (0, [(0, .ref 0)], [], lawH L xs) = r := by
  have h := stN_swp (c := (106, L, fun j => .int (xs j))) (swp_ex rfl (F := 99940 + 60) (396 + 4)) (le3.ex (396 + 4)) rfl 16 (S := (0, [(0, .ref 0)], [], frH0)) ⟨rfl, Nat.one_pos⟩ (frK_g eH).2.2
  refine stN_go 16 (S := (0, [(0, .ref 0)], [], lawH L xs)) ?_ K
  rw [← frH_swp]
  exact h.1
theorem fr_hT {H : mHp} (eH : H = frH) {L : Nat} {xs : Nat → Int32} (i : Nat) : hTag (swp (106, L, fun j => .int (xs j)) H) i = hTag H i := swp_tag rfl (frK_g eH).1.2.2 i
/-- nothing more to read: the loop isn't entered -/
theorem fr_none {H : mHp} (eH : H = frH) {L k : Nat} {xs : Nat → Int32} (hL : L < 2) : mGo frC true 229 (k + 20) (28, frL, [], swp (106, L, fun j => .int (xs j)) H) = some (.inl (some (.int 1)), swp (106, L, fun j => .int (xs j)) H) := by
  have ht : hTag (swp (106, L, fun j => .int (xs j)) H) 0 = 106 := (fr_hT eH 0).trans (frK_g eH).1.2.2.1
  have hl : hLen (swp (106, L, fun j => .int (xs j)) H) 0 = L := rfl
  have hq : mCnd 0 (Int32.ofNat L - Int32.ofInt 2) .gt = true := by
    match L, hL with
    | 0, _ => decide
    | 1, _ => decide
  refine sx_l rfl rfl rfl ?_
  refine sx_l rfl rfl rfl ?_
  refine sx_sl rfl ht hl ?_
  refine sx_p rfl rfl rfl ?_
  refine sx_p rfl rfl rfl ?_
  refine sx_c rfl (by decide) hq rfl ?_
  refine sx_p rfl rfl rfl ?_
  exact sx_r rfl rfl rfl
theorem and15 (x : Int32) : ∃ j, j < 16 ∧ x &&& (Int8.ofInt 15).toInt32 = Int32.ofNat j := by
  have h : (x &&& (Int8.ofInt 15).toInt32).toBitVec.toNat ≤ 15 := by
    rw [Int32.toBitVec_and, BitVec.toNat_and]
    exact Nat.and_le_right
  refine ⟨(x &&& (Int8.ofInt 15).toInt32).toBitVec.toNat, Nat.lt_succ_of_le h, ?_⟩
  apply Int32.toBitVec_inj.mp
  apply BitVec.eq_of_toNat_eq
  have e : ∀ m : Nat, (Int32.ofNat m).toBitVec.toNat = m % 4294967296 := fun m => rfl
  rw [e]
  omega
/-- the loop's head with a call to make -/
theorem fr_head {H : mHp} (eH : H = frH) {k j : Nat} {xs : Nat → Int32} {r : Option (mRes × mHp)} (hj : xs 0 &&& (Int8.ofInt 15).toInt32 = Int32.ofNat j)
    (K : mGo frC true 229 (k + 11) (44, frL, [.int (Int32.ofNat j)], swp (106, 2, fun j => .int (xs j)) H) = r) : mGo frC true 229 (k + 22) (28, frL, [], swp (106, 2, fun j => .int (xs j)) H) = r := by
  have ht : hTag (swp (106, 2, fun j => .int (xs j)) H) 0 = 106 := (fr_hT eH 0).trans (frK_g eH).1.2.2.1
  have hl : hLen (swp (106, 2, fun j => .int (xs j)) H) 0 = 2 := rfl
  refine sx_l rfl rfl rfl ?_
  refine sx_l rfl rfl rfl ?_
  refine sx_sl rfl ht hl ?_
  refine sx_p rfl rfl rfl ?_
  refine sx_p rfl rfl rfl ?_
  refine sx_c (q := false) rfl (by decide) (by decide) rfl ?_
  refine sx_l rfl rfl rfl ?_
  refine sx_l rfl rfl rfl ?_
  refine sx_s0 (x := 0) (v := xs 0) rfl ht (show ¬ ((0 : Int32) < 0 ∨ 2 ≤ (0 : Int32).toNatClampNeg) by decide) rfl ?_
  refine sx_p rfl rfl rfl ?_
  refine sx_p rfl rfl rfl ?_
  rw [hj]
  exact K
theorem frK_of {H : mHp} (eH : H = frH) {xs : Nat → Int32} : frK (swp (106, 2, fun j => .int (xs j)) H) (xs 1) := by
  refine ⟨⟨(frK_g eH).1.2.2.2, (fr_hT eH 0).trans (frK_g eH).1.2.2.1, rfl, rfl⟩, ?_, (frK_g eH).1.1, (frK_g eH).1.2.1, fun i hi x => (swp_get hi).trans (by rw [eH]), fun i => (fr_hT eH i).trans (by rw [eH]), fun i hi => (swp_len hi).trans (by rw [eH])⟩
  exact (frK_g eH).2.1
/-- the calls that read nothing -/
theorem fr_closed {H : mHp} (eH : H = frH) {pc n k : Nat} {xs : Nat → Int32} (hx : frX' H pc n = true) : ∃ h2, mGo frC true 229 (n + (k + 20)) (pc, frL, [], swp (106, 2, fun j => .int (xs j)) H) = some (.inl (some (.int 1)), h2) ∧ h2.1 ≤ 1000 ∧ h2.2.1 ≤ 100000 := by
  unfold frX' at hx
  split at hx
  · next S hS =>
    simp only [Bool.and_eq_true, decide_eq_true_eq] at hx
    obtain ⟨⟨⟨⟨⟨e1, e2⟩, e3⟩, e4⟩, e5⟩, e6⟩ := hx
    have h := stN_swp (c := (106, 2, fun j => .int (xs j))) (swp_ex rfl (F := 99940 + 60) (396 + 4)) (le3.ex (396 + 4)) rfl n (S := (pc, frL, [], H)) (frK_g eH).1.2.2 hS
    refine ⟨swp (106, 2, fun j => .int (xs j)) S.2.2.2, ?_, e5, e6⟩
    refine stN_go n (S := (pc, frL, [], swp (106, 2, fun j => .int (xs j)) H)) h.1 ?_
    have ht : hTag (swp (106, 2, fun j => .int (xs j)) S.2.2.2) 0 = 106 := (swp_tag rfl h.2 0).trans h.2.1
    unfold swS
    rw [e1, e4]
    exact fin2 ht rfl e2 e3
  · cases hx
theorem frG_le {h h2 : mHp} {w : Int32} (H : frK h w) (G : frG h h2) : h2.1 ≤ 1001 ∧ h2.2.1 ≤ 100006 := ⟨Nat.le_trans G.1 (Nat.succ_le_succ H.2.2.1), Nat.le_trans G.2 (Nat.add_le_add_right H.2.2.2.1 6)⟩
/-- one call -/
theorem fr_one {H : mHp} (eH : H = frH) {xs : Nat → Int32} {j : Nat} (hj : j < 16) : ∃ h2, mGo frC true 229 (99962 + 11) (44, frL, [.int (Int32.ofNat j)], swp (106, 2, fun j => .int (xs j)) H) = some (.inl (some (.int 1)), h2) ∧ h2.1 ≤ 1001 ∧ h2.2.1 ≤ 100006 := by
  have HK := frK_of eH (xs := xs)
  have grow : ∀ {pc k : Nat}, (∃ h2, mGo frC true 229 (k + 60) (pc, frL, [], swp (106, 2, fun j => .int (xs j)) H) = some (.inl (some (.int 1)), h2) ∧ frG (swp (106, 2, fun j => .int (xs j)) H) h2) → ∃ h2, mGo frC true 229 (k + 60) (pc, frL, [], swp (106, 2, fun j => .int (xs j)) H) = some (.inl (some (.int 1)), h2) ∧ h2.1 ≤ 1001 ∧ h2.2.1 ≤ 100006 := fun ⟨h2, g1, g2⟩ => ⟨h2, g1, frG_le HK g2⟩
  have wide : ∀ {pc k : Nat}, (∃ h2, mGo frC true 229 k (pc, frL, [], swp (106, 2, fun j => .int (xs j)) H) = some (.inl (some (.int 1)), h2) ∧ h2.1 ≤ 1000 ∧ h2.2.1 ≤ 100000) → ∃ h2, mGo frC true 229 k (pc, frL, [], swp (106, 2, fun j => .int (xs j)) H) = some (.inl (some (.int 1)), h2) ∧ h2.1 ≤ 1001 ∧ h2.2.1 ≤ 100006 := fun ⟨h2, g1, g2, g3⟩ => ⟨h2, g1, by omega, by omega⟩
  have sw : ∀ {t : Nat} {d : Int}, mBr 44 [.int (Int32.ofNat j)] (.tableswitch 394 0 9 #[56, 83, 94, 138, 163, 188, 213, 269, 334, 370]) = some (some d, []) → mOff 44 56 (some d) = some t → (∃ h2, mGo frC true 229 (99912 + 60) (t, frL, [], swp (106, 2, fun j => .int (xs j)) H) = some (.inl (some (.int 1)), h2) ∧ h2.1 ≤ 1001 ∧ h2.2.1 ≤ 100006) → ∃ h2, mGo frC true 229 (99962 + 11) (44, frL, [.int (Int32.ofNat j)], swp (106, 2, fun j => .int (xs j)) H) = some (.inl (some (.int 1)), h2) ∧ h2.1 ≤ 1001 ∧ h2.2.1 ≤ 100006 := fun e1 e2 ⟨h2, g1, g2⟩ => ⟨h2, sx_b (k := 99912 + 60) rfl rfl e1 e2 g1, g2⟩
  have dflt : ∃ h2, mGo frC true 229 (99912 + 60) (438, frL, [], swp (106, 2, fun j => .int (xs j)) H) = some (.inl (some (.int 1)), h2) ∧ h2.1 ≤ 1001 ∧ h2.2.1 ≤ 100006 := ⟨_, fin2 HK.1.2.1 HK.1.2.2.1 rfl rfl, Nat.le_succ_of_le (frK_g eH).1.1, Nat.le_trans (frK_g eH).1.2.1 (by decide)⟩
  match j, hj with
  | 0, _ =>
    refine sw rfl rfl (grow ?_)
    by_cases q : ((xs 1).toUInt32 % 65536).toInt32 < 32 ∨ ((xs 1).toUInt32 % 65536).toInt32 > 126
    · exact op0_t q HK
    · exact op0_f q HK
  | 1, _ => exact sw rfl rfl (wide (fr_closed eH (n := 5) (k := 99947) (frX_g eH).1))
  | 2, _ => exact sw rfl rfl (wide (fr_closed eH (n := 14) (k := 99938) (frX_g eH).2.1))
  | 3, _ => exact sw rfl rfl (grow (op3 HK))
  | 4, _ => exact sw rfl rfl (grow (op4 HK))
  | 5, _ =>
    refine sw rfl rfl (grow ?_)
    by_cases q0 : xs 1 = 0
    · exact op5_0 (q0 ▸ HK)
    by_cases q1 : xs 1 = 1
    · exact op5_1 (q1 ▸ HK)
    by_cases q2 : xs 1 = 2
    · exact op5_2 (q2 ▸ HK)
    by_cases q3 : xs 1 = 3
    · exact op5_3 (q3 ▸ HK)
    exact op5_d q0 q1 q2 q3 HK
  | 6, _ => exact sw rfl rfl (grow (op6 HK))
  | 7, _ => exact sw rfl rfl (wide (fr_closed eH (n := 14) (k := 99938) (frX_g eH).2.2.1))
  | 8, _ => exact sw rfl rfl (grow (op8 HK))
  | 9, _ => exact sw rfl rfl (wide (fr_closed eH (n := 10) (k := 99942) (frX_g eH).2.2.2))
  | 10, _ => exact sw rfl rfl dflt
  | 11, _ => exact sw rfl rfl dflt
  | 12, _ => exact sw rfl rfl dflt
  | 13, _ => exact sw rfl rfl dflt
  | 14, _ => exact sw rfl rfl dflt
  | 15, _ => exact sw rfl rfl dflt
  | n + 16, h => exact absurd h (by omega)
theorem fr_two' {H : mHp} (eH : H = frH) (L : Nat) (xs : Nat → Int32) (hL : L ≤ 2) : ∃ (F : Nat) (h' : mHp), mGo (mEx F 400) true 229 F (0, [(0, .ref 0)], [], lawH L xs) = some (.inl (some (.int 1)), h') ∧ h'.1 ≤ 1001 ∧ h'.2.1 ≤ 100006 := by
  by_cases q : L < 2
  · exact ⟨99940 + 60, _, fr_begin eH (k := 99964 + 20) (fr_none eH q), Nat.le_succ_of_le (frK_g eH).1.1, Nat.le_trans (frK_g eH).1.2.1 (by decide)⟩
  · have e : L = 2 := by omega
    subst e
    obtain ⟨j, hj, e⟩ := and15 (xs 0)
    obtain ⟨h2, g1, g2⟩ := fr_one eH (xs := xs) hj
    exact ⟨99940 + 60, h2, fr_begin eH (k := 99984) (fr_head eH (k := 99962) e g1), g2⟩
theorem fr_two (L : Nat) (xs : Nat → Int32) (hL : L ≤ 2) : ∃ (F : Nat) (h' : mHp), mGo (mEx F 400) true 229 F (0, [(0, .ref 0)], [], lawH L xs) = some (.inl (some (.int 1)), h') ∧ h'.1 ≤ 1001 ∧ h'.2.1 ≤ 100006 := fr_two' rfl L xs hL
end
section
/-! The claim. -/
theorem two_pure : lawPure := by
  intro L xs hL
  obtain ⟨F, h', g1, g2, g3⟩ := fr_two L xs hL
  exact ⟨F, h', g1, by omega, by omega⟩
theorem i_vc : Claimed_1_1 ∧ Claimed_1_2 := i_vc_of two_pure
end
