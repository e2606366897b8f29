section
-- ===== PART A: goes FIRST, ahead of the names: the tables' words, and 'selects' of the private methods out of them =====
/-- a private method of a class that the tables say can be made, by its rows of tables_1 -/
def lw_okq (q : MethodName × Nat) : Prop := (q.1.cls ≠ "java/lang/invoke/MethodHandle" ∧ q.1.cls ≠ "java/lang/invoke/VarHandle") ∧ Cond.instantiable q.1.cls q.2 ∈ tables_1 ∧ Cond.privateMethod q.1 ∈ tables_1 ∧ Cond.instanceMethod q.1 ∈ tables_1
theorem lw_p0 : lw_okq (⟨"AnyLength", "sentenceOf", "(I)LAnyLength$Sentence;"⟩, 16) := ⟨⟨by decide +kernel, by decide +kernel⟩, List.mem_of_getElem? (i := 14) (by decide +kernel), List.mem_of_getElem? (i := 285) (by decide +kernel), List.mem_of_getElem? (i := 286) (by decide +kernel)⟩
theorem lw_p1 : lw_okq (⟨"AnyLength$Pairs", "explore", "(LAnyLength$Sentence;LAnyLength$Sentence;I)V"⟩, 4) := ⟨⟨by decide +kernel, by decide +kernel⟩, List.mem_of_getElem? (i := 88) (by decide +kernel), List.mem_of_getElem? (i := 335) (by decide +kernel), List.mem_of_getElem? (i := 336) (by decide +kernel)⟩
theorem lw_p2 : lw_okq (⟨"AnyLength$Pairs", "meet", "(I)V"⟩, 4) := ⟨⟨by decide +kernel, by decide +kernel⟩, List.mem_of_getElem? (i := 88) (by decide +kernel), List.mem_of_getElem? (i := 340) (by decide +kernel), List.mem_of_getElem? (i := 341) (by decide +kernel)⟩
theorem lw_p3 : lw_okq (⟨"AnyLength$Pairs", "numberOf", "(I)I"⟩, 4) := ⟨⟨by decide +kernel, by decide +kernel⟩, List.mem_of_getElem? (i := 88) (by decide +kernel), List.mem_of_getElem? (i := 352) (by decide +kernel), List.mem_of_getElem? (i := 353) (by decide +kernel)⟩
theorem lw_p4 : lw_okq (⟨"AnyLength", "programOf", "(I)LAnyLength$Program;"⟩, 16) := ⟨⟨by decide +kernel, by decide +kernel⟩, List.mem_of_getElem? (i := 14) (by decide +kernel), List.mem_of_getElem? (i := 382) (by decide +kernel), List.mem_of_getElem? (i := 383) (by decide +kernel)⟩
theorem lw_p5 : lw_okq (⟨"AnyLength", "claimOf", "(IIII)LAnyLength$Claim;"⟩, 16) := ⟨⟨by decide +kernel, by decide +kernel⟩, List.mem_of_getElem? (i := 14) (by decide +kernel), List.mem_of_getElem? (i := 424) (by decide +kernel), List.mem_of_getElem? (i := 425) (by decide +kernel)⟩
theorem lw_p6 : lw_okq (⟨"AnyLength$Claim", "meet", "(II)V"⟩, 8) := ⟨⟨by decide +kernel, by decide +kernel⟩, List.mem_of_getElem? (i := 109) (by decide +kernel), List.mem_of_getElem? (i := 437) (by decide +kernel), List.mem_of_getElem? (i := 438) (by decide +kernel)⟩
theorem lw_p7 : lw_okq (⟨"AnyLength$Claim", "after", "(II)I"⟩, 8) := ⟨⟨by decide +kernel, by decide +kernel⟩, List.mem_of_getElem? (i := 109) (by decide +kernel), List.mem_of_getElem? (i := 442) (by decide +kernel), List.mem_of_getElem? (i := 443) (by decide +kernel)⟩
theorem lw_p8 : lw_okq (⟨"AnyLength$Claim", "tailAfter", "(II)I"⟩, 8) := ⟨⟨by decide +kernel, by decide +kernel⟩, List.mem_of_getElem? (i := 109) (by decide +kernel), List.mem_of_getElem? (i := 447) (by decide +kernel), List.mem_of_getElem? (i := 448) (by decide +kernel)⟩
theorem lw_p9 : lw_okq (⟨"AnyLength$Claim", "isBad", "(I)Z"⟩, 8) := ⟨⟨by decide +kernel, by decide +kernel⟩, List.mem_of_getElem? (i := 109) (by decide +kernel), List.mem_of_getElem? (i := 466) (by decide +kernel), List.mem_of_getElem? (i := 467) (by decide +kernel)⟩
theorem lw_p10 : lw_okq (⟨"AnyLength$Claim", "wayLength", "(I)I"⟩, 8) := ⟨⟨by decide +kernel, by decide +kernel⟩, List.mem_of_getElem? (i := 109) (by decide +kernel), List.mem_of_getElem? (i := 481) (by decide +kernel), List.mem_of_getElem? (i := 482) (by decide +kernel)⟩
theorem lw_p11 : lw_okq (⟨"AnyLength$Claim", "wayTo", "(I)I"⟩, 8) := ⟨⟨by decide +kernel, by decide +kernel⟩, List.mem_of_getElem? (i := 109) (by decide +kernel), List.mem_of_getElem? (i := 485) (by decide +kernel), List.mem_of_getElem? (i := 486) (by decide +kernel)⟩
theorem lw_p12 : lw_okq (⟨"AnyLength$Claim", "leadsOut", "(I[I)Z"⟩, 8) := ⟨⟨by decide +kernel, by decide +kernel⟩, List.mem_of_getElem? (i := 109) (by decide +kernel), List.mem_of_getElem? (i := 525) (by decide +kernel), List.mem_of_getElem? (i := 526) (by decide +kernel)⟩
theorem lw_p13 : lw_okq (⟨"AnyLength$Balance", "keep", "(III)V"⟩, 6) := ⟨⟨by decide +kernel, by decide +kernel⟩, List.mem_of_getElem? (i := 140) (by decide +kernel), List.mem_of_getElem? (i := 538) (by decide +kernel), List.mem_of_getElem? (i := 539) (by decide +kernel)⟩
theorem lw_p14 : lw_okq (⟨"AnyLength$Agreement", "explore", "()V"⟩, 11) := ⟨⟨by decide +kernel, by decide +kernel⟩, List.mem_of_getElem? (i := 165) (by decide +kernel), List.mem_of_getElem? (i := 567) (by decide +kernel), List.mem_of_getElem? (i := 568) (by decide +kernel)⟩
theorem lw_p15 : lw_okq (⟨"AnyLength$Agreement", "meet", "(I)V"⟩, 11) := ⟨⟨by decide +kernel, by decide +kernel⟩, List.mem_of_getElem? (i := 165) (by decide +kernel), List.mem_of_getElem? (i := 572) (by decide +kernel), List.mem_of_getElem? (i := 573) (by decide +kernel)⟩
def lw_privs_1 : List (MethodName × Nat) := [(⟨"AnyLength", "sentenceOf", "(I)LAnyLength$Sentence;"⟩, 16), (⟨"AnyLength$Pairs", "explore", "(LAnyLength$Sentence;LAnyLength$Sentence;I)V"⟩, 4), (⟨"AnyLength$Pairs", "meet", "(I)V"⟩, 4), (⟨"AnyLength$Pairs", "numberOf", "(I)I"⟩, 4), (⟨"AnyLength", "programOf", "(I)LAnyLength$Program;"⟩, 16), (⟨"AnyLength", "claimOf", "(IIII)LAnyLength$Claim;"⟩, 16), (⟨"AnyLength$Claim", "meet", "(II)V"⟩, 8), (⟨"AnyLength$Claim", "after", "(II)I"⟩, 8), (⟨"AnyLength$Claim", "tailAfter", "(II)I"⟩, 8), (⟨"AnyLength$Claim", "isBad", "(I)Z"⟩, 8), (⟨"AnyLength$Claim", "wayLength", "(I)I"⟩, 8), (⟨"AnyLength$Claim", "wayTo", "(I)I"⟩, 8), (⟨"AnyLength$Claim", "leadsOut", "(I[I)Z"⟩, 8), (⟨"AnyLength$Balance", "keep", "(III)V"⟩, 6), (⟨"AnyLength$Agreement", "explore", "()V"⟩, 11), (⟨"AnyLength$Agreement", "meet", "(I)V"⟩, 11)]
theorem lw_r1 : ∀ q ∈ lw_privs_1, lw_okq q := List.forall_mem_cons.mpr ⟨lw_p0, List.forall_mem_cons.mpr ⟨lw_p1, List.forall_mem_cons.mpr ⟨lw_p2, List.forall_mem_cons.mpr ⟨lw_p3, List.forall_mem_cons.mpr ⟨lw_p4, List.forall_mem_cons.mpr ⟨lw_p5, List.forall_mem_cons.mpr ⟨lw_p6, List.forall_mem_cons.mpr ⟨lw_p7, List.forall_mem_cons.mpr ⟨lw_p8, List.forall_mem_cons.mpr ⟨lw_p9, List.forall_mem_cons.mpr ⟨lw_p10, List.forall_mem_cons.mpr ⟨lw_p11, List.forall_mem_cons.mpr ⟨lw_p12, List.forall_mem_cons.mpr ⟨lw_p13, List.forall_mem_cons.mpr ⟨lw_p14, List.forall_mem_cons.mpr ⟨lw_p15, fun _ h => absurd h List.not_mem_nil⟩⟩⟩⟩⟩⟩⟩⟩⟩⟩⟩⟩⟩⟩⟩⟩
theorem lw_p16 : lw_okq (⟨"AnyLength$Agreement", "after", "(II)I"⟩, 11) := ⟨⟨by decide +kernel, by decide +kernel⟩, List.mem_of_getElem? (i := 165) (by decide +kernel), List.mem_of_getElem? (i := 577) (by decide +kernel), List.mem_of_getElem? (i := 578) (by decide +kernel)⟩
theorem lw_p17 : lw_okq (⟨"AnyLength$Agreement", "oneStopsAlone", "()Z"⟩, 11) := ⟨⟨by decide +kernel, by decide +kernel⟩, List.mem_of_getElem? (i := 165) (by decide +kernel), List.mem_of_getElem? (i := 592) (by decide +kernel), List.mem_of_getElem? (i := 593) (by decide +kernel)⟩
theorem lw_p18 : lw_okq (⟨"AnyLength$Agreement", "markLive", "()V"⟩, 11) := ⟨⟨by decide +kernel, by decide +kernel⟩, List.mem_of_getElem? (i := 165) (by decide +kernel), List.mem_of_getElem? (i := 598) (by decide +kernel), List.mem_of_getElem? (i := 599) (by decide +kernel)⟩
theorem lw_p19 : lw_okq (⟨"AnyLength$Agreement", "isLive", "(I)Z"⟩, 11) := ⟨⟨by decide +kernel, by decide +kernel⟩, List.mem_of_getElem? (i := 165) (by decide +kernel), List.mem_of_getElem? (i := 605) (by decide +kernel), List.mem_of_getElem? (i := 606) (by decide +kernel)⟩
theorem lw_p20 : lw_okq (⟨"AnyLength$Agreement", "bothWrite", "(I)Z"⟩, 11) := ⟨⟨by decide +kernel, by decide +kernel⟩, List.mem_of_getElem? (i := 165) (by decide +kernel), List.mem_of_getElem? (i := 609) (by decide +kernel), List.mem_of_getElem? (i := 610) (by decide +kernel)⟩
theorem lw_p21 : lw_okq (⟨"AnyLength$Agreement", "leadsToLive", "(I)Z"⟩, 11) := ⟨⟨by decide +kernel, by decide +kernel⟩, List.mem_of_getElem? (i := 165) (by decide +kernel), List.mem_of_getElem? (i := 613) (by decide +kernel), List.mem_of_getElem? (i := 614) (by decide +kernel)⟩
theorem lw_p22 : lw_okq (⟨"AnyLength$Agreement", "setLive", "(I)V"⟩, 11) := ⟨⟨by decide +kernel, by decide +kernel⟩, List.mem_of_getElem? (i := 165) (by decide +kernel), List.mem_of_getElem? (i := 617) (by decide +kernel), List.mem_of_getElem? (i := 618) (by decide +kernel)⟩
theorem lw_p23 : lw_okq (⟨"AnyLength$Agreement", "leadsAreEven", "()Z"⟩, 11) := ⟨⟨by decide +kernel, by decide +kernel⟩, List.mem_of_getElem? (i := 165) (by decide +kernel), List.mem_of_getElem? (i := 621) (by decide +kernel), List.mem_of_getElem? (i := 622) (by decide +kernel)⟩
theorem lw_p24 : lw_okq (⟨"AnyLength$Agreement", "endsEven", "(I)Z"⟩, 11) := ⟨⟨by decide +kernel, by decide +kernel⟩, List.mem_of_getElem? (i := 165) (by decide +kernel), List.mem_of_getElem? (i := 626) (by decide +kernel), List.mem_of_getElem? (i := 627) (by decide +kernel)⟩
theorem lw_p25 : lw_okq (⟨"AnyLength$Agreement", "fetch", "(I)V"⟩, 11) := ⟨⟨by decide +kernel, by decide +kernel⟩, List.mem_of_getElem? (i := 165) (by decide +kernel), List.mem_of_getElem? (i := 630) (by decide +kernel), List.mem_of_getElem? (i := 631) (by decide +kernel)⟩
theorem lw_p26 : lw_okq (⟨"AnyLength$Agreement", "leadLetter", "(II)I"⟩, 11) := ⟨⟨by decide +kernel, by decide +kernel⟩, List.mem_of_getElem? (i := 165) (by decide +kernel), List.mem_of_getElem? (i := 638) (by decide +kernel), List.mem_of_getElem? (i := 639) (by decide +kernel)⟩
theorem lw_p27 : lw_okq (⟨"AnyLength$Agreement", "stepsEven", "(II)Z"⟩, 11) := ⟨⟨by decide +kernel, by decide +kernel⟩, List.mem_of_getElem? (i := 165) (by decide +kernel), List.mem_of_getElem? (i := 667) (by decide +kernel), List.mem_of_getElem? (i := 668) (by decide +kernel)⟩
theorem lw_p28 : lw_okq (⟨"AnyLength$Agreement", "keepLead", "(II)Z"⟩, 11) := ⟨⟨by decide +kernel, by decide +kernel⟩, List.mem_of_getElem? (i := 165) (by decide +kernel), List.mem_of_getElem? (i := 677) (by decide +kernel), List.mem_of_getElem? (i := 678) (by decide +kernel)⟩
theorem lw_p29 : lw_okq (⟨"AnyLength$Agreement", "putLeadLetter", "(III)V"⟩, 11) := ⟨⟨by decide +kernel, by decide +kernel⟩, List.mem_of_getElem? (i := 165) (by decide +kernel), List.mem_of_getElem? (i := 682) (by decide +kernel), List.mem_of_getElem? (i := 683) (by decide +kernel)⟩
theorem lw_p30 : lw_okq (⟨"AnyLength$Agreement", "isLead", "(II)Z"⟩, 11) := ⟨⟨by decide +kernel, by decide +kernel⟩, List.mem_of_getElem? (i := 165) (by decide +kernel), List.mem_of_getElem? (i := 686) (by decide +kernel), List.mem_of_getElem? (i := 687) (by decide +kernel)⟩
theorem lw_p31 : lw_okq (⟨"AnyLength", "followingOf", "(II)LAnyLength$Claim;"⟩, 16) := ⟨⟨by decide +kernel, by decide +kernel⟩, List.mem_of_getElem? (i := 14) (by decide +kernel), List.mem_of_getElem? (i := 694) (by decide +kernel), List.mem_of_getElem? (i := 695) (by decide +kernel)⟩
def lw_privs_2 : List (MethodName × Nat) := [(⟨"AnyLength$Agreement", "after", "(II)I"⟩, 11), (⟨"AnyLength$Agreement", "oneStopsAlone", "()Z"⟩, 11), (⟨"AnyLength$Agreement", "markLive", "()V"⟩, 11), (⟨"AnyLength$Agreement", "isLive", "(I)Z"⟩, 11), (⟨"AnyLength$Agreement", "bothWrite", "(I)Z"⟩, 11), (⟨"AnyLength$Agreement", "leadsToLive", "(I)Z"⟩, 11), (⟨"AnyLength$Agreement", "setLive", "(I)V"⟩, 11), (⟨"AnyLength$Agreement", "leadsAreEven", "()Z"⟩, 11), (⟨"AnyLength$Agreement", "endsEven", "(I)Z"⟩, 11), (⟨"AnyLength$Agreement", "fetch", "(I)V"⟩, 11), (⟨"AnyLength$Agreement", "leadLetter", "(II)I"⟩, 11), (⟨"AnyLength$Agreement", "stepsEven", "(II)Z"⟩, 11), (⟨"AnyLength$Agreement", "keepLead", "(II)Z"⟩, 11), (⟨"AnyLength$Agreement", "putLeadLetter", "(III)V"⟩, 11), (⟨"AnyLength$Agreement", "isLead", "(II)Z"⟩, 11), (⟨"AnyLength", "followingOf", "(II)LAnyLength$Claim;"⟩, 16)]
theorem lw_r2 : ∀ q ∈ lw_privs_2, lw_okq q := List.forall_mem_cons.mpr ⟨lw_p16, List.forall_mem_cons.mpr ⟨lw_p17, List.forall_mem_cons.mpr ⟨lw_p18, List.forall_mem_cons.mpr ⟨lw_p19, List.forall_mem_cons.mpr ⟨lw_p20, List.forall_mem_cons.mpr ⟨lw_p21, List.forall_mem_cons.mpr ⟨lw_p22, List.forall_mem_cons.mpr ⟨lw_p23, List.forall_mem_cons.mpr ⟨lw_p24, List.forall_mem_cons.mpr ⟨lw_p25, List.forall_mem_cons.mpr ⟨lw_p26, List.forall_mem_cons.mpr ⟨lw_p27, List.forall_mem_cons.mpr ⟨lw_p28, List.forall_mem_cons.mpr ⟨lw_p29, List.forall_mem_cons.mpr ⟨lw_p30, List.forall_mem_cons.mpr ⟨lw_p31, fun _ h => absurd h List.not_mem_nil⟩⟩⟩⟩⟩⟩⟩⟩⟩⟩⟩⟩⟩⟩⟩⟩
theorem lw_p32 : lw_okq (⟨"AnyLength$Tally", "put", "(IIJ)V"⟩, 2) := ⟨⟨by decide +kernel, by decide +kernel⟩, List.mem_of_getElem? (i := 207) (by decide +kernel), List.mem_of_getElem? (i := 714) (by decide +kernel), List.mem_of_getElem? (i := 715) (by decide +kernel)⟩
theorem lw_p33 : lw_okq (⟨"AnyLength$Tally", "sum", "(LAnyLength$Sentence;II)J"⟩, 2) := ⟨⟨by decide +kernel, by decide +kernel⟩, List.mem_of_getElem? (i := 207) (by decide +kernel), List.mem_of_getElem? (i := 719) (by decide +kernel), List.mem_of_getElem? (i := 720) (by decide +kernel)⟩
theorem lw_p34 : lw_okq (⟨"AnyLengthModel", "begin", "(I)V"⟩, 36) := ⟨⟨by decide +kernel, by decide +kernel⟩, List.mem_of_getElem? (i := 804) (by decide +kernel), List.mem_of_getElem? (i := 811) (by decide +kernel), List.mem_of_getElem? (i := 812) (by decide +kernel)⟩
theorem lw_p35 : lw_okq (⟨"AnyLengthModel", "bare", "(I)V"⟩, 36) := ⟨⟨by decide +kernel, by decide +kernel⟩, List.mem_of_getElem? (i := 804) (by decide +kernel), List.mem_of_getElem? (i := 815) (by decide +kernel), List.mem_of_getElem? (i := 816) (by decide +kernel)⟩
theorem lw_p36 : lw_okq (⟨"AnyLengthModel", "noLetter", "(I)Z"⟩, 36) := ⟨⟨by decide +kernel, by decide +kernel⟩, List.mem_of_getElem? (i := 804) (by decide +kernel), List.mem_of_getElem? (i := 950) (by decide +kernel), List.mem_of_getElem? (i := 951) (by decide +kernel)⟩
theorem lw_p37 : lw_okq (⟨"AnyLengthModel", "leads", "(IIII)I"⟩, 36) := ⟨⟨by decide +kernel, by decide +kernel⟩, List.mem_of_getElem? (i := 804) (by decide +kernel), List.mem_of_getElem? (i := 966) (by decide +kernel), List.mem_of_getElem? (i := 967) (by decide +kernel)⟩
theorem lw_p38 : lw_okq (⟨"AnyLengthModel", "isWord", "(I)Z"⟩, 36) := ⟨⟨by decide +kernel, by decide +kernel⟩, List.mem_of_getElem? (i := 804) (by decide +kernel), List.mem_of_getElem? (i := 990) (by decide +kernel), List.mem_of_getElem? (i := 991) (by decide +kernel)⟩
theorem lw_p39 : lw_okq (⟨"AnyLengthModel", "meet", "(IIII)I"⟩, 36) := ⟨⟨by decide +kernel, by decide +kernel⟩, List.mem_of_getElem? (i := 804) (by decide +kernel), List.mem_of_getElem? (i := 1011) (by decide +kernel), List.mem_of_getElem? (i := 1012) (by decide +kernel)⟩
theorem lw_p40 : lw_okq (⟨"AnyLengthModel", "isBad", "(IIIII)Z"⟩, 36) := ⟨⟨by decide +kernel, by decide +kernel⟩, List.mem_of_getElem? (i := 804) (by decide +kernel), List.mem_of_getElem? (i := 1015) (by decide +kernel), List.mem_of_getElem? (i := 1016) (by decide +kernel)⟩
theorem lw_p41 : lw_okq (⟨"AnyLengthModel", "read", "(III)V"⟩, 36) := ⟨⟨by decide +kernel, by decide +kernel⟩, List.mem_of_getElem? (i := 804) (by decide +kernel), List.mem_of_getElem? (i := 1019) (by decide +kernel), List.mem_of_getElem? (i := 1020) (by decide +kernel)⟩
theorem lw_p42 : lw_okq (⟨"AnyLengthModel", "say", "(II)V"⟩, 36) := ⟨⟨by decide +kernel, by decide +kernel⟩, List.mem_of_getElem? (i := 804) (by decide +kernel), List.mem_of_getElem? (i := 1029) (by decide +kernel), List.mem_of_getElem? (i := 1030) (by decide +kernel)⟩
theorem lw_p43 : lw_okq (⟨"AnyLengthModel", "leadsTo", "(IIIIII)I"⟩, 36) := ⟨⟨by decide +kernel, by decide +kernel⟩, List.mem_of_getElem? (i := 804) (by decide +kernel), List.mem_of_getElem? (i := 1033) (by decide +kernel), List.mem_of_getElem? (i := 1034) (by decide +kernel)⟩
theorem lw_p44 : lw_okq (⟨"AnyLengthModel", "told", "(II)I"⟩, 36) := ⟨⟨by decide +kernel, by decide +kernel⟩, List.mem_of_getElem? (i := 804) (by decide +kernel), List.mem_of_getElem? (i := 1041) (by decide +kernel), List.mem_of_getElem? (i := 1042) (by decide +kernel)⟩
theorem lw_p45 : lw_okq (⟨"AnyLengthModel", "unlike", "(III)I"⟩, 36) := ⟨⟨by decide +kernel, by decide +kernel⟩, List.mem_of_getElem? (i := 804) (by decide +kernel), List.mem_of_getElem? (i := 1070) (by decide +kernel), List.mem_of_getElem? (i := 1071) (by decide +kernel)⟩
theorem lw_p46 : lw_okq (⟨"AnyLengthModel", "agrees", "(III)Z"⟩, 36) := ⟨⟨by decide +kernel, by decide +kernel⟩, List.mem_of_getElem? (i := 804) (by decide +kernel), List.mem_of_getElem? (i := 1085) (by decide +kernel), List.mem_of_getElem? (i := 1086) (by decide +kernel)⟩
theorem lw_p47 : lw_okq (⟨"AnyLengthModel", "writeBoth", "(IIII)Z"⟩, 36) := ⟨⟨by decide +kernel, by decide +kernel⟩, List.mem_of_getElem? (i := 804) (by decide +kernel), List.mem_of_getElem? (i := 1089) (by decide +kernel), List.mem_of_getElem? (i := 1090) (by decide +kernel)⟩
def lw_privs_3 : List (MethodName × Nat) := [(⟨"AnyLength$Tally", "put", "(IIJ)V"⟩, 2), (⟨"AnyLength$Tally", "sum", "(LAnyLength$Sentence;II)J"⟩, 2), (⟨"AnyLengthModel", "begin", "(I)V"⟩, 36), (⟨"AnyLengthModel", "bare", "(I)V"⟩, 36), (⟨"AnyLengthModel", "noLetter", "(I)Z"⟩, 36), (⟨"AnyLengthModel", "leads", "(IIII)I"⟩, 36), (⟨"AnyLengthModel", "isWord", "(I)Z"⟩, 36), (⟨"AnyLengthModel", "meet", "(IIII)I"⟩, 36), (⟨"AnyLengthModel", "isBad", "(IIIII)Z"⟩, 36), (⟨"AnyLengthModel", "read", "(III)V"⟩, 36), (⟨"AnyLengthModel", "say", "(II)V"⟩, 36), (⟨"AnyLengthModel", "leadsTo", "(IIIIII)I"⟩, 36), (⟨"AnyLengthModel", "told", "(II)I"⟩, 36), (⟨"AnyLengthModel", "unlike", "(III)I"⟩, 36), (⟨"AnyLengthModel", "agrees", "(III)Z"⟩, 36), (⟨"AnyLengthModel", "writeBoth", "(IIII)Z"⟩, 36)]
theorem lw_r3 : ∀ q ∈ lw_privs_3, lw_okq q := List.forall_mem_cons.mpr ⟨lw_p32, List.forall_mem_cons.mpr ⟨lw_p33, List.forall_mem_cons.mpr ⟨lw_p34, List.forall_mem_cons.mpr ⟨lw_p35, List.forall_mem_cons.mpr ⟨lw_p36, List.forall_mem_cons.mpr ⟨lw_p37, List.forall_mem_cons.mpr ⟨lw_p38, List.forall_mem_cons.mpr ⟨lw_p39, List.forall_mem_cons.mpr ⟨lw_p40, List.forall_mem_cons.mpr ⟨lw_p41, List.forall_mem_cons.mpr ⟨lw_p42, List.forall_mem_cons.mpr ⟨lw_p43, List.forall_mem_cons.mpr ⟨lw_p44, List.forall_mem_cons.mpr ⟨lw_p45, List.forall_mem_cons.mpr ⟨lw_p46, List.forall_mem_cons.mpr ⟨lw_p47, fun _ h => absurd h List.not_mem_nil⟩⟩⟩⟩⟩⟩⟩⟩⟩⟩⟩⟩⟩⟩⟩⟩
theorem lw_p48 : lw_okq (⟨"AnyLengthModel", "pair", "(IIIII)I"⟩, 36) := ⟨⟨by decide +kernel, by decide +kernel⟩, List.mem_of_getElem? (i := 804) (by decide +kernel), List.mem_of_getElem? (i := 1093) (by decide +kernel), List.mem_of_getElem? (i := 1094) (by decide +kernel)⟩
theorem lw_p49 : lw_okq (⟨"AnyLengthModel", "put", "(III)V"⟩, 36) := ⟨⟨by decide +kernel, by decide +kernel⟩, List.mem_of_getElem? (i := 804) (by decide +kernel), List.mem_of_getElem? (i := 1097) (by decide +kernel), List.mem_of_getElem? (i := 1098) (by decide +kernel)⟩
theorem lw_p50 : lw_okq (⟨"AnyLengthModel", "begins", "()Z"⟩, 36) := ⟨⟨by decide +kernel, by decide +kernel⟩, List.mem_of_getElem? (i := 804) (by decide +kernel), List.mem_of_getElem? (i := 1101) (by decide +kernel), List.mem_of_getElem? (i := 1102) (by decide +kernel)⟩
theorem lw_p51 : lw_okq (⟨"AnyLengthModel", "keep", "(IZ)Z"⟩, 36) := ⟨⟨by decide +kernel, by decide +kernel⟩, List.mem_of_getElem? (i := 804) (by decide +kernel), List.mem_of_getElem? (i := 1105) (by decide +kernel), List.mem_of_getElem? (i := 1106) (by decide +kernel)⟩
theorem lw_p52 : lw_okq (⟨"AnyLengthModel", "part", "(II)I"⟩, 36) := ⟨⟨by decide +kernel, by decide +kernel⟩, List.mem_of_getElem? (i := 804) (by decide +kernel), List.mem_of_getElem? (i := 1113) (by decide +kernel), List.mem_of_getElem? (i := 1114) (by decide +kernel)⟩
theorem lw_p53 : lw_okq (⟨"AnyLengthModel", "reckon", "(II)V"⟩, 36) := ⟨⟨by decide +kernel, by decide +kernel⟩, List.mem_of_getElem? (i := 804) (by decide +kernel), List.mem_of_getElem? (i := 1126) (by decide +kernel), List.mem_of_getElem? (i := 1127) (by decide +kernel)⟩
theorem lw_p54 : lw_okq (⟨"AnyLengthModel", "isSo", "(I)Z"⟩, 36) := ⟨⟨by decide +kernel, by decide +kernel⟩, List.mem_of_getElem? (i := 804) (by decide +kernel), List.mem_of_getElem? (i := 1138) (by decide +kernel), List.mem_of_getElem? (i := 1139) (by decide +kernel)⟩
theorem lw_p55 : lw_okq (⟨"AnyLengthModel", "writes", "(I)Z"⟩, 36) := ⟨⟨by decide +kernel, by decide +kernel⟩, List.mem_of_getElem? (i := 804) (by decide +kernel), List.mem_of_getElem? (i := 1164) (by decide +kernel), List.mem_of_getElem? (i := 1165) (by decide +kernel)⟩
theorem lw_p56 : lw_okq (⟨"AnyLengthModel", "add", "(I)V"⟩, 36) := ⟨⟨by decide +kernel, by decide +kernel⟩, List.mem_of_getElem? (i := 804) (by decide +kernel), List.mem_of_getElem? (i := 1168) (by decide +kernel), List.mem_of_getElem? (i := 1169) (by decide +kernel)⟩
theorem lw_p57 : lw_okq (⟨"AnyLengthModel", "take", "()V"⟩, 36) := ⟨⟨by decide +kernel, by decide +kernel⟩, List.mem_of_getElem? (i := 804) (by decide +kernel), List.mem_of_getElem? (i := 1172) (by decide +kernel), List.mem_of_getElem? (i := 1173) (by decide +kernel)⟩
def lw_privs_4 : List (MethodName × Nat) := [(⟨"AnyLengthModel", "pair", "(IIIII)I"⟩, 36), (⟨"AnyLengthModel", "put", "(III)V"⟩, 36), (⟨"AnyLengthModel", "begins", "()Z"⟩, 36), (⟨"AnyLengthModel", "keep", "(IZ)Z"⟩, 36), (⟨"AnyLengthModel", "part", "(II)I"⟩, 36), (⟨"AnyLengthModel", "reckon", "(II)V"⟩, 36), (⟨"AnyLengthModel", "isSo", "(I)Z"⟩, 36), (⟨"AnyLengthModel", "writes", "(I)Z"⟩, 36), (⟨"AnyLengthModel", "add", "(I)V"⟩, 36), (⟨"AnyLengthModel", "take", "()V"⟩, 36)]
theorem lw_r4 : ∀ q ∈ lw_privs_4, lw_okq q := List.forall_mem_cons.mpr ⟨lw_p48, List.forall_mem_cons.mpr ⟨lw_p49, List.forall_mem_cons.mpr ⟨lw_p50, List.forall_mem_cons.mpr ⟨lw_p51, List.forall_mem_cons.mpr ⟨lw_p52, List.forall_mem_cons.mpr ⟨lw_p53, List.forall_mem_cons.mpr ⟨lw_p54, List.forall_mem_cons.mpr ⟨lw_p55, List.forall_mem_cons.mpr ⟨lw_p56, List.forall_mem_cons.mpr ⟨lw_p57, fun _ h => absurd h List.not_mem_nil⟩⟩⟩⟩⟩⟩⟩⟩⟩⟩
def lw_privs : List (MethodName × Nat) := lw_privs_1 ++ (lw_privs_2 ++ (lw_privs_3 ++ (lw_privs_4)))
def lw_tbl : List Cond := k2_sels lw_privs ++ tables_1
theorem lw_privs_ok : ∀ q ∈ lw_privs, lw_okq q := by
  show ∀ q ∈ lw_privs_1 ++ (lw_privs_2 ++ (lw_privs_3 ++ (lw_privs_4))), lw_okq q
  exact List.forall_mem_append.mpr ⟨lw_r1, List.forall_mem_append.mpr ⟨lw_r2, List.forall_mem_append.mpr ⟨lw_r3, lw_r4⟩⟩⟩
end
section
def RX0 : String := "AnyLength$Agreement"
def TX0 : u_T := fun k => match k with
  | 0 => ("AnyLength$Agreement", "mark", "[I", true)
  | 1 => ("AnyLength$Agreement", "order", "[I", true)
  | 2 => ("AnyLength$Agreement", "met", "I", false)
  | 3 => ("AnyLength$Agreement", "leadOf", "[I", true)
  | 4 => ("AnyLength$Agreement", "leadBits", "[I", true)
  | 5 => ("AnyLength$Agreement", "left", "LAnyLength$Row;", true)
  | 6 => ("AnyLength$Agreement", "right", "LAnyLength$Row;", true)
  | 7 => ("AnyLength$Agreement", "sentence", "LAnyLength$Sentence;", false)
  | 8 => ("AnyLength$Agreement", "one", "LAnyLength$Program;", false)
  | 9 => ("AnyLength$Agreement", "other", "LAnyLength$Program;", false)
  | _ => ("AnyLength$Agreement", "letterCount", "I", false)
def tyX0 : Nat → FieldType := fun k => match k with
  | 0 => .array .int
  | 1 => .array .int
  | 2 => .int
  | 3 => .array .int
  | 4 => .array .int
  | 5 => .object "AnyLength$Row"
  | 6 => .object "AnyLength$Row"
  | 7 => .object "AnyLength$Sentence"
  | 8 => .object "AnyLength$Program"
  | 9 => .object "AnyLength$Program"
  | _ => .int
abbrev wsX00 : List Cond := u_ws RX0 TX0 11
theorem nmX0 : ∀ a, a < 11 → ∀ b, b < 11 → a ≠ b → (TX0 a).2.1 ≠ (TX0 b).2.1 := by decide +kernel
theorem tyX0_ok : ∀ k, k < 11 → parseFieldDescriptor (TX0 k).2.2.1 = some (tyX0 k) := by decide +kernel
abbrev cX0_init : ByteArray := prog_2_method_1_code
def yX0_init : MethodName := ⟨RX0, "<init>", "(LAnyLength$Sentence;LAnyLength$Program;)V"⟩
abbrev cX0_isSo : ByteArray := prog_2_method_2_code
def yX0_isSo : MethodName := ⟨RX0, "isSo", "(LAnyLength$Sentence;LAnyLength$Program;LAnyLength$Program;I)Z"⟩
abbrev cX0_explore : ByteArray := prog_2_method_3_code
def yX0_explore : MethodName := ⟨RX0, "explore", "()V"⟩
abbrev cX0_meet : ByteArray := prog_2_method_4_code
def yX0_meet : MethodName := ⟨RX0, "meet", "(I)V"⟩
abbrev cX0_pointOf : ByteArray := prog_2_method_5_code
def yX0_pointOf : MethodName := ⟨RX0, "pointOf", "(I)I"⟩
abbrev cX0_oneSpot : ByteArray := prog_2_method_6_code
def yX0_oneSpot : MethodName := ⟨RX0, "oneSpot", "(I)I"⟩
abbrev cX0_otherSpot : ByteArray := prog_2_method_7_code
def yX0_otherSpot : MethodName := ⟨RX0, "otherSpot", "(I)I"⟩
abbrev cX0_after : ByteArray := prog_2_method_8_code
def yX0_after : MethodName := ⟨RX0, "after", "(II)I"⟩
abbrev cX0_oneStopsAlone : ByteArray := prog_2_method_9_code
def yX0_oneStopsAlone : MethodName := ⟨RX0, "oneStopsAlone", "()Z"⟩
abbrev cX0_bothWrite : ByteArray := prog_2_method_10_code
def yX0_bothWrite : MethodName := ⟨RX0, "bothWrite", "(I)Z"⟩
abbrev cX0_markLive : ByteArray := prog_2_method_11_code
def yX0_markLive : MethodName := ⟨RX0, "markLive", "()V"⟩
abbrev cX0_isLive : ByteArray := prog_2_method_12_code
def yX0_isLive : MethodName := ⟨RX0, "isLive", "(I)Z"⟩
abbrev cX0_setLive : ByteArray := prog_2_method_13_code
def yX0_setLive : MethodName := ⟨RX0, "setLive", "(I)V"⟩
abbrev cX0_leadsToLive : ByteArray := prog_2_method_14_code
def yX0_leadsToLive : MethodName := ⟨RX0, "leadsToLive", "(I)Z"⟩
abbrev cX0_leadsAreEven : ByteArray := prog_2_method_15_code
def yX0_leadsAreEven : MethodName := ⟨RX0, "leadsAreEven", "()Z"⟩
abbrev cX0_endsEven : ByteArray := prog_2_method_16_code
def yX0_endsEven : MethodName := ⟨RX0, "endsEven", "(I)Z"⟩
abbrev cX0_stepsEven : ByteArray := prog_2_method_17_code
def yX0_stepsEven : MethodName := ⟨RX0, "stepsEven", "(II)Z"⟩
abbrev cX0_fetch : ByteArray := prog_2_method_18_code
def yX0_fetch : MethodName := ⟨RX0, "fetch", "(I)V"⟩
abbrev cX0_keepLead : ByteArray := prog_2_method_19_code
def yX0_keepLead : MethodName := ⟨RX0, "keepLead", "(II)Z"⟩
abbrev cX0_isLead : ByteArray := prog_2_method_20_code
def yX0_isLead : MethodName := ⟨RX0, "isLead", "(II)Z"⟩
abbrev cX0_leadLetter : ByteArray := prog_2_method_21_code
def yX0_leadLetter : MethodName := ⟨RX0, "leadLetter", "(II)I"⟩
abbrev cX0_putLeadLetter : ByteArray := prog_2_method_22_code
def yX0_putLeadLetter : MethodName := ⟨RX0, "putLeadLetter", "(III)V"⟩
def RX1 : String := "AnyLength$Balance"
def TX1 : u_T := fun k => match k with
  | 0 => ("AnyLength$Balance", "keptOf", "[I", true)
  | 1 => ("AnyLength$Balance", "firstOver", "[I", true)
  | 2 => ("AnyLength$Balance", "stateOf", "[I", true)
  | 3 => ("AnyLength$Balance", "overOf", "[I", true)
  | 4 => ("AnyLength$Balance", "lengthOf", "[I", true)
  | _ => ("AnyLength$Balance", "nodes", "I", false)
def tyX1 : Nat → FieldType := fun k => match k with
  | 0 => .array .int
  | 1 => .array .int
  | 2 => .array .int
  | 3 => .array .int
  | 4 => .array .int
  | _ => .int
abbrev wsX10 : List Cond := u_ws RX1 TX1 6
theorem nmX1 : ∀ a, a < 6 → ∀ b, b < 6 → a ≠ b → (TX1 a).2.1 ≠ (TX1 b).2.1 := by decide +kernel
theorem tyX1_ok : ∀ k, k < 6 → parseFieldDescriptor (TX1 k).2.2.1 = some (tyX1 k) := by decide +kernel
abbrev cX1_init : ByteArray := prog_3_method_1_code
def yX1_init : MethodName := ⟨RX1, "<init>", "()V"⟩
abbrev cX1_shortestUneven : ByteArray := prog_3_method_2_code
def yX1_shortestUneven : MethodName := ⟨RX1, "shortestUneven", "(LAnyLength$Sentence;LAnyLength$Program;II)I"⟩
abbrev cX1_endsUneven : ByteArray := prog_3_method_3_code
def yX1_endsUneven : MethodName := ⟨RX1, "endsUneven", "(LAnyLength$Sentence;IIII)Z"⟩
abbrev cX1_keep : ByteArray := prog_3_method_4_code
def yX1_keep : MethodName := ⟨RX1, "keep", "(III)V"⟩
def RX2 : String := "AnyLength$Claim"
def TX2 : u_T := fun k => match k with
  | 0 => ("AnyLength$Claim", "way", "[I", true)
  | 1 => ("AnyLength$Claim", "order", "[I", true)
  | 2 => ("AnyLength$Claim", "metCount", "I", false)
  | 3 => ("AnyLength$Claim", "ahead", "LAnyLength$Sentence;", false)
  | 4 => ("AnyLength$Claim", "first", "LAnyLength$Program;", false)
  | 5 => ("AnyLength$Claim", "second", "LAnyLength$Program;", false)
  | 6 => ("AnyLength$Claim", "behind", "LAnyLength$Sentence;", false)
  | _ => ("AnyLength$Claim", "letterCount", "I", false)
def tyX2 : Nat → FieldType := fun k => match k with
  | 0 => .array .int
  | 1 => .array .int
  | 2 => .int
  | 3 => .object "AnyLength$Sentence"
  | 4 => .object "AnyLength$Program"
  | 5 => .object "AnyLength$Program"
  | 6 => .object "AnyLength$Sentence"
  | _ => .int
abbrev wsX20 : List Cond := u_ws RX2 TX2 8
theorem nmX2 : ∀ a, a < 8 → ∀ b, b < 8 → a ≠ b → (TX2 a).2.1 ≠ (TX2 b).2.1 := by decide +kernel
theorem tyX2_ok : ∀ k, k < 8 → parseFieldDescriptor (TX2 k).2.2.1 = some (tyX2 k) := by decide +kernel
abbrev cX2_init : ByteArray := prog_4_method_1_code
def yX2_init : MethodName := ⟨RX2, "<init>", "(LAnyLength$Sentence;LAnyLength$Program;)V"⟩
abbrev cX2_state : ByteArray := prog_4_method_2_code
def yX2_state : MethodName := ⟨RX2, "state", "(LAnyLength$Sentence;LAnyLength$Program;LAnyLength$Program;LAnyLength$Sentence;I)V"⟩
abbrev cX2_explore : ByteArray := prog_4_method_3_code
def yX2_explore : MethodName := ⟨RX2, "explore", "()V"⟩
abbrev cX2_meet : ByteArray := prog_4_method_4_code
def yX2_meet : MethodName := ⟨RX2, "meet", "(II)V"⟩
abbrev cX2_metPlaces : ByteArray := prog_4_method_5_code
def yX2_metPlaces : MethodName := ⟨RX2, "metPlaces", "()I"⟩
abbrev cX2_isMet : ByteArray := prog_4_method_6_code
def yX2_isMet : MethodName := ⟨RX2, "isMet", "(I)Z"⟩
abbrev cX2_metByNumber : ByteArray := prog_4_method_7_code
def yX2_metByNumber : MethodName := ⟨RX2, "metByNumber", "(I)I"⟩
abbrev cX2_firstBad : ByteArray := prog_4_method_8_code
def yX2_firstBad : MethodName := ⟨RX2, "firstBad", "()I"⟩
abbrev cX2_pictureAt : ByteArray := prog_4_method_9_code
def yX2_pictureAt : MethodName := ⟨RX2, "pictureAt", "(I)I"⟩
abbrev cX2_wayTo : ByteArray := prog_4_method_10_code
def yX2_wayTo : MethodName := ⟨RX2, "wayTo", "(I)I"⟩
abbrev cX2_wayLength : ByteArray := prog_4_method_11_code
def yX2_wayLength : MethodName := ⟨RX2, "wayLength", "(I)I"⟩
abbrev cX2_firstFault : ByteArray := prog_4_method_12_code
def yX2_firstFault : MethodName := ⟨RX2, "firstFault", "([I)I"⟩
abbrev cX2_leadsOut : ByteArray := prog_4_method_13_code
def yX2_leadsOut : MethodName := ⟨RX2, "leadsOut", "(I[I)Z"⟩
abbrev cX2_after : ByteArray := prog_4_method_14_code
def yX2_after : MethodName := ⟨RX2, "after", "(II)I"⟩
abbrev cX2_tailAfter : ByteArray := prog_4_method_15_code
def yX2_tailAfter : MethodName := ⟨RX2, "tailAfter", "(II)I"⟩
abbrev cX2_isBad : ByteArray := prog_4_method_16_code
def yX2_isBad : MethodName := ⟨RX2, "isBad", "(I)Z"⟩
def RX3 : String := "AnyLength$Pairs"
def TX3 : u_T := fun k => match k with
  | 0 => ("AnyLength$Pairs", "number", "[I", true)
  | 1 => ("AnyLength$Pairs", "order", "[I", true)
  | 2 => ("AnyLength$Pairs", "result", "LAnyLength$Sentence;", true)
  | _ => ("AnyLength$Pairs", "met", "I", false)
def tyX3 : Nat → FieldType := fun k => match k with
  | 0 => .array .int
  | 1 => .array .int
  | 2 => .object "AnyLength$Sentence"
  | _ => .int
abbrev wsX30 : List Cond := u_ws RX3 TX3 4
theorem nmX3 : ∀ a, a < 4 → ∀ b, b < 4 → a ≠ b → (TX3 a).2.1 ≠ (TX3 b).2.1 := by decide +kernel
theorem tyX3_ok : ∀ k, k < 4 → parseFieldDescriptor (TX3 k).2.2.1 = some (tyX3 k) := by decide +kernel
abbrev cX3_init : ByteArray := prog_5_method_1_code
def yX3_init : MethodName := ⟨RX3, "<init>", "()V"⟩
abbrev cX3_into : ByteArray := prog_5_method_2_code
def yX3_into : MethodName := ⟨RX3, "into", "(LAnyLength$Sentence;LAnyLength$Sentence;LAnyLength$Sentence;I)I"⟩
abbrev cX3_explore : ByteArray := prog_5_method_3_code
def yX3_explore : MethodName := ⟨RX3, "explore", "(LAnyLength$Sentence;LAnyLength$Sentence;I)V"⟩
abbrev cX3_meet : ByteArray := prog_5_method_4_code
def yX3_meet : MethodName := ⟨RX3, "meet", "(I)V"⟩
abbrev cX3_numberOf : ByteArray := prog_5_method_5_code
def yX3_numberOf : MethodName := ⟨RX3, "numberOf", "(I)I"⟩
abbrev cX3_after : ByteArray := prog_5_method_6_code
def yX3_after : MethodName := ⟨RX3, "after", "(IILAnyLength$Sentence;LAnyLength$Sentence;)I"⟩
def RX4 : String := "AnyLength$Program"
def TX4 : u_T := fun k => match k with
  | 0 => ("AnyLength$Program", "next", "[I", true)
  | 1 => ("AnyLength$Program", "word", "[I", true)
  | _ => ("AnyLength$Program", "ending", "[I", true)
def tyX4 : Nat → FieldType := fun k => match k with
  | 0 => .array .int
  | 1 => .array .int
  | _ => .array .int
abbrev wsX40 : List Cond := u_ws RX4 TX4 3
theorem nmX4 : ∀ a, a < 3 → ∀ b, b < 3 → a ≠ b → (TX4 a).2.1 ≠ (TX4 b).2.1 := by decide +kernel
theorem tyX4_ok : ∀ k, k < 3 → parseFieldDescriptor (TX4 k).2.2.1 = some (tyX4 k) := by decide +kernel
abbrev cX4_init : ByteArray := prog_6_method_1_code
def yX4_init : MethodName := ⟨RX4, "<init>", "()V"⟩
abbrev cX4_startAnew : ByteArray := prog_6_method_2_code
def yX4_startAnew : MethodName := ⟨RX4, "startAnew", "()V"⟩
abbrev cX4_nextOf : ByteArray := prog_6_method_3_code
def yX4_nextOf : MethodName := ⟨RX4, "nextOf", "(II)I"⟩
abbrev cX4_wordOf : ByteArray := prog_6_method_4_code
def yX4_wordOf : MethodName := ⟨RX4, "wordOf", "(II)I"⟩
abbrev cX4_endOf : ByteArray := prog_6_method_5_code
def yX4_endOf : MethodName := ⟨RX4, "endOf", "(I)I"⟩
abbrev cX4_lead : ByteArray := prog_6_method_6_code
def yX4_lead : MethodName := ⟨RX4, "lead", "(IIII)V"⟩
abbrev cX4_finish : ByteArray := prog_6_method_7_code
def yX4_finish : MethodName := ⟨RX4, "finish", "(II)V"⟩
abbrev cX4_rewrite : ByteArray := prog_6_method_8_code
def yX4_rewrite : MethodName := ⟨RX4, "rewrite", "(LAnyLength$Row;LAnyLength$Row;)Z"⟩
def RX5 : String := "AnyLength$Row"
def TX5 : u_T := fun k => match k with
  | 0 => ("AnyLength$Row", "letters", "[I", true)
  | _ => ("AnyLength$Row", "length", "I", false)
def tyX5 : Nat → FieldType := fun k => match k with
  | 0 => .array .int
  | _ => .int
abbrev wsX50 : List Cond := u_ws RX5 TX5 2
theorem nmX5 : ∀ a, a < 2 → ∀ b, b < 2 → a ≠ b → (TX5 a).2.1 ≠ (TX5 b).2.1 := by decide +kernel
theorem tyX5_ok : ∀ k, k < 2 → parseFieldDescriptor (TX5 k).2.2.1 = some (tyX5 k) := by decide +kernel
abbrev cX5_init : ByteArray := prog_7_method_1_code
def yX5_init : MethodName := ⟨RX5, "<init>", "(I)V"⟩
abbrev cX5_size : ByteArray := prog_7_method_2_code
def yX5_size : MethodName := ⟨RX5, "size", "()I"⟩
abbrev cX5_empty : ByteArray := prog_7_method_3_code
def yX5_empty : MethodName := ⟨RX5, "empty", "()V"⟩
abbrev cX5_letterAt : ByteArray := prog_7_method_4_code
def yX5_letterAt : MethodName := ⟨RX5, "letterAt", "(I)I"⟩
abbrev cX5_add : ByteArray := prog_7_method_5_code
def yX5_add : MethodName := ⟨RX5, "add", "(I)V"⟩
abbrev cX5_addWord : ByteArray := prog_7_method_6_code
def yX5_addWord : MethodName := ⟨RX5, "addWord", "(I)V"⟩
abbrev cX5_copy : ByteArray := prog_7_method_7_code
def yX5_copy : MethodName := ⟨RX5, "copy", "(LAnyLength$Row;)V"⟩
abbrev cX5_isLike : ByteArray := prog_7_method_8_code
def yX5_isLike : MethodName := ⟨RX5, "isLike", "(LAnyLength$Row;)Z"⟩
abbrev cX5_isLikeSoFar : ByteArray := prog_7_method_9_code
def yX5_isLikeSoFar : MethodName := ⟨RX5, "isLikeSoFar", "(LAnyLength$Row;)Z"⟩
abbrev cX5_walkedBy : ByteArray := prog_7_method_10_code
def yX5_walkedBy : MethodName := ⟨RX5, "walkedBy", "(LAnyLength$Sentence;)I"⟩
def RX6 : String := "AnyLength$Sentence"
def TX6 : u_T := fun k => match k with
  | 0 => ("AnyLength$Sentence", "next", "[I", true)
  | _ => ("AnyLength$Sentence", "holding", "[I", true)
def tyX6 : Nat → FieldType := fun k => match k with
  | 0 => .array .int
  | _ => .array .int
abbrev wsX60 : List Cond := u_ws RX6 TX6 2
theorem nmX6 : ∀ a, a < 2 → ∀ b, b < 2 → a ≠ b → (TX6 a).2.1 ≠ (TX6 b).2.1 := by decide +kernel
theorem tyX6_ok : ∀ k, k < 2 → parseFieldDescriptor (TX6 k).2.2.1 = some (tyX6 k) := by decide +kernel
abbrev cX6_init : ByteArray := prog_8_method_1_code
def yX6_init : MethodName := ⟨RX6, "<init>", "()V"⟩
abbrev cX6_startAnew : ByteArray := prog_8_method_2_code
def yX6_startAnew : MethodName := ⟨RX6, "startAnew", "()V"⟩
abbrev cX6_nextOf : ByteArray := prog_8_method_3_code
def yX6_nextOf : MethodName := ⟨RX6, "nextOf", "(II)I"⟩
abbrev cX6_holdsAt : ByteArray := prog_8_method_4_code
def yX6_holdsAt : MethodName := ⟨RX6, "holdsAt", "(I)Z"⟩
abbrev cX6_lead : ByteArray := prog_8_method_5_code
def yX6_lead : MethodName := ⟨RX6, "lead", "(III)V"⟩
abbrev cX6_hold : ByteArray := prog_8_method_6_code
def yX6_hold : MethodName := ⟨RX6, "hold", "(IZ)V"⟩
abbrev cX6_copy : ByteArray := prog_8_method_7_code
def yX6_copy : MethodName := ⟨RX6, "copy", "(LAnyLength$Sentence;)V"⟩
abbrev cX6_turnRound : ByteArray := prog_8_method_8_code
def yX6_turnRound : MethodName := ⟨RX6, "turnRound", "()I"⟩
abbrev cX6_afterWord : ByteArray := prog_8_method_9_code
def yX6_afterWord : MethodName := ⟨RX6, "afterWord", "(II)I"⟩
abbrev cX6_draw : ByteArray := prog_8_method_10_code
def yX6_draw : MethodName := ⟨RX6, "draw", "(III)V"⟩
abbrev cX6_kindHolds : ByteArray := prog_8_method_11_code
def yX6_kindHolds : MethodName := ⟨RX6, "kindHolds", "(III)Z"⟩
abbrev cX6_kindNext : ByteArray := prog_8_method_12_code
def yX6_kindNext : MethodName := ⟨RX6, "kindNext", "(IIIII)I"⟩
def RX7 : String := "AnyLength$Tally"
def TX7 : u_T := fun k => match k with
  | 0 => ("AnyLength$Tally", "table", "[J", true)
  | _ => ("AnyLength$Tally", "letterCount", "I", false)
def tyX7 : Nat → FieldType := fun k => match k with
  | 0 => .array .long
  | _ => .int
abbrev wsX70 : List Cond := u_ws RX7 TX7 2
theorem nmX7 : ∀ a, a < 2 → ∀ b, b < 2 → a ≠ b → (TX7 a).2.1 ≠ (TX7 b).2.1 := by decide +kernel
theorem tyX7_ok : ∀ k, k < 2 → parseFieldDescriptor (TX7 k).2.2.1 = some (tyX7 k) := by decide +kernel
abbrev cX7_init : ByteArray := prog_9_method_1_code
def yX7_init : MethodName := ⟨RX7, "<init>", "()V"⟩
abbrev cX7_fill : ByteArray := prog_9_method_2_code
def yX7_fill : MethodName := ⟨RX7, "fill", "(LAnyLength$Sentence;II)V"⟩
abbrev cX7_sum : ByteArray := prog_9_method_3_code
def yX7_sum : MethodName := ⟨RX7, "sum", "(LAnyLength$Sentence;II)J"⟩
abbrev cX7_put : ByteArray := prog_9_method_4_code
def yX7_put : MethodName := ⟨RX7, "put", "(IIJ)V"⟩
abbrev cX7_ways : ByteArray := prog_9_method_5_code
def yX7_ways : MethodName := ⟨RX7, "ways", "(II)J"⟩
abbrev cX7_layOut : ByteArray := prog_9_method_6_code
def yX7_layOut : MethodName := ⟨RX7, "layOut", "(LAnyLength$Sentence;IJLAnyLength$Row;)V"⟩
abbrev cX7_placeOf : ByteArray := prog_9_method_7_code
def yX7_placeOf : MethodName := ⟨RX7, "placeOf", "(LAnyLength$Sentence;LAnyLength$Row;)J"⟩
def RX8 : String := "AnyLength"
def TX8 : u_T := fun k => match k with
  | 0 => ("AnyLength", "letterCount", "I", false)
  | 1 => ("AnyLength", "sheetCount", "I", false)
  | 2 => ("AnyLength", "onSheet", "[I", true)
  | 3 => ("AnyLength", "sentences", "[LAnyLength$Sentence;", true)
  | 4 => ("AnyLength", "programs", "[LAnyLength$Program;", true)
  | 5 => ("AnyLength", "allRows", "LAnyLength$Sentence;", true)
  | 6 => ("AnyLength", "unchanged", "LAnyLength$Program;", true)
  | 7 => ("AnyLength", "drawn", "LAnyLength$Sentence;", true)
  | 8 => ("AnyLength", "row", "LAnyLength$Row;", true)
  | 9 => ("AnyLength", "reading", "LAnyLength$Row;", true)
  | 10 => ("AnyLength", "written", "LAnyLength$Row;", true)
  | 11 => ("AnyLength", "pairs", "LAnyLength$Pairs;", true)
  | 12 => ("AnyLength", "claims", "LAnyLength$Claim;", true)
  | 13 => ("AnyLength", "balance", "LAnyLength$Balance;", true)
  | 14 => ("AnyLength", "agreement", "LAnyLength$Agreement;", true)
  | _ => ("AnyLength", "tally", "LAnyLength$Tally;", true)
def tyX8 : Nat → FieldType := fun k => match k with
  | 0 => .int
  | 1 => .int
  | 2 => .array .int
  | 3 => .array (.object "AnyLength$Sentence")
  | 4 => .array (.object "AnyLength$Program")
  | 5 => .object "AnyLength$Sentence"
  | 6 => .object "AnyLength$Program"
  | 7 => .object "AnyLength$Sentence"
  | 8 => .object "AnyLength$Row"
  | 9 => .object "AnyLength$Row"
  | 10 => .object "AnyLength$Row"
  | 11 => .object "AnyLength$Pairs"
  | 12 => .object "AnyLength$Claim"
  | 13 => .object "AnyLength$Balance"
  | 14 => .object "AnyLength$Agreement"
  | _ => .object "AnyLength$Tally"
abbrev wsX80 : List Cond := u_ws RX8 TX8 16
theorem nmX8 : ∀ a, a < 16 → ∀ b, b < 16 → a ≠ b → (TX8 a).2.1 ≠ (TX8 b).2.1 := by decide +kernel
theorem tyX8_ok : ∀ k, k < 16 → parseFieldDescriptor (TX8 k).2.2.1 = some (tyX8 k) := by decide +kernel
abbrev cX8_init : ByteArray := prog_1_method_1_code
def yX8_init : MethodName := ⟨RX8, "<init>", "()V"⟩
abbrev cX8_letters : ByteArray := prog_1_method_2_code
def yX8_letters : MethodName := ⟨RX8, "letters", "(I)I"⟩
abbrev cX8_point : ByteArray := prog_1_method_3_code
def yX8_point : MethodName := ⟨RX8, "point", "(IIII)I"⟩
abbrev cX8_holds : ByteArray := prog_1_method_4_code
def yX8_holds : MethodName := ⟨RX8, "holds", "(IIZ)I"⟩
abbrev cX8_make : ByteArray := prog_1_method_5_code
def yX8_make : MethodName := ⟨RX8, "make", "(III)I"⟩
abbrev cX8_not : ByteArray := prog_1_method_6_code
def yX8_not : MethodName := ⟨RX8, "not", "(II)I"⟩
abbrev cX8_both : ByteArray := prog_1_method_7_code
def yX8_both : MethodName := ⟨RX8, "both", "(III)I"⟩
abbrev cX8_about : ByteArray := prog_1_method_8_code
def yX8_about : MethodName := ⟨RX8, "about", "(III)I"⟩
abbrev cX8_spot : ByteArray := prog_1_method_9_code
def yX8_spot : MethodName := ⟨RX8, "spot", "(IIIII)I"⟩
abbrev cX8_end : ByteArray := prog_1_method_10_code
def yX8_end : MethodName := ⟨RX8, "end", "(III)I"⟩
abbrev cX8_of : ByteArray := prog_1_method_11_code
def yX8_of : MethodName := ⟨RX8, "of", "(IIII)I"⟩
abbrev cX8_claim : ByteArray := prog_1_method_12_code
def yX8_claim : MethodName := ⟨RX8, "claim", "(IIII)I"⟩
abbrev cX8_picture : ByteArray := prog_1_method_13_code
def yX8_picture : MethodName := ⟨RX8, "picture", "(IIIII)I"⟩
abbrev cX8_met : ByteArray := prog_1_method_14_code
def yX8_met : MethodName := ⟨RX8, "met", "(IIII)I"⟩
abbrev cX8_place : ByteArray := prog_1_method_15_code
def yX8_place : MethodName := ⟨RX8, "place", "(IIIII)I"⟩
abbrev cX8_sheet : ByteArray := prog_1_method_16_code
def yX8_sheet : MethodName := ⟨RX8, "sheet", "(IZ)I"⟩
abbrev cX8_write : ByteArray := prog_1_method_17_code
def yX8_write : MethodName := ⟨RX8, "write", "(IIII)I"⟩
abbrev cX8_check : ByteArray := prog_1_method_18_code
def yX8_check : MethodName := ⟨RX8, "check", "(IIII)I"⟩
abbrev cX8_stays : ByteArray := prog_1_method_19_code
def yX8_stays : MethodName := ⟨RX8, "stays", "(III)I"⟩
abbrev cX8_witness : ByteArray := prog_1_method_20_code
def yX8_witness : MethodName := ⟨RX8, "witness", "(III)I"⟩
abbrev cX8_agree : ByteArray := prog_1_method_21_code
def yX8_agree : MethodName := ⟨RX8, "agree", "(III)I"⟩
abbrev cX8_follows : ByteArray := prog_1_method_22_code
def yX8_follows : MethodName := ⟨RX8, "follows", "(II)I"⟩
abbrev cX8_unless : ByteArray := prog_1_method_23_code
def yX8_unless : MethodName := ⟨RX8, "unless", "(III)I"⟩
abbrev cX8_rows : ByteArray := prog_1_method_24_code
def yX8_rows : MethodName := ⟨RX8, "rows", "(II)J"⟩
abbrev cX8_lay : ByteArray := prog_1_method_25_code
def yX8_lay : MethodName := ⟨RX8, "lay", "(IIJ)I"⟩
abbrev cX8_rank : ByteArray := prog_1_method_26_code
def yX8_rank : MethodName := ⟨RX8, "rank", "(I)J"⟩
abbrev cX8_letter : ByteArray := prog_1_method_27_code
def yX8_letter : MethodName := ⟨RX8, "letter", "(I)I"⟩
abbrev cX8_clear : ByteArray := prog_1_method_28_code
def yX8_clear : MethodName := ⟨RX8, "clear", "()I"⟩
abbrev cX8_at : ByteArray := prog_1_method_29_code
def yX8_at : MethodName := ⟨RX8, "at", "(I)I"⟩
abbrev cX8_is : ByteArray := prog_1_method_30_code
def yX8_is : MethodName := ⟨RX8, "is", "(I)I"⟩
abbrev cX8_run : ByteArray := prog_1_method_31_code
def yX8_run : MethodName := ⟨RX8, "run", "(I)I"⟩
abbrev cX8_rounds : ByteArray := prog_1_method_32_code
def yX8_rounds : MethodName := ⟨RX8, "rounds", "(I)I"⟩
abbrev cX8_count : ByteArray := prog_1_method_33_code
def yX8_count : MethodName := ⟨RX8, "count", "(I)I"⟩
abbrev cX8_within : ByteArray := prog_1_method_34_code
def yX8_within : MethodName := ⟨RX8, "within", "(II)Z"⟩
abbrev cX8_oneIf : ByteArray := prog_1_method_35_code
def yX8_oneIf : MethodName := ⟨RX8, "oneIf", "(Z)I"⟩
abbrev cX8_sentenceOf : ByteArray := prog_1_method_36_code
def yX8_sentenceOf : MethodName := ⟨RX8, "sentenceOf", "(I)LAnyLength$Sentence;"⟩
abbrev cX8_programOf : ByteArray := prog_1_method_37_code
def yX8_programOf : MethodName := ⟨RX8, "programOf", "(I)LAnyLength$Program;"⟩
abbrev cX8_claimOf : ByteArray := prog_1_method_38_code
def yX8_claimOf : MethodName := ⟨RX8, "claimOf", "(IIII)LAnyLength$Claim;"⟩
abbrev cX8_followingOf : ByteArray := prog_1_method_39_code
def yX8_followingOf : MethodName := ⟨RX8, "followingOf", "(II)LAnyLength$Claim;"⟩
abbrev cX8_isWord : ByteArray := prog_1_method_40_code
def yX8_isWord : MethodName := ⟨RX8, "isWord", "(II)Z"⟩
abbrev cX8_wordLength : ByteArray := prog_1_method_41_code
def yX8_wordLength : MethodName := ⟨RX8, "wordLength", "(I)I"⟩
abbrev cX8_wordLetter : ByteArray := prog_1_method_42_code
def yX8_wordLetter : MethodName := ⟨RX8, "wordLetter", "(II)I"⟩
abbrev cX8_timesIn : ByteArray := prog_1_method_43_code
def yX8_timesIn : MethodName := ⟨RX8, "timesIn", "(II)I"⟩
def RX9 : String := "AnyLengthModel"
def TX9 : u_T := fun k => match k with
  | 0 => ("AnyLengthModel", "thrown", "I", false)
  | 1 => ("AnyLengthModel", "letters", "I", false)
  | 2 => ("AnyLengthModel", "next", "[I", true)
  | 3 => ("AnyLengthModel", "holding", "[Z", true)
  | 4 => ("AnyLengthModel", "made", "[I", true)
  | 5 => ("AnyLengthModel", "names", "[I", true)
  | 6 => ("AnyLengthModel", "madeHolds", "[Z", true)
  | 7 => ("AnyLengthModel", "moves", "[I", true)
  | 8 => ("AnyLengthModel", "words", "[I", true)
  | 9 => ("AnyLengthModel", "ends", "[I", true)
  | 10 => ("AnyLengthModel", "queue", "[I", true)
  | 11 => ("AnyLengthModel", "from", "[I", true)
  | 12 => ("AnyLengthModel", "by", "[I", true)
  | 13 => ("AnyLengthModel", "isMet", "[Z", true)
  | 14 => ("AnyLengthModel", "sheet", "[Z", true)
  | 15 => ("AnyLengthModel", "many", "I", false)
  | 16 => ("AnyLengthModel", "spotB", "I", false)
  | 17 => ("AnyLengthModel", "pointB", "I", false)
  | 18 => ("AnyLengthModel", "wrote", "Z", false)
  | 19 => ("AnyLengthModel", "here", "[Z", true)
  | 20 => ("AnyLengthModel", "then", "[Z", true)
  | 21 => ("AnyLengthModel", "ahead", "[I", true)
  | 22 => ("AnyLengthModel", "aheadSize", "[I", true)
  | 23 => ("AnyLengthModel", "isFirst", "[Z", true)
  | 24 => ("AnyLengthModel", "isUseful", "[Z", true)
  | 25 => ("AnyLengthModel", "outA", "[I", true)
  | 26 => ("AnyLengthModel", "outB", "[I", true)
  | 27 => ("AnyLengthModel", "sizeA", "I", false)
  | 28 => ("AnyLengthModel", "sizeB", "I", false)
  | 29 => ("AnyLengthModel", "ways", "[J", true)
  | 30 => ("AnyLengthModel", "row", "[I", true)
  | 31 => ("AnyLengthModel", "size", "I", false)
  | 32 => ("AnyLengthModel", "out", "[I", true)
  | 33 => ("AnyLengthModel", "outSize", "I", false)
  | 34 => ("AnyLengthModel", "kept", "[I", true)
  | _ => ("AnyLengthModel", "picture", "[I", true)
def tyX9 : Nat → FieldType := fun k => match k with
  | 0 => .int
  | 1 => .int
  | 2 => .array .int
  | 3 => .array .boolean
  | 4 => .array .int
  | 5 => .array .int
  | 6 => .array .boolean
  | 7 => .array .int
  | 8 => .array .int
  | 9 => .array .int
  | 10 => .array .int
  | 11 => .array .int
  | 12 => .array .int
  | 13 => .array .boolean
  | 14 => .array .boolean
  | 15 => .int
  | 16 => .int
  | 17 => .int
  | 18 => .boolean
  | 19 => .array .boolean
  | 20 => .array .boolean
  | 21 => .array .int
  | 22 => .array .int
  | 23 => .array .boolean
  | 24 => .array .boolean
  | 25 => .array .int
  | 26 => .array .int
  | 27 => .int
  | 28 => .int
  | 29 => .array .long
  | 30 => .array .int
  | 31 => .int
  | 32 => .array .int
  | 33 => .int
  | 34 => .array .int
  | _ => .array .int
abbrev wsX90 : List Cond := u_ws RX9 TX9 36
theorem nmX9 : ∀ a, a < 36 → ∀ b, b < 36 → a ≠ b → (TX9 a).2.1 ≠ (TX9 b).2.1 := by decide +kernel
theorem tyX9_ok : ∀ k, k < 36 → parseFieldDescriptor (TX9 k).2.2.1 = some (tyX9 k) := by decide +kernel
abbrev cX9_init : ByteArray := prog_11_method_1_code
def yX9_init : MethodName := ⟨RX9, "<init>", "()V"⟩
abbrev cX9_in : ByteArray := prog_11_method_3_code
def yX9_in : MethodName := ⟨RX9, "in", "(JJJ)Z"⟩
abbrev cX9_begin : ByteArray := prog_11_method_4_code
def yX9_begin : MethodName := ⟨RX9, "begin", "(I)V"⟩
abbrev cX9_bare : ByteArray := prog_11_method_5_code
def yX9_bare : MethodName := ⟨RX9, "bare", "(I)V"⟩
abbrev cX9_noSentence : ByteArray := prog_11_method_6_code
def yX9_noSentence : MethodName := ⟨RX9, "noSentence", "(I)Z"⟩
abbrev cX9_noPoint : ByteArray := prog_11_method_7_code
def yX9_noPoint : MethodName := ⟨RX9, "noPoint", "(I)Z"⟩
abbrev cX9_noLetter : ByteArray := prog_11_method_8_code
def yX9_noLetter : MethodName := ⟨RX9, "noLetter", "(I)Z"⟩
abbrev cX9_noProgram : ByteArray := prog_11_method_9_code
def yX9_noProgram : MethodName := ⟨RX9, "noProgram", "(I)Z"⟩
abbrev cX9_letters : ByteArray := prog_11_method_10_code
def yX9_letters : MethodName := ⟨RX9, "letters", "(I)I"⟩
abbrev cX9_point : ByteArray := prog_11_method_11_code
def yX9_point : MethodName := ⟨RX9, "point", "(IIII)I"⟩
abbrev cX9_holds : ByteArray := prog_11_method_12_code
def yX9_holds : MethodName := ⟨RX9, "holds", "(IIZ)I"⟩
abbrev cX9_leads : ByteArray := prog_11_method_13_code
def yX9_leads : MethodName := ⟨RX9, "leads", "(IIII)I"⟩
abbrev cX9_isSoAt : ByteArray := prog_11_method_14_code
def yX9_isSoAt : MethodName := ⟨RX9, "isSoAt", "(II)Z"⟩
abbrev cX9_make : ByteArray := prog_11_method_15_code
def yX9_make : MethodName := ⟨RX9, "make", "(III)I"⟩
abbrev cX9_not : ByteArray := prog_11_method_16_code
def yX9_not : MethodName := ⟨RX9, "not", "(II)I"⟩
abbrev cX9_both : ByteArray := prog_11_method_17_code
def yX9_both : MethodName := ⟨RX9, "both", "(III)I"⟩
abbrev cX9_about : ByteArray := prog_11_method_18_code
def yX9_about : MethodName := ⟨RX9, "about", "(III)I"⟩
abbrev cX9_isWord : ByteArray := prog_11_method_19_code
def yX9_isWord : MethodName := ⟨RX9, "isWord", "(I)Z"⟩
abbrev cX9_spot : ByteArray := prog_11_method_20_code
def yX9_spot : MethodName := ⟨RX9, "spot", "(IIIII)I"⟩
abbrev cX9_end : ByteArray := prog_11_method_21_code
def yX9_end : MethodName := ⟨RX9, "end", "(III)I"⟩
abbrev cX9_of : ByteArray := prog_11_method_22_code
def yX9_of : MethodName := ⟨RX9, "of", "(IIII)I"⟩
abbrev cX9_longOf : ByteArray := prog_11_method_23_code
def yX9_longOf : MethodName := ⟨RX9, "longOf", "(I)I"⟩
abbrev cX9_letterOf : ByteArray := prog_11_method_24_code
def yX9_letterOf : MethodName := ⟨RX9, "letterOf", "(II)I"⟩
abbrev cX9_noClaim : ByteArray := prog_11_method_25_code
def yX9_noClaim : MethodName := ⟨RX9, "noClaim", "(IIII)Z"⟩
abbrev cX9_read : ByteArray := prog_11_method_26_code
def yX9_read : MethodName := ⟨RX9, "read", "(III)V"⟩
abbrev cX9_say : ByteArray := prog_11_method_27_code
def yX9_say : MethodName := ⟨RX9, "say", "(II)V"⟩
abbrev cX9_leadsTo : ByteArray := prog_11_method_28_code
def yX9_leadsTo : MethodName := ⟨RX9, "leadsTo", "(IIIIII)I"⟩
abbrev cX9_isBad : ByteArray := prog_11_method_29_code
def yX9_isBad : MethodName := ⟨RX9, "isBad", "(IIIII)Z"⟩
abbrev cX9_meet : ByteArray := prog_11_method_30_code
def yX9_meet : MethodName := ⟨RX9, "meet", "(IIII)I"⟩
abbrev cX9_claim : ByteArray := prog_11_method_31_code
def yX9_claim : MethodName := ⟨RX9, "claim", "(IIII)I"⟩
abbrev cX9_told : ByteArray := prog_11_method_32_code
def yX9_told : MethodName := ⟨RX9, "told", "(II)I"⟩
abbrev cX9_picture : ByteArray := prog_11_method_33_code
def yX9_picture : MethodName := ⟨RX9, "picture", "(IIIII)I"⟩
abbrev cX9_met : ByteArray := prog_11_method_34_code
def yX9_met : MethodName := ⟨RX9, "met", "(IIII)I"⟩
abbrev cX9_place : ByteArray := prog_11_method_35_code
def yX9_place : MethodName := ⟨RX9, "place", "(IIIII)I"⟩
abbrev cX9_sheet : ByteArray := prog_11_method_36_code
def yX9_sheet : MethodName := ⟨RX9, "sheet", "(IZ)I"⟩
abbrev cX9_write : ByteArray := prog_11_method_37_code
def yX9_write : MethodName := ⟨RX9, "write", "(IIII)I"⟩
abbrev cX9_check : ByteArray := prog_11_method_38_code
def yX9_check : MethodName := ⟨RX9, "check", "(IIII)I"⟩
abbrev cX9_often : ByteArray := prog_11_method_39_code
def yX9_often : MethodName := ⟨RX9, "often", "(II)I"⟩
abbrev cX9_unlike : ByteArray := prog_11_method_40_code
def yX9_unlike : MethodName := ⟨RX9, "unlike", "(III)I"⟩
abbrev cX9_stays : ByteArray := prog_11_method_41_code
def yX9_stays : MethodName := ⟨RX9, "stays", "(III)I"⟩
abbrev cX9_witness : ByteArray := prog_11_method_42_code
def yX9_witness : MethodName := ⟨RX9, "witness", "(III)I"⟩
abbrev cX9_pair : ByteArray := prog_11_method_43_code
def yX9_pair : MethodName := ⟨RX9, "pair", "(IIIII)I"⟩
abbrev cX9_writeBoth : ByteArray := prog_11_method_44_code
def yX9_writeBoth : MethodName := ⟨RX9, "writeBoth", "(IIII)Z"⟩
abbrev cX9_put : ByteArray := prog_11_method_45_code
def yX9_put : MethodName := ⟨RX9, "put", "(III)V"⟩
abbrev cX9_begins : ByteArray := prog_11_method_46_code
def yX9_begins : MethodName := ⟨RX9, "begins", "()Z"⟩
abbrev cX9_keep : ByteArray := prog_11_method_47_code
def yX9_keep : MethodName := ⟨RX9, "keep", "(IZ)Z"⟩
abbrev cX9_agrees : ByteArray := prog_11_method_48_code
def yX9_agrees : MethodName := ⟨RX9, "agrees", "(III)Z"⟩
abbrev cX9_agree : ByteArray := prog_11_method_49_code
def yX9_agree : MethodName := ⟨RX9, "agree", "(III)I"⟩
abbrev cX9_part : ByteArray := prog_11_method_50_code
def yX9_part : MethodName := ⟨RX9, "part", "(II)I"⟩
abbrev cX9_follows : ByteArray := prog_11_method_51_code
def yX9_follows : MethodName := ⟨RX9, "follows", "(II)I"⟩
abbrev cX9_unless : ByteArray := prog_11_method_52_code
def yX9_unless : MethodName := ⟨RX9, "unless", "(III)I"⟩
abbrev cX9_reckon : ByteArray := prog_11_method_53_code
def yX9_reckon : MethodName := ⟨RX9, "reckon", "(II)V"⟩
abbrev cX9_rows : ByteArray := prog_11_method_54_code
def yX9_rows : MethodName := ⟨RX9, "rows", "(II)J"⟩
abbrev cX9_lay : ByteArray := prog_11_method_55_code
def yX9_lay : MethodName := ⟨RX9, "lay", "(IIJ)I"⟩
abbrev cX9_isSo : ByteArray := prog_11_method_56_code
def yX9_isSo : MethodName := ⟨RX9, "isSo", "(I)Z"⟩
abbrev cX9_rank : ByteArray := prog_11_method_57_code
def yX9_rank : MethodName := ⟨RX9, "rank", "(I)J"⟩
abbrev cX9_letter : ByteArray := prog_11_method_58_code
def yX9_letter : MethodName := ⟨RX9, "letter", "(I)I"⟩
abbrev cX9_clear : ByteArray := prog_11_method_59_code
def yX9_clear : MethodName := ⟨RX9, "clear", "()I"⟩
abbrev cX9_at : ByteArray := prog_11_method_60_code
def yX9_at : MethodName := ⟨RX9, "at", "(I)I"⟩
abbrev cX9_is : ByteArray := prog_11_method_61_code
def yX9_is : MethodName := ⟨RX9, "is", "(I)I"⟩
abbrev cX9_add : ByteArray := prog_11_method_62_code
def yX9_add : MethodName := ⟨RX9, "add", "(I)V"⟩
abbrev cX9_writes : ByteArray := prog_11_method_63_code
def yX9_writes : MethodName := ⟨RX9, "writes", "(I)Z"⟩
abbrev cX9_take : ByteArray := prog_11_method_64_code
def yX9_take : MethodName := ⟨RX9, "take", "()V"⟩
abbrev cX9_run : ByteArray := prog_11_method_65_code
def yX9_run : MethodName := ⟨RX9, "run", "(I)I"⟩
abbrev cX9_rounds : ByteArray := prog_11_method_66_code
def yX9_rounds : MethodName := ⟨RX9, "rounds", "(I)I"⟩
abbrev cX9_count : ByteArray := prog_11_method_67_code
def yX9_count : MethodName := ⟨RX9, "count", "(I)I"⟩
def RJ9 : String := "java/lang/Math"
def TJ9 : u_T := fun k => match k with
  | _ => ("", "", "", false)
def tyJ9 : Nat → FieldType := fun k => match k with
  | _ => .int
abbrev wsJ90 : List Cond := u_ws RJ9 TJ9 0
theorem nmJ9 : ∀ a, a < 0 → ∀ b, b < 0 → a ≠ b → (TJ9 a).2.1 ≠ (TJ9 b).2.1 := by decide +kernel
theorem tyJ9_ok : ∀ k, k < 0 → parseFieldDescriptor (TJ9 k).2.2.1 = some (tyJ9 k) := by decide +kernel
abbrev cJ9_abs_0f7a4 : ByteArray := prog_12_method_59_code
def yJ9_abs_0f7a4 : MethodName := ⟨RJ9, "abs", "(I)I"⟩
abbrev cJ9_max_7cf53 : ByteArray := prog_12_method_65_code
def yJ9_max_7cf53 : MethodName := ⟨RJ9, "max", "(II)I"⟩
abbrev cJ9_min_7cf53 : ByteArray := prog_12_method_69_code
def yJ9_min_7cf53 : MethodName := ⟨RJ9, "min", "(II)I"⟩
def RJ7 : String := "java/util/Arrays"
def TJ7 : u_T := fun k => match k with
  | _ => ("", "", "", false)
def tyJ7 : Nat → FieldType := fun k => match k with
  | _ => .int
abbrev wsJ70 : List Cond := u_ws RJ7 TJ7 0
theorem nmJ7 : ∀ a, a < 0 → ∀ b, b < 0 → a ≠ b → (TJ7 a).2.1 ≠ (TJ7 b).2.1 := by decide +kernel
theorem tyJ7_ok : ∀ k, k < 0 → parseFieldDescriptor (TJ7 k).2.2.1 = some (tyJ7 k) := by decide +kernel
abbrev cJ7_fill_53178 : ByteArray := prog_13_method_103_code
def yJ7_fill_53178 : MethodName := ⟨RJ7, "fill", "([II)V"⟩
def RL : String := "AnyLengthLaw"
abbrev cL_law : ByteArray := code
def yL_law : MethodName := ⟨RL, "law", "([I)Z"⟩
abbrev vwCl : List vw_C := [(RX0, TX0, 11), (RX1, TX1, 6), (RX2, TX2, 8), (RX3, TX3, 4), (RX4, TX4, 3), (RX5, TX5, 2), (RX6, TX6, 2), (RX7, TX7, 2), (RX8, TX8, 16), (RX9, TX9, 36)]
theorem inX0 : ∀ w ∈ wsX00, w ∈ lw_tbl := by decide +kernel
theorem inX1 : ∀ w ∈ wsX10, w ∈ lw_tbl := by decide +kernel
theorem inX2 : ∀ w ∈ wsX20, w ∈ lw_tbl := by decide +kernel
theorem inX3 : ∀ w ∈ wsX30, w ∈ lw_tbl := by decide +kernel
theorem inX4 : ∀ w ∈ wsX40, w ∈ lw_tbl := by decide +kernel
theorem inX5 : ∀ w ∈ wsX50, w ∈ lw_tbl := by decide +kernel
theorem inX6 : ∀ w ∈ wsX60, w ∈ lw_tbl := by decide +kernel
theorem inX7 : ∀ w ∈ wsX70, w ∈ lw_tbl := by decide +kernel
theorem inX8 : ∀ w ∈ wsX80, w ∈ lw_tbl := by decide +kernel
theorem inX9 : ∀ w ∈ wsX90, w ∈ lw_tbl := by decide +kernel
end
section
/-! ===== the small machine: values, shapes, memory ===== -/
abbrev am_V : Type := Int ⊕ Int ⊕ Int
abbrev vi (x : Int) : am_V := Sum.inl x
abbrev vl (x : Int) : am_V := Sum.inr (Sum.inl x)
abbrev vr (a : Int) : am_V := Sum.inr (Sum.inr a)
/-- a cell's shape: tag (0 to 9 an object by its number in vwCl; 11 int, 12 boolean, 13 long, 14 and 15 rows of references), how many, what its fixed references are -/
abbrev am_C : Type := Nat × Nat × List Int
/-- shapes, cells and slots made so far -/
abbrev am_K : Type := List am_C × Nat × Nat
abbrev am_M : Type := Int → Int → Int
abbrev am_L : Type := List (Option am_V)
abbrev am_Q : Type := Option am_V → am_K → am_M → Prop
/-- a method: own, name, code, locals, answer; frames, cells, slots, locals' words; whether it reads the script -/
abbrev am_I : Type := (String × MethodName × ByteArray × Nat × Option FieldType) × (Nat × Nat × Nat × Nat) × Bool
abbrev am_own (mi : am_I) : String := mi.1.1
abbrev am_y (mi : am_I) : MethodName := mi.1.2.1
abbrev am_cc (mi : am_I) : ByteArray := mi.1.2.2.1
abbrev am_ml (mi : am_I) : Nat := mi.1.2.2.2.1
abbrev am_rt (mi : am_I) : Option FieldType := mi.1.2.2.2.2
abbrev am_fr (mi : am_I) : Nat := mi.2.1.1
abbrev am_mc (mi : am_I) : Nat := mi.2.1.2.1
abbrev am_ms (mi : am_I) : Nat := mi.2.1.2.2.1
abbrev am_lo (mi : am_I) : Nat := mi.2.1.2.2.2
abbrev am_sc (mi : am_I) : Bool := mi.2.2
abbrev am_rm (mi : am_I) : Room := { frames := am_fr mi, cells := am_mc mi, slots := am_ms mi, locals := am_lo mi }
def am_i32 (x : Int) : Prop := -2147483648 ≤ x ∧ x ≤ 2147483647
def am_i64 (x : Int) : Prop := -9223372036854775808 ≤ x ∧ x ≤ 9223372036854775807
def am_kd (K : am_K) (a : Int) : Option am_C := if a < 0 then none else K.1[a.toNat]?
abbrev am_G : Type := (Nat → Nat) × (Nat → ClassId) × Nat
def am_rf (G : am_G) (a : Int) : Option Nat := if a < 0 then none else some (G.1 a.toNat)
def am_cv (G : am_G) : am_V → Value
  | .inl x => .int (Int32.ofInt x)
  | .inr (.inl x) => .long (Int64.ofInt x)
  | .inr (.inr a) => if a = -2 then .ref G.2.2 else va_rf (am_rf G a)
/-- a field's kind: 0 int, 1 boolean, 2 a reference that moves, 3 a reference that is fixed -/
def am_fk (ci k : Nat) : Nat := match ci with
  | 0 => if k = 2 ∨ k = 10 then 0 else if 7 ≤ k then 2 else 3
  | 1 => if k = 5 then 0 else 3
  | 2 => if k = 2 ∨ k = 7 then 0 else if 3 ≤ k then 2 else 3
  | 3 => if k = 3 then 0 else 3
  | 4 => 3
  | 5 => if k = 1 then 0 else 3
  | 6 => 3
  | 7 => if k = 1 then 0 else 3
  | 8 => if k = 0 ∨ k = 1 then 0 else 3
  | 9 => if k = 0 ∨ k = 1 ∨ k = 15 ∨ k = 16 ∨ k = 17 ∨ k = 27 ∨ k = 28 ∨ k = 31 ∨ k = 33 then 0 else if k = 18 then 1 else 3
  | _ => 0
def am_fv (G : am_G) (M : am_M) (i : Nat) (e : am_C) (k : Nat) : Value :=
  if am_fk e.1 k = 2 then va_rf (am_rf G (M i k)) else if am_fk e.1 k = 3 then va_rf (am_rf G (e.2.2.getD k (-1))) else .int (Int32.ofInt (M i k))
def am_en (G : am_G) (M : am_M) (i : Nat) (e : am_C) : va_E :=
  if e.1 < 10 then .inr (e.1, (List.range e.2.1).map (am_fv G M i e))
  else if e.1 = 13 then .inl (G.2.1 i, e.2.1, .inr (.inl (fun j => Int64.ofInt (M i j))))
  else if e.1 < 13 then .inl (G.2.1 i, e.2.1, .inl (fun j => Int32.ofInt (M i j)))
  else .inl (G.2.1 i, e.2.1, .inr (.inr (.inr (.inr (fun j => am_rf G (e.2.2.getD j (-1)))))))
def am_wo (G : am_G) (K : am_K) (M : am_M) : va_W := (List.range K.1.length).map (fun i => (G.1 i, am_en G M i (K.1.getD i (0, 0, []))))
def am_ty (tag : Nat) : Option FieldType := match tag with
  | 11 => some .int
  | 12 => some .boolean
  | 13 => some .long
  | 14 => some (.object "AnyLength$Sentence")
  | 15 => some (.object "AnyLength$Program")
  | _ => none
def am_tys (G : am_G) (K : am_K) : List (ClassId × FieldType) := (List.range K.1.length).filterMap (fun i => (am_ty (K.1.getD i (0, 0, [])).1).map (fun t => (G.2.1 i, t)))
def am_mok (K : am_K) (M : am_M) : Prop := ∀ (i : Nat) (e : am_C), K.1[i]? = some e →
  (∀ r ∈ e.2.2, -1 ≤ r ∧ r < (K.1.length : Int)) ∧ (∀ j : Int, am_i64 (M i j) ∧ (e.1 ≠ 13 → am_i32 (M i j))) ∧ (∀ k : Nat, e.1 < 10 → am_fk e.1 k = 2 → -1 ≤ M i k ∧ M i k < (K.1.length : Int))
def am_ok (K : am_K) : am_V → Prop
  | .inl x => am_i32 x
  | .inr (.inl x) => am_i64 x
  | .inr (.inr a) => -2 ≤ a ∧ a < (K.1.length : Int)
def am_lr (G : am_G) (K : am_K) (nL : Nat) (ls : am_L) (rl : Array Slot) : Prop :=
  ls.length = nL ∧ rl.size = nL ∧ lv_wf rl ∧ ∀ (i : Nat) (v : am_V), ls[i]? = some (some v) → rl[i]? = some (.val (am_cv G v)) ∧ am_ok K v
/-- one place of the memory anew -/
def am_up (M : am_M) (a i v : Int) : am_M := fun b j => if b = a then (if j = i then v else M b j) else M b j
/-- one cell of the memory anew -/
def am_nw (M : am_M) (a : Int) (f : Int → Int) : am_M := fun b j => if b = a then f j else M b j
/-- the tables' words that every method may use -/
def am_tb : List Cond := lw_tbl.filter goodWord
def am_nests : List Cond := lw_tbl.filter (fun w => match w with | .methodLinkNest _ _ _ _ => true | _ => false)
def am_aos : List String := ["AnyLength$Sentence", "AnyLength$Program"]
def am_S (mi : am_I) (p : Program) (s : State) (m : MethodId) (args : Array Value) (meth : Method) (c : Code) (A : Nat → Prop) : Prop :=
  p.tables.exec = Jvm.exec ∧ c.code = am_cc mi ∧ c.maxLocals = am_ml mi ∧ meth.sig.returnType = am_rt mi ∧ meth.locks = false ∧ meth.name = (am_y mi).name ∧ s.vm.findClass (am_own mi) = some m.cls ∧ (∀ w ∈ am_tb, w.before args s = true) ∧ (∀ w ∈ am_nests, va_Nw w s) ∧ (∀ C ∈ am_aos, va_AO C s) ∧ ∀ q, s.heap.size ≤ q → A q
def am_scr (s : State) (A : Nat → Prop) (b : Nat) (M : am_M) : Prop := ∃ (L : Nat) (xs : Nat → Int32), va_X b L xs s s.heap ∧ b < s.heap.size ∧ ¬ A b ∧ L < 2147483648 ∧ M (-2) (-1) = L ∧ ∀ j : Nat, j < L → M (-2) j = (xs j).toInt
/-- how the machine's heap and the small memory belong together; G0, K0, M0: at the method's start -/
def am_Y (mi : am_I) (s : State) (A : Nat → Prop) (D : va_G) (G0 : am_G) (K0 : am_K) (M0 : am_M) (G : am_G) (K : am_K) (M : am_M) (H : Heap) (locs : List Loc) : Prop :=
  (va_K D vwCl (am_tys G K) s ∧ va_P D vwCl (am_wo G K M) H ∧ va_D A (am_wo G K M) ∧ va_S A s.heap H locs ∧ am_mok K M) ∧
  (K0.1.length ≤ K.1.length ∧ (∀ i, i < K0.1.length → G.1 i = G0.1 i ∧ G.2.1 i = G0.2.1 i) ∧ G.2.2 = G0.2.2 ∧ (am_mc mi = 0 → K.1 = K0.1) ∧ (∀ a j : Int, a < 0 → M a j = M0 a j)) ∧
  K.2.1 ≤ am_mc mi ∧ K.2.2 ≤ am_ms mi ∧ (am_sc mi = true → am_scr s A G0.2.2 M0)
def am_rd (mi : am_I) (pc : Nat) (r : Option am_V) : Prop := match r with
  | none => am_rt mi = none ∧ decode (am_cc mi) pc = .ok (.return_, 1)
  | some (.inl x) => decode (am_cc mi) pc = .ok (.ireturn, 1) ∧ (am_rt mi = some .int ∨ (am_rt mi = some .boolean ∧ (x = 0 ∨ x = 1)))
  | some (.inr (.inl _)) => decode (am_cc mi) pc = .ok (.lreturn, 1) ∧ am_rt mi = some .long
  | some (.inr (.inr a)) => decode (am_cc mi) pc = .ok (.areturn, 1) ∧ (∃ n, am_rt mi = some (.object n)) ∧ -1 ≤ a
/-- from here the method comes to an end with Q: over the machine itself -/
def am_At (mi : am_I) (pc : Nat) (ls : am_L) (stk : List am_V) (K : am_K) (M : am_M) (Q : am_Q) : Prop :=
  ∀ (p : Program) (l : Launch) (e : Env) (s : State) (m : MethodId) (args : Array Value) (below : List Frame) (meth : Method) (c : Code) (Z : State → Prop) (A : Nat → Prop) (D : va_G) (G0 : am_G) (K0 : am_K) (M0 : am_M) (G : am_G) (H : Heap) (locs : List Loc) (rl : Array Slot),
    am_S mi p s m args meth c A → am_Y mi s A D G0 K0 M0 G K M H locs → am_lr G K (am_ml mi) ls rl → (∀ v ∈ stk, am_ok K v) →
    (∀ (r : Option am_V) (K' : am_K) (M' : am_M) (G' : am_G) (H' : Heap) (locs' : List Loc) (pc' : Nat) (rl' : Array Slot), Q r K' M' → am_Y mi s A D G0 K0 M0 G' K' M' H' locs' → (∀ v ∈ r.toList, am_ok K' v) → am_rd mi pc' r →
      W p l e (am_rm mi) s m args below meth c H' locs' K'.2.1 K'.2.2 Z (F0 m pc' rl' (r.toList.map (am_cv G')))) →
    W p l e (am_rm mi) s m args below meth c H locs K.2.1 K.2.2 Z (F0 m pc rl (stk.map (am_cv G)))
def am_ws (mi : am_I) : List Cond := .code (am_y mi) (am_cc mi) (am_ml mi) (am_rt mi) :: am_tb
def am_Pc (D : va_G) (G : am_G) (K : am_K) (M : am_M) (sz : Nat) : State → Prop := fun U => U.heap.size = sz ∧ va_P D vwCl (am_wo G K M) U.heap ∧ va_K D vwCl (am_tys G K) U ∧ va_D (fun _ => True) (am_wo G K M) ∧ (∀ w ∈ am_nests, va_Nw w U) ∧ ∀ C ∈ am_aos, va_AO C U
def am_Qc (mi : am_I) (D : va_G) (G : am_G) (K : am_K) (M : am_M) (sz : Nat) (Q : am_Q) : Array Value → State → Outcome → State → Prop := fun _ st oc t =>
  (∃ (r : Option am_V) (K' : am_K) (M' : am_M) (G' : am_G), Q r K' M' ∧ oc = .returned (r.map (am_cv G')) ∧ (∀ v ∈ r.toList, am_ok K' v) ∧ am_mok K' M' ∧
    (K.1.length ≤ K'.1.length ∧ (∀ i, i < K.1.length → G'.1 i = G.1 i ∧ G'.2.1 i = G.2.1 i) ∧ G'.2.2 = G.2.2 ∧ (am_mc mi = 0 → K'.1 = K.1) ∧ (∀ a j : Int, a < 0 → M' a j = M a j)) ∧
    va_P D vwCl (am_wo G' K' M') t.heap ∧ va_K D vwCl (am_tys G' K') t ∧ va_D (va_A (am_wo G K M) sz) (am_wo G' K' M')) ∧ va_F (va_A (am_wo G K M) sz) st t
/-- the method, called so, returns with Q: its contract over the machine itself -/
def am_Call (mi : am_I) (as : List am_V) (K : am_K) (M : am_M) (Q : am_Q) : Prop :=
  ∀ (l : Launch) (D : va_G) (G : am_G) (sz : Nat), (∀ v ∈ as, am_ok K v) → am_mok K M →
    Met l (am_y mi) (am_ws mi) (am_rm mi) (va_Pc (as.map (am_cv G)) (am_Pc D G K M sz)) (am_Qc mi D G K M sz Q) (am_mc mi) (am_ms mi) (va_A (am_wo G K M) sz)
/-- the same of a method that makes nothing -/
def am_AtN (mi : am_I) (pc : Nat) (ls : am_L) (stk : List am_V) (K : am_K) (M : am_M) (Q : Option am_V → am_M → Prop) : Prop := am_At mi pc ls stk K M (fun r _ M' => Q r M')
def am_CallN (mi : am_I) (as : List am_V) (K : am_K) (M : am_M) (Q : Option am_V → am_M → Prop) : Prop := am_Call mi as (K.1, 0, 0) M (fun r _ M' => Q r M')
end
section
/-! ===== numbers ===== -/
theorem am_toInt {x : Int} (h : am_i32 x) : (Int32.ofInt x).toInt = x := Int32.toInt_ofInt_of_le (by have := h.1; omega) (by have := h.2; omega)
theorem am_toInt64 {x : Int} (h : am_i64 x) : (Int64.ofInt x).toInt = x := Int64.toInt_ofInt_of_le (by have := h.1; omega) (by have := h.2; omega)
theorem am_lt {x y : Int} (hx : am_i32 x) (hy : am_i32 y) : (Int32.ofInt x < Int32.ofInt y) ↔ x < y := by rw [Int32.lt_iff_toInt_lt, am_toInt hx, am_toInt hy]
theorem am_le {x y : Int} (hx : am_i32 x) (hy : am_i32 y) : (Int32.ofInt x ≤ Int32.ofInt y) ↔ x ≤ y := by rw [Int32.le_iff_toInt_le, am_toInt hx, am_toInt hy]
theorem am_eq {x y : Int} (hx : am_i32 x) (hy : am_i32 y) : (Int32.ofInt x = Int32.ofInt y) ↔ x = y := by
  constructor
  · intro h
    rw [← am_toInt hx, ← am_toInt hy, h]
  · rintro rfl
    rfl
theorem am_lt64 {x y : Int} (hx : am_i64 x) (hy : am_i64 y) : (Int64.ofInt x < Int64.ofInt y) ↔ x < y := by rw [Int64.lt_iff_toInt_lt, am_toInt64 hx, am_toInt64 hy]
theorem am_eq64 {x y : Int} (hx : am_i64 x) (hy : am_i64 y) : (Int64.ofInt x = Int64.ofInt y) ↔ x = y := by
  constructor
  · intro h
    rw [← am_toInt64 hx, ← am_toInt64 hy, h]
  · rintro rfl
    rfl
theorem am_clamp {x : Int} (h : am_i32 x) : (Int32.ofInt x).toNatClampNeg = x.toNat := Int32.toNatClampNeg_ofInt_of_le (by have := h.1; omega) (by have := h.2; omega)
theorem am_in {x : Int} {n : Nat} (h : am_i32 x) (h0 : 0 ≤ x) (h1 : x < n) : vp_in (Int32.ofInt x) n := by
  unfold vp_in
  rw [am_clamp h, Int32.lt_iff_toInt_lt, am_toInt h]
  show ¬ (x < (0 : Int32).toInt ∨ _)
  rw [show (0 : Int32).toInt = 0 from rfl]
  omega
theorem am_i32_0 : am_i32 0 := by unfold am_i32; omega
/-! ===== the world's list ===== -/
theorem am_wo_at {G : am_G} {K : am_K} {M : am_M} {i : Nat} {e : am_C} (h : K.1[i]? = some e) : (am_wo G K M)[i]? = some (G.1 i, am_en G M i e) := by
  have hi : i < K.1.length := (List.getElem?_eq_some_iff.mp h).1
  simp [am_wo, List.getElem?_map, List.getElem?_range hi, List.getD, h]
theorem am_wo_len {G : am_G} {K : am_K} {M : am_M} : (am_wo G K M).length = K.1.length := by simp [am_wo]
theorem am_kd_at {K : am_K} {a : Int} {e : am_C} (h : am_kd K a = some e) : 0 ≤ a ∧ K.1[a.toNat]? = some e ∧ a.toNat < K.1.length ∧ ((a.toNat : Nat) : Int) = a := by
  unfold am_kd at h
  split at h
  · cases h
  · rename_i h0
    exact ⟨by omega, h, (List.getElem?_eq_some_iff.mp h).1, by omega⟩
theorem am_getD {l : List am_C} {i : Nat} {e : am_C} (h : l[i]? = some e) : l.getD i (0, 0, []) = e := by simp [List.getD, h]
theorem am_wo_set {G : am_G} {K K' : am_K} {M M' : am_M} {i : Nat} {e' : am_C} (hl : K'.1.length = K.1.length) (hk : ∀ j : Nat, j ≠ i → K'.1[j]? = K.1[j]?) (hi : K'.1[i]? = some e') (hm : ∀ j : Nat, j ≠ i → M' j = M j) :
    am_wo G K' M' = (am_wo G K M).set i (G.1 i, am_en G M' i e') := by
  apply List.ext_getElem?
  intro n
  by_cases hn : n < K.1.length
  · by_cases hni : n = i
    · subst hni
      rw [List.getElem?_set_self (by rw [am_wo_len]; exact hn), am_wo_at hi]
    · rw [List.getElem?_set_ne (fun h => hni h.symm)]
      obtain ⟨e, he⟩ : ∃ e, K.1[n]? = some e := ⟨_, List.getElem?_eq_getElem hn⟩
      rw [am_wo_at he, am_wo_at ((hk n hni).trans he)]
      congr 2
      unfold am_en
      have hv : am_fv G M' n e = am_fv G M n e := by
        funext k
        unfold am_fv
        rw [hm n hni]
      rw [hv, hm n hni]
  · rw [List.getElem?_eq_none (by rw [am_wo_len]; omega), List.getElem?_eq_none (by rw [List.length_set, am_wo_len]; omega)]
theorem am_rf_ext {G G' : am_G} {n : Nat} (hG : ∀ i, i < n → G'.1 i = G.1 i ∧ G'.2.1 i = G.2.1 i) {a : Int} (ha : a < (n : Int)) : am_rf G' a = am_rf G a := by
  unfold am_rf
  split
  · rfl
  · rw [(hG a.toNat (by omega)).1]
theorem am_cv_ext {G G' : am_G} {K : am_K} (hG : ∀ i, i < K.1.length → G'.1 i = G.1 i ∧ G'.2.1 i = G.2.1 i) (hb : G'.2.2 = G.2.2) {v : am_V} (hv : am_ok K v) : am_cv G' v = am_cv G v := by
  match v, hv with
  | .inl x, _ => rfl
  | .inr (.inl x), _ => rfl
  | .inr (.inr a), hv =>
    show (if a = -2 then Value.ref G'.2.2 else va_rf (am_rf G' a)) = (if a = -2 then Value.ref G.2.2 else va_rf (am_rf G a))
    rw [hb, am_rf_ext hG hv.2]
theorem am_getD_mem {l : List Int} {k : Nat} : l.getD k (-1) = -1 ∨ l.getD k (-1) ∈ l := by
  by_cases h : k < l.length
  · right
    simp [List.getD, List.getElem?_eq_getElem h]
  · left
    simp [List.getD, List.getElem?_eq_none (Nat.le_of_not_lt h)]
theorem am_en_ext {G G' : am_G} {K : am_K} {M M' : am_M} (hG : ∀ i, i < K.1.length → G'.1 i = G.1 i ∧ G'.2.1 i = G.2.1 i) (hM : am_mok K M) {i : Nat} {e : am_C} (he : K.1[i]? = some e) (hm : M' i = M i) : am_en G' M' i e = am_en G M i e := by
  obtain ⟨h1, h2, h3⟩ := hM i e he
  have hi : i < K.1.length := (List.getElem?_eq_some_iff.mp he).1
  have href : ∀ k : Nat, am_rf G' (e.2.2.getD k (-1)) = am_rf G (e.2.2.getD k (-1)) := by
    intro k
    rcases am_getD_mem (l := e.2.2) (k := k) with h | h
    · rw [h]
      rfl
    · exact am_rf_ext hG (h1 _ h).2
  unfold am_en
  split
  · rename_i h10
    congr 2
    refine List.map_congr_left (fun k _ => ?_)
    unfold am_fv
    rw [hm]
    split
    · rename_i hf
      rw [am_rf_ext hG (h3 k h10 hf).2]
    · rw [href]
  · rw [(hG i hi).2, hm]
    simp only [href]
theorem am_wo_push {G G' : am_G} {K K' : am_K} {M M' : am_M} {e : am_C} (hK : K'.1 = K.1 ++ [e]) (hG : ∀ i, i < K.1.length → G'.1 i = G.1 i ∧ G'.2.1 i = G.2.1 i) (hM : am_mok K M) (hm : ∀ j : Nat, j < K.1.length → M' j = M j) :
    am_wo G' K' M' = am_wo G K M ++ [(G'.1 K.1.length, am_en G' M' K.1.length e)] := by
  apply List.ext_getElem?
  intro n
  by_cases hn : n < K.1.length
  · obtain ⟨e0, he⟩ : ∃ e, K.1[n]? = some e := ⟨_, List.getElem?_eq_getElem hn⟩
    have he' : K'.1[n]? = some e0 := by rw [hK, List.getElem?_append_left hn]; exact he
    rw [List.getElem?_append_left (by rw [am_wo_len]; exact hn), am_wo_at he, am_wo_at he', am_en_ext hG hM he (hm n hn), (hG n hn).1]
  · by_cases hn2 : n = K.1.length
    · subst hn2
      have he' : K'.1[K.1.length]? = some e := by rw [hK, List.getElem?_append_right (Nat.le_refl _)]; simp
      rw [List.getElem?_append_right (by rw [am_wo_len]; exact Nat.le_refl _), am_wo_at he', am_wo_len]
      simp
    · rw [List.getElem?_eq_none (by rw [am_wo_len, hK]; simp; omega), List.getElem?_eq_none (by simp [am_wo_len]; omega)]
theorem am_tys_at {G : am_G} {K : am_K} {i : Nat} {e : am_C} {t : FieldType} (h : K.1[i]? = some e) (ht : am_ty e.1 = some t) : ∃ t0 : Nat, (am_tys G K)[t0]? = some (G.2.1 i, t) := by
  have hi : i < K.1.length := (List.getElem?_eq_some_iff.mp h).1
  have hm : (G.2.1 i, t) ∈ am_tys G K := List.mem_filterMap.mpr ⟨i, List.mem_range.mpr hi, by rw [am_getD h, ht]; rfl⟩
  exact List.getElem?_of_mem hm
theorem am_tys_set {G : am_G} {K K' : am_K} (hl : K'.1.length = K.1.length) (hk : ∀ j : Nat, (K'.1.getD j (0, 0, [])).1 = (K.1.getD j (0, 0, [])).1) : am_tys G K' = am_tys G K := by
  unfold am_tys
  rw [hl]
  simp only [hk]
theorem am_fm_congr {f g : Nat → Option (ClassId × FieldType)} : ∀ (l : List Nat), (∀ a ∈ l, f a = g a) → l.filterMap f = l.filterMap g
  | [], _ => rfl
  | a :: l, h => by
    rw [List.filterMap_cons, List.filterMap_cons, h a List.mem_cons_self, am_fm_congr l (fun b hb => h b (List.mem_cons_of_mem _ hb))]
theorem am_tys_push {G G' : am_G} {K K' : am_K} {e : am_C} (hK : K'.1 = K.1 ++ [e]) (hG : ∀ i, i < K.1.length → G'.1 i = G.1 i ∧ G'.2.1 i = G.2.1 i) :
    am_tys G' K' = am_tys G K ++ ((am_ty e.1).map (fun t => (G'.2.1 K.1.length, t))).toList := by
  unfold am_tys
  have hl : K'.1.length = K.1.length + 1 := by rw [hK]; simp
  rw [hl, List.range_succ, List.filterMap_append]
  congr 1
  · refine am_fm_congr _ (fun i hi => ?_)
    have hi' := List.mem_range.mp hi
    have e1 : K'.1.getD i (0, 0, []) = K.1.getD i (0, 0, []) := by
      rw [hK]
      simp only [List.getD, List.getElem?_append_left hi']
    rw [e1, (hG i hi').2]
  · have e1 : K'.1.getD K.1.length (0, 0, []) = e := by
      rw [hK]
      simp [List.getD]
    rw [List.filterMap_cons, e1]
    cases am_ty e.1 <;> simp
/-! ===== locals ===== -/
/-- the known locals as the kit's list -/
def am_kl (G : am_G) (ls : am_L) : List (Nat × Value) := (List.range ls.length).filterMap (fun i => ((ls[i]?).join).map (fun v => (i, am_cv G v)))
theorem am_kl_mem {G : am_G} {ls : am_L} {i : Nat} {v : Value} : (i, v) ∈ am_kl G ls ↔ ∃ w : am_V, ls[i]? = some (some w) ∧ am_cv G w = v := by
  unfold am_kl
  rw [List.mem_filterMap]
  constructor
  · rintro ⟨j, hj, h⟩
    cases hx : ls[j]? with
    | none => rw [hx] at h; simp at h
    | some o =>
      cases o with
      | none => rw [hx] at h; simp at h
      | some w =>
        rw [hx] at h
        simp at h
        obtain ⟨rfl, rfl⟩ := h
        exact ⟨w, hx, rfl⟩
  · rintro ⟨w, h, rfl⟩
    have hi : i < ls.length := (List.getElem?_eq_some_iff.mp h).1
    exact ⟨i, List.mem_range.mpr hi, by rw [h]; rfl⟩
theorem am_lr_has {G : am_G} {K : am_K} {nL : Nat} {ls : am_L} {rl : Array Slot} (h : am_lr G K nL ls rl) : lv_has rl nL (am_kl G ls) := by
  obtain ⟨h0, h1, h2, h3⟩ := h
  refine ⟨h1, h2, fun q hq => ?_⟩
  obtain ⟨i, v⟩ := q
  obtain ⟨w, hw, rfl⟩ := am_kl_mem.mp hq
  exact (h3 i w hw).1
theorem am_cat {G : am_G} {v : am_V} : (am_cv G v).category = (match v with | .inr (.inl _) => 2 | _ => 1) := by
  match v with
  | .inl x => rfl
  | .inr (.inl x) => rfl
  | .inr (.inr a) =>
    show (if a = -2 then Value.ref G.2.2 else va_rf (am_rf G a)).category = 1
    split
    · rfl
    · cases am_rf G a <;> rfl
/-- a value of one word into a local: a long that begins one place ahead is gone -/
def am_st (ls : am_L) (i : Nat) (v : am_V) : am_L := match i with
  | 0 => ls.set 0 (some v)
  | j + 1 => match ls[j]? with
    | some (some (.inr (.inl _))) => (ls.set j none).set (j + 1) (some v)
    | _ => ls.set (j + 1) (some v)
/-- a long into a local -/
def am_st2 (ls : am_L) (i : Nat) (v : am_V) : am_L := (am_st ls i v).set (i + 1) none
theorem am_st_len {ls : am_L} {i : Nat} {v : am_V} : (am_st ls i v).length = ls.length := by
  unfold am_st
  split
  · simp
  · split <;> simp
theorem am_st_at {ls : am_L} {i : Nat} {v : am_V} {j : Nat} {w : am_V} (hi : i < ls.length) (h : (am_st ls i v)[j]? = some (some w)) :
    (j = i ∧ w = v) ∨ (j ≠ i ∧ ls[j]? = some (some w) ∧ ¬ (j + 1 = i ∧ ∃ x, w = .inr (.inl x))) := by
  by_cases hji : j = i
  · subst hji
    left
    refine ⟨rfl, ?_⟩
    unfold am_st at h
    split at h
    · rw [List.getElem?_set_self hi] at h
      exact (Option.some.inj (Option.some.inj h)).symm
    · split at h
      · rw [List.getElem?_set_self (by simpa using hi)] at h
        exact (Option.some.inj (Option.some.inj h)).symm
      · rw [List.getElem?_set_self hi] at h
        exact (Option.some.inj (Option.some.inj h)).symm
  · right
    refine ⟨hji, ?_⟩
    unfold am_st at h
    split at h
    · rw [List.getElem?_set_ne (fun q => hji q.symm)] at h
      exact ⟨h, fun q => absurd q.1 (by omega)⟩
    · rename_i k
      split at h
      · rename_i x hx
        rw [List.getElem?_set_ne (fun q => hji q.symm)] at h
        by_cases hjk : j = k
        · subst hjk
          have hj : j < ls.length := by omega
          rw [List.getElem?_set_self hj] at h
          cases h
        · rw [List.getElem?_set_ne (fun q => hjk q.symm)] at h
          exact ⟨h, fun q => hjk (by omega)⟩
      · rename_i hx
        rw [List.getElem?_set_ne (fun q => hji q.symm)] at h
        refine ⟨h, fun q => ?_⟩
        obtain ⟨q1, x, rfl⟩ := q
        have : j = k := by omega
        subst this
        exact hx x h
theorem am_lr_st {G : am_G} {K : am_K} {nL : Nat} {ls : am_L} {rl rl' : Array Slot} {i : Nat} {v : am_V} (h : am_lr G K nL ls rl) (hi : i < nL) (hv : am_ok K v)
    (hc : lv_has rl' nL ((i, am_cv G v) :: (am_kl G ls).filter (fun q => !(q.1 == i) && !(q.1 + 1 == i && q.2.category == 2)))) : am_lr G K nL (am_st ls i v) rl' := by
  obtain ⟨h0, h1, h2, h3⟩ := h
  refine ⟨am_st_len.trans h0, hc.1, hc.2.1, fun j w hj => ?_⟩
  rcases am_st_at (by omega) hj with ⟨rfl, rfl⟩ | ⟨a1, a2, a3⟩
  · exact ⟨hc.2.2 (j, am_cv G w) List.mem_cons_self, hv⟩
  · refine ⟨hc.2.2 (j, am_cv G w) (List.mem_cons_of_mem _ (List.mem_filter.mpr ⟨am_kl_mem.mpr ⟨w, a2, rfl⟩, ?_⟩)), (h3 j w a2).2⟩
    have e1 : (j == i) = false := by simpa using a1
    have e2 : (j + 1 == i && (am_cv G w).category == 2) = false := by
      by_cases hj1 : j + 1 = i
      · rw [am_cat]
        match w, a3 with
        | .inl x, _ => simp
        | .inr (.inl x), a3 => exact absurd ⟨hj1, x, rfl⟩ a3
        | .inr (.inr x), _ => simp
      · have : (j + 1 == i) = false := by simpa using hj1
        rw [this]
        rfl
    simp only [e1, e2]
    rfl
theorem am_st2_at {ls : am_L} {i : Nat} {v : am_V} {j : Nat} {w : am_V} (hi : i + 1 < ls.length) (h : (am_st2 ls i v)[j]? = some (some w)) :
    (j = i ∧ w = v) ∨ (j ≠ i ∧ j ≠ i + 1 ∧ ls[j]? = some (some w) ∧ ¬ (j + 1 = i ∧ ∃ x, w = .inr (.inl x))) := by
  unfold am_st2 at h
  by_cases hj : j = i + 1
  · subst hj
    rw [List.getElem?_set_self (by rw [am_st_len]; exact hi)] at h
    cases h
  · rw [List.getElem?_set_ne (fun q => hj q.symm)] at h
    rcases am_st_at (by omega) h with q | ⟨a1, a2, a3⟩
    · exact Or.inl q
    · exact Or.inr ⟨a1, hj, a2, a3⟩
theorem am_lr_st2 {G : am_G} {K : am_K} {nL : Nat} {ls : am_L} {rl rl' : Array Slot} {i : Nat} {v : am_V} (h : am_lr G K nL ls rl) (hi : i + 1 < nL) (hv : am_ok K v)
    (hc : lv_has rl' nL ((i, am_cv G v) :: (am_kl G ls).filter (fun q => !(q.1 == i) && (!(q.1 == i + 1) && !(q.1 + 1 == i && q.2.category == 2))))) : am_lr G K nL (am_st2 ls i v) rl' := by
  obtain ⟨h0, h1, h2, h3⟩ := h
  refine ⟨(List.length_set ..).trans (am_st_len.trans h0), hc.1, hc.2.1, fun j w hj => ?_⟩
  rcases am_st2_at (by omega) hj with ⟨rfl, rfl⟩ | ⟨a1, a0, a2, a3⟩
  · exact ⟨hc.2.2 (j, am_cv G w) List.mem_cons_self, hv⟩
  · refine ⟨hc.2.2 (j, am_cv G w) (List.mem_cons_of_mem _ (List.mem_filter.mpr ⟨am_kl_mem.mpr ⟨w, a2, rfl⟩, ?_⟩)), (h3 j w a2).2⟩
    have e1 : (j == i) = false := by simpa using a1
    have e0 : (j == i + 1) = false := by simpa using a0
    have e2 : (j + 1 == i && (am_cv G w).category == 2) = false := by
      by_cases hj1 : j + 1 = i
      · rw [am_cat]
        match w, a3 with
        | .inl x, _ => simp
        | .inr (.inl x), a3 => exact absurd ⟨hj1, x, rfl⟩ a3
        | .inr (.inr x), _ => simp
      · have : (j + 1 == i) = false := by simpa using hj1
        rw [this]
        rfl
    simp only [e1, e0, e2]
    rfl
theorem am_lr_ext {G G' : am_G} {K K' : am_K} {nL : Nat} {ls : am_L} {rl : Array Slot} (hl : K.1.length ≤ K'.1.length) (hG : ∀ i, i < K.1.length → G'.1 i = G.1 i ∧ G'.2.1 i = G.2.1 i) (hb : G'.2.2 = G.2.2) (h : am_lr G K nL ls rl) : am_lr G' K' nL ls rl := by
  obtain ⟨h0, h1, h2, h3⟩ := h
  refine ⟨h0, h1, h2, fun i v hv => ?_⟩
  obtain ⟨a, b⟩ := h3 i v hv
  refine ⟨by rw [am_cv_ext hG hb b]; exact a, ?_⟩
  match v, b with
  | .inl x, b => exact b
  | .inr (.inl x), b => exact b
  | .inr (.inr x), b => exact ⟨b.1, by have := b.2; omega⟩
theorem am_ok_ext {K K' : am_K} (hl : K.1.length ≤ K'.1.length) {v : am_V} (h : am_ok K v) : am_ok K' v := by
  match v, h with
  | .inl x, b => exact b
  | .inr (.inl x), b => exact b
  | .inr (.inr x), b => exact ⟨b.1, by have := b.2; omega⟩
/-- the memory's one place: it stays well -/
theorem am_mok_up {K : am_K} {M : am_M} {a i v : Int} {e : am_C} (hM : am_mok K M) (ha : am_kd K a = some e) (h64 : am_i64 v) (h32 : e.1 ≠ 13 → am_i32 v) (hr : e.1 < 10 → (∀ k : Nat, (k : Int) = i → am_fk e.1 k = 2 → -1 ≤ v ∧ v < (K.1.length : Int))) : am_mok K (am_up M a i v) := by
  obtain ⟨ha0, ha1, -, ha2⟩ := am_kd_at ha
  intro j e' he'
  obtain ⟨h1, h2, h3⟩ := hM j e' he'
  by_cases hj : (j : Int) = a
  · have : j = a.toNat := by omega
    subst this
    cases ha1.symm.trans he'
    refine ⟨h1, fun q => ?_, fun k h10 hf => ?_⟩
    · unfold am_up
      rw [if_pos hj]
      split
      · exact ⟨h64, h32⟩
      · exact h2 q
    · unfold am_up
      rw [if_pos hj]
      split
      · rename_i hk
        exact hr h10 k hk hf
      · exact h3 k h10 hf
  · refine ⟨h1, fun q => ?_, fun k h10 hf => ?_⟩
    · unfold am_up
      rw [if_neg hj]
      exact h2 q
    · unfold am_up
      rw [if_neg hj]
      exact h3 k h10 hf
end
section
/-! ===== one row an instruction ===== -/
theorem am_cvr (G : am_G) (x : Int) : (∃ r : Nat, am_cv G (vr x) = .ref r) ∨ am_cv G (vr x) = .null := by
  show (∃ r : Nat, (if x = -2 then Value.ref G.2.2 else va_rf (am_rf G x)) = .ref r) ∨ (if x = -2 then Value.ref G.2.2 else va_rf (am_rf G x)) = .null
  split
  · exact Or.inl ⟨_, rfl⟩
  · unfold am_rf
    split
    · exact Or.inr rfl
    · exact Or.inl ⟨_, rfl⟩
theorem am_cvr_ref {G : am_G} {x : Int} (h0 : -2 ≤ x) (h : ¬ x = -1) : ∃ r : Nat, am_cv G (vr x) = .ref r := by
  show ∃ r : Nat, (if x = -2 then Value.ref G.2.2 else va_rf (am_rf G x)) = .ref r
  split
  · exact ⟨_, rfl⟩
  · unfold am_rf
    rw [if_neg (by omega)]
    exact ⟨_, rfl⟩
theorem am_i32_of (z : Int32) : am_i32 z.toInt := ⟨by have := Int32.le_toInt z; omega, by have := Int32.toInt_lt z; omega⟩
theorem am_i64_of (z : Int64) : am_i64 z.toInt := ⟨by have := Int64.le_toInt z; omega, by have := Int64.toInt_lt z; omega⟩
theorem am_i64_of32 {x : Int} (h : am_i32 x) : am_i64 x := ⟨by have := h.1; omega, by have := h.2; omega⟩
theorem am_i2l {x : Int} (h : am_i32 x) : (Int32.ofInt x).toInt64 = Int64.ofInt x := by
  rw [← Int64.ofInt_int32ToInt, am_toInt h]
theorem am_ne0 {y : Int} (hy : am_i32 y) (h : 0 < y) : ¬ Int32.ofInt y = 0 := by
  rw [show (0 : Int32) = Int32.ofInt 0 from rfl, am_eq hy am_i32_0]
  omega
theorem am_div {x y : Int} (hx : am_i32 x) (hy : am_i32 y) (h0 : 0 ≤ x) : Int32.ofInt x / Int32.ofInt y = Int32.ofInt (x / y) := by
  rw [← Int32.ofInt_tdiv (by have := hx.1; exact this) (by have := hx.2; exact this) (by have := hy.1; exact this) (by have := hy.2; exact this), Int.tdiv_eq_ediv_of_nonneg h0]
theorem am_div_ok {x y : Int} (hx : am_i32 x) (h0 : 0 ≤ x) (h1 : 0 < y) : am_i32 (x / y) := by
  have e1 : 0 ≤ x / y := Int.ediv_nonneg h0 (by omega)
  have e2 : x / y ≤ x := Int.ediv_le_self y h0
  have := hx.2
  exact ⟨by omega, by omega⟩
theorem am_mod_ok {x y : Int} (hx : am_i32 x) (h0 : 0 ≤ x) (h1 : 0 < y) : am_i32 (x % y) := by
  have e1 : 0 ≤ x % y := Int.emod_nonneg x (by omega)
  have e2 : x % y = x - y * (x / y) := Int.emod_def x y
  have e3 : 0 ≤ y * (x / y) := Int.mul_nonneg (by omega) (Int.ediv_nonneg h0 (by omega))
  have := hx.2
  exact ⟨by omega, by omega⟩
theorem am_cmp_ok {x y : Int} : am_i32 (if y < x then 1 else if x = y then 0 else -1) := by
  unfold am_i32
  split
  · omega
  · split <;> omega
theorem am_cmp {x y : Int} (hx : am_i64 x) (hy : am_i64 y) : lg_cmp (Int64.ofInt x) (Int64.ofInt y) = Int32.ofInt (if y < x then 1 else if x = y then 0 else -1) := by
  unfold lg_cmp
  simp only [gt_iff_lt, am_lt64 hy hx, am_eq64 hx hy]
  split
  · rfl
  · split <;> rfl
theorem s_iconst {mi : am_I} {pc : Nat} {ls : am_L} {stk : List am_V} {K : am_K} {M : am_M} {Q : am_Q} {n : Int} (hd : decode (am_cc mi) pc = .ok (.iconst n, 1)) (hn : am_i32 n) (k : am_At mi (pc + 1) ls (vi n :: stk) K M Q) : am_At mi pc ls (stk) K M Q := by
  intro p l e s m args below meth c Z A D G0 K0 M0 G H locs rl hS hY hL hk hR
  exact lv_iconst hS.1 hS.2.1 hd rfl (k _ _ _ _ _ _ _ _ _ _ _ _ _ _ _ _ _ _ _ hS hY hL (List.forall_mem_cons.mpr ⟨hn, hk⟩) hR)
theorem s_bipush {mi : am_I} {pc : Nat} {ls : am_L} {stk : List am_V} {K : am_K} {M : am_M} {Q : am_Q} {n : Int} (hd : decode (am_cc mi) pc = .ok (.bipush n, 2)) (hn : am_i32 n) (hb : (Int8.ofInt n).toInt32 = Int32.ofInt n) (k : am_At mi (pc + 2) ls (vi n :: stk) K M Q) : am_At mi pc ls (stk) K M Q := by
  intro p l e s m args below meth c Z A D G0 K0 M0 G H locs rl hS hY hL hk hR
  exact lv_bipush hS.1 hS.2.1 hd hb (k _ _ _ _ _ _ _ _ _ _ _ _ _ _ _ _ _ _ _ hS hY hL (List.forall_mem_cons.mpr ⟨hn, hk⟩) hR)
theorem s_sipush {mi : am_I} {pc : Nat} {ls : am_L} {stk : List am_V} {K : am_K} {M : am_M} {Q : am_Q} {n : Int} (hd : decode (am_cc mi) pc = .ok (.sipush n, 3)) (hn : am_i32 n) (hb : (Int16.ofInt n).toInt32 = Int32.ofInt n) (k : am_At mi (pc + 3) ls (vi n :: stk) K M Q) : am_At mi pc ls (stk) K M Q := by
  intro p l e s m args below meth c Z A D G0 K0 M0 G H locs rl hS hY hL hk hR
  exact lv_sipush hS.1 hS.2.1 hd hb (k _ _ _ _ _ _ _ _ _ _ _ _ _ _ _ _ _ _ _ hS hY hL (List.forall_mem_cons.mpr ⟨hn, hk⟩) hR)
theorem s_lconst {mi : am_I} {pc : Nat} {ls : am_L} {stk : List am_V} {K : am_K} {M : am_M} {Q : am_Q} {n : Fin 2} {v : Int} (hd : decode (am_cc mi) pc = .ok (.lconst n, 1)) (hv : Int64.ofNat (n : Nat) = Int64.ofInt v) (hn : am_i64 v) (k : am_At mi (pc + 1) ls (vl v :: stk) K M Q) : am_At mi pc ls (stk) K M Q := by
  intro p l e s m args below meth c Z A D G0 K0 M0 G H locs rl hS hY hL hk hR
  exact lv_lconst hS.1 hS.2.1 hd hv (k _ _ _ _ _ _ _ _ _ _ _ _ _ _ _ _ _ _ _ hS hY hL (List.forall_mem_cons.mpr ⟨hn, hk⟩) hR)
theorem s_ldc {mi : am_I} {pc : Nat} {ls : am_L} {stk : List am_V} {K : am_K} {M : am_M} {Q : am_Q} {idx : Nat} {v : Int} (hd : decode (am_cc mi) pc = .ok (.ldc idx, 2)) (hw : Cond.constant (am_own mi) idx (Int32.ofInt v) ∈ am_tb) (hn : am_i32 v) (k : am_At mi (pc + 2) ls (vi v :: stk) K M Q) : am_At mi pc ls (stk) K M Q := by
  intro p l e s m args below meth c Z A D G0 K0 M0 G H locs rl hS hY hL hk hR
  exact lv_ldc hS.1 hS.2.1 hS.2.2.2.2.2.2.1 (hS.2.2.2.2.2.2.2.1 _ hw) hd (k _ _ _ _ _ _ _ _ _ _ _ _ _ _ _ _ _ _ _ hS hY hL (List.forall_mem_cons.mpr ⟨hn, hk⟩) hR)
theorem s_ldc2 {mi : am_I} {pc : Nat} {ls : am_L} {stk : List am_V} {K : am_K} {M : am_M} {Q : am_Q} {idx : Nat} {v : Int} (hd : decode (am_cc mi) pc = .ok (.ldc2_w idx, 3)) (hw : Cond.constantLong (am_own mi) idx (Int64.ofInt v) ∈ am_tb) (hn : am_i64 v) (k : am_At mi (pc + 3) ls (vl v :: stk) K M Q) : am_At mi pc ls (stk) K M Q := by
  intro p l e s m args below meth c Z A D G0 K0 M0 G H locs rl hS hY hL hk hR
  exact lv_ldc2 hS.1 hS.2.1 hS.2.2.2.2.2.2.1 (hS.2.2.2.2.2.2.2.1 _ hw) hd (k _ _ _ _ _ _ _ _ _ _ _ _ _ _ _ _ _ _ _ hS hY hL (List.forall_mem_cons.mpr ⟨hn, hk⟩) hR)
theorem s_null {mi : am_I} {pc : Nat} {ls : am_L} {stk : List am_V} {K : am_K} {M : am_M} {Q : am_Q}  (hd : decode (am_cc mi) pc = .ok (.aconst_null, 1))  (k : am_At mi (pc + 1) ls (vr (-1) :: stk) K M Q) : am_At mi pc ls (stk) K M Q := by
  intro p l e s m args below meth c Z A D G0 K0 M0 G H locs rl hS hY hL hk hR
  exact lv_null hS.1 hS.2.1 hd (k _ _ _ _ _ _ _ _ _ _ _ _ _ _ _ _ _ _ _ hS hY hL (List.forall_mem_cons.mpr ⟨⟨by omega, by omega⟩, hk⟩) hR)
theorem s_iload_n {mi : am_I} {pc : Nat} {ls : am_L} {stk : List am_V} {K : am_K} {M : am_M} {Q : am_Q} {k0 : Fin 4} {x : Int} (hd : decode (am_cc mi) pc = .ok (.iload_n k0, 1)) (hl : ls[(k0 : Nat)]? = some (some (vi x))) (k : am_At mi (pc + 1) ls (vi x :: stk) K M Q) : am_At mi pc ls (stk) K M Q := by
  intro p l e s m args below meth c Z A D G0 K0 M0 G H locs rl hS hY hL hk hR
  exact lv_iload_n hS.1 hS.2.1 hd rfl (hL.2.2.2 _ _ hl).1 (k _ _ _ _ _ _ _ _ _ _ _ _ _ _ _ _ _ _ _ hS hY hL (List.forall_mem_cons.mpr ⟨(hL.2.2.2 _ _ hl).2, hk⟩) hR)
theorem s_iload {mi : am_I} {pc : Nat} {ls : am_L} {stk : List am_V} {K : am_K} {M : am_M} {Q : am_Q} {i : Nat} {x : Int} (hd : decode (am_cc mi) pc = .ok (.iload i, 2)) (hl : ls[i]? = some (some (vi x))) (k : am_At mi (pc + 2) ls (vi x :: stk) K M Q) : am_At mi pc ls (stk) K M Q := by
  intro p l e s m args below meth c Z A D G0 K0 M0 G H locs rl hS hY hL hk hR
  exact lv_iload hS.1 hS.2.1 hd (hL.2.2.2 _ _ hl).1 (k _ _ _ _ _ _ _ _ _ _ _ _ _ _ _ _ _ _ _ hS hY hL (List.forall_mem_cons.mpr ⟨(hL.2.2.2 _ _ hl).2, hk⟩) hR)
theorem s_lload_n {mi : am_I} {pc : Nat} {ls : am_L} {stk : List am_V} {K : am_K} {M : am_M} {Q : am_Q} {k0 : Fin 4} {x : Int} (hd : decode (am_cc mi) pc = .ok (.lload_n k0, 1)) (hl : ls[(k0 : Nat)]? = some (some (vl x))) (k : am_At mi (pc + 1) ls (vl x :: stk) K M Q) : am_At mi pc ls (stk) K M Q := by
  intro p l e s m args below meth c Z A D G0 K0 M0 G H locs rl hS hY hL hk hR
  exact lv_lload_n hS.1 hS.2.1 hd rfl (hL.2.2.2 _ _ hl).1 (k _ _ _ _ _ _ _ _ _ _ _ _ _ _ _ _ _ _ _ hS hY hL (List.forall_mem_cons.mpr ⟨(hL.2.2.2 _ _ hl).2, hk⟩) hR)
theorem s_lload {mi : am_I} {pc : Nat} {ls : am_L} {stk : List am_V} {K : am_K} {M : am_M} {Q : am_Q} {i : Nat} {x : Int} (hd : decode (am_cc mi) pc = .ok (.lload i, 2)) (hl : ls[i]? = some (some (vl x))) (k : am_At mi (pc + 2) ls (vl x :: stk) K M Q) : am_At mi pc ls (stk) K M Q := by
  intro p l e s m args below meth c Z A D G0 K0 M0 G H locs rl hS hY hL hk hR
  exact lv_lload hS.1 hS.2.1 hd (hL.2.2.2 _ _ hl).1 (k _ _ _ _ _ _ _ _ _ _ _ _ _ _ _ _ _ _ _ hS hY hL (List.forall_mem_cons.mpr ⟨(hL.2.2.2 _ _ hl).2, hk⟩) hR)
theorem s_aload_n {mi : am_I} {pc : Nat} {ls : am_L} {stk : List am_V} {K : am_K} {M : am_M} {Q : am_Q} {k0 : Fin 4} {x : Int} (hd : decode (am_cc mi) pc = .ok (.aload_n k0, 1)) (hl : ls[(k0 : Nat)]? = some (some (vr x))) (k : am_At mi (pc + 1) ls (vr x :: stk) K M Q) : am_At mi pc ls (stk) K M Q := by
  intro p l e s m args below meth c Z A D G0 K0 M0 G H locs rl hS hY hL hk hR
  have h := k _ _ _ _ _ _ _ _ _ _ _ _ _ _ _ _ _ _ _ hS hY hL (List.forall_mem_cons.mpr ⟨(hL.2.2.2 _ _ hl).2, hk⟩) hR
  have h1 := (hL.2.2.2 _ _ hl).1
  rw [List.map_cons] at h
  rcases am_cvr G x with ⟨r, hr⟩ | hr
  · rw [hr] at h h1
    exact lv_aload_n hS.1 hS.2.1 hd rfl h1 h
  · rw [hr] at h h1
    exact lv_aload_nN hS.1 hS.2.1 hd rfl h1 h
theorem s_aload {mi : am_I} {pc : Nat} {ls : am_L} {stk : List am_V} {K : am_K} {M : am_M} {Q : am_Q} {i : Nat} {x : Int} (hd : decode (am_cc mi) pc = .ok (.aload i, 2)) (hl : ls[i]? = some (some (vr x))) (k : am_At mi (pc + 2) ls (vr x :: stk) K M Q) : am_At mi pc ls (stk) K M Q := by
  intro p l e s m args below meth c Z A D G0 K0 M0 G H locs rl hS hY hL hk hR
  have h := k _ _ _ _ _ _ _ _ _ _ _ _ _ _ _ _ _ _ _ hS hY hL (List.forall_mem_cons.mpr ⟨(hL.2.2.2 _ _ hl).2, hk⟩) hR
  have h1 := (hL.2.2.2 _ _ hl).1
  rw [List.map_cons] at h
  rcases am_cvr G x with ⟨r, hr⟩ | hr
  · rw [hr] at h h1
    exact lv_aload hS.1 hS.2.1 hd h1 h
  · rw [hr] at h h1
    exact lv_aloadN hS.1 hS.2.1 hd h1 h
theorem s_istore_n {mi : am_I} {pc : Nat} {ls : am_L} {stk : List am_V} {K : am_K} {M : am_M} {Q : am_Q} {k0 : Fin 4} {x : Int} (hd : decode (am_cc mi) pc = .ok (.istore_n k0, 1)) (hi : (k0 : Nat) < am_ml mi) (k : am_At mi (pc + 1) (am_st ls (k0 : Nat) (vi x)) stk K M Q) : am_At mi pc ls (vi x :: stk) K M Q := by
  intro p l e s m args below meth c Z A D G0 K0 M0 G H locs rl hS hY hL hk hR
  obtain ⟨h0, hk⟩ := List.forall_mem_cons.mp hk
  exact lv_istore_n hS.1 hS.2.1 hd rfl (am_lr_has hL) hi rfl (fun ls' h' => k _ _ _ _ _ _ _ _ _ _ _ _ _ _ _ _ _ _ _ hS hY (am_lr_st (v := vi x) hL hi h0 h') hk hR)
theorem s_istore {mi : am_I} {pc : Nat} {ls : am_L} {stk : List am_V} {K : am_K} {M : am_M} {Q : am_Q} {i : Nat} {x : Int} (hd : decode (am_cc mi) pc = .ok (.istore i, 2)) (hi : i < am_ml mi) (k : am_At mi (pc + 2) (am_st ls i (vi x)) stk K M Q) : am_At mi pc ls (vi x :: stk) K M Q := by
  intro p l e s m args below meth c Z A D G0 K0 M0 G H locs rl hS hY hL hk hR
  obtain ⟨h0, hk⟩ := List.forall_mem_cons.mp hk
  exact lv_istore hS.1 hS.2.1 hd (am_lr_has hL) hi rfl (fun ls' h' => k _ _ _ _ _ _ _ _ _ _ _ _ _ _ _ _ _ _ _ hS hY (am_lr_st (v := vi x) hL hi h0 h') hk hR)
theorem s_lstore_n {mi : am_I} {pc : Nat} {ls : am_L} {stk : List am_V} {K : am_K} {M : am_M} {Q : am_Q} {k0 : Fin 4} {x : Int} (hd : decode (am_cc mi) pc = .ok (.lstore_n k0, 1)) (hi : (k0 : Nat) + 1 < am_ml mi) (k : am_At mi (pc + 1) (am_st2 ls (k0 : Nat) (vl x)) stk K M Q) : am_At mi pc ls (vl x :: stk) K M Q := by
  intro p l e s m args below meth c Z A D G0 K0 M0 G H locs rl hS hY hL hk hR
  obtain ⟨h0, hk⟩ := List.forall_mem_cons.mp hk
  exact lv_lstore_n hS.1 hS.2.1 hd rfl (am_lr_has hL) hi rfl (fun ls' h' => k _ _ _ _ _ _ _ _ _ _ _ _ _ _ _ _ _ _ _ hS hY (am_lr_st2 (v := vl x) hL hi h0 h') hk hR)
theorem s_lstore {mi : am_I} {pc : Nat} {ls : am_L} {stk : List am_V} {K : am_K} {M : am_M} {Q : am_Q} {i : Nat} {x : Int} (hd : decode (am_cc mi) pc = .ok (.lstore i, 2)) (hi : i + 1 < am_ml mi) (k : am_At mi (pc + 2) (am_st2 ls i (vl x)) stk K M Q) : am_At mi pc ls (vl x :: stk) K M Q := by
  intro p l e s m args below meth c Z A D G0 K0 M0 G H locs rl hS hY hL hk hR
  obtain ⟨h0, hk⟩ := List.forall_mem_cons.mp hk
  exact lv_lstore hS.1 hS.2.1 hd (am_lr_has hL) hi rfl (fun ls' h' => k _ _ _ _ _ _ _ _ _ _ _ _ _ _ _ _ _ _ _ hS hY (am_lr_st2 (v := vl x) hL hi h0 h') hk hR)
theorem s_astore_n {mi : am_I} {pc : Nat} {ls : am_L} {stk : List am_V} {K : am_K} {M : am_M} {Q : am_Q} {k0 : Fin 4} {x : Int} (hd : decode (am_cc mi) pc = .ok (.astore_n k0, 1)) (hi : (k0 : Nat) < am_ml mi) (k : am_At mi (pc + 1) (am_st ls (k0 : Nat) (vr x)) stk K M Q) : am_At mi pc ls (vr x :: stk) K M Q := by
  intro p l e s m args below meth c Z A D G0 K0 M0 G H locs rl hS hY hL hk hR
  obtain ⟨h0, hk⟩ := List.forall_mem_cons.mp hk
  rw [List.map_cons]
  have hst := fun (rl' : Array Slot) h' => am_lr_st (rl' := rl') (v := vr x) hL hi h0 h'
  rcases am_cvr G x with ⟨r, hr⟩ | hr
  · rw [hr] at hst ⊢
    exact lv_astore_n hS.1 hS.2.1 hd rfl (am_lr_has hL) hi rfl (fun ls' h' => k _ _ _ _ _ _ _ _ _ _ _ _ _ _ _ _ _ _ _ hS hY (hst ls' h') hk hR)
  · rw [hr] at hst ⊢
    exact lv_astore_nN hS.1 hS.2.1 hd rfl (am_lr_has hL) hi rfl (fun ls' h' => k _ _ _ _ _ _ _ _ _ _ _ _ _ _ _ _ _ _ _ hS hY (hst ls' h') hk hR)
theorem s_astore {mi : am_I} {pc : Nat} {ls : am_L} {stk : List am_V} {K : am_K} {M : am_M} {Q : am_Q} {i : Nat} {x : Int} (hd : decode (am_cc mi) pc = .ok (.astore i, 2)) (hi : i < am_ml mi) (k : am_At mi (pc + 2) (am_st ls i (vr x)) stk K M Q) : am_At mi pc ls (vr x :: stk) K M Q := by
  intro p l e s m args below meth c Z A D G0 K0 M0 G H locs rl hS hY hL hk hR
  obtain ⟨h0, hk⟩ := List.forall_mem_cons.mp hk
  rw [List.map_cons]
  have hst := fun (rl' : Array Slot) h' => am_lr_st (rl' := rl') (v := vr x) hL hi h0 h'
  rcases am_cvr G x with ⟨r, hr⟩ | hr
  · rw [hr] at hst ⊢
    exact lv_astore hS.1 hS.2.1 hd (am_lr_has hL) hi rfl (fun ls' h' => k _ _ _ _ _ _ _ _ _ _ _ _ _ _ _ _ _ _ _ hS hY (hst ls' h') hk hR)
  · rw [hr] at hst ⊢
    exact lv_astoreN hS.1 hS.2.1 hd (am_lr_has hL) hi rfl (fun ls' h' => k _ _ _ _ _ _ _ _ _ _ _ _ _ _ _ _ _ _ _ hS hY (hst ls' h') hk hR)
theorem s_iinc {mi : am_I} {pc : Nat} {ls : am_L} {stk : List am_V} {K : am_K} {M : am_M} {Q : am_Q} {i : Nat} {n x : Int} (hd : decode (am_cc mi) pc = .ok (.iinc i n, 3)) (hl : ls[i]? = some (some (vi x))) (hi : i < am_ml mi) (hn : am_i32 (x + n)) (k : am_At mi (pc + 3) (am_st ls i (vi (x + n))) stk K M Q) : am_At mi pc ls (stk) K M Q := by
  intro p l e s m args below meth c Z A D G0 K0 M0 G H locs rl hS hY hL hk hR
  obtain ⟨q, hq⟩ := List.getElem?_of_mem (am_kl_mem (G := G).mpr ⟨vi x, hl, rfl⟩)
  exact lv_iinc (x := Int32.ofInt x) (v := Int32.ofInt (x + n)) hS.1 hS.2.1 hd (am_lr_has hL) hq (Int32.ofInt_add x n).symm hi rfl (fun ls' h' => k _ _ _ _ _ _ _ _ _ _ _ _ _ _ _ _ _ _ _ hS hY (am_lr_st (v := vi (x + n)) hL hi hn h') hk hR)
theorem s_iadd {mi : am_I} {pc : Nat} {ls : am_L} {stk : List am_V} {K : am_K} {M : am_M} {Q : am_Q} {x y : Int} (hd : decode (am_cc mi) pc = .ok (.iadd, 1)) (hn : am_i32 (x + y)) (k : am_At mi (pc + 1) ls (vi (x + y) :: stk) K M Q) : am_At mi pc ls (vi y :: vi x :: stk) K M Q := by
  intro p l e s m args below meth c Z A D G0 K0 M0 G H locs rl hS hY hL hk hR
  obtain ⟨hy, hk⟩ := List.forall_mem_cons.mp hk
  obtain ⟨hx, hk⟩ := List.forall_mem_cons.mp hk
  have h := k _ _ _ _ _ _ _ _ _ _ _ _ _ _ _ _ _ _ _ hS hY hL (List.forall_mem_cons.mpr ⟨hn, hk⟩) hR
  refine lv_iadd hS.1 hS.2.1 hd ?_
  rw [← Int32.ofInt_add]
  exact h
theorem s_isub {mi : am_I} {pc : Nat} {ls : am_L} {stk : List am_V} {K : am_K} {M : am_M} {Q : am_Q} {x y : Int} (hd : decode (am_cc mi) pc = .ok (.isub, 1)) (hn : am_i32 (x - y)) (k : am_At mi (pc + 1) ls (vi (x - y) :: stk) K M Q) : am_At mi pc ls (vi y :: vi x :: stk) K M Q := by
  intro p l e s m args below meth c Z A D G0 K0 M0 G H locs rl hS hY hL hk hR
  obtain ⟨hy, hk⟩ := List.forall_mem_cons.mp hk
  obtain ⟨hx, hk⟩ := List.forall_mem_cons.mp hk
  have h := k _ _ _ _ _ _ _ _ _ _ _ _ _ _ _ _ _ _ _ hS hY hL (List.forall_mem_cons.mpr ⟨hn, hk⟩) hR
  refine lv_isub hS.1 hS.2.1 hd ?_
  rw [← Int32.ofInt_sub]
  exact h
theorem s_imul {mi : am_I} {pc : Nat} {ls : am_L} {stk : List am_V} {K : am_K} {M : am_M} {Q : am_Q} {x y : Int} (hd : decode (am_cc mi) pc = .ok (.imul, 1)) (hn : am_i32 (x * y)) (k : am_At mi (pc + 1) ls (vi (x * y) :: stk) K M Q) : am_At mi pc ls (vi y :: vi x :: stk) K M Q := by
  intro p l e s m args below meth c Z A D G0 K0 M0 G H locs rl hS hY hL hk hR
  obtain ⟨hy, hk⟩ := List.forall_mem_cons.mp hk
  obtain ⟨hx, hk⟩ := List.forall_mem_cons.mp hk
  have h := k _ _ _ _ _ _ _ _ _ _ _ _ _ _ _ _ _ _ _ hS hY hL (List.forall_mem_cons.mpr ⟨hn, hk⟩) hR
  refine lv_imul hS.1 hS.2.1 hd ?_
  rw [← Int32.ofInt_mul]
  exact h
theorem s_ladd {mi : am_I} {pc : Nat} {ls : am_L} {stk : List am_V} {K : am_K} {M : am_M} {Q : am_Q} {x y : Int} (hd : decode (am_cc mi) pc = .ok (.ladd, 1)) (hn : am_i64 (x + y)) (k : am_At mi (pc + 1) ls (vl (x + y) :: stk) K M Q) : am_At mi pc ls (vl y :: vl x :: stk) K M Q := by
  intro p l e s m args below meth c Z A D G0 K0 M0 G H locs rl hS hY hL hk hR
  obtain ⟨hy, hk⟩ := List.forall_mem_cons.mp hk
  obtain ⟨hx, hk⟩ := List.forall_mem_cons.mp hk
  have h := k _ _ _ _ _ _ _ _ _ _ _ _ _ _ _ _ _ _ _ hS hY hL (List.forall_mem_cons.mpr ⟨hn, hk⟩) hR
  refine lv_ladd hS.1 hS.2.1 hd ?_
  rw [← Int64.ofInt_add]
  exact h
theorem s_lsub {mi : am_I} {pc : Nat} {ls : am_L} {stk : List am_V} {K : am_K} {M : am_M} {Q : am_Q} {x y : Int} (hd : decode (am_cc mi) pc = .ok (.lsub, 1)) (hn : am_i64 (x - y)) (k : am_At mi (pc + 1) ls (vl (x - y) :: stk) K M Q) : am_At mi pc ls (vl y :: vl x :: stk) K M Q := by
  intro p l e s m args below meth c Z A D G0 K0 M0 G H locs rl hS hY hL hk hR
  obtain ⟨hy, hk⟩ := List.forall_mem_cons.mp hk
  obtain ⟨hx, hk⟩ := List.forall_mem_cons.mp hk
  have h := k _ _ _ _ _ _ _ _ _ _ _ _ _ _ _ _ _ _ _ hS hY hL (List.forall_mem_cons.mpr ⟨hn, hk⟩) hR
  refine lv_lsub hS.1 hS.2.1 hd ?_
  rw [← Int64.ofInt_sub]
  exact h
theorem s_idiv {mi : am_I} {pc : Nat} {ls : am_L} {stk : List am_V} {K : am_K} {M : am_M} {Q : am_Q} {x y : Int} (hd : decode (am_cc mi) pc = .ok (.idiv, 1)) (h0 : 0 ≤ x) (h1 : 0 < y) (k : am_At mi (pc + 1) ls (vi (x / y) :: stk) K M Q) : am_At mi pc ls (vi y :: vi x :: stk) K M Q := by
  intro p l e s m args below meth c Z A D G0 K0 M0 G H locs rl hS hY hL hk hR
  obtain ⟨hy, hk⟩ := List.forall_mem_cons.mp hk
  obtain ⟨hx, hk⟩ := List.forall_mem_cons.mp hk
  have hn : am_i32 (x / y) := am_div_ok hx h0 h1
  have h := k _ _ _ _ _ _ _ _ _ _ _ _ _ _ _ _ _ _ _ hS hY hL (List.forall_mem_cons.mpr ⟨hn, hk⟩) hR
  refine lv_idiv hS.1 hS.2.1 hd (am_ne0 hy h1) ?_
  rw [am_div hx hy h0]
  exact h
theorem s_irem {mi : am_I} {pc : Nat} {ls : am_L} {stk : List am_V} {K : am_K} {M : am_M} {Q : am_Q} {x y : Int} (hd : decode (am_cc mi) pc = .ok (.irem, 1)) (h0 : 0 ≤ x) (h1 : 0 < y) (k : am_At mi (pc + 1) ls (vi (x % y) :: stk) K M Q) : am_At mi pc ls (vi y :: vi x :: stk) K M Q := by
  intro p l e s m args below meth c Z A D G0 K0 M0 G H locs rl hS hY hL hk hR
  obtain ⟨hy, hk⟩ := List.forall_mem_cons.mp hk
  obtain ⟨hx, hk⟩ := List.forall_mem_cons.mp hk
  have hn : am_i32 (x % y) := am_mod_ok hx h0 h1
  have h := k _ _ _ _ _ _ _ _ _ _ _ _ _ _ _ _ _ _ _ hS hY hL (List.forall_mem_cons.mpr ⟨hn, hk⟩) hR
  refine lv_irem hS.1 hS.2.1 hd (am_ne0 hy h1) ?_
  rw [am_div hx hy h0, ← Int32.ofInt_mul, ← Int32.ofInt_sub, show x - x / y * y = x % y from by rw [Int.emod_def, Int.mul_comm]]
  exact h
theorem s_ineg {mi : am_I} {pc : Nat} {ls : am_L} {stk : List am_V} {K : am_K} {M : am_M} {Q : am_Q} {x : Int} (hd : decode (am_cc mi) pc = .ok (.ineg, 1)) (hn : am_i32 (-x)) (k : am_At mi (pc + 1) ls (vi (-x) :: stk) K M Q) : am_At mi pc ls (vi x :: stk) K M Q := by
  intro p l e s m args below meth c Z A D G0 K0 M0 G H locs rl hS hY hL hk hR
  obtain ⟨hx, hk⟩ := List.forall_mem_cons.mp hk
  have h := k _ _ _ _ _ _ _ _ _ _ _ _ _ _ _ _ _ _ _ hS hY hL (List.forall_mem_cons.mpr ⟨hn, hk⟩) hR
  refine lv_ineg hS.1 hS.2.1 hd ?_
  rw [← Int32.ofInt_neg]
  exact h
theorem s_iand {mi : am_I} {pc : Nat} {ls : am_L} {stk : List am_V} {K : am_K} {M : am_M} {Q : am_Q} {x y : Int} (hd : decode (am_cc mi) pc = .ok (.iand, 1))  (k : am_At mi (pc + 1) ls (vi (Int32.ofInt x &&& Int32.ofInt y).toInt :: stk) K M Q) : am_At mi pc ls (vi y :: vi x :: stk) K M Q := by
  intro p l e s m args below meth c Z A D G0 K0 M0 G H locs rl hS hY hL hk hR
  obtain ⟨hy, hk⟩ := List.forall_mem_cons.mp hk
  obtain ⟨hx, hk⟩ := List.forall_mem_cons.mp hk
  have h := k _ _ _ _ _ _ _ _ _ _ _ _ _ _ _ _ _ _ _ hS hY hL (List.forall_mem_cons.mpr ⟨am_i32_of _, hk⟩) hR
  refine lv_iand hS.1 hS.2.1 hd ?_
  rw [List.map_cons, show am_cv G (vi (Int32.ofInt x &&& Int32.ofInt y).toInt) = .int (Int32.ofInt x &&& Int32.ofInt y) from congrArg Value.int (Int32.ofInt_toInt _)] at h
  exact h
theorem s_ior {mi : am_I} {pc : Nat} {ls : am_L} {stk : List am_V} {K : am_K} {M : am_M} {Q : am_Q} {x y : Int} (hd : decode (am_cc mi) pc = .ok (.ior, 1))  (k : am_At mi (pc + 1) ls (vi (Int32.ofInt x ||| Int32.ofInt y).toInt :: stk) K M Q) : am_At mi pc ls (vi y :: vi x :: stk) K M Q := by
  intro p l e s m args below meth c Z A D G0 K0 M0 G H locs rl hS hY hL hk hR
  obtain ⟨hy, hk⟩ := List.forall_mem_cons.mp hk
  obtain ⟨hx, hk⟩ := List.forall_mem_cons.mp hk
  have h := k _ _ _ _ _ _ _ _ _ _ _ _ _ _ _ _ _ _ _ hS hY hL (List.forall_mem_cons.mpr ⟨am_i32_of _, hk⟩) hR
  refine lv_ior hS.1 hS.2.1 hd ?_
  rw [List.map_cons, show am_cv G (vi (Int32.ofInt x ||| Int32.ofInt y).toInt) = .int (Int32.ofInt x ||| Int32.ofInt y) from congrArg Value.int (Int32.ofInt_toInt _)] at h
  exact h
theorem s_ixor {mi : am_I} {pc : Nat} {ls : am_L} {stk : List am_V} {K : am_K} {M : am_M} {Q : am_Q} {x y : Int} (hd : decode (am_cc mi) pc = .ok (.ixor, 1))  (k : am_At mi (pc + 1) ls (vi (Int32.ofInt x ^^^ Int32.ofInt y).toInt :: stk) K M Q) : am_At mi pc ls (vi y :: vi x :: stk) K M Q := by
  intro p l e s m args below meth c Z A D G0 K0 M0 G H locs rl hS hY hL hk hR
  obtain ⟨hy, hk⟩ := List.forall_mem_cons.mp hk
  obtain ⟨hx, hk⟩ := List.forall_mem_cons.mp hk
  have h := k _ _ _ _ _ _ _ _ _ _ _ _ _ _ _ _ _ _ _ hS hY hL (List.forall_mem_cons.mpr ⟨am_i32_of _, hk⟩) hR
  refine lv_ixor hS.1 hS.2.1 hd ?_
  rw [List.map_cons, show am_cv G (vi (Int32.ofInt x ^^^ Int32.ofInt y).toInt) = .int (Int32.ofInt x ^^^ Int32.ofInt y) from congrArg Value.int (Int32.ofInt_toInt _)] at h
  exact h
theorem s_ishl {mi : am_I} {pc : Nat} {ls : am_L} {stk : List am_V} {K : am_K} {M : am_M} {Q : am_Q} {x y : Int} (hd : decode (am_cc mi) pc = .ok (.ishl, 1))  (k : am_At mi (pc + 1) ls (vi (Int32.ofInt x <<< (Int32.ofInt y &&& 31)).toInt :: stk) K M Q) : am_At mi pc ls (vi y :: vi x :: stk) K M Q := by
  intro p l e s m args below meth c Z A D G0 K0 M0 G H locs rl hS hY hL hk hR
  obtain ⟨hy, hk⟩ := List.forall_mem_cons.mp hk
  obtain ⟨hx, hk⟩ := List.forall_mem_cons.mp hk
  have h := k _ _ _ _ _ _ _ _ _ _ _ _ _ _ _ _ _ _ _ hS hY hL (List.forall_mem_cons.mpr ⟨am_i32_of _, hk⟩) hR
  refine lv_ishl hS.1 hS.2.1 hd ?_
  rw [List.map_cons, show am_cv G (vi (Int32.ofInt x <<< (Int32.ofInt y &&& 31)).toInt) = .int (Int32.ofInt x <<< (Int32.ofInt y &&& 31)) from congrArg Value.int (Int32.ofInt_toInt _)] at h
  exact h
theorem s_ishr {mi : am_I} {pc : Nat} {ls : am_L} {stk : List am_V} {K : am_K} {M : am_M} {Q : am_Q} {x y : Int} (hd : decode (am_cc mi) pc = .ok (.ishr, 1))  (k : am_At mi (pc + 1) ls (vi (Int32.ofInt x >>> (Int32.ofInt y &&& 31)).toInt :: stk) K M Q) : am_At mi pc ls (vi y :: vi x :: stk) K M Q := by
  intro p l e s m args below meth c Z A D G0 K0 M0 G H locs rl hS hY hL hk hR
  obtain ⟨hy, hk⟩ := List.forall_mem_cons.mp hk
  obtain ⟨hx, hk⟩ := List.forall_mem_cons.mp hk
  have h := k _ _ _ _ _ _ _ _ _ _ _ _ _ _ _ _ _ _ _ hS hY hL (List.forall_mem_cons.mpr ⟨am_i32_of _, hk⟩) hR
  refine lv_ishr hS.1 hS.2.1 hd ?_
  rw [List.map_cons, show am_cv G (vi (Int32.ofInt x >>> (Int32.ofInt y &&& 31)).toInt) = .int (Int32.ofInt x >>> (Int32.ofInt y &&& 31)) from congrArg Value.int (Int32.ofInt_toInt _)] at h
  exact h
theorem s_land {mi : am_I} {pc : Nat} {ls : am_L} {stk : List am_V} {K : am_K} {M : am_M} {Q : am_Q} {x y : Int} (hd : decode (am_cc mi) pc = .ok (.land, 1))  (k : am_At mi (pc + 1) ls (vl (Int64.ofInt x &&& Int64.ofInt y).toInt :: stk) K M Q) : am_At mi pc ls (vl y :: vl x :: stk) K M Q := by
  intro p l e s m args below meth c Z A D G0 K0 M0 G H locs rl hS hY hL hk hR
  obtain ⟨hy, hk⟩ := List.forall_mem_cons.mp hk
  obtain ⟨hx, hk⟩ := List.forall_mem_cons.mp hk
  have h := k _ _ _ _ _ _ _ _ _ _ _ _ _ _ _ _ _ _ _ hS hY hL (List.forall_mem_cons.mpr ⟨am_i64_of _, hk⟩) hR
  refine lv_land hS.1 hS.2.1 hd ?_
  rw [List.map_cons, show am_cv G (vl (Int64.ofInt x &&& Int64.ofInt y).toInt) = .long (Int64.ofInt x &&& Int64.ofInt y) from congrArg Value.long (Int64.ofInt_toInt _)] at h
  exact h
theorem s_lor {mi : am_I} {pc : Nat} {ls : am_L} {stk : List am_V} {K : am_K} {M : am_M} {Q : am_Q} {x y : Int} (hd : decode (am_cc mi) pc = .ok (.lor, 1))  (k : am_At mi (pc + 1) ls (vl (Int64.ofInt x ||| Int64.ofInt y).toInt :: stk) K M Q) : am_At mi pc ls (vl y :: vl x :: stk) K M Q := by
  intro p l e s m args below meth c Z A D G0 K0 M0 G H locs rl hS hY hL hk hR
  obtain ⟨hy, hk⟩ := List.forall_mem_cons.mp hk
  obtain ⟨hx, hk⟩ := List.forall_mem_cons.mp hk
  have h := k _ _ _ _ _ _ _ _ _ _ _ _ _ _ _ _ _ _ _ hS hY hL (List.forall_mem_cons.mpr ⟨am_i64_of _, hk⟩) hR
  refine lv_lor hS.1 hS.2.1 hd ?_
  rw [List.map_cons, show am_cv G (vl (Int64.ofInt x ||| Int64.ofInt y).toInt) = .long (Int64.ofInt x ||| Int64.ofInt y) from congrArg Value.long (Int64.ofInt_toInt _)] at h
  exact h
theorem s_lshl {mi : am_I} {pc : Nat} {ls : am_L} {stk : List am_V} {K : am_K} {M : am_M} {Q : am_Q} {x y : Int} (hd : decode (am_cc mi) pc = .ok (.lshl, 1))  (k : am_At mi (pc + 1) ls (vl (Int64.ofInt x <<< ((Int32.ofInt y).toInt64 &&& 63)).toInt :: stk) K M Q) : am_At mi pc ls (vi y :: vl x :: stk) K M Q := by
  intro p l e s m args below meth c Z A D G0 K0 M0 G H locs rl hS hY hL hk hR
  obtain ⟨hy, hk⟩ := List.forall_mem_cons.mp hk
  obtain ⟨hx, hk⟩ := List.forall_mem_cons.mp hk
  have h := k _ _ _ _ _ _ _ _ _ _ _ _ _ _ _ _ _ _ _ hS hY hL (List.forall_mem_cons.mpr ⟨am_i64_of _, hk⟩) hR
  refine lv_lshl hS.1 hS.2.1 hd rfl ?_
  rw [List.map_cons, show am_cv G (vl (Int64.ofInt x <<< ((Int32.ofInt y).toInt64 &&& 63)).toInt) = .long (Int64.ofInt x <<< ((Int32.ofInt y).toInt64 &&& 63)) from congrArg Value.long (Int64.ofInt_toInt _)] at h
  exact h
theorem s_i2l {mi : am_I} {pc : Nat} {ls : am_L} {stk : List am_V} {K : am_K} {M : am_M} {Q : am_Q} {x : Int} (hd : decode (am_cc mi) pc = .ok (.i2l, 1))  (k : am_At mi (pc + 1) ls (vl x :: stk) K M Q) : am_At mi pc ls (vi x :: stk) K M Q := by
  intro p l e s m args below meth c Z A D G0 K0 M0 G H locs rl hS hY hL hk hR
  obtain ⟨hx, hk⟩ := List.forall_mem_cons.mp hk
  exact lv_i2l hS.1 hS.2.1 hd (am_i2l hx) (k _ _ _ _ _ _ _ _ _ _ _ _ _ _ _ _ _ _ _ hS hY hL (List.forall_mem_cons.mpr ⟨am_i64_of32 hx, hk⟩) hR)
theorem s_lcmp {mi : am_I} {pc : Nat} {ls : am_L} {stk : List am_V} {K : am_K} {M : am_M} {Q : am_Q} {x y : Int} (hd : decode (am_cc mi) pc = .ok (.lcmp, 1))  (k : am_At mi (pc + 1) ls (vi (if y < x then 1 else if x = y then 0 else -1) :: stk) K M Q) : am_At mi pc ls (vl y :: vl x :: stk) K M Q := by
  intro p l e s m args below meth c Z A D G0 K0 M0 G H locs rl hS hY hL hk hR
  obtain ⟨hy, hk⟩ := List.forall_mem_cons.mp hk
  obtain ⟨hx, hk⟩ := List.forall_mem_cons.mp hk
  have h := k _ _ _ _ _ _ _ _ _ _ _ _ _ _ _ _ _ _ _ hS hY hL (List.forall_mem_cons.mpr ⟨am_cmp_ok, hk⟩) hR
  refine W.lcmp hS.1 hS.2.1 hd ?_
  rw [am_cmp hx hy]
  exact h
theorem s_dupi {mi : am_I} {pc : Nat} {ls : am_L} {stk : List am_V} {K : am_K} {M : am_M} {Q : am_Q} {x : Int} (hd : decode (am_cc mi) pc = .ok (.dup, 1))  (k : am_At mi (pc + 1) ls (vi x :: vi x :: stk) K M Q) : am_At mi pc ls (vi x :: stk) K M Q := by
  intro p l e s m args below meth c Z A D G0 K0 M0 G H locs rl hS hY hL hk hR
  obtain ⟨hx, hk⟩ := List.forall_mem_cons.mp hk
  exact lv_dup hS.1 hS.2.1 hd am_cat (k _ _ _ _ _ _ _ _ _ _ _ _ _ _ _ _ _ _ _ hS hY hL (List.forall_mem_cons.mpr ⟨hx, List.forall_mem_cons.mpr ⟨hx, hk⟩⟩) hR)
theorem s_dupr {mi : am_I} {pc : Nat} {ls : am_L} {stk : List am_V} {K : am_K} {M : am_M} {Q : am_Q} {x : Int} (hd : decode (am_cc mi) pc = .ok (.dup, 1))  (k : am_At mi (pc + 1) ls (vr x :: vr x :: stk) K M Q) : am_At mi pc ls (vr x :: stk) K M Q := by
  intro p l e s m args below meth c Z A D G0 K0 M0 G H locs rl hS hY hL hk hR
  obtain ⟨hx, hk⟩ := List.forall_mem_cons.mp hk
  exact lv_dup hS.1 hS.2.1 hd am_cat (k _ _ _ _ _ _ _ _ _ _ _ _ _ _ _ _ _ _ _ hS hY hL (List.forall_mem_cons.mpr ⟨hx, List.forall_mem_cons.mpr ⟨hx, hk⟩⟩) hR)
theorem s_popi {mi : am_I} {pc : Nat} {ls : am_L} {stk : List am_V} {K : am_K} {M : am_M} {Q : am_Q} {x : Int} (hd : decode (am_cc mi) pc = .ok (.pop, 1))  (k : am_At mi (pc + 1) ls (stk) K M Q) : am_At mi pc ls (vi x :: stk) K M Q := by
  intro p l e s m args below meth c Z A D G0 K0 M0 G H locs rl hS hY hL hk hR
  obtain ⟨hx, hk⟩ := List.forall_mem_cons.mp hk
  exact lv_pop hS.1 hS.2.1 hd am_cat (k _ _ _ _ _ _ _ _ _ _ _ _ _ _ _ _ _ _ _ hS hY hL hk hR)
theorem s_dup2 {mi : am_I} {pc : Nat} {ls : am_L} {stk : List am_V} {K : am_K} {M : am_M} {Q : am_Q} {x y : Int} (hd : decode (am_cc mi) pc = .ok (.dup2, 1))  (k : am_At mi (pc + 1) ls (vi y :: vr x :: vi y :: vr x :: stk) K M Q) : am_At mi pc ls (vi y :: vr x :: stk) K M Q := by
  intro p l e s m args below meth c Z A D G0 K0 M0 G H locs rl hS hY hL hk hR
  obtain ⟨hy, hk⟩ := List.forall_mem_cons.mp hk
  obtain ⟨hx, hk⟩ := List.forall_mem_cons.mp hk
  exact lv_dup2_11 hS.1 hS.2.1 hd am_cat am_cat (k _ _ _ _ _ _ _ _ _ _ _ _ _ _ _ _ _ _ _ hS hY hL (List.forall_mem_cons.mpr ⟨hy, List.forall_mem_cons.mpr ⟨hx, List.forall_mem_cons.mpr ⟨hy, List.forall_mem_cons.mpr ⟨hx, hk⟩⟩⟩⟩) hR)
theorem s_if_eq {mi : am_I} {pc : Nat} {ls : am_L} {stk : List am_V} {K : am_K} {M : am_M} {Q : am_Q} {x : Int} {off : Int} {tgt : Nat} (hd : decode (am_cc mi) pc = .ok (.ifCond .eq off, 3)) (ht : (pc : Int) + off = (tgt : Int)) (k1 : x = 0 → am_At mi tgt ls stk K M Q) (k2 : ¬ (x = 0) → am_At mi (pc + 3) ls stk K M Q) : am_At mi pc ls (vi x :: stk) K M Q := by
  intro p l e s m args below meth c Z A D G0 K0 M0 G H locs rl hS hY hL hk hR
  obtain ⟨hx, hk⟩ := List.forall_mem_cons.mp hk
  exact lv_if_eq hS.1 hS.2.1 hd ht (fun h => k1 ((am_eq hx am_i32_0).mp h) _ _ _ _ _ _ _ _ _ _ _ _ _ _ _ _ _ _ _ hS hY hL hk hR) (fun h => k2 (fun q => h ((am_eq hx am_i32_0).mpr q)) _ _ _ _ _ _ _ _ _ _ _ _ _ _ _ _ _ _ _ hS hY hL hk hR)
theorem s_if_ne {mi : am_I} {pc : Nat} {ls : am_L} {stk : List am_V} {K : am_K} {M : am_M} {Q : am_Q} {x : Int} {off : Int} {tgt : Nat} (hd : decode (am_cc mi) pc = .ok (.ifCond .ne off, 3)) (ht : (pc : Int) + off = (tgt : Int)) (k1 : ¬ x = 0 → am_At mi tgt ls stk K M Q) (k2 : x = 0 → am_At mi (pc + 3) ls stk K M Q) : am_At mi pc ls (vi x :: stk) K M Q := by
  intro p l e s m args below meth c Z A D G0 K0 M0 G H locs rl hS hY hL hk hR
  obtain ⟨hx, hk⟩ := List.forall_mem_cons.mp hk
  exact lv_if_ne hS.1 hS.2.1 hd ht (fun h => k1 ((not_congr (am_eq hx am_i32_0)).mp h) _ _ _ _ _ _ _ _ _ _ _ _ _ _ _ _ _ _ _ hS hY hL hk hR) (fun h => k2 ((am_eq hx am_i32_0).mp h) _ _ _ _ _ _ _ _ _ _ _ _ _ _ _ _ _ _ _ hS hY hL hk hR)
theorem s_if_lt {mi : am_I} {pc : Nat} {ls : am_L} {stk : List am_V} {K : am_K} {M : am_M} {Q : am_Q} {x : Int} {off : Int} {tgt : Nat} (hd : decode (am_cc mi) pc = .ok (.ifCond .lt off, 3)) (ht : (pc : Int) + off = (tgt : Int)) (k1 : x < 0 → am_At mi tgt ls stk K M Q) (k2 : ¬ (x < 0) → am_At mi (pc + 3) ls stk K M Q) : am_At mi pc ls (vi x :: stk) K M Q := by
  intro p l e s m args below meth c Z A D G0 K0 M0 G H locs rl hS hY hL hk hR
  obtain ⟨hx, hk⟩ := List.forall_mem_cons.mp hk
  exact lv_if_lt hS.1 hS.2.1 hd ht (fun h => k1 ((am_lt hx am_i32_0).mp h) _ _ _ _ _ _ _ _ _ _ _ _ _ _ _ _ _ _ _ hS hY hL hk hR) (fun h => k2 (fun q => h ((am_lt hx am_i32_0).mpr q)) _ _ _ _ _ _ _ _ _ _ _ _ _ _ _ _ _ _ _ hS hY hL hk hR)
theorem s_if_ge {mi : am_I} {pc : Nat} {ls : am_L} {stk : List am_V} {K : am_K} {M : am_M} {Q : am_Q} {x : Int} {off : Int} {tgt : Nat} (hd : decode (am_cc mi) pc = .ok (.ifCond .ge off, 3)) (ht : (pc : Int) + off = (tgt : Int)) (k1 : 0 ≤ x → am_At mi tgt ls stk K M Q) (k2 : ¬ (0 ≤ x) → am_At mi (pc + 3) ls stk K M Q) : am_At mi pc ls (vi x :: stk) K M Q := by
  intro p l e s m args below meth c Z A D G0 K0 M0 G H locs rl hS hY hL hk hR
  obtain ⟨hx, hk⟩ := List.forall_mem_cons.mp hk
  exact lv_if_ge hS.1 hS.2.1 hd ht (fun h => k1 ((am_le am_i32_0 hx).mp h) _ _ _ _ _ _ _ _ _ _ _ _ _ _ _ _ _ _ _ hS hY hL hk hR) (fun h => k2 (fun q => h ((am_le am_i32_0 hx).mpr q)) _ _ _ _ _ _ _ _ _ _ _ _ _ _ _ _ _ _ _ hS hY hL hk hR)
theorem s_if_gt {mi : am_I} {pc : Nat} {ls : am_L} {stk : List am_V} {K : am_K} {M : am_M} {Q : am_Q} {x : Int} {off : Int} {tgt : Nat} (hd : decode (am_cc mi) pc = .ok (.ifCond .gt off, 3)) (ht : (pc : Int) + off = (tgt : Int)) (k1 : 0 < x → am_At mi tgt ls stk K M Q) (k2 : ¬ (0 < x) → am_At mi (pc + 3) ls stk K M Q) : am_At mi pc ls (vi x :: stk) K M Q := by
  intro p l e s m args below meth c Z A D G0 K0 M0 G H locs rl hS hY hL hk hR
  obtain ⟨hx, hk⟩ := List.forall_mem_cons.mp hk
  exact lv_if_gt hS.1 hS.2.1 hd ht (fun h => k1 ((am_lt am_i32_0 hx).mp h) _ _ _ _ _ _ _ _ _ _ _ _ _ _ _ _ _ _ _ hS hY hL hk hR) (fun h => k2 (fun q => h ((am_lt am_i32_0 hx).mpr q)) _ _ _ _ _ _ _ _ _ _ _ _ _ _ _ _ _ _ _ hS hY hL hk hR)
theorem s_if_le {mi : am_I} {pc : Nat} {ls : am_L} {stk : List am_V} {K : am_K} {M : am_M} {Q : am_Q} {x : Int} {off : Int} {tgt : Nat} (hd : decode (am_cc mi) pc = .ok (.ifCond .le off, 3)) (ht : (pc : Int) + off = (tgt : Int)) (k1 : x ≤ 0 → am_At mi tgt ls stk K M Q) (k2 : ¬ (x ≤ 0) → am_At mi (pc + 3) ls stk K M Q) : am_At mi pc ls (vi x :: stk) K M Q := by
  intro p l e s m args below meth c Z A D G0 K0 M0 G H locs rl hS hY hL hk hR
  obtain ⟨hx, hk⟩ := List.forall_mem_cons.mp hk
  exact lv_if_le hS.1 hS.2.1 hd ht (fun h => k1 ((am_le hx am_i32_0).mp h) _ _ _ _ _ _ _ _ _ _ _ _ _ _ _ _ _ _ _ hS hY hL hk hR) (fun h => k2 (fun q => h ((am_le hx am_i32_0).mpr q)) _ _ _ _ _ _ _ _ _ _ _ _ _ _ _ _ _ _ _ hS hY hL hk hR)
theorem s_icmp_eq {mi : am_I} {pc : Nat} {ls : am_L} {stk : List am_V} {K : am_K} {M : am_M} {Q : am_Q} {x y : Int} {off : Int} {tgt : Nat} (hd : decode (am_cc mi) pc = .ok (.if_icmp .eq off, 3)) (ht : (pc : Int) + off = (tgt : Int)) (k1 : x = y → am_At mi tgt ls stk K M Q) (k2 : ¬ (x = y) → am_At mi (pc + 3) ls stk K M Q) : am_At mi pc ls (vi y :: vi x :: stk) K M Q := by
  intro p l e s m args below meth c Z A D G0 K0 M0 G H locs rl hS hY hL hk hR
  obtain ⟨hy, hk⟩ := List.forall_mem_cons.mp hk
  obtain ⟨hx, hk⟩ := List.forall_mem_cons.mp hk
  exact lv_icmp_eq hS.1 hS.2.1 hd ht (fun h => k1 ((am_eq hx hy).mp h) _ _ _ _ _ _ _ _ _ _ _ _ _ _ _ _ _ _ _ hS hY hL hk hR) (fun h => k2 (fun q => h ((am_eq hx hy).mpr q)) _ _ _ _ _ _ _ _ _ _ _ _ _ _ _ _ _ _ _ hS hY hL hk hR)
theorem s_icmp_ne {mi : am_I} {pc : Nat} {ls : am_L} {stk : List am_V} {K : am_K} {M : am_M} {Q : am_Q} {x y : Int} {off : Int} {tgt : Nat} (hd : decode (am_cc mi) pc = .ok (.if_icmp .ne off, 3)) (ht : (pc : Int) + off = (tgt : Int)) (k1 : ¬ x = y → am_At mi tgt ls stk K M Q) (k2 : x = y → am_At mi (pc + 3) ls stk K M Q) : am_At mi pc ls (vi y :: vi x :: stk) K M Q := by
  intro p l e s m args below meth c Z A D G0 K0 M0 G H locs rl hS hY hL hk hR
  obtain ⟨hy, hk⟩ := List.forall_mem_cons.mp hk
  obtain ⟨hx, hk⟩ := List.forall_mem_cons.mp hk
  exact lv_icmp_ne hS.1 hS.2.1 hd ht (fun h => k1 ((not_congr (am_eq hx hy)).mp h) _ _ _ _ _ _ _ _ _ _ _ _ _ _ _ _ _ _ _ hS hY hL hk hR) (fun h => k2 ((am_eq hx hy).mp h) _ _ _ _ _ _ _ _ _ _ _ _ _ _ _ _ _ _ _ hS hY hL hk hR)
theorem s_icmp_lt {mi : am_I} {pc : Nat} {ls : am_L} {stk : List am_V} {K : am_K} {M : am_M} {Q : am_Q} {x y : Int} {off : Int} {tgt : Nat} (hd : decode (am_cc mi) pc = .ok (.if_icmp .lt off, 3)) (ht : (pc : Int) + off = (tgt : Int)) (k1 : x < y → am_At mi tgt ls stk K M Q) (k2 : ¬ (x < y) → am_At mi (pc + 3) ls stk K M Q) : am_At mi pc ls (vi y :: vi x :: stk) K M Q := by
  intro p l e s m args below meth c Z A D G0 K0 M0 G H locs rl hS hY hL hk hR
  obtain ⟨hy, hk⟩ := List.forall_mem_cons.mp hk
  obtain ⟨hx, hk⟩ := List.forall_mem_cons.mp hk
  exact lv_icmp_lt hS.1 hS.2.1 hd ht (fun h => k1 ((am_lt hx hy).mp h) _ _ _ _ _ _ _ _ _ _ _ _ _ _ _ _ _ _ _ hS hY hL hk hR) (fun h => k2 (fun q => h ((am_lt hx hy).mpr q)) _ _ _ _ _ _ _ _ _ _ _ _ _ _ _ _ _ _ _ hS hY hL hk hR)
theorem s_icmp_ge {mi : am_I} {pc : Nat} {ls : am_L} {stk : List am_V} {K : am_K} {M : am_M} {Q : am_Q} {x y : Int} {off : Int} {tgt : Nat} (hd : decode (am_cc mi) pc = .ok (.if_icmp .ge off, 3)) (ht : (pc : Int) + off = (tgt : Int)) (k1 : y ≤ x → am_At mi tgt ls stk K M Q) (k2 : ¬ (y ≤ x) → am_At mi (pc + 3) ls stk K M Q) : am_At mi pc ls (vi y :: vi x :: stk) K M Q := by
  intro p l e s m args below meth c Z A D G0 K0 M0 G H locs rl hS hY hL hk hR
  obtain ⟨hy, hk⟩ := List.forall_mem_cons.mp hk
  obtain ⟨hx, hk⟩ := List.forall_mem_cons.mp hk
  exact lv_icmp_ge hS.1 hS.2.1 hd ht (fun h => k1 ((am_le hy hx).mp h) _ _ _ _ _ _ _ _ _ _ _ _ _ _ _ _ _ _ _ hS hY hL hk hR) (fun h => k2 (fun q => h ((am_le hy hx).mpr q)) _ _ _ _ _ _ _ _ _ _ _ _ _ _ _ _ _ _ _ hS hY hL hk hR)
theorem s_icmp_gt {mi : am_I} {pc : Nat} {ls : am_L} {stk : List am_V} {K : am_K} {M : am_M} {Q : am_Q} {x y : Int} {off : Int} {tgt : Nat} (hd : decode (am_cc mi) pc = .ok (.if_icmp .gt off, 3)) (ht : (pc : Int) + off = (tgt : Int)) (k1 : y < x → am_At mi tgt ls stk K M Q) (k2 : ¬ (y < x) → am_At mi (pc + 3) ls stk K M Q) : am_At mi pc ls (vi y :: vi x :: stk) K M Q := by
  intro p l e s m args below meth c Z A D G0 K0 M0 G H locs rl hS hY hL hk hR
  obtain ⟨hy, hk⟩ := List.forall_mem_cons.mp hk
  obtain ⟨hx, hk⟩ := List.forall_mem_cons.mp hk
  exact lv_icmp_gt hS.1 hS.2.1 hd ht (fun h => k1 ((am_lt hy hx).mp h) _ _ _ _ _ _ _ _ _ _ _ _ _ _ _ _ _ _ _ hS hY hL hk hR) (fun h => k2 (fun q => h ((am_lt hy hx).mpr q)) _ _ _ _ _ _ _ _ _ _ _ _ _ _ _ _ _ _ _ hS hY hL hk hR)
theorem s_icmp_le {mi : am_I} {pc : Nat} {ls : am_L} {stk : List am_V} {K : am_K} {M : am_M} {Q : am_Q} {x y : Int} {off : Int} {tgt : Nat} (hd : decode (am_cc mi) pc = .ok (.if_icmp .le off, 3)) (ht : (pc : Int) + off = (tgt : Int)) (k1 : x ≤ y → am_At mi tgt ls stk K M Q) (k2 : ¬ (x ≤ y) → am_At mi (pc + 3) ls stk K M Q) : am_At mi pc ls (vi y :: vi x :: stk) K M Q := by
  intro p l e s m args below meth c Z A D G0 K0 M0 G H locs rl hS hY hL hk hR
  obtain ⟨hy, hk⟩ := List.forall_mem_cons.mp hk
  obtain ⟨hx, hk⟩ := List.forall_mem_cons.mp hk
  exact lv_icmp_le hS.1 hS.2.1 hd ht (fun h => k1 ((am_le hx hy).mp h) _ _ _ _ _ _ _ _ _ _ _ _ _ _ _ _ _ _ _ hS hY hL hk hR) (fun h => k2 (fun q => h ((am_le hx hy).mpr q)) _ _ _ _ _ _ _ _ _ _ _ _ _ _ _ _ _ _ _ hS hY hL hk hR)
theorem s_goto {mi : am_I} {pc : Nat} {ls : am_L} {stk : List am_V} {K : am_K} {M : am_M} {Q : am_Q} {off : Int} {tgt : Nat} (hd : decode (am_cc mi) pc = .ok (.goto off, 3)) (ht : (pc : Int) + off = (tgt : Int)) (k : am_At mi tgt ls stk K M Q) : am_At mi pc ls stk K M Q := by
  intro p l e s m args below meth c Z A D G0 K0 M0 G H locs rl hS hY hL hk hR
  exact lv_goto hS.1 hS.2.1 hd ht (k _ _ _ _ _ _ _ _ _ _ _ _ _ _ _ _ _ _ _ hS hY hL hk hR)
theorem s_ifnull {mi : am_I} {pc : Nat} {ls : am_L} {stk : List am_V} {K : am_K} {M : am_M} {Q : am_Q} {x : Int} {off : Int} {tgt : Nat} (hd : decode (am_cc mi) pc = .ok (.ifnull off, 3)) (ht : (pc : Int) + off = (tgt : Int)) (k1 : x = -1 → am_At mi tgt ls stk K M Q) (k2 : ¬ x = -1 → am_At mi (pc + 3) ls stk K M Q) : am_At mi pc ls (vr x :: stk) K M Q := by
  intro p l e s m args below meth c Z A D G0 K0 M0 G H locs rl hS hY hL hk hR
  obtain ⟨hx, hk⟩ := List.forall_mem_cons.mp hk
  rw [List.map_cons]
  by_cases h1 : x = -1
  · rw [show am_cv G (vr x) = .null from by rw [h1]; rfl]
    exact lv_ifnullN hS.1 hS.2.1 hd ht (k1 h1 _ _ _ _ _ _ _ _ _ _ _ _ _ _ _ _ _ _ _ hS hY hL hk hR)
  · obtain ⟨r, hr⟩ := am_cvr_ref (G := G) (x := x) hx.1 h1
    rw [hr]
    exact lv_ifnull hS.1 hS.2.1 hd (k2 h1 _ _ _ _ _ _ _ _ _ _ _ _ _ _ _ _ _ _ _ hS hY hL hk hR)
theorem s_ifnonnull {mi : am_I} {pc : Nat} {ls : am_L} {stk : List am_V} {K : am_K} {M : am_M} {Q : am_Q} {x : Int} {off : Int} {tgt : Nat} (hd : decode (am_cc mi) pc = .ok (.ifnonnull off, 3)) (ht : (pc : Int) + off = (tgt : Int)) (k1 : ¬ x = -1 → am_At mi tgt ls stk K M Q) (k2 : x = -1 → am_At mi (pc + 3) ls stk K M Q) : am_At mi pc ls (vr x :: stk) K M Q := by
  intro p l e s m args below meth c Z A D G0 K0 M0 G H locs rl hS hY hL hk hR
  obtain ⟨hx, hk⟩ := List.forall_mem_cons.mp hk
  rw [List.map_cons]
  by_cases h1 : x = -1
  · rw [show am_cv G (vr x) = .null from by rw [h1]; rfl]
    exact lv_ifnonnullN hS.1 hS.2.1 hd (k2 h1 _ _ _ _ _ _ _ _ _ _ _ _ _ _ _ _ _ _ _ hS hY hL hk hR)
  · obtain ⟨r, hr⟩ := am_cvr_ref (G := G) (x := x) hx.1 h1
    rw [hr]
    exact lv_ifnonnull hS.1 hS.2.1 hd ht (k1 h1 _ _ _ _ _ _ _ _ _ _ _ _ _ _ _ _ _ _ _ hS hY hL hk hR)
theorem s_tableOut {mi : am_I} {pc : Nat} {ls : am_L} {stk : List am_V} {K : am_K} {M : am_M} {Q : am_Q} {x : Int} {dflt lo hi : Int} {offs : Array Int} {len tgt : Nat} (hd : decode (am_cc mi) pc = .ok (.tableswitch dflt lo hi offs, len)) (h : x < lo ∨ hi < x) (ht : (pc : Int) + dflt = (tgt : Int)) (k : am_At mi tgt ls stk K M Q) : am_At mi pc ls (vi x :: stk) K M Q := by
  intro p l e s m args below meth c Z A D G0 K0 M0 G H locs rl hS hY hL hk hR
  obtain ⟨hx, hk⟩ := List.forall_mem_cons.mp hk
  exact lv_tableOut hS.1 hS.2.1 hd (by rw [am_toInt hx]; exact h) ht (k _ _ _ _ _ _ _ _ _ _ _ _ _ _ _ _ _ _ _ hS hY hL hk hR)
theorem s_tableIn {mi : am_I} {pc : Nat} {ls : am_L} {stk : List am_V} {K : am_K} {M : am_M} {Q : am_Q} {x : Int} {dflt lo hi : Int} {offs : Array Int} {len tgt : Nat} {off : Int} (hd : decode (am_cc mi) pc = .ok (.tableswitch dflt lo hi offs, len)) (n : Nat) (h1 : x = lo + n) (h2 : lo + n ≤ hi) (ho : offs[n]? = some off) (ht : (pc : Int) + off = (tgt : Int)) (k : am_At mi tgt ls stk K M Q) : am_At mi pc ls (vi x :: stk) K M Q := by
  intro p l e s m args below meth c Z A D G0 K0 M0 G H locs rl hS hY hL hk hR
  obtain ⟨hx, hk⟩ := List.forall_mem_cons.mp hk
  exact lv_tableIn hS.1 hS.2.1 hd (by rw [am_toInt hx]; omega) (by rw [am_toInt hx]; omega) (by rw [am_toInt hx, show (x - lo).toNat = n from by omega]; exact ho) ht (k _ _ _ _ _ _ _ _ _ _ _ _ _ _ _ _ _ _ _ hS hY hL hk hR)
theorem s_ireturn {mi : am_I} {pc : Nat} {ls : am_L} {K : am_K} {M : am_M} {Q : am_Q} {x : Int} (hd : decode (am_cc mi) pc = .ok (.ireturn, 1)) (hr : am_rt mi = some .int) (k : Q (some (vi x)) K M) : am_At mi pc ls [vi x] K M Q := by
  intro p l e s m args below meth c Z A D G0 K0 M0 G H locs rl hS hY hL hk hR
  exact hR (some (vi x)) K M G H locs pc rl k hY hk ⟨hd, Or.inl hr⟩
theorem s_zreturn {mi : am_I} {pc : Nat} {ls : am_L} {K : am_K} {M : am_M} {Q : am_Q} {x : Int} (hd : decode (am_cc mi) pc = .ok (.ireturn, 1)) (hr : am_rt mi = some .boolean) (h01 : x = 0 ∨ x = 1) (k : Q (some (vi x)) K M) : am_At mi pc ls [vi x] K M Q := by
  intro p l e s m args below meth c Z A D G0 K0 M0 G H locs rl hS hY hL hk hR
  exact hR (some (vi x)) K M G H locs pc rl k hY hk ⟨hd, Or.inr ⟨hr, h01⟩⟩
theorem s_lreturn {mi : am_I} {pc : Nat} {ls : am_L} {K : am_K} {M : am_M} {Q : am_Q} {x : Int} (hd : decode (am_cc mi) pc = .ok (.lreturn, 1)) (hr : am_rt mi = some .long) (k : Q (some (vl x)) K M) : am_At mi pc ls [vl x] K M Q := by
  intro p l e s m args below meth c Z A D G0 K0 M0 G H locs rl hS hY hL hk hR
  exact hR (some (vl x)) K M G H locs pc rl k hY hk ⟨hd, hr⟩
theorem s_areturn {mi : am_I} {pc : Nat} {ls : am_L} {K : am_K} {M : am_M} {Q : am_Q} {x : Int} (hd : decode (am_cc mi) pc = .ok (.areturn, 1)) (hr : ∃ n, am_rt mi = some (.object n)) (h01 : -1 ≤ x) (k : Q (some (vr x)) K M) : am_At mi pc ls [vr x] K M Q := by
  intro p l e s m args below meth c Z A D G0 K0 M0 G H locs rl hS hY hL hk hR
  exact hR (some (vr x)) K M G H locs pc rl k hY hk ⟨hd, hr, h01⟩
theorem s_return {mi : am_I} {pc : Nat} {ls : am_L} {K : am_K} {M : am_M} {Q : am_Q} (hd : decode (am_cc mi) pc = .ok (.return_, 1)) (hr : am_rt mi = none) (k : Q none K M) : am_At mi pc ls [] K M Q := by
  intro p l e s m args below meth c Z A D G0 K0 M0 G H locs rl hS hY hL hk hR
  exact hR none K M G H locs pc rl k hY hk ⟨hr, hd⟩
end
section
/-! ===== arrays and fields ===== -/
theorem am_cv_ref {G : am_G} {a : Int} (h : 0 ≤ a) : am_cv G (vr a) = .ref (G.1 a.toNat) := by
  show (if a = -2 then Value.ref G.2.2 else va_rf (am_rf G a)) = _
  rw [if_neg (by omega)]
  unfold am_rf
  rw [if_neg (by omega)]
  rfl
theorem am_cv_rf {G : am_G} {a : Int} (h : -1 ≤ a) : am_cv G (vr a) = va_rf (am_rf G a) := by
  show (if a = -2 then Value.ref G.2.2 else va_rf (am_rf G a)) = _
  rw [if_neg (by omega)]
theorem am_up_hit {M : am_M} {a i v : Int} : am_up M a i v a i = v := by simp [am_up]
theorem am_up_cell {M : am_M} {a i v : Int} {j : Nat} (h : (j : Int) ≠ a) : am_up M a i v j = M j := by
  funext q
  simp [am_up, h]
theorem am_Y_up {mi : am_I} {s : State} {A : Nat → Prop} {D : va_G} {G0 : am_G} {K0 : am_K} {M0 : am_M} {G : am_G} {K : am_K} {M : am_M} {H : Heap} {locs : List Loc} {a i v : Int} {e : am_C} {H1 : Heap} {locs1 : List Loc} {x : va_E}
    (hY : am_Y mi s A D G0 K0 M0 G K M H locs) (hk : am_kd K a = some e) (hm : am_mok K (am_up M a i v)) (hx : am_en G (am_up M a i v) a.toNat e = x)
    (hP : va_P D vwCl ((am_wo G K M).set a.toNat (G.1 a.toNat, x)) H1) (hD : va_D A ((am_wo G K M).set a.toNat (G.1 a.toNat, x))) (hS : va_S A s.heap H1 locs1) : am_Y mi s A D G0 K0 M0 G K (am_up M a i v) H1 locs1 := by
  obtain ⟨ha0, ha1, ha2, ha3⟩ := am_kd_at hk
  obtain ⟨⟨y1, y2, y3, y4, y5⟩, ⟨y6, y7, y8, y9, y10⟩, y11, y12, y13⟩ := hY
  have hw : am_wo G K (am_up M a i v) = (am_wo G K M).set a.toNat (G.1 a.toNat, x) := by
    rw [am_wo_set (K := K) (M := M) (i := a.toNat) (e' := e) rfl (fun _ _ => rfl) ha1 (fun j hj => am_up_cell (by omega)), hx]
  refine ⟨⟨y1, by rw [hw]; exact hP, by rw [hw]; exact hD, hS, hm⟩, ⟨y6, y7, y8, y9, fun b j hb => ?_⟩, y11, y12, y13⟩
  rw [← y10 b j hb]
  simp [am_up, show b ≠ a by omega]
section AM
variable {mi : am_I} {pc : Nat} {ls : am_L} {stk : List am_V} {K : am_K} {M : am_M} {Q : am_Q}
theorem s_iaload {a i : Int} {n : Nat} {rs : List Int} (hd : decode (am_cc mi) pc = .ok (.iaload, 1)) (hc : am_kd K a = some (11, n, rs)) (h0 : 0 ≤ i) (h1 : i < (n : Int)) (k : am_At mi (pc + 1) ls (vi (M a i) :: stk) K M Q) : am_At mi pc ls (vi i :: vr a :: stk) K M Q := by
  intro p l e s m args below meth c Z A D G0 K0 M0 G H locs rl hS hY hL hk hR
  obtain ⟨hi, hk⟩ := List.forall_mem_cons.mp hk
  obtain ⟨ha, hk⟩ := List.forall_mem_cons.mp hk
  obtain ⟨ha0, ha1, ha2, ha3⟩ := am_kd_at hc
  have hv := (hY.1.2.2.2.2 _ _ ha1).2.1 i
  rw [ha3] at hv
  have h := k _ _ _ _ _ _ _ _ _ _ _ _ _ _ _ _ _ _ _ hS hY hL (List.forall_mem_cons.mpr ⟨hv.2 (by simp), hk⟩) hR
  obtain ⟨t0, ht0⟩ := am_tys_at (G := G) ha1 (t := .int) rfl
  rw [List.map_cons, List.map_cons, am_cv_ref ha0]
  refine va_iald hS.1 hS.2.1 hY.1.1 hY.1.2.1 a.toNat t0 (am_wo_at ha1) ht0 (am_in hi h0 h1) hd ?_
  rw [am_clamp hi, ha3, show ((i.toNat : Nat) : Int) = i from by omega]
  exact h
theorem s_baload {a i : Int} {n : Nat} {rs : List Int} (hd : decode (am_cc mi) pc = .ok (.baload, 1)) (hc : am_kd K a = some (12, n, rs)) (h0 : 0 ≤ i) (h1 : i < (n : Int)) (k : am_At mi (pc + 1) ls (vi (M a i) :: stk) K M Q) : am_At mi pc ls (vi i :: vr a :: stk) K M Q := by
  intro p l e s m args below meth c Z A D G0 K0 M0 G H locs rl hS hY hL hk hR
  obtain ⟨hi, hk⟩ := List.forall_mem_cons.mp hk
  obtain ⟨ha, hk⟩ := List.forall_mem_cons.mp hk
  obtain ⟨ha0, ha1, ha2, ha3⟩ := am_kd_at hc
  have hv := (hY.1.2.2.2.2 _ _ ha1).2.1 i
  rw [ha3] at hv
  have h := k _ _ _ _ _ _ _ _ _ _ _ _ _ _ _ _ _ _ _ hS hY hL (List.forall_mem_cons.mpr ⟨hv.2 (by simp), hk⟩) hR
  obtain ⟨t0, ht0⟩ := am_tys_at (G := G) ha1 (t := .boolean) rfl
  rw [List.map_cons, List.map_cons, am_cv_ref ha0]
  refine va_zald hS.1 hS.2.1 hY.1.1 hY.1.2.1 a.toNat t0 (am_wo_at ha1) ht0 (am_in hi h0 h1) hd ?_
  rw [am_clamp hi, ha3, show ((i.toNat : Nat) : Int) = i from by omega]
  exact h
theorem s_laload {a i : Int} {n : Nat} {rs : List Int} (hd : decode (am_cc mi) pc = .ok (.laload, 1)) (hc : am_kd K a = some (13, n, rs)) (h0 : 0 ≤ i) (h1 : i < (n : Int)) (k : am_At mi (pc + 1) ls (vl (M a i) :: stk) K M Q) : am_At mi pc ls (vi i :: vr a :: stk) K M Q := by
  intro p l e s m args below meth c Z A D G0 K0 M0 G H locs rl hS hY hL hk hR
  obtain ⟨hi, hk⟩ := List.forall_mem_cons.mp hk
  obtain ⟨ha, hk⟩ := List.forall_mem_cons.mp hk
  obtain ⟨ha0, ha1, ha2, ha3⟩ := am_kd_at hc
  have hv := (hY.1.2.2.2.2 _ _ ha1).2.1 i
  rw [ha3] at hv
  have h := k _ _ _ _ _ _ _ _ _ _ _ _ _ _ _ _ _ _ _ hS hY hL (List.forall_mem_cons.mpr ⟨hv.1, hk⟩) hR
  obtain ⟨t0, ht0⟩ := am_tys_at (G := G) ha1 (t := .long) rfl
  rw [List.map_cons, List.map_cons, am_cv_ref ha0]
  refine va_lald hS.1 hS.2.1 hY.1.1 hY.1.2.1 a.toNat t0 (am_wo_at ha1) ht0 (am_in hi h0 h1) hd ?_
  rw [am_clamp hi, ha3, show ((i.toNat : Nat) : Int) = i from by omega]
  exact h
theorem s_aaload {a i : Int} {n tag : Nat} {rs : List Int} (hd : decode (am_cc mi) pc = .ok (.aaload, 1)) (hc : am_kd K a = some (tag, n, rs)) (htag : tag = 14 ∨ tag = 15) (h0 : 0 ≤ i) (h1 : i < (n : Int)) (k : am_At mi (pc + 1) ls (vr (rs.getD i.toNat (-1)) :: stk) K M Q) : am_At mi pc ls (vi i :: vr a :: stk) K M Q := by
  intro p l e s m args below meth c Z A D G0 K0 M0 G H locs rl hS hY hL hk hR
  obtain ⟨hi, hk⟩ := List.forall_mem_cons.mp hk
  obtain ⟨ha, hk⟩ := List.forall_mem_cons.mp hk
  obtain ⟨ha0, ha1, ha2, ha3⟩ := am_kd_at hc
  have hr : -1 ≤ rs.getD i.toNat (-1) ∧ rs.getD i.toNat (-1) < (K.1.length : Int) := by
    rcases am_getD_mem (l := rs) (k := i.toNat) with q | q
    · rw [q]
      omega
    · exact (hY.1.2.2.2.2 _ _ ha1).1 _ q
  have h := k _ _ _ _ _ _ _ _ _ _ _ _ _ _ _ _ _ _ _ hS hY hL (List.forall_mem_cons.mpr ⟨⟨by omega, hr.2⟩, hk⟩) hR
  rw [List.map_cons, am_cv_rf hr.1] at h
  rw [List.map_cons, List.map_cons, am_cv_ref ha0]
  rcases htag with rfl | rfl
  · obtain ⟨t0, ht0⟩ := am_tys_at (G := G) ha1 (t := .object "AnyLength$Sentence") rfl
    refine va_aldq hS.1 hS.2.1 hY.1.1 hY.1.2.1 a.toNat t0 (am_wo_at ha1) ht0 (am_in hi h0 h1) hd ?_
    rw [am_clamp hi]
    exact h
  · obtain ⟨t0, ht0⟩ := am_tys_at (G := G) ha1 (t := .object "AnyLength$Program") rfl
    refine va_aldq hS.1 hS.2.1 hY.1.1 hY.1.2.1 a.toNat t0 (am_wo_at ha1) ht0 (am_in hi h0 h1) hd ?_
    rw [am_clamp hi]
    exact h
theorem s_alen {a : Int} {n tag : Nat} {rs : List Int} (hd : decode (am_cc mi) pc = .ok (.arraylength, 1)) (hc : am_kd K a = some (tag, n, rs)) (htag : tag = 11) (hn : am_i32 (n : Int)) (k : am_At mi (pc + 1) ls (vi (n : Int) :: stk) K M Q) : am_At mi pc ls (vr a :: stk) K M Q := by
  intro p l e s m args below meth c Z A D G0 K0 M0 G H locs rl hS hY hL hk hR
  obtain ⟨ha, hk⟩ := List.forall_mem_cons.mp hk
  obtain ⟨ha0, ha1, ha2, ha3⟩ := am_kd_at hc
  have h := k _ _ _ _ _ _ _ _ _ _ _ _ _ _ _ _ _ _ _ hS hY hL (List.forall_mem_cons.mpr ⟨hn, hk⟩) hR
  rw [List.map_cons, am_cv_ref ha0]
  subst htag
  obtain ⟨t0, ht0⟩ := am_tys_at (G := G) ha1 (t := .int) rfl
  exact va_alen hS.1 hS.2.1 hY.1.1 hY.1.2.1 a.toNat t0 (am_wo_at ha1) ht0 (Int32.ofInt_eq_ofNat (n := n)).symm hd h
theorem s_sload {i : Int} (hsc : am_sc mi = true) (hd : decode (am_cc mi) pc = .ok (.iaload, 1)) (h0 : 0 ≤ i) (h1 : i < M (-2) (-1)) (k : am_At mi (pc + 1) ls (vi (M (-2) i) :: stk) K M Q) : am_At mi pc ls (vi i :: vr (-2) :: stk) K M Q := by
  intro p l e s m args below meth c Z A D G0 K0 M0 G H locs rl hS hY hL hk hR
  obtain ⟨hi, hk⟩ := List.forall_mem_cons.mp hk
  obtain ⟨ha, hk⟩ := List.forall_mem_cons.mp hk
  obtain ⟨L, xs, x1, x2, x3, x4, x5, x6⟩ := hY.2.2.2.2 hsc
  have e1 := hY.2.1.2.2.2.2 (-2) (-1) (by omega)
  have e2 := hY.2.1.2.2.2.2 (-2) i (by omega)
  have e3 := x6 i.toNat (by omega)
  rw [show ((i.toNat : Nat) : Int) = i from by omega] at e3
  have h := k _ _ _ _ _ _ _ _ _ _ _ _ _ _ _ _ _ _ _ hS hY hL (List.forall_mem_cons.mpr ⟨by rw [e2, e3]; exact am_i32_of _, hk⟩) hR
  rw [List.map_cons, List.map_cons, show am_cv G (vr (-2)) = .ref G0.2.2 from by rw [← hY.2.1.2.2.1]; rfl]
  refine va_sld hS.1 hS.2.1 x1 x2 x3 hY.1.2.2.2.1 (am_in hi h0 (by omega)) hd ?_
  rw [am_clamp hi]
  rw [List.map_cons, show am_cv G (vi (M (-2) i)) = .int (xs i.toNat) from by rw [e2, e3]; exact congrArg Value.int (Int32.ofInt_toInt _)] at h
  exact h
theorem s_slen (hsc : am_sc mi = true) (hd : decode (am_cc mi) pc = .ok (.arraylength, 1)) (k : am_At mi (pc + 1) ls (vi (M (-2) (-1)) :: stk) K M Q) : am_At mi pc ls (vr (-2) :: stk) K M Q := by
  intro p l e s m args below meth c Z A D G0 K0 M0 G H locs rl hS hY hL hk hR
  obtain ⟨ha, hk⟩ := List.forall_mem_cons.mp hk
  obtain ⟨L, xs, x1, x2, x3, x4, x5, x6⟩ := hY.2.2.2.2 hsc
  have e1 := hY.2.1.2.2.2.2 (-2) (-1) (by omega)
  have h := k _ _ _ _ _ _ _ _ _ _ _ _ _ _ _ _ _ _ _ hS hY hL (List.forall_mem_cons.mpr ⟨by rw [e1, x5]; exact ⟨by omega, by omega⟩, hk⟩) hR
  rw [List.map_cons, show am_cv G (vr (-2)) = .ref G0.2.2 from by rw [← hY.2.1.2.2.1]; rfl]
  refine va_slen hS.1 hS.2.1 x1 x2 x3 hY.1.2.2.2.1 hd ?_
  rw [List.map_cons, show am_cv G (vi (M (-2) (-1))) = .int (Int32.ofNat L) from by rw [e1, x5]; exact congrArg Value.int Int32.ofInt_eq_ofNat] at h
  exact h
theorem s_iastore {a i x : Int} {n : Nat} {rs : List Int} (hd : decode (am_cc mi) pc = .ok (.iastore, 1)) (hc : am_kd K a = some (11, n, rs)) (h0 : 0 ≤ i) (h1 : i < (n : Int)) (k : am_At mi (pc + 1) ls stk K (am_up M a i x) Q) : am_At mi pc ls (vi x :: vi i :: vr a :: stk) K M Q := by
  intro p l e s m args below meth c Z A D G0 K0 M0 G H locs rl hS hY hL hk hR
  obtain ⟨hx, hk⟩ := List.forall_mem_cons.mp hk
  obtain ⟨hi, hk⟩ := List.forall_mem_cons.mp hk
  obtain ⟨ha, hk⟩ := List.forall_mem_cons.mp hk
  obtain ⟨ha0, ha1, ha2, ha3⟩ := am_kd_at hc
  obtain ⟨t0, ht0⟩ := am_tys_at (G := G) ha1 (t := .int) rfl
  rw [List.map_cons, List.map_cons, List.map_cons, am_cv_ref ha0]
  refine va_iast hS.1 hS.2.1 hY.1.1 hY.1.2.1 hY.1.2.2.1 hY.1.2.2.2.1 a.toNat t0 (am_wo_at ha1) ht0 (am_in hi h0 h1) hd (fun H1 locs1 q1 q2 q3 => ?_)
  refine k _ _ _ _ _ _ _ _ _ _ _ _ _ _ _ _ _ _ _ hS (am_Y_up hY hc (am_mok_up hY.1.2.2.2.2 hc (am_i64_of32 hx) (fun _ => hx) (fun h => absurd h (by simp))) ?_ q1 q2 q3) hL hk hR
  show Sum.inl (G.2.1 a.toNat, n, Sum.inl (fun j : Nat => Int32.ofInt (am_up M a i x (a.toNat : Int) (j : Int)))) = _
  rw [am_clamp hi]
  congr 3
  congr 1
  funext j
  unfold upd am_up
  rw [ha3, if_pos rfl]
  by_cases hj : j = i.toNat
  · rw [if_pos (by omega), if_pos hj]
  · rw [if_neg (by omega), if_neg hj]
theorem s_bastore {a i x : Int} {n : Nat} {rs : List Int} (hd : decode (am_cc mi) pc = .ok (.bastore, 1)) (hc : am_kd K a = some (12, n, rs)) (h0 : 0 ≤ i) (h1 : i < (n : Int)) (h01 : x = 0 ∨ x = 1) (k : am_At mi (pc + 1) ls stk K (am_up M a i x) Q) : am_At mi pc ls (vi x :: vi i :: vr a :: stk) K M Q := by
  intro p l e s m args below meth c Z A D G0 K0 M0 G H locs rl hS hY hL hk hR
  obtain ⟨hx, hk⟩ := List.forall_mem_cons.mp hk
  obtain ⟨hi, hk⟩ := List.forall_mem_cons.mp hk
  obtain ⟨ha, hk⟩ := List.forall_mem_cons.mp hk
  obtain ⟨ha0, ha1, ha2, ha3⟩ := am_kd_at hc
  obtain ⟨t0, ht0⟩ := am_tys_at (G := G) ha1 (t := .boolean) rfl
  rw [List.map_cons, List.map_cons, List.map_cons, am_cv_ref ha0]
  refine va_zast hS.1 hS.2.1 hY.1.1 hY.1.2.1 hY.1.2.2.1 hY.1.2.2.2.1 a.toNat t0 (am_wo_at ha1) ht0 (am_in hi h0 h1) hd (fun H1 locs1 q1 q2 q3 => ?_)
  refine k _ _ _ _ _ _ _ _ _ _ _ _ _ _ _ _ _ _ _ hS (am_Y_up hY hc (am_mok_up hY.1.2.2.2.2 hc (am_i64_of32 hx) (fun _ => hx) (fun h => absurd h (by simp))) ?_ q1 q2 q3) hL hk hR
  show Sum.inl (G.2.1 a.toNat, n, Sum.inl (fun j : Nat => Int32.ofInt (am_up M a i x (a.toNat : Int) (j : Int)))) = _
  have hnar : vp_nar .boolean (Int32.ofInt x) = Int32.ofInt x := by rcases h01 with rfl | rfl <;> decide +kernel
  rw [am_clamp hi, hnar]
  congr 3
  congr 1
  funext j
  unfold upd am_up
  rw [ha3, if_pos rfl]
  by_cases hj : j = i.toNat
  · rw [if_pos (by omega), if_pos hj]
  · rw [if_neg (by omega), if_neg hj]
theorem s_lastore {a i x : Int} {n : Nat} {rs : List Int} (hd : decode (am_cc mi) pc = .ok (.lastore, 1)) (hc : am_kd K a = some (13, n, rs)) (h0 : 0 ≤ i) (h1 : i < (n : Int)) (k : am_At mi (pc + 1) ls stk K (am_up M a i x) Q) : am_At mi pc ls (vl x :: vi i :: vr a :: stk) K M Q := by
  intro p l e s m args below meth c Z A D G0 K0 M0 G H locs rl hS hY hL hk hR
  obtain ⟨hx, hk⟩ := List.forall_mem_cons.mp hk
  obtain ⟨hi, hk⟩ := List.forall_mem_cons.mp hk
  obtain ⟨ha, hk⟩ := List.forall_mem_cons.mp hk
  obtain ⟨ha0, ha1, ha2, ha3⟩ := am_kd_at hc
  obtain ⟨t0, ht0⟩ := am_tys_at (G := G) ha1 (t := .long) rfl
  rw [List.map_cons, List.map_cons, List.map_cons, am_cv_ref ha0]
  refine va_last hS.1 hS.2.1 hY.1.1 hY.1.2.1 hY.1.2.2.1 hY.1.2.2.2.1 a.toNat t0 (am_wo_at ha1) ht0 (am_in hi h0 h1) hd (fun H1 locs1 q1 q2 q3 => ?_)
  refine k _ _ _ _ _ _ _ _ _ _ _ _ _ _ _ _ _ _ _ hS (am_Y_up hY hc (am_mok_up hY.1.2.2.2.2 hc hx (fun h => absurd rfl h) (fun h => absurd h (by simp))) ?_ q1 q2 q3) hL hk hR
  show Sum.inl (G.2.1 a.toNat, n, Sum.inr (Sum.inl (fun j : Nat => Int64.ofInt (am_up M a i x (a.toNat : Int) (j : Int))))) = _
  rw [am_clamp hi]
  congr 3
  congr 2
  funext j
  unfold vp_updL am_up
  rw [ha3, if_pos rfl]
  by_cases hj : j = i.toNat
  · rw [if_pos (by omega), if_pos hj]
  · rw [if_neg (by omega), if_neg hj]
end AM
end
section
/-! ===== fields ===== -/
section AM
variable {mi : am_I} {pc : Nat} {ls : am_L} {stk : List am_V} {K : am_K} {M : am_M} {Q : am_Q}
theorem am_fields_at {G : am_G} {M : am_M} {i : Nat} {e : am_C} {k : Nat} (h : k < e.2.1) : ((List.range e.2.1).map (am_fv G M i e))[k]? = some (am_fv G M i e k) := by
  simp [List.getElem?_map, List.getElem?_range h]
theorem am_en_obj {G : am_G} {M : am_M} {i : Nat} {e : am_C} (h : e.1 < 10) : am_en G M i e = .inr (e.1, (List.range e.2.1).map (am_fv G M i e)) := by
  unfold am_en
  rw [if_pos h]
theorem s_getf {a : Int} {ci N idx k : Nat} {rs : List Int} {C : String} {T : u_T} (hd : decode (am_cc mi) pc = .ok (.getfield idx, 3)) (hc : am_kd K a = some (ci, N, rs)) (hci : ci < 10) (hcl : vwCl[ci]? = some (C, T, N)) (hin : ∀ w ∈ u_ws C T N, w ∈ am_tb)
    (hk0 : k < N) (hw : Cond.fieldLink (am_own mi) idx (T k).1 (T k).2.1 (T k).2.2.1 ∈ am_tb) {v : am_V} (hv : v = if am_fk ci k = 2 then vr (M a k) else if am_fk ci k = 3 then vr (rs.getD k (-1)) else vi (M a k))
    (k1 : am_At mi (pc + 3) ls (v :: stk) K M Q) : am_At mi pc ls (vr a :: stk) K M Q := by
  intro p l e s m args below meth c Z A D G0 K0 M0 G H locs rl hS hY hL hk hR
  obtain ⟨ha, hk⟩ := List.forall_mem_cons.mp hk
  obtain ⟨ha0, ha1, ha2, ha3⟩ := am_kd_at hc
  obtain ⟨m1, m2, m3⟩ := hY.1.2.2.2.2 _ _ ha1
  rw [ha3] at m2 m3
  have hr : -1 ≤ rs.getD k (-1) ∧ rs.getD k (-1) < (K.1.length : Int) := by
    rcases am_getD_mem (l := rs) (k := k) with q | q
    · rw [q]
      omega
    · exact m1 _ q
  have hok : am_ok K v ∧ am_cv G v = am_fv G M a.toNat (ci, N, rs) k := by
    unfold am_fv
    rw [ha3]
    split at hv
    · rename_i hf
      subst hv
      have q := m3 k hci hf
      rw [if_pos hf]
      exact ⟨⟨by omega, q.2⟩, am_cv_rf q.1⟩
    · rename_i hf
      rw [if_neg hf]
      split at hv
      · rename_i hf3
        subst hv
        rw [if_pos hf3]
        exact ⟨⟨by omega, hr.2⟩, am_cv_rf hr.1⟩
      · rename_i hf3
        subst hv
        rw [if_neg hf3]
        exact ⟨(m2 k).2 (by show ci ≠ 13; omega), rfl⟩
  have h := k1 _ _ _ _ _ _ _ _ _ _ _ _ _ _ _ _ _ _ _ hS hY hL (List.forall_mem_cons.mpr ⟨hok.1, hk⟩) hR
  rw [List.map_cons, hok.2] at h
  rw [List.map_cons, am_cv_ref ha0]
  have he := am_wo_at (G := G) (M := M) ha1
  rw [am_en_obj (show (ci, N, rs).1 < 10 from hci)] at he
  exact va_get hS.1 hS.2.1 hS.2.2.2.2.2.2.2.1 hin hS.2.2.2.2.2.2.1 hY.1.1 hY.1.2.1 a.toNat he hcl k hk0 (hS.2.2.2.2.2.2.2.1 _ hw) (fun x h => h) (am_fields_at hk0) hd h
/-- into a field that is no fixed reference -/
theorem s_putf {a : Int} {ci N idx k : Nat} {rs : List Int} {C : String} {T : u_T} {ty0 : Nat → FieldType} {v : am_V} {x : Int} (hd : decode (am_cc mi) pc = .ok (.putfield idx, 3)) (hc : am_kd K a = some (ci, N, rs)) (hci : ci < 10) (hcl : vwCl[ci]? = some (C, T, N)) (hin : ∀ w ∈ u_ws C T N, w ∈ am_tb)
    (hty : ∀ k, k < N → parseFieldDescriptor (T k).2.2.1 = some (ty0 k)) (hnm : ∀ a, a < N → ∀ b, b < N → a ≠ b → (T a).2.1 ≠ (T b).2.1)
    (hk0 : k < N) (hw : Cond.fieldLink (am_own mi) idx (T k).1 (T k).2.1 (T k).2.2.1 ∈ am_tb) (hfin : (T k).2.2.2 = false)
    (hv : (am_fk ci k = 0 ∧ ty0 k = .int ∧ v = vi x) ∨ (am_fk ci k = 1 ∧ ty0 k = .boolean ∧ v = vi x ∧ (x = 0 ∨ x = 1)) ∨ (am_fk ci k = 2 ∧ (∃ n, ty0 k = .object n) ∧ v = vr x ∧ -1 ≤ x ∧ x < 100000))
    (k1 : am_At mi (pc + 3) ls stk K (am_up M a k x) Q) : am_At mi pc ls (v :: vr a :: stk) K M Q := by
  intro p l e s m args below meth c Z A D G0 K0 M0 G H locs rl hS hY hL hk hR
  obtain ⟨hx, hk⟩ := List.forall_mem_cons.mp hk
  obtain ⟨ha, hk⟩ := List.forall_mem_cons.mp hk
  obtain ⟨ha0, ha1, ha2, ha3⟩ := am_kd_at hc
  have he := am_wo_at (G := G) (M := M) ha1
  rw [am_en_obj (show (ci, N, rs).1 < 10 from hci)] at he
  rw [List.map_cons, List.map_cons, am_cv_ref ha0]
  have hnar : narrow (ty0 k) (am_cv G v) = am_cv G v ∧ fits (ty0 k) (am_cv G v) = true ∧ am_cv G v = am_fv G (am_up M a k x) a.toNat (ci, N, rs) k := by
    have e1 : am_up M a k x (a.toNat : Int) (k : Int) = x := by rw [ha3]; exact am_up_hit
    rcases hv with ⟨f, t, rfl⟩ | ⟨f, t, rfl, h01⟩ | ⟨f, ⟨n, t⟩, rfl, h1, h2⟩
    · refine ⟨by rw [t]; rfl, by rw [t]; rfl, ?_⟩
      unfold am_fv
      rw [if_neg (by rw [f]; decide), if_neg (by rw [f]; decide), e1]
      rfl
    · refine ⟨by rw [t]; rcases h01 with rfl | rfl <;> rfl, by rw [t]; rcases h01 with rfl | rfl <;> rfl, ?_⟩
      unfold am_fv
      rw [if_neg (by rw [f]; decide), if_neg (by rw [f]; decide), e1]
      rfl
    · rw [am_cv_rf h1]
      refine ⟨by rw [t]; cases am_rf G x <;> rfl, by rw [t]; cases am_rf G x <;> rfl, ?_⟩
      unfold am_fv
      rw [if_pos f, e1]
  refine va_put hS.1 hS.2.1 hS.2.2.2.2.2.2.2.1 hin ty0 hty hnm hS.2.2.2.2.2.2.1 hY.1.1 hY.1.2.1 hY.1.2.2.1 hY.1.2.2.2.1 a.toNat he hcl k hk0 (hS.2.2.2.2.2.2.2.1 _ hw) (fun x h => h) hfin (hty k hk0) hnar.1 hnar.2.1 (by simpa using hk0) hd (fun H1 locs1 q1 q2 q3 => ?_)
  have hm : am_mok K (am_up M a k x) := by
    rcases hv with ⟨f, t, rfl⟩ | ⟨f, t, rfl, h01⟩ | ⟨f, ⟨n, t⟩, rfl, h1, h2⟩
    · exact am_mok_up hY.1.2.2.2.2 hc (am_i64_of32 hx) (fun _ => hx) (fun _ k' hk' hf => absurd hf (by rw [show k' = k from by omega]; show ¬ am_fk ci k = 2; rw [f]; decide))
    · exact am_mok_up hY.1.2.2.2.2 hc (am_i64_of32 hx) (fun _ => hx) (fun _ k' hk' hf => absurd hf (by rw [show k' = k from by omega]; show ¬ am_fk ci k = 2; rw [f]; decide))
    · have q : am_i32 x := ⟨by omega, by omega⟩
      exact am_mok_up hY.1.2.2.2.2 hc (am_i64_of32 q) (fun _ => q) (fun _ k' hk' hf => ⟨h1, hx.2⟩)
  refine k1 _ _ _ _ _ _ _ _ _ _ _ _ _ _ _ _ _ _ _ hS (am_Y_up hY hc hm ?_ q1 q2 q3) hL hk hR
  rw [am_en_obj (show (ci, N, rs).1 < 10 from hci)]
  congr 2
  apply List.ext_getElem?
  intro j
  by_cases hj : j < N
  · rw [am_fields_at hj]
    by_cases hjk : j = k
    · subst hjk
      rw [List.getElem?_set_self (by simpa using hj), hnar.2.2]
    · rw [List.getElem?_set_ne (fun q => hjk q.symm), am_fields_at hj]
      unfold am_fv
      rw [show am_up M a k x (a.toNat : Int) (j : Int) = M (a.toNat : Int) (j : Int) from by unfold am_up; rw [ha3, if_pos rfl, if_neg (by omega)]]
  · rw [List.getElem?_eq_none (by simp; omega), List.getElem?_eq_none (by simp; omega)]
end AM
end
section
/-! ===== a method's contract out of its body; calls ===== -/
theorem am_tb_good : ∀ w ∈ am_tb, goodWord w = true := fun w h => (List.mem_filter.mp h).2
theorem am_tb_of {w : Cond} (h : w ∈ lw_tbl) (g : goodWord w = true) : w ∈ am_tb := List.mem_filter.mpr ⟨h, g⟩
theorem am_good {mi : am_I} (h : Cond.code (am_y mi) (am_cc mi) (am_ml mi) (am_rt mi) ∈ am_tb) : GoodIn am_tb (am_ws mi) := by
  intro w hw
  have hm : w ∈ am_tb := by
    rcases List.mem_cons.mp hw with rfl | q
    · exact h
    · exact q
  exact ⟨hm, good_of_word (am_tb_good w hm)⟩
def am_ex : List am_V → am_L
  | [] => []
  | .inr (.inl x) :: r => some (.inr (.inl x)) :: none :: am_ex r
  | .inl x :: r => some (.inl x) :: am_ex r
  | .inr (.inr x) :: r => some (.inr (.inr x)) :: am_ex r
def am_ent (nL : Nat) (as : List am_V) : am_L := am_ex as ++ List.replicate (nL - (am_ex as).length) none
theorem am_sl_cons {G : am_G} (v : am_V) (r : List am_V) : lg_sl ((v :: r).map (am_cv G)) = (if (am_cv G v).category = 2 then [Slot.val (am_cv G v), Slot.second] else [Slot.val (am_cv G v)]) ++ lg_sl (r.map (am_cv G)) := by
  simp [lg_sl]
theorem am_ex_sl {G : am_G} : ∀ (as : List am_V), (lg_sl (as.map (am_cv G))).length = (am_ex as).length ∧ ∀ (i : Nat) (v : am_V), (am_ex as)[i]? = some (some v) → (lg_sl (as.map (am_cv G)))[i]? = some (.val (am_cv G v)) ∧ v ∈ as
  | [] => ⟨rfl, fun i v h => by simp [am_ex] at h⟩
  | .inr (.inl x) :: r => by
    obtain ⟨h1, h2⟩ := am_ex_sl (G := G) r
    have e1 : lg_sl ((Sum.inr (Sum.inl x) :: r).map (am_cv G)) = Slot.val (am_cv G (vl x)) :: Slot.second :: lg_sl (r.map (am_cv G)) := by
      rw [am_sl_cons]
      rfl
    rw [e1]
    refine ⟨by simp [am_ex, h1], fun i v h => ?_⟩
    match i, h with
    | 0, h =>
      cases h
      exact ⟨rfl, List.mem_cons_self⟩
    | 1, h => cases h
    | i + 2, h =>
      obtain ⟨a, b⟩ := h2 i v h
      exact ⟨a, List.mem_cons_of_mem _ b⟩
  | .inl x :: r => by
    obtain ⟨h1, h2⟩ := am_ex_sl (G := G) r
    have e1 : lg_sl ((Sum.inl x :: r).map (am_cv G)) = Slot.val (am_cv G (vi x)) :: lg_sl (r.map (am_cv G)) := by
      rw [am_sl_cons]
      rfl
    rw [e1]
    refine ⟨by simp [am_ex, h1], fun i v h => ?_⟩
    match i, h with
    | 0, h =>
      cases h
      exact ⟨rfl, List.mem_cons_self⟩
    | i + 1, h =>
      obtain ⟨a, b⟩ := h2 i v h
      exact ⟨a, List.mem_cons_of_mem _ b⟩
  | .inr (.inr x) :: r => by
    obtain ⟨h1, h2⟩ := am_ex_sl (G := G) r
    have e1 : lg_sl ((Sum.inr (Sum.inr x) :: r).map (am_cv G)) = Slot.val (am_cv G (vr x)) :: lg_sl (r.map (am_cv G)) := by
      rw [am_sl_cons, if_neg (by rw [am_cat]; simp)]
      rfl
    rw [e1]
    refine ⟨by simp [am_ex, h1], fun i v h => ?_⟩
    match i, h with
    | 0, h =>
      cases h
      exact ⟨rfl, List.mem_cons_self⟩
    | i + 1, h =>
      obtain ⟨a, b⟩ := h2 i v h
      exact ⟨a, List.mem_cons_of_mem _ b⟩
theorem am_ent_lr {G : am_G} {K : am_K} {nL : Nat} {as : List am_V} (hn : (am_ex as).length ≤ nL) (hok : ∀ v ∈ as, am_ok K v) :
    am_lr G K nL (am_ent nL as) ((lg_sl (as.map (am_cv G)) ++ List.replicate (nL - (lg_sl (as.map (am_cv G))).length) Slot.unset).toArray) := by
  obtain ⟨h1, h2⟩ := am_ex_sl (G := G) as
  have hl := lv_entry (as.map (am_cv G)) (n := nL) (by rw [h1]; exact hn)
  refine ⟨by simp [am_ent]; omega, hl.1, hl.2.1, fun i v hi => ?_⟩
  have hi' : (am_ex as)[i]? = some (some v) := by
    unfold am_ent at hi
    by_cases hlt : i < (am_ex as).length
    · rwa [List.getElem?_append_left hlt] at hi
    · rw [List.getElem?_append_right (by omega), List.getElem?_replicate] at hi
      split at hi <;> cases hi
  obtain ⟨a, b⟩ := h2 i v hi'
  refine ⟨?_, hok v b⟩
  rw [List.getElem?_toArray, List.getElem?_append_left (List.getElem?_eq_some_iff.mp a).1]
  exact a
theorem am_free {A : Nat → Prop} {ws : va_W} {H0 H : Heap} {locs : List Loc} (hD : va_D A ws) (hS : va_S A H0 H locs) (hA : ∀ q, H0.size ≤ q → A q) : ∀ q, va_A ws H.size q → A q := by
  intro q h
  rcases h with ⟨k, e, h⟩ | h
  · exact hD.2 k (q, e) h
  · exact hA q (Nat.le_trans hS.1 h)
theorem am_nest_warm {s U : State} (hW : s.WarmedH U.vm) (h : ∀ w ∈ am_nests, va_Nw w s) : ∀ w ∈ am_nests, va_Nw w U := by
  intro w hw
  have h1 := h w hw
  have h2 := (List.mem_filter.mp hw).2
  cases w with
  | methodLinkNest a i x b => exact va_Nw.warmM hW h1
  | _ => simp at h2
theorem am_nest_same {s U : State} (hW : s.vm = U.vm) (h : ∀ w ∈ am_nests, va_Nw w s) : ∀ w ∈ am_nests, va_Nw w U := by
  intro w hw
  have h1 := h w hw
  have h2 := (List.mem_filter.mp hw).2
  cases w with
  | methodLinkNest a i x b => exact va_Nw.same rfl hW h1
  | _ => simp at h2
theorem am_blind {D : va_G} {G : am_G} {K : am_K} {M : am_M} {sz : Nat} {av : List Value} : FrameBlind (va_Pc av (am_Pc D G K M sz)) := by
  intro a U g mk h
  obtain ⟨h0, h1, h2, h3, h4, h5, h6⟩ := h
  exact ⟨h0, h1, h2, va_K.moved (u := U) (U := U.calling g mk a) (Vm.Alike.refl U.vm) h3, h4, am_nest_same (s := U) (U := U.calling g mk a) rfl h5, fun C hC => va_AO.moved (u := U) (U := U.calling g mk a) (Vm.Alike.refl U.vm) (h6 C hC)⟩
theorem am_call_of {mi : am_I} {as : List am_V} {K : am_K} {M : am_M} {Q : am_Q} (hy : plainName (am_y mi).cls = true) (hown : (am_y mi).cls = am_own mi) (hsc : am_sc mi = false) (hn : (am_ex as).length ≤ am_ml mi)
    (h : am_At mi 0 (am_ent (am_ml mi) as) [] (K.1, 0, 0) M Q) : am_Call mi as (K.1, 0, 0) M Q := by
  intro l D G sz hok hmok
  refine Met.ofW (cc := am_cc mi) (maxL := am_ml mi) (ret := am_rt mi) hy rfl ?_
  intro p e s m args below meth c s₁ B hml hv
  obtain ⟨rfl, hsz, hP, hK, hD, hN, hAO⟩ := hv
  subst hsz
  have hts := atoms_spec (ws := am_ws mi) B.pre
  have hfc : s.vm.findClass (am_own mi) = some m.cls := by
    rw [← hown]
    exact findClass_of_methodNamed B.named
  rw [lg_entry_eq]
  refine h p l e s m _ below meth c _ (va_A (am_wo G (K.1, 0, 0) M) s.heap.size) D G (K.1, 0, 0) M G s.heap [] _ ⟨B.exec, B.bytes, hml, B.returns, B.notSynchronized, (name_of_methodNamed B.named B.method).1, hfc, fun w hw => hts w (List.mem_cons_of_mem _ hw), hN, hAO, fun q hq => Or.inr hq⟩ ⟨⟨hK, hP, hD.self, va_S.rf, hmok⟩, ⟨Nat.le_refl _, fun _ _ => ⟨rfl, rfl⟩, rfl, fun _ => rfl, fun _ _ _ => rfl⟩, Nat.zero_le _, Nat.zero_le _, fun q => by rw [hsc] at q; cases q⟩ (am_ent_lr hn hok) (fun v hv => by cases hv) ?_
  intro r K' M' G' H' locs' pc' rl' hQ hY hrok hrd
  refine W.widen (k := am_mc mi) (n := am_ms mi) hY.2.2.1 hY.2.2.2.1 ?_
  have hq : ∀ t : State, t.heap = H' → s.WarmedH t.vm → am_Qc mi D G (K.1, 0, 0) M s.heap.size Q (as.map (am_cv G)).toArray s (.returned (r.map (am_cv G'))) t := by
    intro t ht hW
    exact ⟨⟨r, K', M', G', hQ, rfl, hrok, hY.1.2.2.2.2, hY.2.1, by rw [ht]; exact hY.1.2.1, va_K.moved hW.alike hY.1.1, hY.1.2.2.1⟩, hY.1.2.2.2.1.F ht⟩
  have hlk := B.notSynchronized
  have hrt := B.returns
  match r, hrd, hq with
  | none, hrd, hq =>
    rw [hrd.1] at hrt
    exact W.vret B.exec B.bytes hrt hq hY.1.2.2.2.1.2.2 hrd.2
  | some (.inl x), hrd, hq =>
    rcases hrd.2 with h2 | ⟨h2, h3⟩
    · rw [h2] at hrt
      exact W.iret B.exec B.bytes hrt hq hY.1.2.2.2.1.2.2 hrd.1
    · rw [h2] at hrt
      exact W.zret B.exec B.bytes hrt (by rcases h3 with rfl | rfl <;> rfl) hq hY.1.2.2.2.1.2.2 hrd.1
  | some (.inr (.inl x)), hrd, hq =>
    rw [hrd.2] at hrt
    exact W.lret B.exec B.bytes hrt hq hY.1.2.2.2.1.2.2 hrd.1
  | some (.inr (.inr x)), hrd, hq =>
    obtain ⟨h1, ⟨n, h2⟩, h3⟩ := hrd
    rw [h2] at hrt
    refine W.aret B.exec B.bytes hrt (Or.inl ⟨n, rfl⟩) ?_ hq hY.1.2.2.2.1.2.2 h1
    rcases am_cvr G' x with ⟨a, ha⟩ | ha
    · exact Or.inr ⟨a, ha⟩
    · exact Or.inl ha
/-- behind a call -/
theorem am_after {mi mi' : am_I} {pc : Nat} {ls : am_L} {stk : List am_V} {K : am_K} {M : am_M} {Q Q' : am_Q} {p : Program} {l : Launch} {e : Env} {s : State} {m : MethodId} {args : Array Value} {below : List Frame} {meth : Method} {c : Code} {Z : State → Prop} {A : Nat → Prop} {D : va_G} {G0 : am_G} {K0 : am_K} {M0 : am_M} {G : am_G} {H : Heap} {locs : List Loc} {rl : Array Slot} {st0 : List Value} {a : Array Value}
    (hrun : va_Run p l e (am_rm mi) s m args below meth c H locs K.2.1 K.2.2 (am_mc mi') (am_ms mi') (F0 m pc rl st0) (stk.map (am_cv G)) (am_Qc mi' D G (K.1, 0, 0) M H.size Q' a) (va_A (am_wo G (K.1, 0, 0) M) H.size))
    (hb : K.2.1 + am_mc mi' ≤ am_mc mi ∧ K.2.2 + am_ms mi' ≤ am_ms mi)
    (hS : am_S mi p s m args meth c A) (hY : am_Y mi s A D G0 K0 M0 G K M H locs) (hL : am_lr G K (am_ml mi) ls rl) (hk : ∀ v ∈ stk, am_ok K v)
    (hR : ∀ (r : Option am_V) (K' : am_K) (M' : am_M) (G' : am_G) (H' : Heap) (locs' : List Loc) (pc' : Nat) (rl' : Array Slot), Q r K' M' → am_Y mi s A D G0 K0 M0 G' K' M' H' locs' → (∀ v ∈ r.toList, am_ok K' v) → am_rd mi pc' r →
      W p l e (am_rm mi) s m args below meth c H' locs' K'.2.1 K'.2.2 Z (F0 m pc' rl' (r.toList.map (am_cv G'))))
    (k : ∀ (r : Option am_V) (K' : am_K) (M' : am_M), Q' r K' M' → (am_mc mi' = 0 → K'.1 = K.1) → am_At mi (pc + 3) ls (r.toList ++ stk) (K'.1, K.2.1 + am_mc mi', K.2.2 + am_ms mi') M' Q) :
    W p l e (am_rm mi) s m args below meth c H locs K.2.1 K.2.2 Z (F0 m pc rl st0) := by
  intro T hT X
  obtain ⟨v, st₀, t, T', L, h0, X', hLs, e1, e2, ⟨⟨r, K', M', G', hq, hv, hrok, hmok, ⟨x1, x2, x3, x4, x5⟩, hP, hKK, hD⟩, hz, hkk⟩, st⟩ := hrun T hT X
  cases hv
  rw [h0] at hz hkk
  obtain ⟨⟨y1, y2, y3, y4, y5⟩, ⟨y6, y7, y8, y9, y10⟩, y11, y12, y13⟩ := hY
  have hfree := am_free y3 y4 hS.2.2.2.2.2.2.2.2.2.2
  have halike : s.vm.Alike t.vm := by rw [← e2]; exact X'.warmed.alike
  have hS' : va_S A s.heap T'.heap (locs ++ L) :=
    ⟨Nat.le_trans y4.1 (by rw [e1]; exact hz), fun q h1 h2 => by rw [e1, hkk q (Nat.lt_of_lt_of_le h1 y4.1) (fun z => h2 (hfree q z))]; exact y4.2.1 q h1 h2, fun q hq => by
      rcases List.mem_append.mp hq with h | h
      · exact y4.2.2 q h
      · exact hfree _ (hLs q h)⟩
  have hmc0 : am_mc mi = 0 → K'.1 = K0.1 := fun h => (x4 (by omega)).trans (y9 h)
  have hlen0 : K0.1.length ≤ K'.1.length := Nat.le_trans y6 x1
  have hG0 : ∀ i, i < K0.1.length → G'.1 i = G0.1 i ∧ G'.2.1 i = G0.2.1 i := fun i hi => ⟨(x2 i (Nat.lt_of_lt_of_le hi y6)).1.trans (y7 i hi).1, (x2 i (Nat.lt_of_lt_of_le hi y6)).2.trans (y7 i hi).2⟩
  have hY' : am_Y mi s A D G0 K0 M0 G' (K'.1, K.2.1 + am_mc mi', K.2.2 + am_ms mi') M' T'.heap (locs ++ L) :=
    ⟨⟨va_K.moved halike.symm hKK, by rw [e1]; exact hP, hD.weaken (fun _ q _ h => hfree q.1 h), hS', hmok⟩, ⟨hlen0, hG0, x3.trans y8, hmc0, fun b j hb => (x5 b j hb).trans (y10 b j hb)⟩, hb.1, hb.2, y13⟩
  have hstk : (r.map (am_cv G')).toList ++ stk.map (am_cv G) = (r.toList ++ stk).map (am_cv G') := by
    rw [List.map_append]
    congr 1
    · cases r <;> rfl
    · exact List.map_congr_left (fun v hv => (am_cv_ext x2 x3 (hk v hv)).symm)
  have hk' : ∀ v ∈ r.toList ++ stk, am_ok (K'.1, K.2.1 + am_mc mi', K.2.2 + am_ms mi') v := by
    intro v hv
    rcases List.mem_append.mp hv with h | h
    · exact hrok v h
    · exact am_ok_ext (K := K) x1 (hk v h)
  have hk2 := k r K' M' hq x4 p l e s m args below meth c Z A D G0 K0 M0 G' T'.heap (locs ++ L) rl hS hY' (am_lr_ext (K := K) x1 x2 x3 hL) hk' hR
  obtain ⟨t2, a1, b1⟩ := hk2 T' rfl X'
  refine ⟨t2, st t2 ?_, b1⟩
  rw [hstk]
  exact a1
def am_ct : List am_V → Nat
  | [] => 0
  | .inr (.inl _) :: r => 2 + am_ct r
  | .inl _ :: r => 1 + am_ct r
  | .inr (.inr _) :: r => 1 + am_ct r
theorem am_ct_eq {G : am_G} : ∀ (stk : List am_V), ((stk.map (am_cv G)).map fun v => v.category).sum = am_ct stk
  | [] => rfl
  | .inr (.inl x) :: r => by
    rw [List.map_cons, List.map_cons, List.sum_cons, am_ct_eq r]
    rfl
  | .inl x :: r => by
    rw [List.map_cons, List.map_cons, List.sum_cons, am_ct_eq r]
    rfl
  | .inr (.inr x) :: r => by
    rw [List.map_cons, List.map_cons, List.sum_cons, am_ct_eq r, am_cat]
    rfl
/-- what a call's link says: static, virtual, of a constructor, static by a nest mate -/
def am_lk0 (mi' : am_I) (n : Nat) : Prop := Cond.code (am_y mi') (am_cc mi') (am_ml mi') (am_rt mi') ∈ am_tb ∧ Cond.initialized (am_y mi').cls ∈ am_tb ∧ ((am_y mi').cls ≠ "java/lang/invoke/MethodHandle" ∧ (am_y mi').cls ≠ "java/lang/invoke/VarHandle" ∧ (parseMethodDescriptor (am_y mi').desc).map (fun d => d.parameters.length) = some n)
def am_lkS (own : String) (idx : Nat) (mi' : am_I) (n : Nat) : Prop := am_lk0 mi' n ∧ Cond.methodLink own idx (am_y mi') ∈ am_tb ∧ Cond.static (am_y mi') ∈ am_tb
def am_lkN (own : String) (idx : Nat) (mi' : am_I) (n : Nat) : Prop := am_lk0 mi' n ∧ (∃ host, Cond.methodLinkNest own idx (am_y mi') host ∈ am_nests) ∧ Cond.static (am_y mi') ∈ am_tb
def am_lkV (own : String) (idx : Nat) (mi' : am_I) (n : Nat) : Prop := am_lk0 mi' n ∧ Cond.methodLink own idx (am_y mi') ∈ am_tb ∧ Cond.instanceMethod (am_y mi') ∈ am_tb ∧ Cond.selects (am_y mi').cls (am_y mi') (am_y mi') ∈ am_tb
def am_lkI (own : String) (idx : Nat) (mi' : am_I) (n : Nat) : Prop := am_lk0 mi' n ∧ Cond.methodLink own idx (am_y mi') ∈ am_tb ∧ Cond.instanceMethod (am_y mi') ∈ am_tb ∧ (am_y mi').name = "<init>" ∧ am_rt mi' = none
section AM
variable {mi mi' : am_I} {pc idx : Nat} {ls : am_L} {stk : List am_V} {K : am_K} {M : am_M} {Q : am_Q}
theorem am_pre {D : va_G} {G : am_G} {H : Heap} {s : State} {p : Program} {m : MethodId} {args : Array Value} {meth : Method} {c : Code} {A : Nat → Prop} {G0 : am_G} {K0 : am_K} {M0 : am_M} {locs : List Loc} {as : List am_V} (hS : am_S mi p s m args meth c A) (hY : am_Y mi s A D G0 K0 M0 G K M H locs) :
    ∀ U : State, U.heap = H → s.WarmedH U.vm → va_Pc (as.map (am_cv G)) (am_Pc D G (K.1, 0, 0) M H.size) (as.map (am_cv G)).toArray U := by
  intro U hU hW
  exact ⟨rfl, by rw [hU], by rw [hU]; exact hY.1.2.1, va_K.moved hW.alike hY.1.1, hY.1.2.2.1.weaken (fun _ _ _ _ => trivial), am_nest_warm hW hS.2.2.2.2.2.2.2.2.1, fun C hC => va_AO.moved hW.alike (hS.2.2.2.2.2.2.2.2.2.1 C hC)⟩
theorem s_callS {as : List am_V} (hd : decode (am_cc mi) pc = .ok (.invokestatic idx, 3)) (hl : am_lkS (am_own mi) idx mi' as.length) (hroom : am_fr mi' + 1 ≤ am_fr mi ∧ 8 + (am_ml mi' + 11) + am_lo mi' ≤ am_lo mi) (hcat : am_ct stk ≤ 8) (hb : K.2.1 + am_mc mi' ≤ am_mc mi ∧ K.2.2 + am_ms mi' ≤ am_ms mi)
    (k : am_Call mi' as (K.1, 0, 0) M (fun r K' M' => (am_mc mi' = 0 → K'.1 = K.1) → am_At mi (pc + 3) ls (r.toList ++ stk) (K'.1, K.2.1 + am_mc mi', K.2.2 + am_ms mi') M' Q)) : am_At mi pc ls (as.reverse ++ stk) K M Q := by
  intro p l e s m args below meth c Z A D G0 K0 M0 G H locs rl hS hY hL hk hR
  obtain ⟨⟨l1, l2, l3⟩, l4, l5⟩ := hl
  have hts := hS.2.2.2.2.2.2.2.1
  have hka : ∀ v ∈ as, am_ok (K.1, 0, 0) v := fun v hv => hk v (List.mem_append.mpr (Or.inl (List.mem_reverse.mpr hv)))
  have hks : ∀ v ∈ stk, am_ok K v := fun v hv => hk v (List.mem_append.mpr (Or.inr hv))
  have hM := k l D G H.size hka hY.1.2.2.2.2
  have hw : am_ws mi' = Cond.code (am_y mi') (am_cc mi') (am_ml mi') (am_rt mi') :: am_tb := rfl
  have cb := callB_of (own := am_own mi) (index := idx) (args := args) (R := am_rm mi) (rm := am_rm mi') (mc := am_mc mi') (ms := am_ms mi') as.length hts (am_good l1) hw rfl rfl (hts _ l2) (hts _ l4) l3 hroom
  have hrun := va_runS (As := as.map (am_cv G)) (rest := stk.map (am_cv G)) (g := F0 m pc rl ((as.reverse ++ stk).map (am_cv G))) (H := H) (locs := locs) (cells := K.2.1) (slots := K.2.2) (p := p) (e := e) (below := below) (meth := meth) (c := c) ⟨hS.1, hS.2.1, hS.2.2.1, hS.2.2.2.2.2.2.1, hts⟩ hM ⟨cb, hts _ l5⟩ ⟨am_blind, am_pre hS hY⟩ rfl (List.length_map ..) hL.2.1 (by rw [List.map_append, List.map_reverse]) (lv_room (by rw [am_ct_eq]; exact hcat)) hd hb
  exact am_after hrun hb hS hY hL hks hR (fun r K' M' h1 h2 => h1 h2)
theorem s_callN {as : List am_V} (hd : decode (am_cc mi) pc = .ok (.invokestatic idx, 3)) (hl : am_lkN (am_own mi) idx mi' as.length) (hroom : am_fr mi' + 1 ≤ am_fr mi ∧ 8 + (am_ml mi' + 11) + am_lo mi' ≤ am_lo mi) (hcat : am_ct stk ≤ 8) (hb : K.2.1 + am_mc mi' ≤ am_mc mi ∧ K.2.2 + am_ms mi' ≤ am_ms mi)
    (k : am_Call mi' as (K.1, 0, 0) M (fun r K' M' => (am_mc mi' = 0 → K'.1 = K.1) → am_At mi (pc + 3) ls (r.toList ++ stk) (K'.1, K.2.1 + am_mc mi', K.2.2 + am_ms mi') M' Q)) : am_At mi pc ls (as.reverse ++ stk) K M Q := by
  intro p l e s m args below meth c Z A D G0 K0 M0 G H locs rl hS hY hL hk hR
  obtain ⟨⟨l1, l2, l3⟩, ⟨host, l4⟩, l5⟩ := hl
  have hts := hS.2.2.2.2.2.2.2.1
  have hka : ∀ v ∈ as, am_ok (K.1, 0, 0) v := fun v hv => hk v (List.mem_append.mpr (Or.inl (List.mem_reverse.mpr hv)))
  have hks : ∀ v ∈ stk, am_ok K v := fun v hv => hk v (List.mem_append.mpr (Or.inr hv))
  have hM := k l D G H.size hka hY.1.2.2.2.2
  have hw : am_ws mi' = Cond.code (am_y mi') (am_cc mi') (am_ml mi') (am_rt mi') :: am_tb := rfl
  have cb := va_cnB (own := am_own mi) (index := idx) (args := args) (R := am_rm mi) (rm := am_rm mi') (mc := am_mc mi') (ms := am_ms mi') as.length hts (am_good l1) hw rfl rfl (hS.2.2.2.2.2.2.2.2.1 _ l4) (hts _ l2) l3 hroom
  have hrun := va_runSN (As := as.map (am_cv G)) (rest := stk.map (am_cv G)) (g := F0 m pc rl ((as.reverse ++ stk).map (am_cv G))) (H := H) (locs := locs) (cells := K.2.1) (slots := K.2.2) (p := p) (e := e) (below := below) (meth := meth) (c := c) ⟨hS.1, hS.2.1, hS.2.2.1, hS.2.2.2.2.2.2.1, hts⟩ hM ⟨cb, hts _ l5, trivial⟩ ⟨am_blind, am_pre hS hY⟩ rfl (List.length_map ..) hL.2.1 (by rw [List.map_append, List.map_reverse]) (lv_room (by rw [am_ct_eq]; exact hcat)) hd hb
  exact am_after hrun hb hS hY hL hks hR (fun r K' M' h1 h2 => h1 h2)
theorem s_callV {as : List am_V} {a : Int} {ci N : Nat} {rs : List Int} {C : String} {T : u_T} (hd : decode (am_cc mi) pc = .ok (.invokevirtual idx, 3)) (hl : am_lkV (am_own mi) idx mi' as.length) (hc : am_kd K a = some (ci, N, rs)) (hci : ci < 10) (hcl : vwCl[ci]? = some (C, T, N)) (hC : (am_y mi').cls = C) (hroom : am_fr mi' + 1 ≤ am_fr mi ∧ 8 + (am_ml mi' + 11) + am_lo mi' ≤ am_lo mi) (hcat : am_ct stk ≤ 8) (hb : K.2.1 + am_mc mi' ≤ am_mc mi ∧ K.2.2 + am_ms mi' ≤ am_ms mi)
    (k : am_Call mi' (vr a :: as) (K.1, 0, 0) M (fun r K' M' => (am_mc mi' = 0 → K'.1 = K.1) → am_At mi (pc + 3) ls (r.toList ++ stk) (K'.1, K.2.1 + am_mc mi', K.2.2 + am_ms mi') M' Q)) : am_At mi pc ls (as.reverse ++ vr a :: stk) K M Q := by
  intro p l e s m args below meth c Z A D G0 K0 M0 G H locs rl hS hY hL hk hR
  obtain ⟨⟨l1, l2, l3⟩, l4, l5, l6⟩ := hl
  obtain ⟨ha0, ha1, ha2, ha3⟩ := am_kd_at hc
  have hts := hS.2.2.2.2.2.2.2.1
  have hka : ∀ v ∈ vr a :: as, am_ok (K.1, 0, 0) v := fun v hv => by
    rcases List.mem_cons.mp hv with rfl | h
    · exact hk _ (List.mem_append.mpr (Or.inr List.mem_cons_self))
    · exact hk v (List.mem_append.mpr (Or.inl (List.mem_reverse.mpr h)))
  have hks : ∀ v ∈ stk, am_ok K v := fun v hv => hk v (List.mem_append.mpr (Or.inr (List.mem_cons_of_mem _ hv)))
  have hM := k l D G H.size hka hY.1.2.2.2.2
  have hw : am_ws mi' = Cond.code (am_y mi') (am_cc mi') (am_ml mi') (am_rt mi') :: am_tb := rfl
  have cb := callB_of (own := am_own mi) (index := idx) (args := args) (R := am_rm mi) (rm := am_rm mi') (mc := am_mc mi') (ms := am_ms mi') as.length hts (am_good l1) hw rfl rfl (hts _ l2) (hts _ l4) l3 hroom
  have he := am_wo_at (G := G) (M := M) ha1
  rw [am_en_obj (show (ci, N, rs).1 < 10 from hci)] at he
  have hrec := va_recv hY.1.1 hY.1.2.1 hcl he
  have hpre := am_pre (as := vr a :: as) hS hY
  rw [List.map_cons, am_cv_ref ha0] at hpre hM
  subst hC
  have hrun := va_runV (As := as.map (am_cv G)) (rest := stk.map (am_cv G)) (b := G.1 a.toNat) (C := (am_y mi').cls) (g := F0 m pc rl ((as.reverse ++ vr a :: stk).map (am_cv G))) (H := H) (locs := locs) (cells := K.2.1) (slots := K.2.2) (p := p) (e := e) (below := below) (meth := meth) (c := c) ⟨hS.1, hS.2.1, hS.2.2.1, hS.2.2.2.2.2.2.1, hts⟩ hM ⟨cb, hts _ l5, hts _ l6⟩ ⟨am_blind, hrec, hpre⟩ rfl (List.length_map ..) hL.2.1 (by rw [List.map_append, List.map_reverse, List.map_cons, am_cv_ref ha0]) (lv_room (by rw [am_ct_eq]; exact hcat)) hd hb
  exact am_after hrun hb hS hY hL hks hR (fun r K' M' h1 h2 => h1 h2)
theorem s_callI {as : List am_V} {a : Int} (hd : decode (am_cc mi) pc = .ok (.invokespecial idx, 3)) (hl : am_lkI (am_own mi) idx mi' as.length) (ha0 : 0 ≤ a) (hroom : am_fr mi' + 1 ≤ am_fr mi ∧ 8 + (am_ml mi' + 11) + am_lo mi' ≤ am_lo mi) (hcat : am_ct stk ≤ 8) (hb : K.2.1 + am_mc mi' ≤ am_mc mi ∧ K.2.2 + am_ms mi' ≤ am_ms mi)
    (k : am_Call mi' (vr a :: as) (K.1, 0, 0) M (fun r K' M' => (am_mc mi' = 0 → K'.1 = K.1) → am_At mi (pc + 3) ls (r.toList ++ stk) (K'.1, K.2.1 + am_mc mi', K.2.2 + am_ms mi') M' Q)) : am_At mi pc ls (as.reverse ++ vr a :: stk) K M Q := by
  intro p l e s m args below meth c Z A D G0 K0 M0 G H locs rl hS hY hL hk hR
  obtain ⟨⟨l1, l2, l3⟩, l4, l5, l6, l7⟩ := hl
  have hts := hS.2.2.2.2.2.2.2.1
  have hka : ∀ v ∈ vr a :: as, am_ok (K.1, 0, 0) v := fun v hv => by
    rcases List.mem_cons.mp hv with rfl | h
    · exact hk _ (List.mem_append.mpr (Or.inr List.mem_cons_self))
    · exact hk v (List.mem_append.mpr (Or.inl (List.mem_reverse.mpr h)))
  have hks : ∀ v ∈ stk, am_ok K v := fun v hv => hk v (List.mem_append.mpr (Or.inr (List.mem_cons_of_mem _ hv)))
  have hM := k l D G H.size hka hY.1.2.2.2.2
  have hw : am_ws mi' = Cond.code (am_y mi') (am_cc mi') (am_ml mi') none :: am_tb := by rw [← l7]; rfl
  have cb := callB_of (own := am_own mi) (index := idx) (args := args) (R := am_rm mi) (rm := am_rm mi') (mc := am_mc mi') (ms := am_ms mi') as.length hts (am_good l1) hw rfl rfl (hts _ l2) (hts _ l4) l3 hroom
  have hpre := am_pre (as := vr a :: as) hS hY
  rw [List.map_cons, am_cv_ref ha0] at hpre hM
  have hrun := va_runI (As := as.map (am_cv G)) (rest := stk.map (am_cv G)) (b := G.1 a.toNat) (g := F0 m pc rl ((as.reverse ++ vr a :: stk).map (am_cv G))) (H := H) (locs := locs) (cells := K.2.1) (slots := K.2.2) (p := p) (e := e) (below := below) (meth := meth) (c := c) ⟨hS.1, hS.2.1, hS.2.2.1, hS.2.2.2.2.2.2.1, hts⟩ hM ⟨cb, l6, hts _ l5⟩ ⟨am_blind, hpre⟩ rfl (List.length_map ..) hL.2.1 (by rw [List.map_append, List.map_reverse, List.map_cons, am_cv_ref ha0]) (lv_room (by rw [am_ct_eq]; exact hcat)) hd hb
  exact am_after hrun hb hS hY hL hks hR (fun r K' M' h1 h2 => h1 h2)
end AM
end
section
/-! ===== calls of what makes nothing; making ===== -/
theorem am_Call_mono {mi : am_I} {as : List am_V} {K : am_K} {M : am_M} {Q Q' : am_Q} (hq : ∀ r K' M', Q r K' M' → Q' r K' M') (h : am_Call mi as K M Q) : am_Call mi as K M Q' := by
  intro l D G sz hok hmok p e ha hc hk s m args below hf happ hP hK
  obtain ⟨n, o, h1, h2, h3, ⟨⟨⟨r, K', M', G', q, q2⟩, hF⟩, h5⟩⟩ := h l D G sz hok hmok p e ha hc hk s m args below hf happ hP hK
  exact ⟨n, o, h1, h2, h3, ⟨⟨⟨r, K', M', G', hq _ _ _ q, q2⟩, hF⟩, h5⟩⟩
theorem am_CallN_mono {mi : am_I} {as : List am_V} {K : am_K} {M : am_M} {Q Q' : Option am_V → am_M → Prop} (hq : ∀ r M', Q r M' → Q' r M') (h : am_CallN mi as K M Q) : am_CallN mi as K M Q' := am_Call_mono (fun r _ M' => hq r M') h
theorem am_At_mono {mi : am_I} {pc : Nat} {ls : am_L} {stk : List am_V} {K : am_K} {M : am_M} {Q Q' : am_Q} (hq : ∀ r K' M', Q r K' M' → Q' r K' M') (h : am_At mi pc ls stk K M Q) : am_At mi pc ls stk K M Q' := by
  intro p l e s m args below meth c Z A D G0 K0 M0 G H locs rl hS hY hL hk hR
  exact h p l e s m args below meth c Z A D G0 K0 M0 G H locs rl hS hY hL hk (fun r K' M' G' H' locs' pc' rl' q => hR r K' M' G' H' locs' pc' rl' (hq r K' M' q))
theorem am_callN_of {mi : am_I} {as : List am_V} {K : am_K} {M : am_M} {Q : Option am_V → am_M → Prop} (hy : plainName (am_y mi).cls = true) (hown : (am_y mi).cls = am_own mi) (hsc : am_sc mi = false) (hn : (am_ex as).length ≤ am_ml mi)
    (h : am_AtN mi 0 (am_ent (am_ml mi) as) [] (K.1, 0, 0) M Q) : am_CallN mi as K M Q := am_call_of hy hown hsc hn h
section AM
variable {mi mi' : am_I} {pc idx : Nat} {ls : am_L} {stk : List am_V} {K : am_K} {M : am_M} {Q : Option am_V → am_M → Prop}
theorem am_pure {as : List am_V} {K0 : am_K} {Q : am_Q} {pc : Nat} (h0 : am_mc mi' = 0 ∧ am_ms mi' = 0) (k : am_CallN mi' as K M (fun r M' => am_At mi pc ls (r.toList ++ stk) K M' Q)) :
    am_Call mi' as (K.1, 0, 0) M (fun r K' M' => (am_mc mi' = 0 → K'.1 = K.1) → am_At mi pc ls (r.toList ++ stk) (K'.1, K.2.1 + am_mc mi', K.2.2 + am_ms mi') M' Q) := by
  refine am_Call_mono (fun r K' M' h hq => ?_) k
  rw [hq h0.1, h0.1, h0.2]
  exact h
theorem n_callS {as : List am_V} (hd : decode (am_cc mi) pc = .ok (.invokestatic idx, 3)) (hl : am_lkS (am_own mi) idx mi' as.length) (hroom : am_fr mi' + 1 ≤ am_fr mi ∧ 8 + (am_ml mi' + 11) + am_lo mi' ≤ am_lo mi) (hcat : am_ct stk ≤ 8) (h0 : am_mc mi' = 0 ∧ am_ms mi' = 0) {Q : am_Q}
    (k : am_CallN mi' as K M (fun r M' => am_At mi (pc + 3) ls (r.toList ++ stk) K M' Q)) : am_At mi pc ls (as.reverse ++ stk) K M Q := by
  intro p l e s m args below meth c Z A D G0 K0 M0 G H locs rl hS hY hL hk hR
  exact s_callS hd hl hroom hcat ⟨by rw [h0.1]; exact hY.2.2.1, by rw [h0.2]; exact hY.2.2.2.1⟩ (am_pure (K0 := K) h0 k) p l e s m args below meth c Z A D G0 K0 M0 G H locs rl hS hY hL hk hR
theorem n_callN {as : List am_V} (hd : decode (am_cc mi) pc = .ok (.invokestatic idx, 3)) (hl : am_lkN (am_own mi) idx mi' as.length) (hroom : am_fr mi' + 1 ≤ am_fr mi ∧ 8 + (am_ml mi' + 11) + am_lo mi' ≤ am_lo mi) (hcat : am_ct stk ≤ 8) (h0 : am_mc mi' = 0 ∧ am_ms mi' = 0) {Q : am_Q}
    (k : am_CallN mi' as K M (fun r M' => am_At mi (pc + 3) ls (r.toList ++ stk) K M' Q)) : am_At mi pc ls (as.reverse ++ stk) K M Q := by
  intro p l e s m args below meth c Z A D G0 K0 M0 G H locs rl hS hY hL hk hR
  exact s_callN hd hl hroom hcat ⟨by rw [h0.1]; exact hY.2.2.1, by rw [h0.2]; exact hY.2.2.2.1⟩ (am_pure (K0 := K) h0 k) p l e s m args below meth c Z A D G0 K0 M0 G H locs rl hS hY hL hk hR
theorem n_callV {as : List am_V} {a : Int} {ci N : Nat} {rs : List Int} {C : String} {T : u_T} (hd : decode (am_cc mi) pc = .ok (.invokevirtual idx, 3)) (hl : am_lkV (am_own mi) idx mi' as.length) (hc : am_kd K a = some (ci, N, rs)) (hci : ci < 10) (hcl : vwCl[ci]? = some (C, T, N)) (hC : (am_y mi').cls = C) (hroom : am_fr mi' + 1 ≤ am_fr mi ∧ 8 + (am_ml mi' + 11) + am_lo mi' ≤ am_lo mi) (hcat : am_ct stk ≤ 8) (h0 : am_mc mi' = 0 ∧ am_ms mi' = 0) {Q : am_Q}
    (k : am_CallN mi' (vr a :: as) K M (fun r M' => am_At mi (pc + 3) ls (r.toList ++ stk) K M' Q)) : am_At mi pc ls (as.reverse ++ vr a :: stk) K M Q := by
  intro p l e s m args below meth c Z A D G0 K0 M0 G H locs rl hS hY hL hk hR
  exact s_callV hd hl hc hci hcl hC hroom hcat ⟨by rw [h0.1]; exact hY.2.2.1, by rw [h0.2]; exact hY.2.2.2.1⟩ (am_pure (K0 := K) h0 k) p l e s m args below meth c Z A D G0 K0 M0 G H locs rl hS hY hL hk hR
end AM
/-- a cell more -/
theorem am_Y_push {mi : am_I} {s : State} {A : Nat → Prop} {D : va_G} {G0 : am_G} {K0 : am_K} {M0 : am_M} {G : am_G} {K : am_K} {M M' : am_M} {H : Heap} {locs : List Loc} {e : am_C} {H1 : Heap} {locs1 : List Loc} {x : va_E} {q c1 s1 : Nat} {cA : ClassId}
    (hY : am_Y mi s A D G0 K0 M0 G K M H locs) (hmc : am_mc mi ≠ 0) (hm : am_mok (K.1 ++ [e], c1, s1) M') (hold : ∀ b j : Int, b ≠ K.1.length → M' b j = M b j)
    (hx : am_en (fun i => if i = K.1.length then q else G.1 i, fun i => if i = K.1.length then cA else G.2.1 i, G.2.2) M' K.1.length e = x)
    (hP : va_P D vwCl (am_wo G K M ++ [(q, x)]) H1) (hD : va_D A (am_wo G K M ++ [(q, x)])) (hS : va_S A s.heap H1 locs1) (hK : va_K D vwCl (am_tys G K ++ ((am_ty e.1).map (fun t => (cA, t))).toList) s) (hb : c1 ≤ am_mc mi ∧ s1 ≤ am_ms mi) :
    am_Y mi s A D G0 K0 M0 (fun i => if i = K.1.length then q else G.1 i, fun i => if i = K.1.length then cA else G.2.1 i, G.2.2) (K.1 ++ [e], c1, s1) M' H1 locs1 := by
  obtain ⟨⟨y1, y2, y3, y4, y5⟩, ⟨y6, y7, y8, y9, y10⟩, y11, y12, y13⟩ := hY
  have hG : ∀ i, i < K.1.length → (if i = K.1.length then q else G.1 i) = G.1 i ∧ (if i = K.1.length then cA else G.2.1 i) = G.2.1 i := fun i hi => ⟨if_neg (by omega), if_neg (by omega)⟩
  have hw : am_wo (fun i => if i = K.1.length then q else G.1 i, fun i => if i = K.1.length then cA else G.2.1 i, G.2.2) (K.1 ++ [e], c1, s1) M' = am_wo G K M ++ [(q, x)] := by
    rw [am_wo_push (G := G) (K := K) (M := M) (e := e) rfl hG y5 (fun j hj => by funext i; exact hold j i (by omega)), hx]
    simp
  have ht : am_tys (fun i => if i = K.1.length then q else G.1 i, fun i => if i = K.1.length then cA else G.2.1 i, G.2.2) (K.1 ++ [e], c1, s1) = am_tys G K ++ ((am_ty e.1).map (fun t => (cA, t))).toList := by
    rw [am_tys_push (G := G) (K := K) (e := e) rfl hG]
    simp
  refine ⟨⟨by rw [ht]; exact hK, by rw [hw]; exact hP, by rw [hw]; exact hD, hS, hm⟩, ⟨by simp; omega, fun i hi => ?_, y8, fun h => absurd h hmc, fun b j hb => ?_⟩, hb.1, hb.2, y13⟩
  · obtain ⟨a1, a2⟩ := hG i (by omega)
    exact ⟨a1.trans (y7 i hi).1, a2.trans (y7 i hi).2⟩
  · rw [hold b j (by omega)]
    exact y10 b j hb
theorem am_mok_push {K : am_K} {M M' : am_M} {e : am_C} {c1 s1 : Nat} (hM : am_mok K M) (hold : ∀ b j : Int, b ≠ K.1.length → M' b j = M b j) (hr : ∀ r ∈ e.2.2, r = -1) (hv : ∀ j : Int, M' K.1.length j = 0 ∨ M' K.1.length j = -1) : am_mok (K.1 ++ [e], c1, s1) M' := by
  intro i e' he'
  by_cases hi : i < K.1.length
  · have he : K.1[i]? = some e' := by rw [← he', List.getElem?_append_left hi]
    obtain ⟨h1, h2, h3⟩ := hM i e' he
    have hne : (i : Int) ≠ (K.1.length : Int) := by omega
    refine ⟨fun r hr => ⟨(h1 r hr).1, by have := (h1 r hr).2; simp; omega⟩, fun j => by rw [hold i j hne]; exact h2 j, fun k h10 hf => ?_⟩
    rw [hold i k hne]
    have := h3 k h10 hf
    exact ⟨this.1, by simp; omega⟩
  · have hil : i = K.1.length := by
      have := (List.getElem?_eq_some_iff.mp he').1
      simp at this
      omega
    subst hil
    have he : e' = e := by
      rw [List.getElem?_append_right (Nat.le_refl _)] at he'
      simp at he'
      exact he'.symm
    subst he
    refine ⟨fun r h => by rw [hr r h]; exact ⟨by omega, by simp; omega⟩, fun j => ?_, fun k _ _ => ?_⟩
    · unfold am_i64 am_i32
      rcases hv j with h | h <;> rw [h] <;> omega
    · rcases hv k with h | h <;> rw [h] <;> exact ⟨by omega, by simp <;> omega⟩
theorem am_nw_old {M : am_M} {a : Int} {f : Int → Int} {b j : Int} (h : b ≠ a) : am_nw M a f b j = M b j := by simp [am_nw, h]
theorem am_nw_hit {M : am_M} {a : Int} {f : Int → Int} {j : Int} : am_nw M a f a j = f j := by simp [am_nw]
section AM
variable {mi : am_I} {pc idx : Nat} {ls : am_L} {stk : List am_V} {K : am_K} {M : am_M} {Q : am_Q}
theorem am_ext1 {G : am_G} {K : am_K} {q : Nat} {cA : ClassId} : ∀ i, i < K.1.length → (if i = K.1.length then q else G.1 i) = G.1 i ∧ (if i = K.1.length then cA else G.2.1 i) = G.2.1 i := fun i hi => ⟨if_neg (by omega), if_neg (by omega)⟩
theorem am_stk_ext {G : am_G} {K : am_K} {q : Nat} {cA : ClassId} {stk : List am_V} (hk : ∀ v ∈ stk, am_ok K v) : stk.map (am_cv (fun i => if i = K.1.length then q else G.1 i, fun i => if i = K.1.length then cA else G.2.1 i, G.2.2)) = stk.map (am_cv G) :=
  List.map_congr_left (fun v hv => am_cv_ext (G := G) (G' := (fun i => if i = K.1.length then q else G.1 i, fun i => if i = K.1.length then cA else G.2.1 i, G.2.2)) (K := K) am_ext1 rfl (hk v hv))
theorem s_new {ci N : Nat} {C : String} {T : u_T} {ty0 : Nat → FieldType} (hmc : am_mc mi ≠ 0) (hd : decode (am_cc mi) pc = .ok (.new idx, 3)) (hci : ci < 10) (hcl : vwCl[ci]? = some (C, T, N)) (hin : ∀ w ∈ u_ws C T N, w ∈ am_tb) (hty : ∀ k, k < N → parseFieldDescriptor (T k).2.2.1 = some (ty0 k))
    (hdef : ∀ k, k < N → defaultValue (ty0 k) = (if am_fk ci k = 2 ∨ am_fk ci k = 3 then .null else .int 0)) (hw1 : Cond.classLink (am_own mi) idx C ∈ am_tb) (hw2 : Cond.instantiable C N ∈ am_tb) (hw3 : Cond.initialized C ∈ am_tb) (hb : K.2.1 + 1 ≤ am_mc mi ∧ K.2.2 + N ≤ am_ms mi)
    (k : am_At mi (pc + 3) ls (vr K.1.length :: stk) (K.1 ++ [(ci, N, List.replicate N (-1))], K.2.1 + 1, K.2.2 + N) (am_nw M K.1.length (fun j => if am_fk ci j.toNat = 2 then -1 else 0)) Q) : am_At mi pc ls stk K M Q := by
  intro p l e s m args below meth c Z A D G0 K0 M0 G H locs rl hS hY hL hk hR
  have hts := hS.2.2.2.2.2.2.2.1
  have hfs : ∀ (G' : am_G) (j : Nat), j < N → defaultValue (ty0 j) = vp_V ((List.range N).map (am_fv G' (am_nw M K.1.length (fun j => if am_fk ci j.toNat = 2 then -1 else 0)) K.1.length (ci, N, List.replicate N (-1)))) j := by
    intro G' j hj
    unfold vp_V
    rw [List.getD, am_fields_at (e := (ci, N, List.replicate N (-1))) hj, hdef j hj]
    show _ = am_fv _ _ _ _ _
    unfold am_fv
    rw [am_nw_hit]
    show _ = (if am_fk ci j = 2 then va_rf (am_rf G' (if am_fk ci (j : Int).toNat = 2 then -1 else 0)) else if am_fk ci j = 3 then va_rf (am_rf G' ((List.replicate N (-1)).getD j (-1))) else .int (Int32.ofInt (if am_fk ci (j : Int).toNat = 2 then -1 else 0)))
    rw [Int.toNat_natCast]
    by_cases h2 : am_fk ci j = 2
    · rw [if_pos (Or.inl h2), if_pos h2, if_pos h2]
      rfl
    · rw [if_neg h2, if_neg h2]
      by_cases h3 : am_fk ci j = 3
      · rw [if_pos (Or.inr h3), if_pos h3]
        rw [show (List.replicate N (-1 : Int)).getD j (-1) = -1 from by simp [List.getD, List.getElem?_replicate, hj]]
        rfl
      · rw [if_neg (by simp [h2, h3]), if_neg h3]
        rfl
  have hold : ∀ b j : Int, b ≠ K.1.length → am_nw M K.1.length (fun j => if am_fk ci j.toNat = 2 then -1 else 0) b j = M b j := fun b j h => am_nw_old h
  have hm : am_mok (K.1 ++ [(ci, N, List.replicate N (-1))], K.2.1 + 1, K.2.2 + N) (am_nw M K.1.length (fun j => if am_fk ci j.toNat = 2 then -1 else 0)) := by
    refine am_mok_push hY.1.2.2.2.2 hold (fun r hr => List.eq_of_mem_replicate hr) (fun j => ?_)
    rw [am_nw_hit]
    split
    · exact Or.inr rfl
    · exact Or.inl rfl
  refine va_new (ci := ci) (fs := (List.range N).map (am_fv (fun i => if i = K.1.length then 0 else G.1 i, fun i => if i = K.1.length then G.2.1 0 else G.2.1 i, G.2.2) (am_nw M K.1.length (fun j => if am_fk ci j.toNat = 2 then -1 else 0)) K.1.length (ci, N, List.replicate N (-1)))) hS.1 hS.2.1 hts hin ty0 hty hS.2.2.2.2.2.2.1 (hts _ hw1) (hts _ hw2) (hts _ hw3) hY.1.1 hY.1.2.1 hY.1.2.2.1 hY.1.2.2.2.1 hS.2.2.2.2.2.2.2.2.2.2 hcl (hfs _) hb.1 hb.2 hd (fun q H1 q1 q2 q3 => ?_)
  have hcvx : ∀ (G' : am_G), (List.range N).map (am_fv G' (am_nw M K.1.length (fun j => if am_fk ci j.toNat = 2 then -1 else 0)) K.1.length (ci, N, List.replicate N (-1))) = (List.range N).map (fun j => defaultValue (ty0 j)) := by
    intro G'
    refine List.map_congr_left (fun j hj => ?_)
    have hj := List.mem_range.mp hj
    rw [hfs G' j hj]
    unfold vp_V
    rw [List.getD, am_fields_at (e := (ci, N, List.replicate N (-1))) hj]
    rfl
  have hY' := am_Y_push (q := q) (cA := G.2.1 0) (e := (ci, N, List.replicate N (-1))) (c1 := K.2.1 + 1) (s1 := K.2.2 + N) hY hmc hm hold (by
    rw [am_en_obj (show (ci, N, List.replicate N (-1)).1 < 10 from hci)]
    show Sum.inr (ci, (List.range N).map _) = _
    rw [hcvx, ← hcvx (fun i => if i = K.1.length then 0 else G.1 i, fun i => if i = K.1.length then G.2.1 0 else G.2.1 i, G.2.2)]) q1 q2 q3 (by
    have : am_ty ci = none := by
      match ci, hci with
      | 0, _ => rfl
      | 1, _ => rfl
      | 2, _ => rfl
      | 3, _ => rfl
      | 4, _ => rfl
      | 5, _ => rfl
      | 6, _ => rfl
      | 7, _ => rfl
      | 8, _ => rfl
      | 9, _ => rfl
      | n + 10, h => omega
    show va_K D vwCl (am_tys G K ++ ((am_ty ci).map _).toList) s
    rw [this]
    simpa using hY.1.1) hb
  have hlen : K.1.length ≤ (K.1 ++ [(ci, N, List.replicate N (-1 : Int))]).length := by simp
  have h := k p l e s m args below meth c Z A D G0 K0 M0 _ H1 locs rl hS hY' (am_lr_ext (K := K) hlen am_ext1 rfl hL) (List.forall_mem_cons.mpr ⟨⟨by omega, by simp; omega⟩, fun v hv => am_ok_ext (K := K) hlen (hk v hv)⟩) hR
  rw [List.map_cons, am_cv_ref (by omega), am_stk_ext (q := q) (cA := G.2.1 0) hk] at h
  simp only [Int.toNat_natCast, if_pos] at h
  exact h
theorem s_newa {n : Int} {tag : Nat} {atype : ArrayType} {ty : FieldType} (hmc : am_mc mi ≠ 0) (hd : decode (am_cc mi) pc = .ok (.newarray atype, 2)) (hw : Cond.arrayClass (newarray.typeOf atype) ∈ am_tb) (hty : newarray.typeOf atype = ty) (htag : (tag = 11 ∧ ty = .int) ∨ (tag = 12 ∧ ty = .boolean) ∨ (tag = 13 ∧ ty = .long)) (h0 : 0 ≤ n) (h1 : n ≤ 60000000) (hb : K.2.1 + 1 ≤ am_mc mi ∧ K.2.2 + n.toNat ≤ am_ms mi)
    (k : am_At mi (pc + 2) ls (vr K.1.length :: stk) (K.1 ++ [(tag, n.toNat, [])], K.2.1 + 1, K.2.2 + n.toNat) (am_nw M K.1.length (fun _ => 0)) Q) : am_At mi pc ls (vi n :: stk) K M Q := by
  intro p l e s m args below meth c Z A D G0 K0 M0 G H locs rl hS hY hL hk hR
  obtain ⟨hn, hk⟩ := List.forall_mem_cons.mp hk
  have hts := hS.2.2.2.2.2.2.2.1
  have hold : ∀ b j : Int, b ≠ K.1.length → am_nw M K.1.length (fun _ => 0) b j = M b j := fun b j h => am_nw_old h
  have hm : am_mok (K.1 ++ [(tag, n.toNat, [])], K.2.1 + 1, K.2.2 + n.toNat) (am_nw M K.1.length (fun _ => 0)) := by
    refine am_mok_push hY.1.2.2.2.2 hold (fun r hr => by cases hr) (fun j => ?_)
    rw [am_nw_hit]
    exact Or.inl rfl
  have hlen : K.1.length ≤ (K.1 ++ [((tag, n.toNat, []) : am_C)]).length := by simp
  have hneg : ¬ Int32.ofInt n < 0 := by
    rw [show (0 : Int32) = Int32.ofInt 0 from rfl, am_lt hn am_i32_0]
    omega
  have fin : ∀ (q : Nat) (cA : ClassId) (H1 : Heap) (x : va_E), va_K D vwCl (am_tys G K ++ ((am_ty tag).map (fun t => (cA, t))).toList) s → va_P D vwCl (am_wo G K M ++ [(q, x)]) H1 → va_D A (am_wo G K M ++ [(q, x)]) → va_S A s.heap H1 locs →
      am_en (fun i => if i = K.1.length then q else G.1 i, fun i => if i = K.1.length then cA else G.2.1 i, G.2.2) (am_nw M K.1.length (fun _ => 0)) K.1.length (tag, n.toNat, []) = x →
      W p l e (am_rm mi) s m args below meth c H1 locs (K.2.1 + 1) (K.2.2 + n.toNat) Z (F0 m (pc + 2) rl (.ref q :: stk.map (am_cv G))) := by
    intro q cA H1 x g1 g2 g3 g4 g5
    have hY' := am_Y_push (q := q) (cA := cA) (e := (tag, n.toNat, [])) (c1 := K.2.1 + 1) (s1 := K.2.2 + n.toNat) hY hmc hm hold g5 g2 g3 g4 g1 hb
    have h := k p l e s m args below meth c Z A D G0 K0 M0 _ H1 locs rl hS hY' (am_lr_ext (K := K) hlen am_ext1 rfl hL) (List.forall_mem_cons.mpr ⟨⟨by omega, by simp; omega⟩, fun v hv => am_ok_ext (K := K) hlen (hk v hv)⟩) hR
    rw [List.map_cons, am_cv_ref (by omega), am_stk_ext (q := q) (cA := cA) hk] at h
    simp only [Int.toNat_natCast, if_pos] at h
    exact h
  have hbytes : n.toNat * 8 ≤ 536870912 := by omega
  rcases htag with ⟨rfl, rfl⟩ | ⟨rfl, rfl⟩ | ⟨rfl, rfl⟩
  · refine va_newa (a0 := (n.toNat, .inl (fun _ => 0))) hS.1 hS.2.1 (hts _ hw) hty hY.1.1 hY.1.2.1 hY.1.2.2.1 hY.1.2.2.2.1 hS.2.2.2.2.2.2.2.2.2.2 (fun cA => rfl) hneg (am_clamp hn) (by show n.toNat * 4 ≤ _; omega) hb.1 hb.2 hd (fun q cA H1 g1 g2 g3 g4 => fin q cA H1 _ g1 g2 g3 g4 ?_)
    show Sum.inl (_, n.toNat, Sum.inl (fun j : Nat => Int32.ofInt (am_nw M K.1.length (fun _ => 0) (K.1.length : Int) (j : Int)))) = _
    simp only [am_nw_hit, if_pos]
    rfl
  · refine va_newa (a0 := (n.toNat, .inl (fun _ => 0))) hS.1 hS.2.1 (hts _ hw) hty hY.1.1 hY.1.2.1 hY.1.2.2.1 hY.1.2.2.2.1 hS.2.2.2.2.2.2.2.2.2.2 (fun cA => rfl) hneg (am_clamp hn) (by show n.toNat * 1 ≤ _; omega) hb.1 hb.2 hd (fun q cA H1 g1 g2 g3 g4 => fin q cA H1 _ g1 g2 g3 g4 ?_)
    show Sum.inl (_, n.toNat, Sum.inl (fun j : Nat => Int32.ofInt (am_nw M K.1.length (fun _ => 0) (K.1.length : Int) (j : Int)))) = _
    simp only [am_nw_hit, if_pos]
    rfl
  · refine va_newa (a0 := (n.toNat, .inr (.inl (fun _ => 0)))) hS.1 hS.2.1 (hts _ hw) hty hY.1.1 hY.1.2.1 hY.1.2.2.1 hY.1.2.2.2.1 hS.2.2.2.2.2.2.2.2.2.2 (fun cA => rfl) hneg (am_clamp hn) (by show n.toNat * 8 ≤ _; omega) hb.1 hb.2 hd (fun q cA H1 g1 g2 g3 g4 => fin q cA H1 _ g1 g2 g3 g4 ?_)
    show Sum.inl (_, n.toNat, Sum.inr (Sum.inl (fun j : Nat => Int64.ofInt (am_nw M K.1.length (fun _ => 0) (K.1.length : Int) (j : Int))))) = _
    simp only [am_nw_hit, if_pos]
    rfl
theorem s_newq {n : Int} {tag : Nat} {C : String} (hmc : am_mc mi ≠ 0) (hd : decode (am_cc mi) pc = .ok (.anewarray idx, 3)) (hw : Cond.classLink (am_own mi) idx C ∈ am_tb) (hC : C ∈ am_aos) (htag : (tag = 14 ∧ C = "AnyLength$Sentence") ∨ (tag = 15 ∧ C = "AnyLength$Program")) (h0 : 0 ≤ n) (h1 : n ≤ 1000) (hb : K.2.1 + 1 ≤ am_mc mi ∧ K.2.2 + n.toNat ≤ am_ms mi)
    (k : am_At mi (pc + 3) ls (vr K.1.length :: stk) (K.1 ++ [(tag, n.toNat, List.replicate n.toNat (-1))], K.2.1 + 1, K.2.2 + n.toNat) (am_nw M K.1.length (fun _ => 0)) Q) : am_At mi pc ls (vi n :: stk) K M Q := by
  intro p l e s m args below meth c Z A D G0 K0 M0 G H locs rl hS hY hL hk hR
  obtain ⟨hn, hk⟩ := List.forall_mem_cons.mp hk
  have hts := hS.2.2.2.2.2.2.2.1
  have hold : ∀ b j : Int, b ≠ K.1.length → am_nw M K.1.length (fun _ => 0) b j = M b j := fun b j h => am_nw_old h
  have hm : am_mok (K.1 ++ [(tag, n.toNat, List.replicate n.toNat (-1))], K.2.1 + 1, K.2.2 + n.toNat) (am_nw M K.1.length (fun _ => 0)) := by
    refine am_mok_push hY.1.2.2.2.2 hold (fun r hr => List.eq_of_mem_replicate hr) (fun j => ?_)
    rw [am_nw_hit]
    exact Or.inl rfl
  have hlen : K.1.length ≤ (K.1 ++ [((tag, n.toNat, List.replicate n.toNat (-1)) : am_C)]).length := by simp
  have hneg : ¬ Int32.ofInt n < 0 := by
    rw [show (0 : Int32) = Int32.ofInt 0 from rfl, am_lt hn am_i32_0]
    omega
  refine va_newq hS.1 hS.2.1 hS.2.2.2.2.2.2.1 (hts _ hw) (hS.2.2.2.2.2.2.2.2.2.1 C hC) hY.1.1 hY.1.2.1 hY.1.2.2.1 hY.1.2.2.2.1 hS.2.2.2.2.2.2.2.2.2.2 hneg (am_clamp hn) (by omega) hb.1 hb.2 hd (fun q cA H1 g1 g2 g3 g4 => ?_)
  have hel : ∀ G' : am_G, (fun j : Nat => am_rf G' ((List.replicate n.toNat (-1 : Int)).getD j (-1))) = fun _ => none := by
    intro G'
    funext j
    rw [show (List.replicate n.toNat (-1 : Int)).getD j (-1) = -1 from by
      rcases am_getD_mem (l := List.replicate n.toNat (-1 : Int)) (k := j) with h | h
      · exact h
      · exact List.eq_of_mem_replicate h]
    rfl
  have hY' := am_Y_push (q := q) (cA := cA) (e := (tag, n.toNat, List.replicate n.toNat (-1))) (c1 := K.2.1 + 1) (s1 := K.2.2 + n.toNat) hY hmc hm hold (by
    rcases htag with ⟨rfl, rfl⟩ | ⟨rfl, rfl⟩
    · show Sum.inl (_, n.toNat, Sum.inr (Sum.inr (Sum.inr (Sum.inr (fun j : Nat => am_rf _ ((List.replicate n.toNat (-1 : Int)).getD j (-1))))))) = _
      rw [hel]
      simp only [if_pos]
    · show Sum.inl (_, n.toNat, Sum.inr (Sum.inr (Sum.inr (Sum.inr (fun j : Nat => am_rf _ ((List.replicate n.toNat (-1 : Int)).getD j (-1))))))) = _
      rw [hel]
      simp only [if_pos]) g2 g3 g4 (by
    rcases htag with ⟨rfl, rfl⟩ | ⟨rfl, rfl⟩
    · exact g1
    · exact g1) hb
  have h := k p l e s m args below meth c Z A D G0 K0 M0 _ H1 locs rl hS hY' (am_lr_ext (K := K) hlen am_ext1 rfl hL) (List.forall_mem_cons.mpr ⟨⟨by omega, by simp; omega⟩, fun v hv => am_ok_ext (K := K) hlen (hk v hv)⟩) hR
  rw [List.map_cons, am_cv_ref (by omega), am_stk_ext (q := q) (cA := cA) hk] at h
  simp only [Int.toNat_natCast, if_pos] at h
  exact h
/-- one cell's fixed references anew -/
theorem am_Y_ref {s : State} {A : Nat → Prop} {D : va_G} {G0 : am_G} {K0 : am_K} {M0 : am_M} {G : am_G} {H : Heap} {locs : List Loc} {a : Int} {tag n : Nat} {rs : List Int} {i : Nat} {v : Int} {H1 : Heap} {locs1 : List Loc} {x : va_E}
    (hY : am_Y mi s A D G0 K0 M0 G K M H locs) (hmc : am_mc mi ≠ 0) (hk : am_kd K a = some (tag, n, rs)) (hv : -1 ≤ v ∧ v < (K.1.length : Int)) (hx : am_en G M a.toNat (tag, n, rs.set i v) = x)
    (hP : va_P D vwCl ((am_wo G K M).set a.toNat (G.1 a.toNat, x)) H1) (hD : va_D A ((am_wo G K M).set a.toNat (G.1 a.toNat, x))) (hS : va_S A s.heap H1 locs1) : am_Y mi s A D G0 K0 M0 G (K.1.set a.toNat (tag, n, rs.set i v), K.2) M H1 locs1 := by
  obtain ⟨ha0, ha1, ha2, ha3⟩ := am_kd_at hk
  obtain ⟨⟨y1, y2, y3, y4, y5⟩, ⟨y6, y7, y8, y9, y10⟩, y11, y12, y13⟩ := hY
  have hw : am_wo G (K.1.set a.toNat (tag, n, rs.set i v), K.2) M = (am_wo G K M).set a.toNat (G.1 a.toNat, x) := by
    rw [am_wo_set (K := K) (M := M) (i := a.toNat) (e' := (tag, n, rs.set i v)) (by simp) (fun j hj => by rw [List.getElem?_set_ne (fun q => hj q.symm)]) (by rw [List.getElem?_set_self ha2]) (fun j hj => rfl), hx]
  have ht : am_tys G (K.1.set a.toNat (tag, n, rs.set i v), K.2) = am_tys G K := by
    refine am_tys_set (by simp) (fun j => ?_)
    by_cases hj : j = a.toNat
    · subst hj
      rw [am_getD (e := (tag, n, rs.set i v)) (by rw [List.getElem?_set_self ha2]), am_getD ha1]
    · simp only [List.getD, List.getElem?_set_ne (fun q => hj q.symm)]
  have hm : am_mok (K.1.set a.toNat (tag, n, rs.set i v), K.2) M := by
    intro j e he
    show (∀ r ∈ e.2.2, -1 ≤ r ∧ r < (((K.1.set a.toNat (tag, n, rs.set i v)).length : Nat) : Int)) ∧ _ ∧ ∀ k : Nat, e.1 < 10 → am_fk e.1 k = 2 → -1 ≤ M j k ∧ M j k < (((K.1.set a.toNat (tag, n, rs.set i v)).length : Nat) : Int)
    rw [List.length_set]
    by_cases hj : j = a.toNat
    · subst hj
      obtain ⟨h1, h2, h3⟩ := y5 _ _ ha1
      have he2 : e = (tag, n, rs.set i v) := by
        rw [List.getElem?_set_self ha2] at he
        exact (Option.some.inj he).symm
      subst he2
      refine ⟨fun r hr => ?_, h2, h3⟩
      rcases List.mem_or_eq_of_mem_set hr with h | h
      · exact h1 r h
      · subst h
        exact hv
    · have he' : K.1[j]? = some e := by
        rw [← he]
        exact (List.getElem?_set_ne (fun q => hj q.symm)).symm
      exact y5 j e he'
  refine ⟨⟨by rw [ht]; exact y1, by rw [hw]; exact hP, by rw [hw]; exact hD, hS, hm⟩, ⟨by simpa using y6, y7, y8, fun h => absurd h hmc, y10⟩, y11, y12, y13⟩
theorem am_lr_ref {G : am_G} {nL : Nat} {rl : Array Slot} {i : Nat} {e : am_C} (h : am_lr G K nL ls rl) : am_lr G (K.1.set i e, K.2) nL ls rl := am_lr_ext (K := K) (by simp) (fun _ _ => ⟨rfl, rfl⟩) rfl h
/-- into a fixed reference, in a constructor -/
theorem s_putF {a : Int} {ci N k : Nat} {rs : List Int} {C : String} {T : u_T} {ty0 : Nat → FieldType} {x : Int} (hmc : am_mc mi ≠ 0) (hd : decode (am_cc mi) pc = .ok (.putfield idx, 3)) (hc : am_kd K a = some (ci, N, rs)) (hci : ci < 10) (hcl : vwCl[ci]? = some (C, T, N)) (hin : ∀ w ∈ u_ws C T N, w ∈ am_tb)
    (hty : ∀ k, k < N → parseFieldDescriptor (T k).2.2.1 = some (ty0 k)) (hnm : ∀ a, a < N → ∀ b, b < N → a ≠ b → (T a).2.1 ≠ (T b).2.1)
    (hk0 : k < N) (hrs : k < rs.length) (hw : Cond.fieldLink (am_own mi) idx (T k).1 (T k).2.1 (T k).2.2.1 ∈ am_tb) (hfin : (T k).2.2.2 = true) (hini : (am_y mi).name = "<init>") (hown : (T k).1 = am_own mi)
    (hf : am_fk ci k = 3) (ht : (∃ n, ty0 k = .object n) ∨ ∃ t, ty0 k = .array t) (hx1 : -1 ≤ x)
    (k1 : am_At mi (pc + 3) ls stk (K.1.set a.toNat (ci, N, rs.set k x), K.2) M Q) : am_At mi pc ls (vr x :: vr a :: stk) K M Q := by
  intro p l e s m args below meth c Z A D G0 K0 M0 G H locs rl hS hY hL hk hR
  obtain ⟨hx, hk⟩ := List.forall_mem_cons.mp hk
  obtain ⟨ha, hk⟩ := List.forall_mem_cons.mp hk
  obtain ⟨ha0, ha1, ha2, ha3⟩ := am_kd_at hc
  have he := am_wo_at (G := G) (M := M) ha1
  rw [am_en_obj (show (ci, N, rs).1 < 10 from hci)] at he
  rw [List.map_cons, List.map_cons, am_cv_ref ha0, am_cv_rf hx1]
  have hnar : narrow (ty0 k) (va_rf (am_rf G x)) = va_rf (am_rf G x) ∧ fits (ty0 k) (va_rf (am_rf G x)) = true := by
    rcases ht with ⟨n, t⟩ | ⟨n, t⟩ <;> rw [t] <;> cases am_rf G x <;> exact ⟨rfl, rfl⟩
  refine va_putF hS.1 hS.2.1 hS.2.2.2.2.2.2.2.1 hin ty0 hty hnm hS.2.2.2.2.2.2.1 hY.1.1 hY.1.2.1 hY.1.2.2.1 hY.1.2.2.2.1 a.toNat he hcl k hk0 (hS.2.2.2.2.2.2.2.1 _ hw) (fun x h => h) hfin (by rw [hS.2.2.2.2.2.1]; exact hini) hown (hty k hk0) hnar.1 hnar.2 (by simpa using hk0) hd (fun H1 locs1 q1 q2 q3 => ?_)
  refine k1 _ _ _ _ _ _ _ _ _ _ _ _ _ _ _ _ _ _ _ hS (am_Y_ref hY hmc hc ⟨hx1, hx.2⟩ ?_ q1 q2 q3) (am_lr_ref hL) (fun v hv => am_ok_ext (K := K) (by simp) (hk v hv)) hR
  rw [am_en_obj (show (ci, N, rs.set k x).1 < 10 from hci)]
  congr 2
  apply List.ext_getElem?
  intro j
  by_cases hj : j < N
  · rw [am_fields_at (e := (ci, N, rs.set k x)) hj]
    by_cases hjk : j = k
    · subst hjk
      rw [List.getElem?_set_self (by simpa using hj)]
      congr 1
      show (if am_fk ci j = 2 then _ else if am_fk ci j = 3 then va_rf (am_rf G ((rs.set j x).getD j (-1))) else _) = _
      rw [if_neg (by rw [hf]; decide), if_pos hf, List.getD, List.getElem?_set_self hrs]
      rfl
    · rw [List.getElem?_set_ne (fun q => hjk q.symm), am_fields_at (e := (ci, N, rs)) hj]
      unfold am_fv
      show some (if am_fk ci j = 2 then _ else if am_fk ci j = 3 then va_rf (am_rf G ((rs.set k x).getD j (-1))) else _) = _
      rw [List.getD, List.getElem?_set_ne (fun q => hjk q.symm)]
      rfl
  · rw [List.getElem?_eq_none (by simp; omega), List.getElem?_eq_none (by simp; omega)]
theorem s_aastore {a i x : Int} {tag n cx Nx : Nat} {rs rx : List Int} {Cx : String} {Tx : u_T} (hmc : am_mc mi ≠ 0) (hd : decode (am_cc mi) pc = .ok (.aastore, 1)) (hc : am_kd K a = some (tag, n, rs)) (htag : (tag = 14 ∧ Cx = "AnyLength$Sentence") ∨ (tag = 15 ∧ Cx = "AnyLength$Program")) (hcx : am_kd K x = some (cx, Nx, rx)) (hcx1 : cx < 10) (hclx : vwCl[cx]? = some (Cx, Tx, Nx)) (h0 : 0 ≤ i) (h1 : i < (n : Int)) (hrs : rs.length = n)
    (k : am_At mi (pc + 1) ls stk (K.1.set a.toNat (tag, n, rs.set i.toNat x), K.2) M Q) : am_At mi pc ls (vr x :: vi i :: vr a :: stk) K M Q := by
  intro p l e s m args below meth c Z A D G0 K0 M0 G H locs rl hS hY hL hk hR
  obtain ⟨hx, hk⟩ := List.forall_mem_cons.mp hk
  obtain ⟨hi, hk⟩ := List.forall_mem_cons.mp hk
  obtain ⟨ha, hk⟩ := List.forall_mem_cons.mp hk
  obtain ⟨ha0, ha1, ha2, ha3⟩ := am_kd_at hc
  obtain ⟨hx0, hx1, hx2, hx3⟩ := am_kd_at hcx
  have hex := am_wo_at (G := G) (M := M) hx1
  rw [am_en_obj (show (cx, Nx, rx).1 < 10 from hcx1)] at hex
  rw [List.map_cons, List.map_cons, List.map_cons, am_cv_ref ha0, am_cv_ref hx0]
  have hel : (fun j : Nat => am_rf G ((rs.set i.toNat x).getD j (-1))) = va_up (fun j : Nat => am_rf G (rs.getD j (-1))) i.toNat (some (G.1 x.toNat)) := by
    funext j
    unfold va_up
    by_cases hj : j = i.toNat
    · subst hj
      rw [if_pos rfl, List.getD, List.getElem?_set_self (by omega)]
      show am_rf G x = _
      unfold am_rf
      rw [if_neg (by omega)]
    · rw [if_neg hj, List.getD, List.getElem?_set_ne (fun q => hj q.symm)]
      rfl
  rcases htag with ⟨rfl, rfl⟩ | ⟨rfl, rfl⟩
  · obtain ⟨t0, ht0⟩ := am_tys_at (G := G) ha1 (t := .object "AnyLength$Sentence") rfl
    refine va_astq hS.1 hS.2.1 hY.1.1 hY.1.2.1 hY.1.2.2.1 hY.1.2.2.2.1 a.toNat t0 x.toNat cx (am_wo_at ha1) ht0 hex hclx (am_in hi h0 h1) hd (fun H1 locs1 q1 q2 q3 => ?_)
    refine k _ _ _ _ _ _ _ _ _ _ _ _ _ _ _ _ _ _ _ hS (am_Y_ref hY hmc hc ⟨by omega, by omega⟩ ?_ q1 q2 q3) (am_lr_ref hL) (fun v hv => am_ok_ext (K := K) (by simp) (hk v hv)) hR
    show Sum.inl (G.2.1 a.toNat, n, Sum.inr (Sum.inr (Sum.inr (Sum.inr (fun j : Nat => am_rf G ((rs.set i.toNat x).getD j (-1))))))) = _
    rw [hel, am_clamp hi]
  · obtain ⟨t0, ht0⟩ := am_tys_at (G := G) ha1 (t := .object "AnyLength$Program") rfl
    refine va_astq hS.1 hS.2.1 hY.1.1 hY.1.2.1 hY.1.2.2.1 hY.1.2.2.2.1 a.toNat t0 x.toNat cx (am_wo_at ha1) ht0 hex hclx (am_in hi h0 h1) hd (fun H1 locs1 q1 q2 q3 => ?_)
    refine k _ _ _ _ _ _ _ _ _ _ _ _ _ _ _ _ _ _ _ hS (am_Y_ref hY hmc hc ⟨by omega, by omega⟩ ?_ q1 q2 q3) (am_lr_ref hL) (fun v hv => am_ok_ext (K := K) (by simp) (hk v hv)) hR
    show Sum.inl (G.2.1 a.toNat, n, Sum.inr (Sum.inr (Sum.inr (Sum.inr (fun j : Nat => am_rf G ((rs.set i.toNat x).getD j (-1))))))) = _
    rw [hel, am_clamp hi]
theorem s_objInit {a : Int} (hd : decode (am_cc mi) pc = .ok (.invokespecial idx, 3)) (hw1 : Cond.methodLink (am_own mi) idx objectInit ∈ am_tb) (hw2 : Cond.instanceMethod objectInit ∈ am_tb) (hw3 : Cond.code objectInit ⟨#[0xb1]⟩ 1 none ∈ am_tb) (ha0 : 0 ≤ a) (hfr : 1 ≤ am_fr mi) (hlo : am_ct stk + 12 ≤ am_lo mi)
    (k : am_At mi (pc + 3) ls stk K M Q) : am_At mi pc ls (vr a :: stk) K M Q := by
  intro p l e s m args below meth c Z A D G0 K0 M0 G H locs rl hS hY hL hk hR
  obtain ⟨ha, hk⟩ := List.forall_mem_cons.mp hk
  have hts := hS.2.2.2.2.2.2.2.1
  rw [List.map_cons, am_cv_ref ha0]
  refine W.objInit hS.1 hS.2.1 hS.2.2.2.2.2.2.1 (hts _ hw1) (hts _ hw2) (hts _ hw3) rfl (by rw [hS.2.2.1]; exact hL.2.1) rfl hd hfr ?_ (k p l e s m args below meth c Z A D G0 K0 M0 G H locs rl hS hY hL hk hR)
  show 2 * 0 + _ + 12 ≤ am_lo mi
  rw [am_ct_eq]
  omega
end AM
end
section
/-! ===== methods, links, layout: by program ===== -/
theorem am_ix {w : Cond} (i : Nat) (h : tables_1[i]? = some w) (g : goodWord w = true) : w ∈ am_tb := am_tb_of (List.mem_append_right _ (List.mem_of_getElem? h)) g
theorem am_nx {w : Cond} (i : Nat) (g : (match w with | .methodLinkNest _ _ _ _ => true | _ => false) = true) (h : tables_1[i]? = some w) : w ∈ am_nests := List.mem_filter.mpr ⟨List.mem_append_right _ (List.mem_of_getElem? h), g⟩
def m0_init : am_I := ((RX0, yX0_init, cX0_init, 3, none), (3, 8, 1880, 54), false)
def m0_isSo : am_I := ((RX0, yX0_isSo, cX0_isSo, 5, (some .boolean)), (7, 0, 0, 141), false)
def m0_explore : am_I := ((RX0, yX0_explore, cX0_explore, 3, none), (4, 0, 0, 78), false)
def m0_meet : am_I := ((RX0, yX0_meet, cX0_meet, 2, none), (2, 0, 0, 33), false)
def m0_pointOf : am_I := ((RX0, yX0_pointOf, cX0_pointOf, 1, (some .int)), (1, 0, 0, 12), false)
def m0_oneSpot : am_I := ((RX0, yX0_oneSpot, cX0_oneSpot, 1, (some .int)), (1, 0, 0, 12), false)
def m0_otherSpot : am_I := ((RX0, yX0_otherSpot, cX0_otherSpot, 1, (some .int)), (1, 0, 0, 12), false)
def m0_after : am_I := ((RX0, yX0_after, cX0_after, 4, (some .int)), (3, 0, 0, 55), false)
def m0_oneStopsAlone : am_I := ((RX0, yX0_oneStopsAlone, cX0_oneStopsAlone, 5, (some .boolean)), (3, 0, 0, 54), false)
def m0_bothWrite : am_I := ((RX0, yX0_bothWrite, cX0_bothWrite, 2, (some .boolean)), (3, 0, 0, 54), false)
def m0_markLive : am_I := ((RX0, yX0_markLive, cX0_markLive, 4, none), (5, 0, 0, 100), false)
def m0_isLive : am_I := ((RX0, yX0_isLive, cX0_isLive, 2, (some .boolean)), (2, 0, 0, 33), false)
def m0_setLive : am_I := ((RX0, yX0_setLive, cX0_setLive, 2, none), (2, 0, 0, 33), false)
def m0_leadsToLive : am_I := ((RX0, yX0_leadsToLive, cX0_leadsToLive, 3, (some .boolean)), (4, 0, 0, 78), false)
def m0_leadsAreEven : am_I := ((RX0, yX0_leadsAreEven, cX0_leadsAreEven, 4, (some .boolean)), (6, 0, 0, 118), false)
def m0_endsEven : am_I := ((RX0, yX0_endsEven, cX0_endsEven, 2, (some .boolean)), (5, 0, 0, 97), false)
def m0_stepsEven : am_I := ((RX0, yX0_stepsEven, cX0_stepsEven, 5, (some .boolean)), (4, 0, 0, 83), false)
def m0_fetch : am_I := ((RX0, yX0_fetch, cX0_fetch, 4, none), (3, 0, 0, 55), false)
def m0_keepLead : am_I := ((RX0, yX0_keepLead, cX0_keepLead, 6, (some .boolean)), (3, 0, 0, 58), false)
def m0_isLead : am_I := ((RX0, yX0_isLead, cX0_isLead, 6, (some .boolean)), (3, 0, 0, 55), false)
def m0_leadLetter : am_I := ((RX0, yX0_leadLetter, cX0_leadLetter, 3, (some .int)), (2, 0, 0, 33), false)
def m0_putLeadLetter : am_I := ((RX0, yX0_putLeadLetter, cX0_putLeadLetter, 6, none), (2, 0, 0, 33), false)
def m1_init : am_I := ((RX1, yX1_init, cX1_init, 1, none), (1, 5, 288, 12), false)
def m1_shortestUneven : am_I := ((RX1, yX1_shortestUneven, cX1_shortestUneven, 10, (some .int)), (4, 0, 0, 80), false)
def m1_endsUneven : am_I := ((RX1, yX1_endsUneven, cX1_endsUneven, 5, (some .boolean)), (3, 0, 0, 56), false)
def m1_keep : am_I := ((RX1, yX1_keep, cX1_keep, 4, none), (2, 0, 0, 33), false)
def m2_init : am_I := ((RX2, yX2_init, cX2_init, 3, none), (1, 2, 2592, 12), false)
def m2_state : am_I := ((RX2, yX2_state, cX2_state, 6, none), (1, 0, 0, 12), false)
def m2_explore : am_I := ((RX2, yX2_explore, cX2_explore, 4, none), (6, 0, 0, 130), false)
def m2_meet : am_I := ((RX2, yX2_meet, cX2_meet, 3, none), (2, 0, 0, 33), false)
def m2_metPlaces : am_I := ((RX2, yX2_metPlaces, cX2_metPlaces, 1, (some .int)), (1, 0, 0, 12), false)
def m2_isMet : am_I := ((RX2, yX2_isMet, cX2_isMet, 2, (some .boolean)), (2, 0, 0, 33), false)
def m2_metByNumber : am_I := ((RX2, yX2_metByNumber, cX2_metByNumber, 4, (some .int)), (2, 0, 0, 33), false)
def m2_firstBad : am_I := ((RX2, yX2_firstBad, cX2_firstBad, 2, (some .int)), (6, 0, 0, 129), false)
def m2_pictureAt : am_I := ((RX2, yX2_pictureAt, cX2_pictureAt, 6, (some .int)), (7, 0, 0, 150), false)
def m2_wayTo : am_I := ((RX2, yX2_wayTo, cX2_wayTo, 2, (some .int)), (2, 0, 0, 33), false)
def m2_wayLength : am_I := ((RX2, yX2_wayLength, cX2_wayLength, 5, (some .int)), (3, 0, 0, 54), false)
def m2_firstFault : am_I := ((RX2, yX2_firstFault, cX2_firstFault, 3, (some .int)), (7, 0, 0, 154), false)
def m2_leadsOut : am_I := ((RX2, yX2_leadsOut, cX2_leadsOut, 5, (some .boolean)), (6, 0, 0, 130), false)
def m2_after : am_I := ((RX2, yX2_after, cX2_after, 6, (some .int)), (5, 0, 0, 105), false)
def m2_tailAfter : am_I := ((RX2, yX2_tailAfter, cX2_tailAfter, 7, (some .int)), (4, 0, 0, 79), false)
def m2_isBad : am_I := ((RX2, yX2_isBad, cX2_isBad, 5, (some .boolean)), (5, 0, 0, 105), false)
def m3_init : am_I := ((RX3, yX3_init, cX3_init, 1, none), (4, 5, 104, 75), false)
def m3_into : am_I := ((RX3, yX3_into, cX3_into, 8, (some .int)), (5, 0, 0, 103), false)
def m3_explore : am_I := ((RX3, yX3_explore, cX3_explore, 6, none), (4, 0, 0, 78), false)
def m3_meet : am_I := ((RX3, yX3_meet, cX3_meet, 2, none), (2, 0, 0, 33), false)
def m3_numberOf : am_I := ((RX3, yX3_numberOf, cX3_numberOf, 2, (some .int)), (2, 0, 0, 33), false)
def m3_after : am_I := ((RX3, yX3_after, cX3_after, 4, (some .int)), (3, 0, 0, 55), false)
def m4_init : am_I := ((RX4, yX4_init, cX4_init, 1, none), (4, 3, 54, 79), false)
def m4_startAnew : am_I := ((RX4, yX4_startAnew, cX4_startAnew, 3, none), (3, 0, 0, 57), false)
def m4_nextOf : am_I := ((RX4, yX4_nextOf, cX4_nextOf, 3, (some .int)), (2, 0, 0, 33), false)
def m4_wordOf : am_I := ((RX4, yX4_wordOf, cX4_wordOf, 3, (some .int)), (2, 0, 0, 33), false)
def m4_endOf : am_I := ((RX4, yX4_endOf, cX4_endOf, 2, (some .int)), (2, 0, 0, 33), false)
def m4_lead : am_I := ((RX4, yX4_lead, cX4_lead, 5, none), (2, 0, 0, 33), false)
def m4_finish : am_I := ((RX4, yX4_finish, cX4_finish, 3, none), (2, 0, 0, 33), false)
def m4_rewrite : am_I := ((RX4, yX4_rewrite, cX4_rewrite, 6, (some .boolean)), (4, 0, 0, 76), false)
def m5_init : am_I := ((RX5, yX5_init, cX5_init, 2, none), (2, 1, 74, 33), false)
def m5_size : am_I := ((RX5, yX5_size, cX5_size, 1, (some .int)), (1, 0, 0, 12), false)
def m5_empty : am_I := ((RX5, yX5_empty, cX5_empty, 1, none), (1, 0, 0, 12), false)
def m5_letterAt : am_I := ((RX5, yX5_letterAt, cX5_letterAt, 2, (some .int)), (2, 0, 0, 33), false)
def m5_add : am_I := ((RX5, yX5_add, cX5_add, 2, none), (2, 0, 0, 33), false)
def m5_addWord : am_I := ((RX5, yX5_addWord, cX5_addWord, 3, none), (3, 0, 0, 54), false)
def m5_copy : am_I := ((RX5, yX5_copy, cX5_copy, 3, none), (3, 0, 0, 54), false)
def m5_isLike : am_I := ((RX5, yX5_isLike, cX5_isLike, 2, (some .boolean)), (4, 0, 0, 76), false)
def m5_isLikeSoFar : am_I := ((RX5, yX5_isLikeSoFar, cX5_isLikeSoFar, 3, (some .boolean)), (3, 0, 0, 54), false)
def m5_walkedBy : am_I := ((RX5, yX5_walkedBy, cX5_walkedBy, 4, (some .int)), (3, 0, 0, 55), false)
def m6_init : am_I := ((RX6, yX6_init, cX6_init, 1, none), (3, 2, 30, 55), false)
def m6_startAnew : am_I := ((RX6, yX6_startAnew, cX6_startAnew, 1, none), (2, 0, 0, 35), false)
def m6_nextOf : am_I := ((RX6, yX6_nextOf, cX6_nextOf, 3, (some .int)), (2, 0, 0, 33), false)
def m6_holdsAt : am_I := ((RX6, yX6_holdsAt, cX6_holdsAt, 2, (some .boolean)), (2, 0, 0, 33), false)
def m6_lead : am_I := ((RX6, yX6_lead, cX6_lead, 4, none), (2, 0, 0, 33), false)
def m6_hold : am_I := ((RX6, yX6_hold, cX6_hold, 3, none), (2, 0, 0, 33), false)
def m6_copy : am_I := ((RX6, yX6_copy, cX6_copy, 3, none), (1, 0, 0, 12), false)
def m6_turnRound : am_I := ((RX6, yX6_turnRound, cX6_turnRound, 3, (some .int)), (1, 0, 0, 12), false)
def m6_afterWord : am_I := ((RX6, yX6_afterWord, cX6_afterWord, 5, (some .int)), (3, 0, 0, 55), false)
def m6_draw : am_I := ((RX6, yX6_draw, cX6_draw, 6, none), (3, 0, 0, 56), false)
def m6_kindHolds : am_I := ((RX6, yX6_kindHolds, cX6_kindHolds, 3, (some .boolean)), (1, 0, 0, 12), false)
def m6_kindNext : am_I := ((RX6, yX6_kindNext, cX6_kindNext, 5, (some .int)), (1, 0, 0, 12), false)
def m7_init : am_I := ((RX7, yX7_init, cX7_init, 1, none), (1, 1, 126, 12), false)
def m7_fill : am_I := ((RX7, yX7_fill, cX7_fill, 6, none), (4, 0, 0, 81), false)
def m7_sum : am_I := ((RX7, yX7_sum, cX7_sum, 7, (some .long)), (3, 0, 0, 55), false)
def m7_put : am_I := ((RX7, yX7_put, cX7_put, 5, none), (2, 0, 0, 33), false)
def m7_ways : am_I := ((RX7, yX7_ways, cX7_ways, 3, (some .long)), (2, 0, 0, 33), false)
def m7_layOut : am_I := ((RX7, yX7_layOut, cX7_layOut, 11, none), (3, 0, 0, 55), false)
def m7_placeOf : am_I := ((RX7, yX7_placeOf, cX7_placeOf, 9, (some .long)), (3, 0, 0, 55), false)
def m8_init : am_I := ((RX8, yX8_init, cX8_init, 2, none), (5, 85, 7162, 99), false)
def m8_letters : am_I := ((RX8, yX8_letters, cX8_letters, 4, (some .int)), (4, 0, 0, 79), false)
def m8_point : am_I := ((RX8, yX8_point, cX8_point, 7, (some .int)), (3, 0, 0, 56), false)
def m8_holds : am_I := ((RX8, yX8_holds, cX8_holds, 6, (some .int)), (3, 0, 0, 55), false)
def m8_make : am_I := ((RX8, yX8_make, cX8_make, 6, (some .int)), (6, 0, 0, 130), false)
def m8_not : am_I := ((RX8, yX8_not, cX8_not, 5, (some .int)), (3, 0, 0, 54), false)
def m8_both : am_I := ((RX8, yX8_both, cX8_both, 7, (some .int)), (6, 0, 0, 130), false)
def m8_about : am_I := ((RX8, yX8_about, cX8_about, 5, (some .int)), (3, 0, 0, 55), false)
def m8_spot : am_I := ((RX8, yX8_spot, cX8_spot, 8, (some .int)), (3, 0, 0, 57), false)
def m8_end : am_I := ((RX8, yX8_end, cX8_end, 6, (some .int)), (3, 0, 0, 55), false)
def m8_of : am_I := ((RX8, yX8_of, cX8_of, 7, (some .int)), (3, 0, 0, 55), false)
def m8_claim : am_I := ((RX8, yX8_claim, cX8_claim, 6, (some .int)), (7, 0, 0, 153), false)
def m8_picture : am_I := ((RX8, yX8_picture, cX8_picture, 7, (some .int)), (8, 0, 0, 175), false)
def m8_met : am_I := ((RX8, yX8_met, cX8_met, 6, (some .int)), (7, 0, 0, 153), false)
def m8_place : am_I := ((RX8, yX8_place, cX8_place, 7, (some .int)), (7, 0, 0, 153), false)
def m8_sheet : am_I := ((RX8, yX8_sheet, cX8_sheet, 4, (some .int)), (2, 0, 0, 33), false)
def m8_write : am_I := ((RX8, yX8_write, cX8_write, 7, (some .int)), (7, 0, 0, 153), false)
def m8_check : am_I := ((RX8, yX8_check, cX8_check, 6, (some .int)), (8, 0, 0, 176), false)
def m8_stays : am_I := ((RX8, yX8_stays, cX8_stays, 6, (some .int)), (5, 0, 0, 109), false)
def m8_witness : am_I := ((RX8, yX8_witness, cX8_witness, 6, (some .int)), (5, 0, 0, 109), false)
def m8_agree : am_I := ((RX8, yX8_agree, cX8_agree, 7, (some .int)), (8, 0, 0, 165), false)
def m8_follows : am_I := ((RX8, yX8_follows, cX8_follows, 4, (some .int)), (7, 0, 0, 153), false)
def m8_unless : am_I := ((RX8, yX8_unless, cX8_unless, 5, (some .int)), (8, 0, 0, 175), false)
def m8_rows : am_I := ((RX8, yX8_rows, cX8_rows, 4, (some .long)), (5, 0, 0, 106), false)
def m8_lay : am_I := ((RX8, yX8_lay, cX8_lay, 6, (some .int)), (5, 0, 0, 106), false)
def m8_rank : am_I := ((RX8, yX8_rank, cX8_rank, 3, (some .long)), (5, 0, 0, 106), false)
def m8_letter : am_I := ((RX8, yX8_letter, cX8_letter, 2, (some .int)), (3, 0, 0, 54), false)
def m8_clear : am_I := ((RX8, yX8_clear, cX8_clear, 2, (some .int)), (2, 0, 0, 32), false)
def m8_at : am_I := ((RX8, yX8_at, cX8_at, 2, (some .int)), (3, 0, 0, 54), false)
def m8_is : am_I := ((RX8, yX8_is, cX8_is, 3, (some .int)), (4, 0, 0, 78), false)
def m8_run : am_I := ((RX8, yX8_run, cX8_run, 3, (some .int)), (5, 0, 0, 101), false)
def m8_rounds : am_I := ((RX8, yX8_rounds, cX8_rounds, 4, (some .int)), (5, 0, 0, 101), false)
def m8_count : am_I := ((RX8, yX8_count, cX8_count, 2, (some .int)), (2, 0, 0, 32), false)
def m8_within : am_I := ((RX8, yX8_within, cX8_within, 2, (some .boolean)), (1, 0, 0, 12), false)
def m8_oneIf : am_I := ((RX8, yX8_oneIf, cX8_oneIf, 1, (some .int)), (1, 0, 0, 12), false)
def m8_sentenceOf : am_I := ((RX8, yX8_sentenceOf, cX8_sentenceOf, 2, (some (.object "AnyLength$Sentence"))), (2, 0, 0, 33), false)
def m8_programOf : am_I := ((RX8, yX8_programOf, cX8_programOf, 2, (some (.object "AnyLength$Program"))), (2, 0, 0, 33), false)
def m8_claimOf : am_I := ((RX8, yX8_claimOf, cX8_claimOf, 9, (some (.object "AnyLength$Claim"))), (3, 0, 0, 54), false)
def m8_followingOf : am_I := ((RX8, yX8_followingOf, cX8_followingOf, 5, (some (.object "AnyLength$Claim"))), (3, 0, 0, 54), false)
def m8_isWord : am_I := ((RX8, yX8_isWord, cX8_isWord, 3, (some .boolean)), (2, 0, 0, 33), false)
def m8_wordLength : am_I := ((RX8, yX8_wordLength, cX8_wordLength, 1, (some .int)), (1, 0, 0, 12), false)
def m8_wordLetter : am_I := ((RX8, yX8_wordLetter, cX8_wordLetter, 2, (some .int)), (1, 0, 0, 12), false)
def m8_timesIn : am_I := ((RX8, yX8_timesIn, cX8_timesIn, 4, (some .int)), (2, 0, 0, 33), false)
def m9_init : am_I := ((RX9, yX9_init, cX9_init, 1, none), (3, 26, 134058, 56), false)
def m9_in : am_I := ((RX9, yX9_in, cX9_in, 6, (some .boolean)), (1, 0, 0, 12), false)
def m9_begin : am_I := ((RX9, yX9_begin, cX9_begin, 3, none), (2, 0, 0, 34), false)
def m9_bare : am_I := ((RX9, yX9_bare, cX9_bare, 3, none), (1, 0, 0, 12), false)
def m9_noSentence : am_I := ((RX9, yX9_noSentence, cX9_noSentence, 1, (some .boolean)), (2, 0, 0, 37), false)
def m9_noPoint : am_I := ((RX9, yX9_noPoint, cX9_noPoint, 1, (some .boolean)), (2, 0, 0, 37), false)
def m9_noLetter : am_I := ((RX9, yX9_noLetter, cX9_noLetter, 2, (some .boolean)), (2, 0, 0, 37), false)
def m9_noProgram : am_I := ((RX9, yX9_noProgram, cX9_noProgram, 1, (some .boolean)), (2, 0, 0, 37), false)
def m9_letters : am_I := ((RX9, yX9_letters, cX9_letters, 3, (some .int)), (3, 0, 0, 56), false)
def m9_point : am_I := ((RX9, yX9_point, cX9_point, 7, (some .int)), (3, 0, 0, 58), false)
def m9_holds : am_I := ((RX9, yX9_holds, cX9_holds, 5, (some .int)), (3, 0, 0, 57), false)
def m9_leads : am_I := ((RX9, yX9_leads, cX9_leads, 5, (some .int)), (1, 0, 0, 12), false)
def m9_isSoAt : am_I := ((RX9, yX9_isSoAt, cX9_isSoAt, 3, (some .boolean)), (1, 0, 0, 12), false)
def m9_make : am_I := ((RX9, yX9_make, cX9_make, 10, (some .int)), (3, 0, 0, 58), false)
def m9_not : am_I := ((RX9, yX9_not, cX9_not, 5, (some .int)), (3, 0, 0, 57), false)
def m9_both : am_I := ((RX9, yX9_both, cX9_both, 11, (some .int)), (3, 0, 0, 57), false)
def m9_about : am_I := ((RX9, yX9_about, cX9_about, 4, (some .int)), (3, 0, 0, 57), false)
def m9_isWord : am_I := ((RX9, yX9_isWord, cX9_isWord, 2, (some .boolean)), (2, 0, 0, 37), false)
def m9_spot : am_I := ((RX9, yX9_spot, cX9_spot, 8, (some .int)), (3, 0, 0, 58), false)
def m9_end : am_I := ((RX9, yX9_end, cX9_end, 5, (some .int)), (3, 0, 0, 58), false)
def m9_of : am_I := ((RX9, yX9_of, cX9_of, 6, (some .int)), (3, 0, 0, 57), false)
def m9_longOf : am_I := ((RX9, yX9_longOf, cX9_longOf, 1, (some .int)), (1, 0, 0, 12), false)
def m9_letterOf : am_I := ((RX9, yX9_letterOf, cX9_letterOf, 2, (some .int)), (1, 0, 0, 12), false)
def m9_noClaim : am_I := ((RX9, yX9_noClaim, cX9_noClaim, 4, (some .boolean)), (3, 0, 0, 57), false)
def m9_read : am_I := ((RX9, yX9_read, cX9_read, 7, none), (3, 0, 0, 56), false)
def m9_say : am_I := ((RX9, yX9_say, cX9_say, 4, none), (2, 0, 0, 33), false)
def m9_leadsTo : am_I := ((RX9, yX9_leadsTo, cX9_leadsTo, 9, (some .int)), (4, 0, 0, 82), false)
def m9_isBad : am_I := ((RX9, yX9_isBad, cX9_isBad, 8, (some .boolean)), (4, 0, 0, 82), false)
def m9_meet : am_I := ((RX9, yX9_meet, cX9_meet, 10, (some .int)), (5, 0, 0, 110), false)
def m9_claim : am_I := ((RX9, yX9_claim, cX9_claim, 5, (some .int)), (6, 0, 0, 139), false)
def m9_told : am_I := ((RX9, yX9_told, cX9_told, 5, (some .int)), (1, 0, 0, 12), false)
def m9_picture : am_I := ((RX9, yX9_picture, cX9_picture, 7, (some .int)), (6, 0, 0, 139), false)
def m9_met : am_I := ((RX9, yX9_met, cX9_met, 5, (some .int)), (6, 0, 0, 139), false)
def m9_place : am_I := ((RX9, yX9_place, cX9_place, 8, (some .int)), (6, 0, 0, 139), false)
def m9_sheet : am_I := ((RX9, yX9_sheet, cX9_sheet, 4, (some .int)), (2, 0, 0, 37), false)
def m9_write : am_I := ((RX9, yX9_write, cX9_write, 6, (some .int)), (6, 0, 0, 139), false)
def m9_check : am_I := ((RX9, yX9_check, cX9_check, 9, (some .int)), (5, 0, 0, 110), false)
def m9_often : am_I := ((RX9, yX9_often, cX9_often, 4, (some .int)), (2, 0, 0, 33), false)
def m9_unlike : am_I := ((RX9, yX9_unlike, cX9_unlike, 14, (some .int)), (3, 0, 0, 56), false)
def m9_stays : am_I := ((RX9, yX9_stays, cX9_stays, 4, (some .int)), (4, 0, 0, 89), false)
def m9_witness : am_I := ((RX9, yX9_witness, cX9_witness, 4, (some .int)), (4, 0, 0, 89), false)
def m9_pair : am_I := ((RX9, yX9_pair, cX9_pair, 7, (some .int)), (1, 0, 0, 12), false)
def m9_writeBoth : am_I := ((RX9, yX9_writeBoth, cX9_writeBoth, 5, (some .boolean)), (1, 0, 0, 12), false)
def m9_put : am_I := ((RX9, yX9_put, cX9_put, 6, none), (2, 0, 0, 33), false)
def m9_begins : am_I := ((RX9, yX9_begins, cX9_begins, 3, (some .boolean)), (1, 0, 0, 12), false)
def m9_keep : am_I := ((RX9, yX9_keep, cX9_keep, 9, (some .boolean)), (1, 0, 0, 12), false)
def m9_agrees : am_I := ((RX9, yX9_agrees, cX9_agrees, 12, (some .boolean)), (3, 0, 0, 58), false)
def m9_agree : am_I := ((RX9, yX9_agree, cX9_agree, 4, (some .int)), (4, 0, 0, 89), false)
def m9_part : am_I := ((RX9, yX9_part, cX9_part, 7, (some .int)), (1, 0, 0, 12), false)
def m9_follows : am_I := ((RX9, yX9_follows, cX9_follows, 3, (some .int)), (3, 0, 0, 57), false)
def m9_unless : am_I := ((RX9, yX9_unless, cX9_unless, 5, (some .int)), (3, 0, 0, 57), false)
def m9_reckon : am_I := ((RX9, yX9_reckon, cX9_reckon, 8, none), (1, 0, 0, 12), false)
def m9_rows : am_I := ((RX9, yX9_rows, cX9_rows, 3, (some .long)), (3, 0, 0, 57), false)
def m9_lay : am_I := ((RX9, yX9_lay, cX9_lay, 12, (some .int)), (3, 0, 0, 57), false)
def m9_isSo : am_I := ((RX9, yX9_isSo, cX9_isSo, 4, (some .boolean)), (1, 0, 0, 12), false)
def m9_rank : am_I := ((RX9, yX9_rank, cX9_rank, 7, (some .long)), (3, 0, 0, 57), false)
def m9_letter : am_I := ((RX9, yX9_letter, cX9_letter, 2, (some .int)), (3, 0, 0, 58), false)
def m9_clear : am_I := ((RX9, yX9_clear, cX9_clear, 2, (some .int)), (1, 0, 0, 12), false)
def m9_at : am_I := ((RX9, yX9_at, cX9_at, 2, (some .int)), (2, 0, 0, 37), false)
def m9_is : am_I := ((RX9, yX9_is, cX9_is, 2, (some .int)), (3, 0, 0, 57), false)
def m9_add : am_I := ((RX9, yX9_add, cX9_add, 3, none), (2, 0, 0, 33), false)
def m9_writes : am_I := ((RX9, yX9_writes, cX9_writes, 5, (some .boolean)), (3, 0, 0, 55), false)
def m9_take : am_I := ((RX9, yX9_take, cX9_take, 2, none), (1, 0, 0, 12), false)
def m9_run : am_I := ((RX9, yX9_run, cX9_run, 2, (some .int)), (4, 0, 0, 79), false)
def m9_rounds : am_I := ((RX9, yX9_rounds, cX9_rounds, 8, (some .int)), (4, 0, 0, 79), false)
def m9_count : am_I := ((RX9, yX9_count, cX9_count, 4, (some .int)), (1, 0, 0, 12), false)
def mJ_abs : am_I := ((RJ9, yJ9_abs_0f7a4, cJ9_abs_0f7a4, 1, (some .int)), (1, 0, 0, 12), false)
def mJ_max : am_I := ((RJ9, yJ9_max_7cf53, cJ9_max_7cf53, 2, (some .int)), (1, 0, 0, 12), false)
def mJ_min : am_I := ((RJ9, yJ9_min_7cf53, cJ9_min_7cf53, 2, (some .int)), (1, 0, 0, 12), false)
def mJ_fill : am_I := ((RJ7, yJ7_fill_53178, cJ7_fill_53178, 4, none), (1, 0, 0, 12), false)
def mL : am_I := ((RL, yL_law, cL_law, 4, (some .boolean)), (10, 600000, 7302250, 382), true)
theorem jgX0 : wsX00.all goodWord = true := by decide +kernel
theorem jnX0 : ∀ w ∈ wsX00, w ∈ am_tb := fun w h => am_tb_of (inX0 w h) (List.all_eq_true.mp jgX0 w h)
theorem jgX1 : wsX10.all goodWord = true := by decide +kernel
theorem jnX1 : ∀ w ∈ wsX10, w ∈ am_tb := fun w h => am_tb_of (inX1 w h) (List.all_eq_true.mp jgX1 w h)
theorem jgX2 : wsX20.all goodWord = true := by decide +kernel
theorem jnX2 : ∀ w ∈ wsX20, w ∈ am_tb := fun w h => am_tb_of (inX2 w h) (List.all_eq_true.mp jgX2 w h)
theorem jgX3 : wsX30.all goodWord = true := by decide +kernel
theorem jnX3 : ∀ w ∈ wsX30, w ∈ am_tb := fun w h => am_tb_of (inX3 w h) (List.all_eq_true.mp jgX3 w h)
theorem jgX4 : wsX40.all goodWord = true := by decide +kernel
theorem jnX4 : ∀ w ∈ wsX40, w ∈ am_tb := fun w h => am_tb_of (inX4 w h) (List.all_eq_true.mp jgX4 w h)
theorem jgX5 : wsX50.all goodWord = true := by decide +kernel
theorem jnX5 : ∀ w ∈ wsX50, w ∈ am_tb := fun w h => am_tb_of (inX5 w h) (List.all_eq_true.mp jgX5 w h)
theorem jgX6 : wsX60.all goodWord = true := by decide +kernel
theorem jnX6 : ∀ w ∈ wsX60, w ∈ am_tb := fun w h => am_tb_of (inX6 w h) (List.all_eq_true.mp jgX6 w h)
theorem jgX7 : wsX70.all goodWord = true := by decide +kernel
theorem jnX7 : ∀ w ∈ wsX70, w ∈ am_tb := fun w h => am_tb_of (inX7 w h) (List.all_eq_true.mp jgX7 w h)
theorem jgX8 : wsX80.all goodWord = true := by decide +kernel
theorem jnX8 : ∀ w ∈ wsX80, w ∈ am_tb := fun w h => am_tb_of (inX8 w h) (List.all_eq_true.mp jgX8 w h)
theorem jgX9 : wsX90.all goodWord = true := by decide +kernel
theorem jnX9 : ∀ w ∈ wsX90, w ∈ am_tb := fun w h => am_tb_of (inX9 w h) (List.all_eq_true.mp jgX9 w h)
theorem l0_m5_init : am_lk0 m5_init 1 := ⟨am_ix 75 (by decide +kernel) rfl, am_ix 5 (by decide +kernel) rfl, by decide +kernel, by decide +kernel, by decide +kernel⟩
theorem li_m5_init : Cond.instanceMethod (am_y m5_init) ∈ am_tb := am_ix 74 (by decide +kernel) rfl
theorem lk_RX0_30 : am_lkI RX0 30 m5_init 1 := ⟨l0_m5_init, am_ix 171 (by decide +kernel) rfl, li_m5_init, rfl, rfl⟩
theorem lk_RX8_47 : am_lkI RX8 47 m5_init 1 := ⟨l0_m5_init, am_ix 73 (by decide +kernel) rfl, li_m5_init, rfl, rfl⟩
theorem l0_m0_explore : am_lk0 m0_explore 0 := ⟨am_ix 569 (by decide +kernel) rfl, am_ix 10 (by decide +kernel) rfl, by decide +kernel, by decide +kernel, by decide +kernel⟩
theorem lv_m0_explore : Cond.instanceMethod (am_y m0_explore) ∈ am_tb ∧ Cond.selects (am_y m0_explore).cls (am_y m0_explore) (am_y m0_explore) ∈ am_tb := ⟨am_ix 568 (by decide +kernel) rfl, am_tb_of (List.mem_append_left _ (List.mem_of_getElem? (i := 14) (by decide +kernel))) rfl⟩
theorem lk_RX0_54 : am_lkV RX0 54 m0_explore 0 := ⟨l0_m0_explore, am_ix 566 (by decide +kernel) rfl, lv_m0_explore.1, lv_m0_explore.2⟩
theorem l0_m0_oneStopsAlone : am_lk0 m0_oneStopsAlone 0 := ⟨am_ix 594 (by decide +kernel) rfl, am_ix 10 (by decide +kernel) rfl, by decide +kernel, by decide +kernel, by decide +kernel⟩
theorem lv_m0_oneStopsAlone : Cond.instanceMethod (am_y m0_oneStopsAlone) ∈ am_tb ∧ Cond.selects (am_y m0_oneStopsAlone).cls (am_y m0_oneStopsAlone) (am_y m0_oneStopsAlone) ∈ am_tb := ⟨am_ix 593 (by decide +kernel) rfl, am_tb_of (List.mem_append_left _ (List.mem_of_getElem? (i := 17) (by decide +kernel))) rfl⟩
theorem lk_RX0_57 : am_lkV RX0 57 m0_oneStopsAlone 0 := ⟨l0_m0_oneStopsAlone, am_ix 591 (by decide +kernel) rfl, lv_m0_oneStopsAlone.1, lv_m0_oneStopsAlone.2⟩
theorem l0_m0_markLive : am_lk0 m0_markLive 0 := ⟨am_ix 600 (by decide +kernel) rfl, am_ix 10 (by decide +kernel) rfl, by decide +kernel, by decide +kernel, by decide +kernel⟩
theorem lv_m0_markLive : Cond.instanceMethod (am_y m0_markLive) ∈ am_tb ∧ Cond.selects (am_y m0_markLive).cls (am_y m0_markLive) (am_y m0_markLive) ∈ am_tb := ⟨am_ix 599 (by decide +kernel) rfl, am_tb_of (List.mem_append_left _ (List.mem_of_getElem? (i := 18) (by decide +kernel))) rfl⟩
theorem lk_RX0_61 : am_lkV RX0 61 m0_markLive 0 := ⟨l0_m0_markLive, am_ix 597 (by decide +kernel) rfl, lv_m0_markLive.1, lv_m0_markLive.2⟩
theorem l0_m0_leadsAreEven : am_lk0 m0_leadsAreEven 0 := ⟨am_ix 623 (by decide +kernel) rfl, am_ix 10 (by decide +kernel) rfl, by decide +kernel, by decide +kernel, by decide +kernel⟩
theorem lv_m0_leadsAreEven : Cond.instanceMethod (am_y m0_leadsAreEven) ∈ am_tb ∧ Cond.selects (am_y m0_leadsAreEven).cls (am_y m0_leadsAreEven) (am_y m0_leadsAreEven) ∈ am_tb := ⟨am_ix 622 (by decide +kernel) rfl, am_tb_of (List.mem_append_left _ (List.mem_of_getElem? (i := 23) (by decide +kernel))) rfl⟩
theorem lk_RX0_64 : am_lkV RX0 64 m0_leadsAreEven 0 := ⟨l0_m0_leadsAreEven, am_ix 620 (by decide +kernel) rfl, lv_m0_leadsAreEven.1, lv_m0_leadsAreEven.2⟩
theorem l0_mJ_fill : am_lk0 mJ_fill 2 := ⟨am_ix 34 (by decide +kernel) rfl, am_ix 3 (by decide +kernel) rfl, by decide +kernel, by decide +kernel, by decide +kernel⟩
theorem lt_mJ_fill : Cond.static (am_y mJ_fill) ∈ am_tb := am_ix 33 (by decide +kernel) rfl
theorem lk_RX0_67 : am_lkS RX0 67 mJ_fill 2 := ⟨l0_mJ_fill, am_ix 570 (by decide +kernel) rfl, lt_mJ_fill⟩
theorem lk_RX1_31 : am_lkS RX1 31 mJ_fill 2 := ⟨l0_mJ_fill, am_ix 536 (by decide +kernel) rfl, lt_mJ_fill⟩
theorem lk_RX2_39 : am_lkS RX2 39 mJ_fill 2 := ⟨l0_mJ_fill, am_ix 435 (by decide +kernel) rfl, lt_mJ_fill⟩
theorem lk_RX3_60 : am_lkS RX3 60 mJ_fill 2 := ⟨l0_mJ_fill, am_ix 338 (by decide +kernel) rfl, lt_mJ_fill⟩
theorem lk_RX6_21 : am_lkS RX6 21 mJ_fill 2 := ⟨l0_mJ_fill, am_ix 32 (by decide +kernel) rfl, lt_mJ_fill⟩
theorem lk_RX8_101 : am_lkS RX8 101 mJ_fill 2 := ⟨l0_mJ_fill, am_ix 275 (by decide +kernel) rfl, lt_mJ_fill⟩
theorem l0_m0_meet : am_lk0 m0_meet 1 := ⟨am_ix 574 (by decide +kernel) rfl, am_ix 10 (by decide +kernel) rfl, by decide +kernel, by decide +kernel, by decide +kernel⟩
theorem lv_m0_meet : Cond.instanceMethod (am_y m0_meet) ∈ am_tb ∧ Cond.selects (am_y m0_meet).cls (am_y m0_meet) (am_y m0_meet) ∈ am_tb := ⟨am_ix 573 (by decide +kernel) rfl, am_tb_of (List.mem_append_left _ (List.mem_of_getElem? (i := 15) (by decide +kernel))) rfl⟩
theorem lk_RX0_73 : am_lkV RX0 73 m0_meet 1 := ⟨l0_m0_meet, am_ix 571 (by decide +kernel) rfl, lv_m0_meet.1, lv_m0_meet.2⟩
theorem l0_m0_after : am_lk0 m0_after 2 := ⟨am_ix 579 (by decide +kernel) rfl, am_ix 10 (by decide +kernel) rfl, by decide +kernel, by decide +kernel, by decide +kernel⟩
theorem lv_m0_after : Cond.instanceMethod (am_y m0_after) ∈ am_tb ∧ Cond.selects (am_y m0_after).cls (am_y m0_after) (am_y m0_after) ∈ am_tb := ⟨am_ix 578 (by decide +kernel) rfl, am_tb_of (List.mem_append_left _ (List.mem_of_getElem? (i := 16) (by decide +kernel))) rfl⟩
theorem lk_RX0_76 : am_lkV RX0 76 m0_after 2 := ⟨l0_m0_after, am_ix 576 (by decide +kernel) rfl, lv_m0_after.1, lv_m0_after.2⟩
theorem l0_m8_within : am_lk0 m8_within 2 := ⟨am_ix 60 (by decide +kernel) rfl, am_ix 1 (by decide +kernel) rfl, by decide +kernel, by decide +kernel, by decide +kernel⟩
theorem lt_m8_within : Cond.static (am_y m8_within) ∈ am_tb := am_ix 59 (by decide +kernel) rfl
theorem lk_RX0_80 : am_lkN RX0 80 m8_within 2 := ⟨l0_m8_within, ⟨"AnyLength", am_nx 575 rfl (by decide +kernel)⟩, lt_m8_within⟩
theorem lk_RX1_72 : am_lkN RX1 72 m8_within 2 := ⟨l0_m8_within, ⟨"AnyLength", am_nx 541 rfl (by decide +kernel)⟩, lt_m8_within⟩
theorem lk_RX2_53 : am_lkN RX2 53 m8_within 2 := ⟨l0_m8_within, ⟨"AnyLength", am_nx 440 rfl (by decide +kernel)⟩, lt_m8_within⟩
theorem lk_RX3_70 : am_lkN RX3 70 m8_within 2 := ⟨l0_m8_within, ⟨"AnyLength", am_nx 343 rfl (by decide +kernel)⟩, lt_m8_within⟩
theorem lk_RX4_28 : am_lkN RX4 28 m8_within 2 := ⟨l0_m8_within, ⟨"AnyLength", am_nx 58 rfl (by decide +kernel)⟩, lt_m8_within⟩
theorem lk_RX5_25 : am_lkN RX5 25 m8_within 2 := ⟨l0_m8_within, ⟨"AnyLength", am_nx 645 rfl (by decide +kernel)⟩, lt_m8_within⟩
theorem lk_RX6_27 : am_lkN RX6 27 m8_within 2 := ⟨l0_m8_within, ⟨"AnyLength", am_nx 293 rfl (by decide +kernel)⟩, lt_m8_within⟩
theorem lk_RX7_45 : am_lkN RX7 45 m8_within 2 := ⟨l0_m8_within, ⟨"AnyLength", am_nx 717 rfl (by decide +kernel)⟩, lt_m8_within⟩
theorem lk_RX8_114 : am_lkS RX8 114 m8_within 2 := ⟨l0_m8_within, am_ix 288 (by decide +kernel) rfl, lt_m8_within⟩
theorem l0_m0_oneSpot : am_lk0 m0_oneSpot 1 := ⟨am_ix 582 (by decide +kernel) rfl, am_ix 10 (by decide +kernel) rfl, by decide +kernel, by decide +kernel, by decide +kernel⟩
theorem lt_m0_oneSpot : Cond.static (am_y m0_oneSpot) ∈ am_tb := am_ix 581 (by decide +kernel) rfl
theorem lk_RX0_84 : am_lkS RX0 84 m0_oneSpot 1 := ⟨l0_m0_oneSpot, am_ix 580 (by decide +kernel) rfl, lt_m0_oneSpot⟩
theorem l0_m4_nextOf : am_lk0 m4_nextOf 2 := ⟨am_ix 418 (by decide +kernel) rfl, am_ix 4 (by decide +kernel) rfl, by decide +kernel, by decide +kernel, by decide +kernel⟩
theorem lv_m4_nextOf : Cond.instanceMethod (am_y m4_nextOf) ∈ am_tb ∧ Cond.selects (am_y m4_nextOf).cls (am_y m4_nextOf) (am_y m4_nextOf) ∈ am_tb := ⟨am_ix 416 (by decide +kernel) rfl, am_ix 417 (by decide +kernel) rfl⟩
theorem lk_RX0_88 : am_lkV RX0 88 m4_nextOf 2 := ⟨l0_m4_nextOf, am_ix 583 (by decide +kernel) rfl, lv_m4_nextOf.1, lv_m4_nextOf.2⟩
theorem lk_RX1_67 : am_lkV RX1 67 m4_nextOf 2 := ⟨l0_m4_nextOf, am_ix 553 (by decide +kernel) rfl, lv_m4_nextOf.1, lv_m4_nextOf.2⟩
theorem lk_RX2_89 : am_lkV RX2 89 m4_nextOf 2 := ⟨l0_m4_nextOf, am_ix 459 (by decide +kernel) rfl, lv_m4_nextOf.1, lv_m4_nextOf.2⟩
theorem lk_RX4_53 : am_lkV RX4 53 m4_nextOf 2 := ⟨l0_m4_nextOf, am_ix 787 (by decide +kernel) rfl, lv_m4_nextOf.1, lv_m4_nextOf.2⟩
theorem lk_RX8_174 : am_lkV RX8 174 m4_nextOf 2 := ⟨l0_m4_nextOf, am_ix 415 (by decide +kernel) rfl, lv_m4_nextOf.1, lv_m4_nextOf.2⟩
theorem l0_m0_otherSpot : am_lk0 m0_otherSpot 1 := ⟨am_ix 586 (by decide +kernel) rfl, am_ix 10 (by decide +kernel) rfl, by decide +kernel, by decide +kernel, by decide +kernel⟩
theorem lt_m0_otherSpot : Cond.static (am_y m0_otherSpot) ∈ am_tb := am_ix 585 (by decide +kernel) rfl
theorem lk_RX0_93 : am_lkS RX0 93 m0_otherSpot 1 := ⟨l0_m0_otherSpot, am_ix 584 (by decide +kernel) rfl, lt_m0_otherSpot⟩
theorem l0_m0_pointOf : am_lk0 m0_pointOf 1 := ⟨am_ix 589 (by decide +kernel) rfl, am_ix 10 (by decide +kernel) rfl, by decide +kernel, by decide +kernel, by decide +kernel⟩
theorem lt_m0_pointOf : Cond.static (am_y m0_pointOf) ∈ am_tb := am_ix 588 (by decide +kernel) rfl
theorem lk_RX0_96 : am_lkS RX0 96 m0_pointOf 1 := ⟨l0_m0_pointOf, am_ix 587 (by decide +kernel) rfl, lt_m0_pointOf⟩
theorem l0_m6_nextOf : am_lk0 m6_nextOf 2 := ⟨am_ix 292 (by decide +kernel) rfl, am_ix 2 (by decide +kernel) rfl, by decide +kernel, by decide +kernel, by decide +kernel⟩
theorem lv_m6_nextOf : Cond.instanceMethod (am_y m6_nextOf) ∈ am_tb ∧ Cond.selects (am_y m6_nextOf).cls (am_y m6_nextOf) (am_y m6_nextOf) ∈ am_tb := ⟨am_ix 290 (by decide +kernel) rfl, am_ix 291 (by decide +kernel) rfl⟩
theorem lk_RX0_99 : am_lkV RX0 99 m6_nextOf 2 := ⟨l0_m6_nextOf, am_ix 590 (by decide +kernel) rfl, lv_m6_nextOf.1, lv_m6_nextOf.2⟩
theorem lk_RX1_62 : am_lkV RX1 62 m6_nextOf 2 := ⟨l0_m6_nextOf, am_ix 552 (by decide +kernel) rfl, lv_m6_nextOf.1, lv_m6_nextOf.2⟩
theorem lk_RX2_84 : am_lkV RX2 84 m6_nextOf 2 := ⟨l0_m6_nextOf, am_ix 460 (by decide +kernel) rfl, lv_m6_nextOf.1, lv_m6_nextOf.2⟩
theorem lk_RX3_74 : am_lkV RX3 74 m6_nextOf 2 := ⟨l0_m6_nextOf, am_ix 347 (by decide +kernel) rfl, lv_m6_nextOf.1, lv_m6_nextOf.2⟩
theorem lk_RX5_53 : am_lkV RX5 53 m6_nextOf 2 := ⟨l0_m6_nextOf, am_ix 747 (by decide +kernel) rfl, lv_m6_nextOf.1, lv_m6_nextOf.2⟩
theorem lk_RX6_43 : am_lkV RX6 43 m6_nextOf 2 := ⟨l0_m6_nextOf, am_ix 456 (by decide +kernel) rfl, lv_m6_nextOf.1, lv_m6_nextOf.2⟩
theorem lk_RX7_37 : am_lkV RX7 37 m6_nextOf 2 := ⟨l0_m6_nextOf, am_ix 722 (by decide +kernel) rfl, lv_m6_nextOf.1, lv_m6_nextOf.2⟩
theorem lk_RX8_118 : am_lkV RX8 118 m6_nextOf 2 := ⟨l0_m6_nextOf, am_ix 289 (by decide +kernel) rfl, lv_m6_nextOf.1, lv_m6_nextOf.2⟩
theorem l0_m4_endOf : am_lk0 m4_endOf 1 := ⟨am_ix 406 (by decide +kernel) rfl, am_ix 4 (by decide +kernel) rfl, by decide +kernel, by decide +kernel, by decide +kernel⟩
theorem lv_m4_endOf : Cond.instanceMethod (am_y m4_endOf) ∈ am_tb ∧ Cond.selects (am_y m4_endOf).cls (am_y m4_endOf) (am_y m4_endOf) ∈ am_tb := ⟨am_ix 404 (by decide +kernel) rfl, am_ix 405 (by decide +kernel) rfl⟩
theorem lk_RX0_102 : am_lkV RX0 102 m4_endOf 1 := ⟨l0_m4_endOf, am_ix 595 (by decide +kernel) rfl, lv_m4_endOf.1, lv_m4_endOf.2⟩
theorem lk_RX1_41 : am_lkV RX1 41 m4_endOf 1 := ⟨l0_m4_endOf, am_ix 542 (by decide +kernel) rfl, lv_m4_endOf.1, lv_m4_endOf.2⟩
theorem lk_RX2_102 : am_lkV RX2 102 m4_endOf 1 := ⟨l0_m4_endOf, am_ix 470 (by decide +kernel) rfl, lv_m4_endOf.1, lv_m4_endOf.2⟩
theorem lk_RX4_56 : am_lkV RX4 56 m4_endOf 1 := ⟨l0_m4_endOf, am_ix 788 (by decide +kernel) rfl, lv_m4_endOf.1, lv_m4_endOf.2⟩
theorem lk_RX8_166 : am_lkV RX8 166 m4_endOf 1 := ⟨l0_m4_endOf, am_ix 403 (by decide +kernel) rfl, lv_m4_endOf.1, lv_m4_endOf.2⟩
theorem l0_m6_holdsAt : am_lk0 m6_holdsAt 1 := ⟨am_ix 305 (by decide +kernel) rfl, am_ix 2 (by decide +kernel) rfl, by decide +kernel, by decide +kernel, by decide +kernel⟩
theorem lv_m6_holdsAt : Cond.instanceMethod (am_y m6_holdsAt) ∈ am_tb ∧ Cond.selects (am_y m6_holdsAt).cls (am_y m6_holdsAt) (am_y m6_holdsAt) ∈ am_tb := ⟨am_ix 303 (by decide +kernel) rfl, am_ix 304 (by decide +kernel) rfl⟩
theorem lk_RX0_105 : am_lkV RX0 105 m6_holdsAt 1 := ⟨l0_m6_holdsAt, am_ix 596 (by decide +kernel) rfl, lv_m6_holdsAt.1, lv_m6_holdsAt.2⟩
theorem lk_RX1_68 : am_lkV RX1 68 m6_holdsAt 1 := ⟨l0_m6_holdsAt, am_ix 546 (by decide +kernel) rfl, lv_m6_holdsAt.1, lv_m6_holdsAt.2⟩
theorem lk_RX2_99 : am_lkV RX2 99 m6_holdsAt 1 := ⟨l0_m6_holdsAt, am_ix 469 (by decide +kernel) rfl, lv_m6_holdsAt.1, lv_m6_holdsAt.2⟩
theorem lk_RX3_36 : am_lkV RX3 36 m6_holdsAt 1 := ⟨l0_m6_holdsAt, am_ix 349 (by decide +kernel) rfl, lv_m6_holdsAt.1, lv_m6_holdsAt.2⟩
theorem lk_RX7_19 : am_lkV RX7 19 m6_holdsAt 1 := ⟨l0_m6_holdsAt, am_ix 711 (by decide +kernel) rfl, lv_m6_holdsAt.1, lv_m6_holdsAt.2⟩
theorem lk_RX8_126 : am_lkV RX8 126 m6_holdsAt 1 := ⟨l0_m6_holdsAt, am_ix 302 (by decide +kernel) rfl, lv_m6_holdsAt.1, lv_m6_holdsAt.2⟩
theorem l0_mJ_min : am_lk0 mJ_min 2 := ⟨am_ix 603 (by decide +kernel) rfl, am_ix 6 (by decide +kernel) rfl, by decide +kernel, by decide +kernel, by decide +kernel⟩
theorem lt_mJ_min : Cond.static (am_y mJ_min) ∈ am_tb := am_ix 602 (by decide +kernel) rfl
theorem lk_RX0_109 : am_lkS RX0 109 mJ_min 2 := ⟨l0_mJ_min, am_ix 601 (by decide +kernel) rfl, lt_mJ_min⟩
theorem lk_RX5_50 : am_lkS RX5 50 mJ_min 2 := ⟨l0_mJ_min, am_ix 661 (by decide +kernel) rfl, lt_mJ_min⟩
theorem l0_m0_isLive : am_lk0 m0_isLive 1 := ⟨am_ix 607 (by decide +kernel) rfl, am_ix 10 (by decide +kernel) rfl, by decide +kernel, by decide +kernel, by decide +kernel⟩
theorem lv_m0_isLive : Cond.instanceMethod (am_y m0_isLive) ∈ am_tb ∧ Cond.selects (am_y m0_isLive).cls (am_y m0_isLive) (am_y m0_isLive) ∈ am_tb := ⟨am_ix 606 (by decide +kernel) rfl, am_tb_of (List.mem_append_left _ (List.mem_of_getElem? (i := 19) (by decide +kernel))) rfl⟩
theorem lk_RX0_114 : am_lkV RX0 114 m0_isLive 1 := ⟨l0_m0_isLive, am_ix 604 (by decide +kernel) rfl, lv_m0_isLive.1, lv_m0_isLive.2⟩
theorem l0_m0_bothWrite : am_lk0 m0_bothWrite 1 := ⟨am_ix 611 (by decide +kernel) rfl, am_ix 10 (by decide +kernel) rfl, by decide +kernel, by decide +kernel, by decide +kernel⟩
theorem lv_m0_bothWrite : Cond.instanceMethod (am_y m0_bothWrite) ∈ am_tb ∧ Cond.selects (am_y m0_bothWrite).cls (am_y m0_bothWrite) (am_y m0_bothWrite) ∈ am_tb := ⟨am_ix 610 (by decide +kernel) rfl, am_tb_of (List.mem_append_left _ (List.mem_of_getElem? (i := 20) (by decide +kernel))) rfl⟩
theorem lk_RX0_117 : am_lkV RX0 117 m0_bothWrite 1 := ⟨l0_m0_bothWrite, am_ix 608 (by decide +kernel) rfl, lv_m0_bothWrite.1, lv_m0_bothWrite.2⟩
theorem l0_m0_leadsToLive : am_lk0 m0_leadsToLive 1 := ⟨am_ix 615 (by decide +kernel) rfl, am_ix 10 (by decide +kernel) rfl, by decide +kernel, by decide +kernel, by decide +kernel⟩
theorem lv_m0_leadsToLive : Cond.instanceMethod (am_y m0_leadsToLive) ∈ am_tb ∧ Cond.selects (am_y m0_leadsToLive).cls (am_y m0_leadsToLive) (am_y m0_leadsToLive) ∈ am_tb := ⟨am_ix 614 (by decide +kernel) rfl, am_tb_of (List.mem_append_left _ (List.mem_of_getElem? (i := 21) (by decide +kernel))) rfl⟩
theorem lk_RX0_120 : am_lkV RX0 120 m0_leadsToLive 1 := ⟨l0_m0_leadsToLive, am_ix 612 (by decide +kernel) rfl, lv_m0_leadsToLive.1, lv_m0_leadsToLive.2⟩
theorem l0_m0_setLive : am_lk0 m0_setLive 1 := ⟨am_ix 619 (by decide +kernel) rfl, am_ix 10 (by decide +kernel) rfl, by decide +kernel, by decide +kernel, by decide +kernel⟩
theorem lv_m0_setLive : Cond.instanceMethod (am_y m0_setLive) ∈ am_tb ∧ Cond.selects (am_y m0_setLive).cls (am_y m0_setLive) (am_y m0_setLive) ∈ am_tb := ⟨am_ix 618 (by decide +kernel) rfl, am_tb_of (List.mem_append_left _ (List.mem_of_getElem? (i := 22) (by decide +kernel))) rfl⟩
theorem lk_RX0_123 : am_lkV RX0 123 m0_setLive 1 := ⟨l0_m0_setLive, am_ix 616 (by decide +kernel) rfl, lv_m0_setLive.1, lv_m0_setLive.2⟩
theorem l0_m0_endsEven : am_lk0 m0_endsEven 1 := ⟨am_ix 628 (by decide +kernel) rfl, am_ix 10 (by decide +kernel) rfl, by decide +kernel, by decide +kernel, by decide +kernel⟩
theorem lv_m0_endsEven : Cond.instanceMethod (am_y m0_endsEven) ∈ am_tb ∧ Cond.selects (am_y m0_endsEven).cls (am_y m0_endsEven) (am_y m0_endsEven) ∈ am_tb := ⟨am_ix 627 (by decide +kernel) rfl, am_tb_of (List.mem_append_left _ (List.mem_of_getElem? (i := 24) (by decide +kernel))) rfl⟩
theorem lk_RX0_127 : am_lkV RX0 127 m0_endsEven 1 := ⟨l0_m0_endsEven, am_ix 625 (by decide +kernel) rfl, lv_m0_endsEven.1, lv_m0_endsEven.2⟩
theorem l0_m0_stepsEven : am_lk0 m0_stepsEven 2 := ⟨am_ix 669 (by decide +kernel) rfl, am_ix 10 (by decide +kernel) rfl, by decide +kernel, by decide +kernel, by decide +kernel⟩
theorem lv_m0_stepsEven : Cond.instanceMethod (am_y m0_stepsEven) ∈ am_tb ∧ Cond.selects (am_y m0_stepsEven).cls (am_y m0_stepsEven) (am_y m0_stepsEven) ∈ am_tb := ⟨am_ix 668 (by decide +kernel) rfl, am_tb_of (List.mem_append_left _ (List.mem_of_getElem? (i := 27) (by decide +kernel))) rfl⟩
theorem lk_RX0_130 : am_lkV RX0 130 m0_stepsEven 2 := ⟨l0_m0_stepsEven, am_ix 666 (by decide +kernel) rfl, lv_m0_stepsEven.1, lv_m0_stepsEven.2⟩
theorem l0_m0_fetch : am_lk0 m0_fetch 1 := ⟨am_ix 632 (by decide +kernel) rfl, am_ix 10 (by decide +kernel) rfl, by decide +kernel, by decide +kernel, by decide +kernel⟩
theorem lv_m0_fetch : Cond.instanceMethod (am_y m0_fetch) ∈ am_tb ∧ Cond.selects (am_y m0_fetch).cls (am_y m0_fetch) (am_y m0_fetch) ∈ am_tb := ⟨am_ix 631 (by decide +kernel) rfl, am_tb_of (List.mem_append_left _ (List.mem_of_getElem? (i := 25) (by decide +kernel))) rfl⟩
theorem lk_RX0_133 : am_lkV RX0 133 m0_fetch 1 := ⟨l0_m0_fetch, am_ix 629 (by decide +kernel) rfl, lv_m0_fetch.1, lv_m0_fetch.2⟩
theorem l0_m5_addWord : am_lk0 m5_addWord 1 := ⟨am_ix 649 (by decide +kernel) rfl, am_ix 5 (by decide +kernel) rfl, by decide +kernel, by decide +kernel, by decide +kernel⟩
theorem lv_m5_addWord : Cond.instanceMethod (am_y m5_addWord) ∈ am_tb ∧ Cond.selects (am_y m5_addWord).cls (am_y m5_addWord) (am_y m5_addWord) ∈ am_tb := ⟨am_ix 647 (by decide +kernel) rfl, am_ix 648 (by decide +kernel) rfl⟩
theorem lk_RX0_136 : am_lkV RX0 136 m5_addWord 1 := ⟨l0_m5_addWord, am_ix 646 (by decide +kernel) rfl, lv_m5_addWord.1, lv_m5_addWord.2⟩
theorem lk_RX4_49 : am_lkV RX4 49 m5_addWord 1 := ⟨l0_m5_addWord, am_ix 786 (by decide +kernel) rfl, lv_m5_addWord.1, lv_m5_addWord.2⟩
theorem l0_m5_isLike : am_lk0 m5_isLike 1 := ⟨am_ix 656 (by decide +kernel) rfl, am_ix 5 (by decide +kernel) rfl, by decide +kernel, by decide +kernel, by decide +kernel⟩
theorem lv_m5_isLike : Cond.instanceMethod (am_y m5_isLike) ∈ am_tb ∧ Cond.selects (am_y m5_isLike).cls (am_y m5_isLike) (am_y m5_isLike) ∈ am_tb := ⟨am_ix 654 (by decide +kernel) rfl, am_ix 655 (by decide +kernel) rfl⟩
theorem lk_RX0_139 : am_lkV RX0 139 m5_isLike 1 := ⟨l0_m5_isLike, am_ix 653 (by decide +kernel) rfl, lv_m5_isLike.1, lv_m5_isLike.2⟩
theorem lk_RX8_256 : am_lkV RX8 256 m5_isLike 1 := ⟨l0_m5_isLike, am_ix 798 (by decide +kernel) rfl, lv_m5_isLike.1, lv_m5_isLike.2⟩
theorem l0_m4_wordOf : am_lk0 m4_wordOf 2 := ⟨am_ix 397 (by decide +kernel) rfl, am_ix 4 (by decide +kernel) rfl, by decide +kernel, by decide +kernel, by decide +kernel⟩
theorem lv_m4_wordOf : Cond.instanceMethod (am_y m4_wordOf) ∈ am_tb ∧ Cond.selects (am_y m4_wordOf).cls (am_y m4_wordOf) (am_y m4_wordOf) ∈ am_tb := ⟨am_ix 395 (by decide +kernel) rfl, am_ix 396 (by decide +kernel) rfl⟩
theorem lk_RX0_143 : am_lkV RX0 143 m4_wordOf 2 := ⟨l0_m4_wordOf, am_ix 670 (by decide +kernel) rfl, lv_m4_wordOf.1, lv_m4_wordOf.2⟩
theorem lk_RX1_51 : am_lkV RX1 51 m4_wordOf 2 := ⟨l0_m4_wordOf, am_ix 550 (by decide +kernel) rfl, lv_m4_wordOf.1, lv_m4_wordOf.2⟩
theorem lk_RX2_76 : am_lkV RX2 76 m4_wordOf 2 := ⟨l0_m4_wordOf, am_ix 445 (by decide +kernel) rfl, lv_m4_wordOf.1, lv_m4_wordOf.2⟩
theorem lk_RX4_45 : am_lkV RX4 45 m4_wordOf 2 := ⟨l0_m4_wordOf, am_ix 785 (by decide +kernel) rfl, lv_m4_wordOf.1, lv_m4_wordOf.2⟩
theorem lk_RX8_160 : am_lkV RX8 160 m4_wordOf 2 := ⟨l0_m4_wordOf, am_ix 394 (by decide +kernel) rfl, lv_m4_wordOf.1, lv_m4_wordOf.2⟩
theorem l0_m5_isLikeSoFar : am_lk0 m5_isLikeSoFar 1 := ⟨am_ix 660 (by decide +kernel) rfl, am_ix 5 (by decide +kernel) rfl, by decide +kernel, by decide +kernel, by decide +kernel⟩
theorem lv_m5_isLikeSoFar : Cond.instanceMethod (am_y m5_isLikeSoFar) ∈ am_tb ∧ Cond.selects (am_y m5_isLikeSoFar).cls (am_y m5_isLikeSoFar) (am_y m5_isLikeSoFar) ∈ am_tb := ⟨am_ix 658 (by decide +kernel) rfl, am_ix 659 (by decide +kernel) rfl⟩
theorem lk_RX0_146 : am_lkV RX0 146 m5_isLikeSoFar 1 := ⟨l0_m5_isLikeSoFar, am_ix 671 (by decide +kernel) rfl, lv_m5_isLikeSoFar.1, lv_m5_isLikeSoFar.2⟩
theorem lk_RX5_46 : am_lkV RX5 46 m5_isLikeSoFar 1 := ⟨l0_m5_isLikeSoFar, am_ix 657 (by decide +kernel) rfl, lv_m5_isLikeSoFar.1, lv_m5_isLikeSoFar.2⟩
theorem l0_m5_size : am_lk0 m5_size 0 := ⟨am_ix 675 (by decide +kernel) rfl, am_ix 5 (by decide +kernel) rfl, by decide +kernel, by decide +kernel, by decide +kernel⟩
theorem lv_m5_size : Cond.instanceMethod (am_y m5_size) ∈ am_tb ∧ Cond.selects (am_y m5_size).cls (am_y m5_size) (am_y m5_size) ∈ am_tb := ⟨am_ix 673 (by decide +kernel) rfl, am_ix 674 (by decide +kernel) rfl⟩
theorem lk_RX0_149 : am_lkV RX0 149 m5_size 0 := ⟨l0_m5_size, am_ix 672 (by decide +kernel) rfl, lv_m5_size.1, lv_m5_size.2⟩
theorem lk_RX4_37 : am_lkV RX4 37 m5_size 0 := ⟨l0_m5_size, am_ix 783 (by decide +kernel) rfl, lv_m5_size.1, lv_m5_size.2⟩
theorem lk_RX7_58 : am_lkV RX7 58 m5_size 0 := ⟨l0_m5_size, am_ix 755 (by decide +kernel) rfl, lv_m5_size.1, lv_m5_size.2⟩
theorem lk_RX8_237 : am_lkV RX8 237 m5_size 0 := ⟨l0_m5_size, am_ix 749 (by decide +kernel) rfl, lv_m5_size.1, lv_m5_size.2⟩
theorem l0_mJ_abs : am_lk0 mJ_abs 1 := ⟨am_ix 636 (by decide +kernel) rfl, am_ix 6 (by decide +kernel) rfl, by decide +kernel, by decide +kernel, by decide +kernel⟩
theorem lt_mJ_abs : Cond.static (am_y mJ_abs) ∈ am_tb := am_ix 635 (by decide +kernel) rfl
theorem lk_RX0_153 : am_lkS RX0 153 mJ_abs 1 := ⟨l0_mJ_abs, am_ix 634 (by decide +kernel) rfl, lt_mJ_abs⟩
theorem l0_m0_keepLead : am_lk0 m0_keepLead 2 := ⟨am_ix 679 (by decide +kernel) rfl, am_ix 10 (by decide +kernel) rfl, by decide +kernel, by decide +kernel, by decide +kernel⟩
theorem lv_m0_keepLead : Cond.instanceMethod (am_y m0_keepLead) ∈ am_tb ∧ Cond.selects (am_y m0_keepLead).cls (am_y m0_keepLead) (am_y m0_keepLead) ∈ am_tb := ⟨am_ix 678 (by decide +kernel) rfl, am_tb_of (List.mem_append_left _ (List.mem_of_getElem? (i := 28) (by decide +kernel))) rfl⟩
theorem lk_RX0_156 : am_lkV RX0 156 m0_keepLead 2 := ⟨l0_m0_keepLead, am_ix 676 (by decide +kernel) rfl, lv_m0_keepLead.1, lv_m0_keepLead.2⟩
theorem l0_m0_isLead : am_lk0 m0_isLead 2 := ⟨am_ix 688 (by decide +kernel) rfl, am_ix 10 (by decide +kernel) rfl, by decide +kernel, by decide +kernel, by decide +kernel⟩
theorem lv_m0_isLead : Cond.instanceMethod (am_y m0_isLead) ∈ am_tb ∧ Cond.selects (am_y m0_isLead).cls (am_y m0_isLead) (am_y m0_isLead) ∈ am_tb := ⟨am_ix 687 (by decide +kernel) rfl, am_tb_of (List.mem_append_left _ (List.mem_of_getElem? (i := 30) (by decide +kernel))) rfl⟩
theorem lk_RX0_159 : am_lkV RX0 159 m0_isLead 2 := ⟨l0_m0_isLead, am_ix 685 (by decide +kernel) rfl, lv_m0_isLead.1, lv_m0_isLead.2⟩
theorem l0_m5_empty : am_lk0 m5_empty 0 := ⟨am_ix 279 (by decide +kernel) rfl, am_ix 5 (by decide +kernel) rfl, by decide +kernel, by decide +kernel, by decide +kernel⟩
theorem lv_m5_empty : Cond.instanceMethod (am_y m5_empty) ∈ am_tb ∧ Cond.selects (am_y m5_empty).cls (am_y m5_empty) (am_y m5_empty) ∈ am_tb := ⟨am_ix 277 (by decide +kernel) rfl, am_ix 278 (by decide +kernel) rfl⟩
theorem lk_RX0_162 : am_lkV RX0 162 m5_empty 0 := ⟨l0_m5_empty, am_ix 633 (by decide +kernel) rfl, lv_m5_empty.1, lv_m5_empty.2⟩
theorem lk_RX4_32 : am_lkV RX4 32 m5_empty 0 := ⟨l0_m5_empty, am_ix 782 (by decide +kernel) rfl, lv_m5_empty.1, lv_m5_empty.2⟩
theorem lk_RX5_40 : am_lkV RX5 40 m5_empty 0 := ⟨l0_m5_empty, am_ix 793 (by decide +kernel) rfl, lv_m5_empty.1, lv_m5_empty.2⟩
theorem lk_RX7_49 : am_lkV RX7 49 m5_empty 0 := ⟨l0_m5_empty, am_ix 736 (by decide +kernel) rfl, lv_m5_empty.1, lv_m5_empty.2⟩
theorem lk_RX8_107 : am_lkV RX8 107 m5_empty 0 := ⟨l0_m5_empty, am_ix 276 (by decide +kernel) rfl, lv_m5_empty.1, lv_m5_empty.2⟩
theorem l0_m0_leadLetter : am_lk0 m0_leadLetter 2 := ⟨am_ix 640 (by decide +kernel) rfl, am_ix 10 (by decide +kernel) rfl, by decide +kernel, by decide +kernel, by decide +kernel⟩
theorem lv_m0_leadLetter : Cond.instanceMethod (am_y m0_leadLetter) ∈ am_tb ∧ Cond.selects (am_y m0_leadLetter).cls (am_y m0_leadLetter) (am_y m0_leadLetter) ∈ am_tb := ⟨am_ix 639 (by decide +kernel) rfl, am_tb_of (List.mem_append_left _ (List.mem_of_getElem? (i := 26) (by decide +kernel))) rfl⟩
theorem lk_RX0_165 : am_lkV RX0 165 m0_leadLetter 2 := ⟨l0_m0_leadLetter, am_ix 637 (by decide +kernel) rfl, lv_m0_leadLetter.1, lv_m0_leadLetter.2⟩
theorem l0_m5_add : am_lk0 m5_add 1 := ⟨am_ix 644 (by decide +kernel) rfl, am_ix 5 (by decide +kernel) rfl, by decide +kernel, by decide +kernel, by decide +kernel⟩
theorem lv_m5_add : Cond.instanceMethod (am_y m5_add) ∈ am_tb ∧ Cond.selects (am_y m5_add).cls (am_y m5_add) (am_y m5_add) ∈ am_tb := ⟨am_ix 642 (by decide +kernel) rfl, am_ix 643 (by decide +kernel) rfl⟩
theorem lk_RX0_168 : am_lkV RX0 168 m5_add 1 := ⟨l0_m5_add, am_ix 641 (by decide +kernel) rfl, lv_m5_add.1, lv_m5_add.2⟩
theorem lk_RX5_36 : am_lkV RX5 36 m5_add 1 := ⟨l0_m5_add, am_ix 652 (by decide +kernel) rfl, lv_m5_add.1, lv_m5_add.2⟩
theorem lk_RX7_54 : am_lkV RX7 54 m5_add 1 := ⟨l0_m5_add, am_ix 737 (by decide +kernel) rfl, lv_m5_add.1, lv_m5_add.2⟩
theorem lk_RX8_246 : am_lkV RX8 246 m5_add 1 := ⟨l0_m5_add, am_ix 761 (by decide +kernel) rfl, lv_m5_add.1, lv_m5_add.2⟩
theorem l0_m5_letterAt : am_lk0 m5_letterAt 1 := ⟨am_ix 665 (by decide +kernel) rfl, am_ix 5 (by decide +kernel) rfl, by decide +kernel, by decide +kernel, by decide +kernel⟩
theorem lv_m5_letterAt : Cond.instanceMethod (am_y m5_letterAt) ∈ am_tb ∧ Cond.selects (am_y m5_letterAt).cls (am_y m5_letterAt) (am_y m5_letterAt) ∈ am_tb := ⟨am_ix 663 (by decide +kernel) rfl, am_ix 664 (by decide +kernel) rfl⟩
theorem lk_RX0_171 : am_lkV RX0 171 m5_letterAt 1 := ⟨l0_m5_letterAt, am_ix 680 (by decide +kernel) rfl, lv_m5_letterAt.1, lv_m5_letterAt.2⟩
theorem lk_RX4_41 : am_lkV RX4 41 m5_letterAt 1 := ⟨l0_m5_letterAt, am_ix 784 (by decide +kernel) rfl, lv_m5_letterAt.1, lv_m5_letterAt.2⟩
theorem lk_RX5_43 : am_lkV RX5 43 m5_letterAt 1 := ⟨l0_m5_letterAt, am_ix 662 (by decide +kernel) rfl, lv_m5_letterAt.1, lv_m5_letterAt.2⟩
theorem lk_RX7_62 : am_lkV RX7 62 m5_letterAt 1 := ⟨l0_m5_letterAt, am_ix 756 (by decide +kernel) rfl, lv_m5_letterAt.1, lv_m5_letterAt.2⟩
theorem lk_RX8_228 : am_lkV RX8 228 m5_letterAt 1 := ⟨l0_m5_letterAt, am_ix 738 (by decide +kernel) rfl, lv_m5_letterAt.1, lv_m5_letterAt.2⟩
theorem l0_m0_putLeadLetter : am_lk0 m0_putLeadLetter 3 := ⟨am_ix 684 (by decide +kernel) rfl, am_ix 10 (by decide +kernel) rfl, by decide +kernel, by decide +kernel, by decide +kernel⟩
theorem lv_m0_putLeadLetter : Cond.instanceMethod (am_y m0_putLeadLetter) ∈ am_tb ∧ Cond.selects (am_y m0_putLeadLetter).cls (am_y m0_putLeadLetter) (am_y m0_putLeadLetter) ∈ am_tb := ⟨am_ix 683 (by decide +kernel) rfl, am_tb_of (List.mem_append_left _ (List.mem_of_getElem? (i := 29) (by decide +kernel))) rfl⟩
theorem lk_RX0_174 : am_lkV RX0 174 m0_putLeadLetter 3 := ⟨l0_m0_putLeadLetter, am_ix 681 (by decide +kernel) rfl, lv_m0_putLeadLetter.1, lv_m0_putLeadLetter.2⟩
theorem l0_m1_keep : am_lk0 m1_keep 3 := ⟨am_ix 540 (by decide +kernel) rfl, am_ix 9 (by decide +kernel) rfl, by decide +kernel, by decide +kernel, by decide +kernel⟩
theorem lv_m1_keep : Cond.instanceMethod (am_y m1_keep) ∈ am_tb ∧ Cond.selects (am_y m1_keep).cls (am_y m1_keep) (am_y m1_keep) ∈ am_tb := ⟨am_ix 539 (by decide +kernel) rfl, am_tb_of (List.mem_append_left _ (List.mem_of_getElem? (i := 13) (by decide +kernel))) rfl⟩
theorem lk_RX1_37 : am_lkV RX1 37 m1_keep 3 := ⟨l0_m1_keep, am_ix 537 (by decide +kernel) rfl, lv_m1_keep.1, lv_m1_keep.2⟩
theorem l0_m1_endsUneven : am_lk0 m1_endsUneven 5 := ⟨am_ix 545 (by decide +kernel) rfl, am_ix 9 (by decide +kernel) rfl, by decide +kernel, by decide +kernel, by decide +kernel⟩
theorem lt_m1_endsUneven : Cond.static (am_y m1_endsUneven) ∈ am_tb := am_ix 544 (by decide +kernel) rfl
theorem lk_RX1_47 : am_lkS RX1 47 m1_endsUneven 5 := ⟨l0_m1_endsUneven, am_ix 543 (by decide +kernel) rfl, lt_m1_endsUneven⟩
theorem l0_m8_timesIn : am_lk0 m8_timesIn 2 := ⟨am_ix 549 (by decide +kernel) rfl, am_ix 1 (by decide +kernel) rfl, by decide +kernel, by decide +kernel, by decide +kernel⟩
theorem lt_m8_timesIn : Cond.static (am_y m8_timesIn) ∈ am_tb := am_ix 548 (by decide +kernel) rfl
theorem lk_RX1_55 : am_lkN RX1 55 m8_timesIn 2 := ⟨l0_m8_timesIn, ⟨"AnyLength", am_nx 547 rfl (by decide +kernel)⟩, lt_m8_timesIn⟩
theorem l0_m8_oneIf : am_lk0 m8_oneIf 1 := ⟨am_ix 308 (by decide +kernel) rfl, am_ix 1 (by decide +kernel) rfl, by decide +kernel, by decide +kernel, by decide +kernel⟩
theorem lt_m8_oneIf : Cond.static (am_y m8_oneIf) ∈ am_tb := am_ix 307 (by decide +kernel) rfl
theorem lk_RX1_58 : am_lkN RX1 58 m8_oneIf 1 := ⟨l0_m8_oneIf, ⟨"AnyLength", am_nx 551 rfl (by decide +kernel)⟩, lt_m8_oneIf⟩
theorem lk_RX6_31 : am_lkN RX6 31 m8_oneIf 1 := ⟨l0_m8_oneIf, ⟨"AnyLength", am_nx 313 rfl (by decide +kernel)⟩, lt_m8_oneIf⟩
theorem lk_RX7_25 : am_lkN RX7 25 m8_oneIf 1 := ⟨l0_m8_oneIf, ⟨"AnyLength", am_nx 712 rfl (by decide +kernel)⟩, lt_m8_oneIf⟩
theorem lk_RX8_130 : am_lkS RX8 130 m8_oneIf 1 := ⟨l0_m8_oneIf, am_ix 306 (by decide +kernel) rfl, lt_m8_oneIf⟩
theorem l0_m2_meet : am_lk0 m2_meet 2 := ⟨am_ix 439 (by decide +kernel) rfl, am_ix 8 (by decide +kernel) rfl, by decide +kernel, by decide +kernel, by decide +kernel⟩
theorem lv_m2_meet : Cond.instanceMethod (am_y m2_meet) ∈ am_tb ∧ Cond.selects (am_y m2_meet).cls (am_y m2_meet) (am_y m2_meet) ∈ am_tb := ⟨am_ix 438 (by decide +kernel) rfl, am_tb_of (List.mem_append_left _ (List.mem_of_getElem? (i := 6) (by decide +kernel))) rfl⟩
theorem lk_RX2_45 : am_lkV RX2 45 m2_meet 2 := ⟨l0_m2_meet, am_ix 436 (by decide +kernel) rfl, lv_m2_meet.1, lv_m2_meet.2⟩
theorem l0_m2_after : am_lk0 m2_after 2 := ⟨am_ix 444 (by decide +kernel) rfl, am_ix 8 (by decide +kernel) rfl, by decide +kernel, by decide +kernel, by decide +kernel⟩
theorem lv_m2_after : Cond.instanceMethod (am_y m2_after) ∈ am_tb ∧ Cond.selects (am_y m2_after).cls (am_y m2_after) (am_y m2_after) ∈ am_tb := ⟨am_ix 443 (by decide +kernel) rfl, am_tb_of (List.mem_append_left _ (List.mem_of_getElem? (i := 7) (by decide +kernel))) rfl⟩
theorem lk_RX2_49 : am_lkV RX2 49 m2_after 2 := ⟨l0_m2_after, am_ix 441 (by decide +kernel) rfl, lv_m2_after.1, lv_m2_after.2⟩
theorem l0_m2_isBad : am_lk0 m2_isBad 1 := ⟨am_ix 468 (by decide +kernel) rfl, am_ix 8 (by decide +kernel) rfl, by decide +kernel, by decide +kernel, by decide +kernel⟩
theorem lv_m2_isBad : Cond.instanceMethod (am_y m2_isBad) ∈ am_tb ∧ Cond.selects (am_y m2_isBad).cls (am_y m2_isBad) (am_y m2_isBad) ∈ am_tb := ⟨am_ix 467 (by decide +kernel) rfl, am_tb_of (List.mem_append_left _ (List.mem_of_getElem? (i := 9) (by decide +kernel))) rfl⟩
theorem lk_RX2_57 : am_lkV RX2 57 m2_isBad 1 := ⟨l0_m2_isBad, am_ix 465 (by decide +kernel) rfl, lv_m2_isBad.1, lv_m2_isBad.2⟩
theorem l0_m2_firstBad : am_lk0 m2_firstBad 0 := ⟨am_ix 464 (by decide +kernel) rfl, am_ix 8 (by decide +kernel) rfl, by decide +kernel, by decide +kernel, by decide +kernel⟩
theorem lv_m2_firstBad : Cond.instanceMethod (am_y m2_firstBad) ∈ am_tb ∧ Cond.selects (am_y m2_firstBad).cls (am_y m2_firstBad) (am_y m2_firstBad) ∈ am_tb := ⟨am_ix 462 (by decide +kernel) rfl, am_ix 463 (by decide +kernel) rfl⟩
theorem lk_RX2_61 : am_lkV RX2 61 m2_firstBad 0 := ⟨l0_m2_firstBad, am_ix 479 (by decide +kernel) rfl, lv_m2_firstBad.1, lv_m2_firstBad.2⟩
theorem lk_RX8_182 : am_lkV RX8 182 m2_firstBad 0 := ⟨l0_m2_firstBad, am_ix 461 (by decide +kernel) rfl, lv_m2_firstBad.1, lv_m2_firstBad.2⟩
theorem l0_m2_wayLength : am_lk0 m2_wayLength 1 := ⟨am_ix 483 (by decide +kernel) rfl, am_ix 8 (by decide +kernel) rfl, by decide +kernel, by decide +kernel, by decide +kernel⟩
theorem lv_m2_wayLength : Cond.instanceMethod (am_y m2_wayLength) ∈ am_tb ∧ Cond.selects (am_y m2_wayLength).cls (am_y m2_wayLength) (am_y m2_wayLength) ∈ am_tb := ⟨am_ix 482 (by decide +kernel) rfl, am_tb_of (List.mem_append_left _ (List.mem_of_getElem? (i := 10) (by decide +kernel))) rfl⟩
theorem lk_RX2_65 : am_lkV RX2 65 m2_wayLength 1 := ⟨l0_m2_wayLength, am_ix 480 (by decide +kernel) rfl, lv_m2_wayLength.1, lv_m2_wayLength.2⟩
theorem l0_m2_wayTo : am_lk0 m2_wayTo 1 := ⟨am_ix 487 (by decide +kernel) rfl, am_ix 8 (by decide +kernel) rfl, by decide +kernel, by decide +kernel, by decide +kernel⟩
theorem lv_m2_wayTo : Cond.instanceMethod (am_y m2_wayTo) ∈ am_tb ∧ Cond.selects (am_y m2_wayTo).cls (am_y m2_wayTo) (am_y m2_wayTo) ∈ am_tb := ⟨am_ix 486 (by decide +kernel) rfl, am_tb_of (List.mem_append_left _ (List.mem_of_getElem? (i := 11) (by decide +kernel))) rfl⟩
theorem lk_RX2_69 : am_lkV RX2 69 m2_wayTo 1 := ⟨l0_m2_wayTo, am_ix 484 (by decide +kernel) rfl, lv_m2_wayTo.1, lv_m2_wayTo.2⟩
theorem l0_m2_leadsOut : am_lk0 m2_leadsOut 2 := ⟨am_ix 527 (by decide +kernel) rfl, am_ix 8 (by decide +kernel) rfl, by decide +kernel, by decide +kernel, by decide +kernel⟩
theorem lv_m2_leadsOut : Cond.instanceMethod (am_y m2_leadsOut) ∈ am_tb ∧ Cond.selects (am_y m2_leadsOut).cls (am_y m2_leadsOut) (am_y m2_leadsOut) ∈ am_tb := ⟨am_ix 526 (by decide +kernel) rfl, am_tb_of (List.mem_append_left _ (List.mem_of_getElem? (i := 12) (by decide +kernel))) rfl⟩
theorem lk_RX2_72 : am_lkV RX2 72 m2_leadsOut 2 := ⟨l0_m2_leadsOut, am_ix 524 (by decide +kernel) rfl, lv_m2_leadsOut.1, lv_m2_leadsOut.2⟩
theorem l0_m2_tailAfter : am_lk0 m2_tailAfter 2 := ⟨am_ix 449 (by decide +kernel) rfl, am_ix 8 (by decide +kernel) rfl, by decide +kernel, by decide +kernel, by decide +kernel⟩
theorem lv_m2_tailAfter : Cond.instanceMethod (am_y m2_tailAfter) ∈ am_tb ∧ Cond.selects (am_y m2_tailAfter).cls (am_y m2_tailAfter) (am_y m2_tailAfter) ∈ am_tb := ⟨am_ix 448 (by decide +kernel) rfl, am_tb_of (List.mem_append_left _ (List.mem_of_getElem? (i := 8) (by decide +kernel))) rfl⟩
theorem lk_RX2_81 : am_lkV RX2 81 m2_tailAfter 2 := ⟨l0_m2_tailAfter, am_ix 446 (by decide +kernel) rfl, lv_m2_tailAfter.1, lv_m2_tailAfter.2⟩
theorem l0_m6_afterWord : am_lk0 m6_afterWord 2 := ⟨am_ix 453 (by decide +kernel) rfl, am_ix 2 (by decide +kernel) rfl, by decide +kernel, by decide +kernel, by decide +kernel⟩
theorem lv_m6_afterWord : Cond.instanceMethod (am_y m6_afterWord) ∈ am_tb ∧ Cond.selects (am_y m6_afterWord).cls (am_y m6_afterWord) (am_y m6_afterWord) ∈ am_tb := ⟨am_ix 451 (by decide +kernel) rfl, am_ix 452 (by decide +kernel) rfl⟩
theorem lk_RX2_90 : am_lkV RX2 90 m6_afterWord 2 := ⟨l0_m6_afterWord, am_ix 450 (by decide +kernel) rfl, lv_m6_afterWord.1, lv_m6_afterWord.2⟩
theorem l0_m8_wordLength : am_lk0 m8_wordLength 1 := ⟨am_ix 390 (by decide +kernel) rfl, am_ix 1 (by decide +kernel) rfl, by decide +kernel, by decide +kernel, by decide +kernel⟩
theorem lt_m8_wordLength : Cond.static (am_y m8_wordLength) ∈ am_tb := am_ix 389 (by decide +kernel) rfl
theorem lk_RX2_93 : am_lkN RX2 93 m8_wordLength 1 := ⟨l0_m8_wordLength, ⟨"AnyLength", am_nx 457 rfl (by decide +kernel)⟩, lt_m8_wordLength⟩
theorem lk_RX5_29 : am_lkN RX5 29 m8_wordLength 1 := ⟨l0_m8_wordLength, ⟨"AnyLength", am_nx 650 rfl (by decide +kernel)⟩, lt_m8_wordLength⟩
theorem lk_RX6_35 : am_lkN RX6 35 m8_wordLength 1 := ⟨l0_m8_wordLength, ⟨"AnyLength", am_nx 454 rfl (by decide +kernel)⟩, lt_m8_wordLength⟩
theorem lk_RX8_264 : am_lkS RX8 264 m8_wordLength 1 := ⟨l0_m8_wordLength, am_ix 388 (by decide +kernel) rfl, lt_m8_wordLength⟩
theorem l0_m8_wordLetter : am_lk0 m8_wordLetter 2 := ⟨am_ix 393 (by decide +kernel) rfl, am_ix 1 (by decide +kernel) rfl, by decide +kernel, by decide +kernel, by decide +kernel⟩
theorem lt_m8_wordLetter : Cond.static (am_y m8_wordLetter) ∈ am_tb := am_ix 392 (by decide +kernel) rfl
theorem lk_RX2_96 : am_lkN RX2 96 m8_wordLetter 2 := ⟨l0_m8_wordLetter, ⟨"AnyLength", am_nx 458 rfl (by decide +kernel)⟩, lt_m8_wordLetter⟩
theorem lk_RX5_33 : am_lkN RX5 33 m8_wordLetter 2 := ⟨l0_m8_wordLetter, ⟨"AnyLength", am_nx 651 rfl (by decide +kernel)⟩, lt_m8_wordLetter⟩
theorem lk_RX6_39 : am_lkN RX6 39 m8_wordLetter 2 := ⟨l0_m8_wordLetter, ⟨"AnyLength", am_nx 455 rfl (by decide +kernel)⟩, lt_m8_wordLetter⟩
theorem lk_RX8_267 : am_lkS RX8 267 m8_wordLetter 2 := ⟨l0_m8_wordLetter, am_ix 391 (by decide +kernel) rfl, lt_m8_wordLetter⟩
theorem l0_m6_init : am_lk0 m6_init 0 := ⟨am_ix 26 (by decide +kernel) rfl, am_ix 2 (by decide +kernel) rfl, by decide +kernel, by decide +kernel, by decide +kernel⟩
theorem li_m6_init : Cond.instanceMethod (am_y m6_init) ∈ am_tb := am_ix 25 (by decide +kernel) rfl
theorem lk_RX3_20 : am_lkI RX3 20 m6_init 0 := ⟨l0_m6_init, am_ix 94 (by decide +kernel) rfl, li_m6_init, rfl, rfl⟩
theorem lk_RX8_26 : am_lkI RX8 26 m6_init 0 := ⟨l0_m6_init, am_ix 24 (by decide +kernel) rfl, li_m6_init, rfl, rfl⟩
theorem l0_m3_explore : am_lk0 m3_explore 3 := ⟨am_ix 337 (by decide +kernel) rfl, am_ix 7 (by decide +kernel) rfl, by decide +kernel, by decide +kernel, by decide +kernel⟩
theorem lv_m3_explore : Cond.instanceMethod (am_y m3_explore) ∈ am_tb ∧ Cond.selects (am_y m3_explore).cls (am_y m3_explore) (am_y m3_explore) ∈ am_tb := ⟨am_ix 336 (by decide +kernel) rfl, am_tb_of (List.mem_append_left _ (List.mem_of_getElem? (i := 1) (by decide +kernel))) rfl⟩
theorem lk_RX3_29 : am_lkV RX3 29 m3_explore 3 := ⟨l0_m3_explore, am_ix 334 (by decide +kernel) rfl, lv_m3_explore.1, lv_m3_explore.2⟩
theorem l0_m6_startAnew : am_lk0 m6_startAnew 0 := ⟨am_ix 31 (by decide +kernel) rfl, am_ix 2 (by decide +kernel) rfl, by decide +kernel, by decide +kernel, by decide +kernel⟩
theorem lv_m6_startAnew : Cond.instanceMethod (am_y m6_startAnew) ∈ am_tb ∧ Cond.selects (am_y m6_startAnew).cls (am_y m6_startAnew) (am_y m6_startAnew) ∈ am_tb := ⟨am_ix 29 (by decide +kernel) rfl, am_ix 30 (by decide +kernel) rfl⟩
theorem lk_RX3_33 : am_lkV RX3 33 m6_startAnew 0 := ⟨l0_m6_startAnew, am_ix 348 (by decide +kernel) rfl, lv_m6_startAnew.1, lv_m6_startAnew.2⟩
theorem lk_RX6_18 : am_lkV RX6 18 m6_startAnew 0 := ⟨l0_m6_startAnew, am_ix 28 (by decide +kernel) rfl, lv_m6_startAnew.1, lv_m6_startAnew.2⟩
theorem lk_RX8_97 : am_lkV RX8 97 m6_startAnew 0 := ⟨l0_m6_startAnew, am_ix 273 (by decide +kernel) rfl, lv_m6_startAnew.1, lv_m6_startAnew.2⟩
theorem l0_m6_hold : am_lk0 m6_hold 2 := ⟨am_ix 312 (by decide +kernel) rfl, am_ix 2 (by decide +kernel) rfl, by decide +kernel, by decide +kernel, by decide +kernel⟩
theorem lv_m6_hold : Cond.instanceMethod (am_y m6_hold) ∈ am_tb ∧ Cond.selects (am_y m6_hold).cls (am_y m6_hold) (am_y m6_hold) ∈ am_tb := ⟨am_ix 310 (by decide +kernel) rfl, am_ix 311 (by decide +kernel) rfl⟩
theorem lk_RX3_40 : am_lkV RX3 40 m6_hold 2 := ⟨l0_m6_hold, am_ix 350 (by decide +kernel) rfl, lv_m6_hold.1, lv_m6_hold.2⟩
theorem lk_RX6_50 : am_lkV RX6 50 m6_hold 2 := ⟨l0_m6_hold, am_ix 325 (by decide +kernel) rfl, lv_m6_hold.1, lv_m6_hold.2⟩
theorem lk_RX8_134 : am_lkV RX8 134 m6_hold 2 := ⟨l0_m6_hold, am_ix 309 (by decide +kernel) rfl, lv_m6_hold.1, lv_m6_hold.2⟩
theorem l0_m3_after : am_lk0 m3_after 4 := ⟨am_ix 346 (by decide +kernel) rfl, am_ix 7 (by decide +kernel) rfl, by decide +kernel, by decide +kernel, by decide +kernel⟩
theorem lt_m3_after : Cond.static (am_y m3_after) ∈ am_tb := am_ix 345 (by decide +kernel) rfl
theorem lk_RX3_44 : am_lkS RX3 44 m3_after 4 := ⟨l0_m3_after, am_ix 344 (by decide +kernel) rfl, lt_m3_after⟩
theorem l0_m3_numberOf : am_lk0 m3_numberOf 1 := ⟨am_ix 354 (by decide +kernel) rfl, am_ix 7 (by decide +kernel) rfl, by decide +kernel, by decide +kernel, by decide +kernel⟩
theorem lv_m3_numberOf : Cond.instanceMethod (am_y m3_numberOf) ∈ am_tb ∧ Cond.selects (am_y m3_numberOf).cls (am_y m3_numberOf) (am_y m3_numberOf) ∈ am_tb := ⟨am_ix 353 (by decide +kernel) rfl, am_tb_of (List.mem_append_left _ (List.mem_of_getElem? (i := 3) (by decide +kernel))) rfl⟩
theorem lk_RX3_48 : am_lkV RX3 48 m3_numberOf 1 := ⟨l0_m3_numberOf, am_ix 351 (by decide +kernel) rfl, lv_m3_numberOf.1, lv_m3_numberOf.2⟩
theorem l0_m6_lead : am_lk0 m6_lead 3 := ⟨am_ix 297 (by decide +kernel) rfl, am_ix 2 (by decide +kernel) rfl, by decide +kernel, by decide +kernel, by decide +kernel⟩
theorem lv_m6_lead : Cond.instanceMethod (am_y m6_lead) ∈ am_tb ∧ Cond.selects (am_y m6_lead).cls (am_y m6_lead) (am_y m6_lead) ∈ am_tb := ⟨am_ix 295 (by decide +kernel) rfl, am_ix 296 (by decide +kernel) rfl⟩
theorem lk_RX3_52 : am_lkV RX3 52 m6_lead 3 := ⟨l0_m6_lead, am_ix 355 (by decide +kernel) rfl, lv_m6_lead.1, lv_m6_lead.2⟩
theorem lk_RX6_58 : am_lkV RX6 58 m6_lead 3 := ⟨l0_m6_lead, am_ix 329 (by decide +kernel) rfl, lv_m6_lead.1, lv_m6_lead.2⟩
theorem lk_RX8_122 : am_lkV RX8 122 m6_lead 3 := ⟨l0_m6_lead, am_ix 294 (by decide +kernel) rfl, lv_m6_lead.1, lv_m6_lead.2⟩
theorem l0_m6_copy : am_lk0 m6_copy 1 := ⟨am_ix 359 (by decide +kernel) rfl, am_ix 2 (by decide +kernel) rfl, by decide +kernel, by decide +kernel, by decide +kernel⟩
theorem lv_m6_copy : Cond.instanceMethod (am_y m6_copy) ∈ am_tb ∧ Cond.selects (am_y m6_copy).cls (am_y m6_copy) (am_y m6_copy) ∈ am_tb := ⟨am_ix 357 (by decide +kernel) rfl, am_ix 358 (by decide +kernel) rfl⟩
theorem lk_RX3_56 : am_lkV RX3 56 m6_copy 1 := ⟨l0_m6_copy, am_ix 356 (by decide +kernel) rfl, lv_m6_copy.1, lv_m6_copy.2⟩
theorem lk_RX8_145 : am_lkV RX8 145 m6_copy 1 := ⟨l0_m6_copy, am_ix 364 (by decide +kernel) rfl, lv_m6_copy.1, lv_m6_copy.2⟩
theorem l0_m3_meet : am_lk0 m3_meet 1 := ⟨am_ix 342 (by decide +kernel) rfl, am_ix 7 (by decide +kernel) rfl, by decide +kernel, by decide +kernel, by decide +kernel⟩
theorem lv_m3_meet : Cond.instanceMethod (am_y m3_meet) ∈ am_tb ∧ Cond.selects (am_y m3_meet).cls (am_y m3_meet) (am_y m3_meet) ∈ am_tb := ⟨am_ix 341 (by decide +kernel) rfl, am_tb_of (List.mem_append_left _ (List.mem_of_getElem? (i := 2) (by decide +kernel))) rfl⟩
theorem lk_RX3_66 : am_lkV RX3 66 m3_meet 1 := ⟨l0_m3_meet, am_ix 339 (by decide +kernel) rfl, lv_m3_meet.1, lv_m3_meet.2⟩
theorem l0_m4_startAnew : am_lk0 m4_startAnew 0 := ⟨am_ix 53 (by decide +kernel) rfl, am_ix 4 (by decide +kernel) rfl, by decide +kernel, by decide +kernel, by decide +kernel⟩
theorem lv_m4_startAnew : Cond.instanceMethod (am_y m4_startAnew) ∈ am_tb ∧ Cond.selects (am_y m4_startAnew).cls (am_y m4_startAnew) (am_y m4_startAnew) ∈ am_tb := ⟨am_ix 51 (by decide +kernel) rfl, am_ix 52 (by decide +kernel) rfl⟩
theorem lk_RX4_21 : am_lkV RX4 21 m4_startAnew 0 := ⟨l0_m4_startAnew, am_ix 50 (by decide +kernel) rfl, lv_m4_startAnew.1, lv_m4_startAnew.2⟩
theorem lk_RX8_100 : am_lkV RX8 100 m4_startAnew 0 := ⟨l0_m4_startAnew, am_ix 274 (by decide +kernel) rfl, lv_m4_startAnew.1, lv_m4_startAnew.2⟩
theorem l0_m4_lead : am_lk0 m4_lead 4 := ⟨am_ix 57 (by decide +kernel) rfl, am_ix 4 (by decide +kernel) rfl, by decide +kernel, by decide +kernel, by decide +kernel⟩
theorem lv_m4_lead : Cond.instanceMethod (am_y m4_lead) ∈ am_tb ∧ Cond.selects (am_y m4_lead).cls (am_y m4_lead) (am_y m4_lead) ∈ am_tb := ⟨am_ix 55 (by decide +kernel) rfl, am_ix 56 (by decide +kernel) rfl⟩
theorem lk_RX4_24 : am_lkV RX4 24 m4_lead 4 := ⟨l0_m4_lead, am_ix 54 (by decide +kernel) rfl, lv_m4_lead.1, lv_m4_lead.2⟩
theorem lk_RX8_163 : am_lkV RX8 163 m4_lead 4 := ⟨l0_m4_lead, am_ix 398 (by decide +kernel) rfl, lv_m4_lead.1, lv_m4_lead.2⟩
theorem l0_mJ_max : am_lk0 mJ_max 2 := ⟨am_ix 79 (by decide +kernel) rfl, am_ix 6 (by decide +kernel) rfl, by decide +kernel, by decide +kernel, by decide +kernel⟩
theorem lt_mJ_max : Cond.static (am_y mJ_max) ∈ am_tb := am_ix 78 (by decide +kernel) rfl
theorem lk_RX5_9 : am_lkS RX5 9 mJ_max 2 := ⟨l0_mJ_max, am_ix 77 (by decide +kernel) rfl, lt_mJ_max⟩
theorem l0_m6_kindHolds : am_lk0 m6_kindHolds 3 := ⟨am_ix 324 (by decide +kernel) rfl, am_ix 2 (by decide +kernel) rfl, by decide +kernel, by decide +kernel, by decide +kernel⟩
theorem lt_m6_kindHolds : Cond.static (am_y m6_kindHolds) ∈ am_tb := am_ix 323 (by decide +kernel) rfl
theorem lk_RX6_46 : am_lkS RX6 46 m6_kindHolds 3 := ⟨l0_m6_kindHolds, am_ix 322 (by decide +kernel) rfl, lt_m6_kindHolds⟩
theorem l0_m6_kindNext : am_lk0 m6_kindNext 5 := ⟨am_ix 328 (by decide +kernel) rfl, am_ix 2 (by decide +kernel) rfl, by decide +kernel, by decide +kernel, by decide +kernel⟩
theorem lt_m6_kindNext : Cond.static (am_y m6_kindNext) ∈ am_tb := am_ix 327 (by decide +kernel) rfl
theorem lk_RX6_54 : am_lkS RX6 54 m6_kindNext 5 := ⟨l0_m6_kindNext, am_ix 326 (by decide +kernel) rfl, lt_m6_kindNext⟩
theorem l0_m7_put : am_lk0 m7_put 3 := ⟨am_ix 716 (by decide +kernel) rfl, am_ix 11 (by decide +kernel) rfl, by decide +kernel, by decide +kernel, by decide +kernel⟩
theorem lv_m7_put : Cond.instanceMethod (am_y m7_put) ∈ am_tb ∧ Cond.selects (am_y m7_put).cls (am_y m7_put) (am_y m7_put) ∈ am_tb := ⟨am_ix 715 (by decide +kernel) rfl, am_tb_of (List.mem_append_left _ (List.mem_of_getElem? (i := 32) (by decide +kernel))) rfl⟩
theorem lk_RX7_29 : am_lkV RX7 29 m7_put 3 := ⟨l0_m7_put, am_ix 713 (by decide +kernel) rfl, lv_m7_put.1, lv_m7_put.2⟩
theorem l0_m7_sum : am_lk0 m7_sum 3 := ⟨am_ix 721 (by decide +kernel) rfl, am_ix 11 (by decide +kernel) rfl, by decide +kernel, by decide +kernel, by decide +kernel⟩
theorem lv_m7_sum : Cond.instanceMethod (am_y m7_sum) ∈ am_tb ∧ Cond.selects (am_y m7_sum).cls (am_y m7_sum) (am_y m7_sum) ∈ am_tb := ⟨am_ix 720 (by decide +kernel) rfl, am_tb_of (List.mem_append_left _ (List.mem_of_getElem? (i := 33) (by decide +kernel))) rfl⟩
theorem lk_RX7_33 : am_lkV RX7 33 m7_sum 3 := ⟨l0_m7_sum, am_ix 718 (by decide +kernel) rfl, lv_m7_sum.1, lv_m7_sum.2⟩
theorem l0_m7_ways : am_lk0 m7_ways 2 := ⟨am_ix 726 (by decide +kernel) rfl, am_ix 11 (by decide +kernel) rfl, by decide +kernel, by decide +kernel, by decide +kernel⟩
theorem lv_m7_ways : Cond.instanceMethod (am_y m7_ways) ∈ am_tb ∧ Cond.selects (am_y m7_ways).cls (am_y m7_ways) (am_y m7_ways) ∈ am_tb := ⟨am_ix 724 (by decide +kernel) rfl, am_ix 725 (by decide +kernel) rfl⟩
theorem lk_RX7_41 : am_lkV RX7 41 m7_ways 2 := ⟨l0_m7_ways, am_ix 723 (by decide +kernel) rfl, lv_m7_ways.1, lv_m7_ways.2⟩
theorem lk_RX8_220 : am_lkV RX8 220 m7_ways 2 := ⟨l0_m7_ways, am_ix 727 (by decide +kernel) rfl, lv_m7_ways.1, lv_m7_ways.2⟩
theorem l0_m4_init : am_lk0 m4_init 0 := ⟨am_ix 48 (by decide +kernel) rfl, am_ix 4 (by decide +kernel) rfl, by decide +kernel, by decide +kernel, by decide +kernel⟩
theorem li_m4_init : Cond.instanceMethod (am_y m4_init) ∈ am_tb := am_ix 47 (by decide +kernel) rfl
theorem lk_RX8_33 : am_lkI RX8 33 m4_init 0 := ⟨l0_m4_init, am_ix 46 (by decide +kernel) rfl, li_m4_init, rfl, rfl⟩
theorem l0_m3_init : am_lk0 m3_init 0 := ⟨am_ix 91 (by decide +kernel) rfl, am_ix 7 (by decide +kernel) rfl, by decide +kernel, by decide +kernel, by decide +kernel⟩
theorem li_m3_init : Cond.instanceMethod (am_y m3_init) ∈ am_tb := am_ix 90 (by decide +kernel) rfl
theorem lk_RX8_62 : am_lkI RX8 62 m3_init 0 := ⟨l0_m3_init, am_ix 89 (by decide +kernel) rfl, li_m3_init, rfl, rfl⟩
theorem l0_m2_init : am_lk0 m2_init 2 := ⟨am_ix 112 (by decide +kernel) rfl, am_ix 8 (by decide +kernel) rfl, by decide +kernel, by decide +kernel, by decide +kernel⟩
theorem li_m2_init : Cond.instanceMethod (am_y m2_init) ∈ am_tb := am_ix 111 (by decide +kernel) rfl
theorem lk_RX8_69 : am_lkI RX8 69 m2_init 2 := ⟨l0_m2_init, am_ix 110 (by decide +kernel) rfl, li_m2_init, rfl, rfl⟩
theorem l0_m1_init : am_lk0 m1_init 0 := ⟨am_ix 143 (by decide +kernel) rfl, am_ix 9 (by decide +kernel) rfl, by decide +kernel, by decide +kernel, by decide +kernel⟩
theorem li_m1_init : Cond.instanceMethod (am_y m1_init) ∈ am_tb := am_ix 142 (by decide +kernel) rfl
theorem lk_RX8_78 : am_lkI RX8 78 m1_init 0 := ⟨l0_m1_init, am_ix 141 (by decide +kernel) rfl, li_m1_init, rfl, rfl⟩
theorem l0_m0_init : am_lk0 m0_init 2 := ⟨am_ix 168 (by decide +kernel) rfl, am_ix 10 (by decide +kernel) rfl, by decide +kernel, by decide +kernel, by decide +kernel⟩
theorem li_m0_init : Cond.instanceMethod (am_y m0_init) ∈ am_tb := am_ix 167 (by decide +kernel) rfl
theorem lk_RX8_85 : am_lkI RX8 85 m0_init 2 := ⟨l0_m0_init, am_ix 166 (by decide +kernel) rfl, li_m0_init, rfl, rfl⟩
theorem l0_m7_init : am_lk0 m7_init 0 := ⟨am_ix 210 (by decide +kernel) rfl, am_ix 11 (by decide +kernel) rfl, by decide +kernel, by decide +kernel, by decide +kernel⟩
theorem li_m7_init : Cond.instanceMethod (am_y m7_init) ∈ am_tb := am_ix 209 (by decide +kernel) rfl
theorem lk_RX8_92 : am_lkI RX8 92 m7_init 0 := ⟨l0_m7_init, am_ix 208 (by decide +kernel) rfl, li_m7_init, rfl, rfl⟩
theorem l0_m8_sentenceOf : am_lk0 m8_sentenceOf 1 := ⟨am_ix 287 (by decide +kernel) rfl, am_ix 1 (by decide +kernel) rfl, by decide +kernel, by decide +kernel, by decide +kernel⟩
theorem lv_m8_sentenceOf : Cond.instanceMethod (am_y m8_sentenceOf) ∈ am_tb ∧ Cond.selects (am_y m8_sentenceOf).cls (am_y m8_sentenceOf) (am_y m8_sentenceOf) ∈ am_tb := ⟨am_ix 286 (by decide +kernel) rfl, am_tb_of (List.mem_append_left _ (List.mem_of_getElem? (i := 0) (by decide +kernel))) rfl⟩
theorem lk_RX8_110 : am_lkV RX8 110 m8_sentenceOf 1 := ⟨l0_m8_sentenceOf, am_ix 284 (by decide +kernel) rfl, lv_m8_sentenceOf.1, lv_m8_sentenceOf.2⟩
theorem l0_m6_draw : am_lk0 m6_draw 3 := ⟨am_ix 321 (by decide +kernel) rfl, am_ix 2 (by decide +kernel) rfl, by decide +kernel, by decide +kernel, by decide +kernel⟩
theorem lv_m6_draw : Cond.instanceMethod (am_y m6_draw) ∈ am_tb ∧ Cond.selects (am_y m6_draw).cls (am_y m6_draw) (am_y m6_draw) ∈ am_tb := ⟨am_ix 319 (by decide +kernel) rfl, am_ix 320 (by decide +kernel) rfl⟩
theorem lk_RX8_138 : am_lkV RX8 138 m6_draw 3 := ⟨l0_m6_draw, am_ix 318 (by decide +kernel) rfl, lv_m6_draw.1, lv_m6_draw.2⟩
theorem l0_m3_into : am_lk0 m3_into 4 := ⟨am_ix 333 (by decide +kernel) rfl, am_ix 7 (by decide +kernel) rfl, by decide +kernel, by decide +kernel, by decide +kernel⟩
theorem lv_m3_into : Cond.instanceMethod (am_y m3_into) ∈ am_tb ∧ Cond.selects (am_y m3_into).cls (am_y m3_into) (am_y m3_into) ∈ am_tb := ⟨am_ix 331 (by decide +kernel) rfl, am_ix 332 (by decide +kernel) rfl⟩
theorem lk_RX8_141 : am_lkV RX8 141 m3_into 4 := ⟨l0_m3_into, am_ix 330 (by decide +kernel) rfl, lv_m3_into.1, lv_m3_into.2⟩
theorem l0_m6_turnRound : am_lk0 m6_turnRound 0 := ⟨am_ix 368 (by decide +kernel) rfl, am_ix 2 (by decide +kernel) rfl, by decide +kernel, by decide +kernel, by decide +kernel⟩
theorem lv_m6_turnRound : Cond.instanceMethod (am_y m6_turnRound) ∈ am_tb ∧ Cond.selects (am_y m6_turnRound).cls (am_y m6_turnRound) (am_y m6_turnRound) ∈ am_tb := ⟨am_ix 366 (by decide +kernel) rfl, am_ix 367 (by decide +kernel) rfl⟩
theorem lk_RX8_149 : am_lkV RX8 149 m6_turnRound 0 := ⟨l0_m6_turnRound, am_ix 365 (by decide +kernel) rfl, lv_m6_turnRound.1, lv_m6_turnRound.2⟩
theorem l0_m8_programOf : am_lk0 m8_programOf 1 := ⟨am_ix 384 (by decide +kernel) rfl, am_ix 1 (by decide +kernel) rfl, by decide +kernel, by decide +kernel, by decide +kernel⟩
theorem lv_m8_programOf : Cond.instanceMethod (am_y m8_programOf) ∈ am_tb ∧ Cond.selects (am_y m8_programOf).cls (am_y m8_programOf) (am_y m8_programOf) ∈ am_tb := ⟨am_ix 383 (by decide +kernel) rfl, am_tb_of (List.mem_append_left _ (List.mem_of_getElem? (i := 4) (by decide +kernel))) rfl⟩
theorem lk_RX8_153 : am_lkV RX8 153 m8_programOf 1 := ⟨l0_m8_programOf, am_ix 381 (by decide +kernel) rfl, lv_m8_programOf.1, lv_m8_programOf.2⟩
theorem l0_m8_isWord : am_lk0 m8_isWord 2 := ⟨am_ix 387 (by decide +kernel) rfl, am_ix 1 (by decide +kernel) rfl, by decide +kernel, by decide +kernel, by decide +kernel⟩
theorem lt_m8_isWord : Cond.static (am_y m8_isWord) ∈ am_tb := am_ix 386 (by decide +kernel) rfl
theorem lk_RX8_157 : am_lkS RX8 157 m8_isWord 2 := ⟨l0_m8_isWord, am_ix 385 (by decide +kernel) rfl, lt_m8_isWord⟩
theorem l0_m4_finish : am_lk0 m4_finish 2 := ⟨am_ix 410 (by decide +kernel) rfl, am_ix 4 (by decide +kernel) rfl, by decide +kernel, by decide +kernel, by decide +kernel⟩
theorem lv_m4_finish : Cond.instanceMethod (am_y m4_finish) ∈ am_tb ∧ Cond.selects (am_y m4_finish).cls (am_y m4_finish) (am_y m4_finish) ∈ am_tb := ⟨am_ix 408 (by decide +kernel) rfl, am_ix 409 (by decide +kernel) rfl⟩
theorem lk_RX8_170 : am_lkV RX8 170 m4_finish 2 := ⟨l0_m4_finish, am_ix 407 (by decide +kernel) rfl, lv_m4_finish.1, lv_m4_finish.2⟩
theorem l0_m8_claimOf : am_lk0 m8_claimOf 4 := ⟨am_ix 426 (by decide +kernel) rfl, am_ix 1 (by decide +kernel) rfl, by decide +kernel, by decide +kernel, by decide +kernel⟩
theorem lv_m8_claimOf : Cond.instanceMethod (am_y m8_claimOf) ∈ am_tb ∧ Cond.selects (am_y m8_claimOf).cls (am_y m8_claimOf) (am_y m8_claimOf) ∈ am_tb := ⟨am_ix 425 (by decide +kernel) rfl, am_tb_of (List.mem_append_left _ (List.mem_of_getElem? (i := 5) (by decide +kernel))) rfl⟩
theorem lk_RX8_175 : am_lkV RX8 175 m8_claimOf 4 := ⟨l0_m8_claimOf, am_ix 423 (by decide +kernel) rfl, lv_m8_claimOf.1, lv_m8_claimOf.2⟩
theorem l0_m2_explore : am_lk0 m2_explore 0 := ⟨am_ix 434 (by decide +kernel) rfl, am_ix 8 (by decide +kernel) rfl, by decide +kernel, by decide +kernel, by decide +kernel⟩
theorem lv_m2_explore : Cond.instanceMethod (am_y m2_explore) ∈ am_tb ∧ Cond.selects (am_y m2_explore).cls (am_y m2_explore) (am_y m2_explore) ∈ am_tb := ⟨am_ix 432 (by decide +kernel) rfl, am_ix 433 (by decide +kernel) rfl⟩
theorem lk_RX8_179 : am_lkV RX8 179 m2_explore 0 := ⟨l0_m2_explore, am_ix 431 (by decide +kernel) rfl, lv_m2_explore.1, lv_m2_explore.2⟩
theorem l0_m2_pictureAt : am_lk0 m2_pictureAt 1 := ⟨am_ix 478 (by decide +kernel) rfl, am_ix 8 (by decide +kernel) rfl, by decide +kernel, by decide +kernel, by decide +kernel⟩
theorem lv_m2_pictureAt : Cond.instanceMethod (am_y m2_pictureAt) ∈ am_tb ∧ Cond.selects (am_y m2_pictureAt).cls (am_y m2_pictureAt) (am_y m2_pictureAt) ∈ am_tb := ⟨am_ix 476 (by decide +kernel) rfl, am_ix 477 (by decide +kernel) rfl⟩
theorem lk_RX8_185 : am_lkV RX8 185 m2_pictureAt 1 := ⟨l0_m2_pictureAt, am_ix 475 (by decide +kernel) rfl, lv_m2_pictureAt.1, lv_m2_pictureAt.2⟩
theorem l0_m2_metPlaces : am_lk0 m2_metPlaces 0 := ⟨am_ix 495 (by decide +kernel) rfl, am_ix 8 (by decide +kernel) rfl, by decide +kernel, by decide +kernel, by decide +kernel⟩
theorem lv_m2_metPlaces : Cond.instanceMethod (am_y m2_metPlaces) ∈ am_tb ∧ Cond.selects (am_y m2_metPlaces).cls (am_y m2_metPlaces) (am_y m2_metPlaces) ∈ am_tb := ⟨am_ix 493 (by decide +kernel) rfl, am_ix 494 (by decide +kernel) rfl⟩
theorem lk_RX8_188 : am_lkV RX8 188 m2_metPlaces 0 := ⟨l0_m2_metPlaces, am_ix 492 (by decide +kernel) rfl, lv_m2_metPlaces.1, lv_m2_metPlaces.2⟩
theorem l0_m2_metByNumber : am_lk0 m2_metByNumber 1 := ⟨am_ix 503 (by decide +kernel) rfl, am_ix 8 (by decide +kernel) rfl, by decide +kernel, by decide +kernel, by decide +kernel⟩
theorem lv_m2_metByNumber : Cond.instanceMethod (am_y m2_metByNumber) ∈ am_tb ∧ Cond.selects (am_y m2_metByNumber).cls (am_y m2_metByNumber) (am_y m2_metByNumber) ∈ am_tb := ⟨am_ix 501 (by decide +kernel) rfl, am_ix 502 (by decide +kernel) rfl⟩
theorem lk_RX8_191 : am_lkV RX8 191 m2_metByNumber 1 := ⟨l0_m2_metByNumber, am_ix 500 (by decide +kernel) rfl, lv_m2_metByNumber.1, lv_m2_metByNumber.2⟩
theorem l0_m2_isMet : am_lk0 m2_isMet 1 := ⟨am_ix 515 (by decide +kernel) rfl, am_ix 8 (by decide +kernel) rfl, by decide +kernel, by decide +kernel, by decide +kernel⟩
theorem lv_m2_isMet : Cond.instanceMethod (am_y m2_isMet) ∈ am_tb ∧ Cond.selects (am_y m2_isMet).cls (am_y m2_isMet) (am_y m2_isMet) ∈ am_tb := ⟨am_ix 513 (by decide +kernel) rfl, am_ix 514 (by decide +kernel) rfl⟩
theorem lk_RX8_194 : am_lkV RX8 194 m2_isMet 1 := ⟨l0_m2_isMet, am_ix 512 (by decide +kernel) rfl, lv_m2_isMet.1, lv_m2_isMet.2⟩
theorem l0_m2_firstFault : am_lk0 m2_firstFault 1 := ⟨am_ix 523 (by decide +kernel) rfl, am_ix 8 (by decide +kernel) rfl, by decide +kernel, by decide +kernel, by decide +kernel⟩
theorem lv_m2_firstFault : Cond.instanceMethod (am_y m2_firstFault) ∈ am_tb ∧ Cond.selects (am_y m2_firstFault).cls (am_y m2_firstFault) (am_y m2_firstFault) ∈ am_tb := ⟨am_ix 521 (by decide +kernel) rfl, am_ix 522 (by decide +kernel) rfl⟩
theorem lk_RX8_197 : am_lkV RX8 197 m2_firstFault 1 := ⟨l0_m2_firstFault, am_ix 520 (by decide +kernel) rfl, lv_m2_firstFault.1, lv_m2_firstFault.2⟩
theorem l0_m1_shortestUneven : am_lk0 m1_shortestUneven 4 := ⟨am_ix 535 (by decide +kernel) rfl, am_ix 9 (by decide +kernel) rfl, by decide +kernel, by decide +kernel, by decide +kernel⟩
theorem lv_m1_shortestUneven : Cond.instanceMethod (am_y m1_shortestUneven) ∈ am_tb ∧ Cond.selects (am_y m1_shortestUneven).cls (am_y m1_shortestUneven) (am_y m1_shortestUneven) ∈ am_tb := ⟨am_ix 533 (by decide +kernel) rfl, am_ix 534 (by decide +kernel) rfl⟩
theorem lk_RX8_201 : am_lkV RX8 201 m1_shortestUneven 4 := ⟨l0_m1_shortestUneven, am_ix 532 (by decide +kernel) rfl, lv_m1_shortestUneven.1, lv_m1_shortestUneven.2⟩
theorem l0_m0_isSo : am_lk0 m0_isSo 4 := ⟨am_ix 565 (by decide +kernel) rfl, am_ix 10 (by decide +kernel) rfl, by decide +kernel, by decide +kernel, by decide +kernel⟩
theorem lv_m0_isSo : Cond.instanceMethod (am_y m0_isSo) ∈ am_tb ∧ Cond.selects (am_y m0_isSo).cls (am_y m0_isSo) (am_y m0_isSo) ∈ am_tb := ⟨am_ix 563 (by decide +kernel) rfl, am_ix 564 (by decide +kernel) rfl⟩
theorem lk_RX8_205 : am_lkV RX8 205 m0_isSo 4 := ⟨l0_m0_isSo, am_ix 562 (by decide +kernel) rfl, lv_m0_isSo.1, lv_m0_isSo.2⟩
theorem l0_m8_followingOf : am_lk0 m8_followingOf 2 := ⟨am_ix 696 (by decide +kernel) rfl, am_ix 1 (by decide +kernel) rfl, by decide +kernel, by decide +kernel, by decide +kernel⟩
theorem lv_m8_followingOf : Cond.instanceMethod (am_y m8_followingOf) ∈ am_tb ∧ Cond.selects (am_y m8_followingOf).cls (am_y m8_followingOf) (am_y m8_followingOf) ∈ am_tb := ⟨am_ix 695 (by decide +kernel) rfl, am_tb_of (List.mem_append_left _ (List.mem_of_getElem? (i := 31) (by decide +kernel))) rfl⟩
theorem lk_RX8_209 : am_lkV RX8 209 m8_followingOf 2 := ⟨l0_m8_followingOf, am_ix 693 (by decide +kernel) rfl, lv_m8_followingOf.1, lv_m8_followingOf.2⟩
theorem l0_m7_fill : am_lk0 m7_fill 3 := ⟨am_ix 710 (by decide +kernel) rfl, am_ix 11 (by decide +kernel) rfl, by decide +kernel, by decide +kernel, by decide +kernel⟩
theorem lv_m7_fill : Cond.instanceMethod (am_y m7_fill) ∈ am_tb ∧ Cond.selects (am_y m7_fill).cls (am_y m7_fill) (am_y m7_fill) ∈ am_tb := ⟨am_ix 708 (by decide +kernel) rfl, am_ix 709 (by decide +kernel) rfl⟩
theorem lk_RX8_217 : am_lkV RX8 217 m7_fill 3 := ⟨l0_m7_fill, am_ix 707 (by decide +kernel) rfl, lv_m7_fill.1, lv_m7_fill.2⟩
theorem l0_m7_layOut : am_lk0 m7_layOut 4 := ⟨am_ix 735 (by decide +kernel) rfl, am_ix 11 (by decide +kernel) rfl, by decide +kernel, by decide +kernel, by decide +kernel⟩
theorem lv_m7_layOut : Cond.instanceMethod (am_y m7_layOut) ∈ am_tb ∧ Cond.selects (am_y m7_layOut).cls (am_y m7_layOut) (am_y m7_layOut) ∈ am_tb := ⟨am_ix 733 (by decide +kernel) rfl, am_ix 734 (by decide +kernel) rfl⟩
theorem lk_RX8_224 : am_lkV RX8 224 m7_layOut 4 := ⟨l0_m7_layOut, am_ix 732 (by decide +kernel) rfl, lv_m7_layOut.1, lv_m7_layOut.2⟩
theorem l0_m5_walkedBy : am_lk0 m5_walkedBy 1 := ⟨am_ix 746 (by decide +kernel) rfl, am_ix 5 (by decide +kernel) rfl, by decide +kernel, by decide +kernel, by decide +kernel⟩
theorem lv_m5_walkedBy : Cond.instanceMethod (am_y m5_walkedBy) ∈ am_tb ∧ Cond.selects (am_y m5_walkedBy).cls (am_y m5_walkedBy) (am_y m5_walkedBy) ∈ am_tb := ⟨am_ix 744 (by decide +kernel) rfl, am_ix 745 (by decide +kernel) rfl⟩
theorem lk_RX8_231 : am_lkV RX8 231 m5_walkedBy 1 := ⟨l0_m5_walkedBy, am_ix 743 (by decide +kernel) rfl, lv_m5_walkedBy.1, lv_m5_walkedBy.2⟩
theorem l0_m7_placeOf : am_lk0 m7_placeOf 2 := ⟨am_ix 754 (by decide +kernel) rfl, am_ix 11 (by decide +kernel) rfl, by decide +kernel, by decide +kernel, by decide +kernel⟩
theorem lv_m7_placeOf : Cond.instanceMethod (am_y m7_placeOf) ∈ am_tb ∧ Cond.selects (am_y m7_placeOf).cls (am_y m7_placeOf) (am_y m7_placeOf) ∈ am_tb := ⟨am_ix 752 (by decide +kernel) rfl, am_ix 753 (by decide +kernel) rfl⟩
theorem lk_RX8_242 : am_lkV RX8 242 m7_placeOf 2 := ⟨l0_m7_placeOf, am_ix 751 (by decide +kernel) rfl, lv_m7_placeOf.1, lv_m7_placeOf.2⟩
theorem l0_m4_rewrite : am_lk0 m4_rewrite 2 := ⟨am_ix 781 (by decide +kernel) rfl, am_ix 4 (by decide +kernel) rfl, by decide +kernel, by decide +kernel, by decide +kernel⟩
theorem lv_m4_rewrite : Cond.instanceMethod (am_y m4_rewrite) ∈ am_tb ∧ Cond.selects (am_y m4_rewrite).cls (am_y m4_rewrite) (am_y m4_rewrite) ∈ am_tb := ⟨am_ix 779 (by decide +kernel) rfl, am_ix 780 (by decide +kernel) rfl⟩
theorem lk_RX8_249 : am_lkV RX8 249 m4_rewrite 2 := ⟨l0_m4_rewrite, am_ix 778 (by decide +kernel) rfl, lv_m4_rewrite.1, lv_m4_rewrite.2⟩
theorem l0_m5_copy : am_lk0 m5_copy 1 := ⟨am_ix 792 (by decide +kernel) rfl, am_ix 5 (by decide +kernel) rfl, by decide +kernel, by decide +kernel, by decide +kernel⟩
theorem lv_m5_copy : Cond.instanceMethod (am_y m5_copy) ∈ am_tb ∧ Cond.selects (am_y m5_copy).cls (am_y m5_copy) (am_y m5_copy) ∈ am_tb := ⟨am_ix 790 (by decide +kernel) rfl, am_ix 791 (by decide +kernel) rfl⟩
theorem lk_RX8_253 : am_lkV RX8 253 m5_copy 1 := ⟨l0_m5_copy, am_ix 789 (by decide +kernel) rfl, lv_m5_copy.1, lv_m5_copy.2⟩
theorem l0_m2_state : am_lk0 m2_state 5 := ⟨am_ix 430 (by decide +kernel) rfl, am_ix 8 (by decide +kernel) rfl, by decide +kernel, by decide +kernel, by decide +kernel⟩
theorem lv_m2_state : Cond.instanceMethod (am_y m2_state) ∈ am_tb ∧ Cond.selects (am_y m2_state).cls (am_y m2_state) (am_y m2_state) ∈ am_tb := ⟨am_ix 428 (by decide +kernel) rfl, am_ix 429 (by decide +kernel) rfl⟩
theorem lk_RX8_260 : am_lkV RX8 260 m2_state 5 := ⟨l0_m2_state, am_ix 427 (by decide +kernel) rfl, lv_m2_state.1, lv_m2_state.2⟩
theorem l0_m9_begin : am_lk0 m9_begin 1 := ⟨am_ix 813 (by decide +kernel) rfl, am_ix 12 (by decide +kernel) rfl, by decide +kernel, by decide +kernel, by decide +kernel⟩
theorem lv_m9_begin : Cond.instanceMethod (am_y m9_begin) ∈ am_tb ∧ Cond.selects (am_y m9_begin).cls (am_y m9_begin) (am_y m9_begin) ∈ am_tb := ⟨am_ix 812 (by decide +kernel) rfl, am_tb_of (List.mem_append_left _ (List.mem_of_getElem? (i := 34) (by decide +kernel))) rfl⟩
theorem lk_RX9_91 : am_lkV RX9 91 m9_begin 1 := ⟨l0_m9_begin, am_ix 810 (by decide +kernel) rfl, lv_m9_begin.1, lv_m9_begin.2⟩
theorem l0_m9_bare : am_lk0 m9_bare 1 := ⟨am_ix 817 (by decide +kernel) rfl, am_ix 12 (by decide +kernel) rfl, by decide +kernel, by decide +kernel, by decide +kernel⟩
theorem lv_m9_bare : Cond.instanceMethod (am_y m9_bare) ∈ am_tb ∧ Cond.selects (am_y m9_bare).cls (am_y m9_bare) (am_y m9_bare) ∈ am_tb := ⟨am_ix 816 (by decide +kernel) rfl, am_tb_of (List.mem_append_left _ (List.mem_of_getElem? (i := 35) (by decide +kernel))) rfl⟩
theorem lk_RX9_102 : am_lkV RX9 102 m9_bare 1 := ⟨l0_m9_bare, am_ix 814 (by decide +kernel) rfl, lv_m9_bare.1, lv_m9_bare.2⟩
theorem l0_m9_in : am_lk0 m9_in 3 := ⟨am_ix 936 (by decide +kernel) rfl, am_ix 12 (by decide +kernel) rfl, by decide +kernel, by decide +kernel, by decide +kernel⟩
theorem lt_m9_in : Cond.static (am_y m9_in) ∈ am_tb := am_ix 935 (by decide +kernel) rfl
theorem lk_RX9_110 : am_lkS RX9 110 m9_in 3 := ⟨l0_m9_in, am_ix 934 (by decide +kernel) rfl, lt_m9_in⟩
theorem l0_m9_noSentence : am_lk0 m9_noSentence 1 := ⟨am_ix 943 (by decide +kernel) rfl, am_ix 12 (by decide +kernel) rfl, by decide +kernel, by decide +kernel, by decide +kernel⟩
theorem lt_m9_noSentence : Cond.static (am_y m9_noSentence) ∈ am_tb := am_ix 942 (by decide +kernel) rfl
theorem lk_RX9_122 : am_lkS RX9 122 m9_noSentence 1 := ⟨l0_m9_noSentence, am_ix 941 (by decide +kernel) rfl, lt_m9_noSentence⟩
theorem l0_m9_noPoint : am_lk0 m9_noPoint 1 := ⟨am_ix 947 (by decide +kernel) rfl, am_ix 12 (by decide +kernel) rfl, by decide +kernel, by decide +kernel, by decide +kernel⟩
theorem lt_m9_noPoint : Cond.static (am_y m9_noPoint) ∈ am_tb := am_ix 946 (by decide +kernel) rfl
theorem lk_RX9_126 : am_lkS RX9 126 m9_noPoint 1 := ⟨l0_m9_noPoint, am_ix 945 (by decide +kernel) rfl, lt_m9_noPoint⟩
theorem l0_m9_noLetter : am_lk0 m9_noLetter 1 := ⟨am_ix 952 (by decide +kernel) rfl, am_ix 12 (by decide +kernel) rfl, by decide +kernel, by decide +kernel, by decide +kernel⟩
theorem lv_m9_noLetter : Cond.instanceMethod (am_y m9_noLetter) ∈ am_tb ∧ Cond.selects (am_y m9_noLetter).cls (am_y m9_noLetter) (am_y m9_noLetter) ∈ am_tb := ⟨am_ix 951 (by decide +kernel) rfl, am_tb_of (List.mem_append_left _ (List.mem_of_getElem? (i := 36) (by decide +kernel))) rfl⟩
theorem lk_RX9_129 : am_lkV RX9 129 m9_noLetter 1 := ⟨l0_m9_noLetter, am_ix 949 (by decide +kernel) rfl, lv_m9_noLetter.1, lv_m9_noLetter.2⟩
theorem l0_m9_isSoAt : am_lk0 m9_isSoAt 2 := ⟨am_ix 964 (by decide +kernel) rfl, am_ix 12 (by decide +kernel) rfl, by decide +kernel, by decide +kernel, by decide +kernel⟩
theorem lt_m9_isSoAt : Cond.static (am_y m9_isSoAt) ∈ am_tb := am_ix 963 (by decide +kernel) rfl
theorem lk_RX9_134 : am_lkS RX9 134 m9_isSoAt 2 := ⟨l0_m9_isSoAt, am_ix 962 (by decide +kernel) rfl, lt_m9_isSoAt⟩
theorem l0_m9_leads : am_lk0 m9_leads 4 := ⟨am_ix 968 (by decide +kernel) rfl, am_ix 12 (by decide +kernel) rfl, by decide +kernel, by decide +kernel, by decide +kernel⟩
theorem lv_m9_leads : Cond.instanceMethod (am_y m9_leads) ∈ am_tb ∧ Cond.selects (am_y m9_leads).cls (am_y m9_leads) (am_y m9_leads) ∈ am_tb := ⟨am_ix 967 (by decide +kernel) rfl, am_tb_of (List.mem_append_left _ (List.mem_of_getElem? (i := 37) (by decide +kernel))) rfl⟩
theorem lk_RX9_138 : am_lkV RX9 138 m9_leads 4 := ⟨l0_m9_leads, am_ix 965 (by decide +kernel) rfl, lv_m9_leads.1, lv_m9_leads.2⟩
theorem l0_m9_noProgram : am_lk0 m9_noProgram 1 := ⟨am_ix 987 (by decide +kernel) rfl, am_ix 12 (by decide +kernel) rfl, by decide +kernel, by decide +kernel, by decide +kernel⟩
theorem lt_m9_noProgram : Cond.static (am_y m9_noProgram) ∈ am_tb := am_ix 986 (by decide +kernel) rfl
theorem lk_RX9_144 : am_lkS RX9 144 m9_noProgram 1 := ⟨l0_m9_noProgram, am_ix 985 (by decide +kernel) rfl, lt_m9_noProgram⟩
theorem l0_m9_isWord : am_lk0 m9_isWord 1 := ⟨am_ix 992 (by decide +kernel) rfl, am_ix 12 (by decide +kernel) rfl, by decide +kernel, by decide +kernel, by decide +kernel⟩
theorem lv_m9_isWord : Cond.instanceMethod (am_y m9_isWord) ∈ am_tb ∧ Cond.selects (am_y m9_isWord).cls (am_y m9_isWord) (am_y m9_isWord) ∈ am_tb := ⟨am_ix 991 (by decide +kernel) rfl, am_tb_of (List.mem_append_left _ (List.mem_of_getElem? (i := 38) (by decide +kernel))) rfl⟩
theorem lk_RX9_147 : am_lkV RX9 147 m9_isWord 1 := ⟨l0_m9_isWord, am_ix 989 (by decide +kernel) rfl, lv_m9_isWord.1, lv_m9_isWord.2⟩
theorem l0_m9_longOf : am_lk0 m9_longOf 1 := ⟨am_ix 1024 (by decide +kernel) rfl, am_ix 12 (by decide +kernel) rfl, by decide +kernel, by decide +kernel, by decide +kernel⟩
theorem lt_m9_longOf : Cond.static (am_y m9_longOf) ∈ am_tb := am_ix 1023 (by decide +kernel) rfl
theorem lk_RX9_152 : am_lkS RX9 152 m9_longOf 1 := ⟨l0_m9_longOf, am_ix 1022 (by decide +kernel) rfl, lt_m9_longOf⟩
theorem l0_m9_letterOf : am_lk0 m9_letterOf 2 := ⟨am_ix 1027 (by decide +kernel) rfl, am_ix 12 (by decide +kernel) rfl, by decide +kernel, by decide +kernel, by decide +kernel⟩
theorem lt_m9_letterOf : Cond.static (am_y m9_letterOf) ∈ am_tb := am_ix 1026 (by decide +kernel) rfl
theorem lk_RX9_156 : am_lkS RX9 156 m9_letterOf 2 := ⟨l0_m9_letterOf, am_ix 1025 (by decide +kernel) rfl, lt_m9_letterOf⟩
theorem l0_m9_say : am_lk0 m9_say 2 := ⟨am_ix 1031 (by decide +kernel) rfl, am_ix 12 (by decide +kernel) rfl, by decide +kernel, by decide +kernel, by decide +kernel⟩
theorem lv_m9_say : Cond.instanceMethod (am_y m9_say) ∈ am_tb ∧ Cond.selects (am_y m9_say).cls (am_y m9_say) (am_y m9_say) ∈ am_tb := ⟨am_ix 1030 (by decide +kernel) rfl, am_tb_of (List.mem_append_left _ (List.mem_of_getElem? (i := 42) (by decide +kernel))) rfl⟩
theorem lk_RX9_166 : am_lkV RX9 166 m9_say 2 := ⟨l0_m9_say, am_ix 1028 (by decide +kernel) rfl, lv_m9_say.1, lv_m9_say.2⟩
theorem l0_m9_read : am_lk0 m9_read 3 := ⟨am_ix 1021 (by decide +kernel) rfl, am_ix 12 (by decide +kernel) rfl, by decide +kernel, by decide +kernel, by decide +kernel⟩
theorem lv_m9_read : Cond.instanceMethod (am_y m9_read) ∈ am_tb ∧ Cond.selects (am_y m9_read).cls (am_y m9_read) (am_y m9_read) ∈ am_tb := ⟨am_ix 1020 (by decide +kernel) rfl, am_tb_of (List.mem_append_left _ (List.mem_of_getElem? (i := 41) (by decide +kernel))) rfl⟩
theorem lk_RX9_170 : am_lkV RX9 170 m9_read 3 := ⟨l0_m9_read, am_ix 1018 (by decide +kernel) rfl, lv_m9_read.1, lv_m9_read.2⟩
theorem l0_m9_isBad : am_lk0 m9_isBad 5 := ⟨am_ix 1017 (by decide +kernel) rfl, am_ix 12 (by decide +kernel) rfl, by decide +kernel, by decide +kernel, by decide +kernel⟩
theorem lv_m9_isBad : Cond.instanceMethod (am_y m9_isBad) ∈ am_tb ∧ Cond.selects (am_y m9_isBad).cls (am_y m9_isBad) (am_y m9_isBad) ∈ am_tb := ⟨am_ix 1016 (by decide +kernel) rfl, am_tb_of (List.mem_append_left _ (List.mem_of_getElem? (i := 40) (by decide +kernel))) rfl⟩
theorem lk_RX9_177 : am_lkV RX9 177 m9_isBad 5 := ⟨l0_m9_isBad, am_ix 1014 (by decide +kernel) rfl, lv_m9_isBad.1, lv_m9_isBad.2⟩
theorem l0_m9_leadsTo : am_lk0 m9_leadsTo 6 := ⟨am_ix 1035 (by decide +kernel) rfl, am_ix 12 (by decide +kernel) rfl, by decide +kernel, by decide +kernel, by decide +kernel⟩
theorem lv_m9_leadsTo : Cond.instanceMethod (am_y m9_leadsTo) ∈ am_tb ∧ Cond.selects (am_y m9_leadsTo).cls (am_y m9_leadsTo) (am_y m9_leadsTo) ∈ am_tb := ⟨am_ix 1034 (by decide +kernel) rfl, am_tb_of (List.mem_append_left _ (List.mem_of_getElem? (i := 43) (by decide +kernel))) rfl⟩
theorem lk_RX9_181 : am_lkV RX9 181 m9_leadsTo 6 := ⟨l0_m9_leadsTo, am_ix 1032 (by decide +kernel) rfl, lv_m9_leadsTo.1, lv_m9_leadsTo.2⟩
theorem l0_m9_noClaim : am_lk0 m9_noClaim 4 := ⟨am_ix 1008 (by decide +kernel) rfl, am_ix 12 (by decide +kernel) rfl, by decide +kernel, by decide +kernel, by decide +kernel⟩
theorem lt_m9_noClaim : Cond.static (am_y m9_noClaim) ∈ am_tb := am_ix 1007 (by decide +kernel) rfl
theorem lk_RX9_185 : am_lkS RX9 185 m9_noClaim 4 := ⟨l0_m9_noClaim, am_ix 1006 (by decide +kernel) rfl, lt_m9_noClaim⟩
theorem l0_m9_meet : am_lk0 m9_meet 4 := ⟨am_ix 1013 (by decide +kernel) rfl, am_ix 12 (by decide +kernel) rfl, by decide +kernel, by decide +kernel, by decide +kernel⟩
theorem lv_m9_meet : Cond.instanceMethod (am_y m9_meet) ∈ am_tb ∧ Cond.selects (am_y m9_meet).cls (am_y m9_meet) (am_y m9_meet) ∈ am_tb := ⟨am_ix 1012 (by decide +kernel) rfl, am_tb_of (List.mem_append_left _ (List.mem_of_getElem? (i := 39) (by decide +kernel))) rfl⟩
theorem lk_RX9_189 : am_lkV RX9 189 m9_meet 4 := ⟨l0_m9_meet, am_ix 1010 (by decide +kernel) rfl, lv_m9_meet.1, lv_m9_meet.2⟩
theorem l0_m9_told : am_lk0 m9_told 2 := ⟨am_ix 1043 (by decide +kernel) rfl, am_ix 12 (by decide +kernel) rfl, by decide +kernel, by decide +kernel, by decide +kernel⟩
theorem lv_m9_told : Cond.instanceMethod (am_y m9_told) ∈ am_tb ∧ Cond.selects (am_y m9_told).cls (am_y m9_told) (am_y m9_told) ∈ am_tb := ⟨am_ix 1042 (by decide +kernel) rfl, am_tb_of (List.mem_append_left _ (List.mem_of_getElem? (i := 44) (by decide +kernel))) rfl⟩
theorem lk_RX9_192 : am_lkV RX9 192 m9_told 2 := ⟨l0_m9_told, am_ix 1040 (by decide +kernel) rfl, lv_m9_told.1, lv_m9_told.2⟩
theorem l0_m9_often : am_lk0 m9_often 2 := ⟨am_ix 1075 (by decide +kernel) rfl, am_ix 12 (by decide +kernel) rfl, by decide +kernel, by decide +kernel, by decide +kernel⟩
theorem lt_m9_often : Cond.static (am_y m9_often) ∈ am_tb := am_ix 1074 (by decide +kernel) rfl
theorem lk_RX9_197 : am_lkS RX9 197 m9_often 2 := ⟨l0_m9_often, am_ix 1073 (by decide +kernel) rfl, lt_m9_often⟩
theorem l0_m9_unlike : am_lk0 m9_unlike 3 := ⟨am_ix 1072 (by decide +kernel) rfl, am_ix 12 (by decide +kernel) rfl, by decide +kernel, by decide +kernel, by decide +kernel⟩
theorem lv_m9_unlike : Cond.instanceMethod (am_y m9_unlike) ∈ am_tb ∧ Cond.selects (am_y m9_unlike).cls (am_y m9_unlike) (am_y m9_unlike) ∈ am_tb := ⟨am_ix 1071 (by decide +kernel) rfl, am_tb_of (List.mem_append_left _ (List.mem_of_getElem? (i := 45) (by decide +kernel))) rfl⟩
theorem lk_RX9_200 : am_lkV RX9 200 m9_unlike 3 := ⟨l0_m9_unlike, am_ix 1069 (by decide +kernel) rfl, lv_m9_unlike.1, lv_m9_unlike.2⟩
theorem l0_m9_writeBoth : am_lk0 m9_writeBoth 4 := ⟨am_ix 1091 (by decide +kernel) rfl, am_ix 12 (by decide +kernel) rfl, by decide +kernel, by decide +kernel, by decide +kernel⟩
theorem lv_m9_writeBoth : Cond.instanceMethod (am_y m9_writeBoth) ∈ am_tb ∧ Cond.selects (am_y m9_writeBoth).cls (am_y m9_writeBoth) (am_y m9_writeBoth) ∈ am_tb := ⟨am_ix 1090 (by decide +kernel) rfl, am_tb_of (List.mem_append_left _ (List.mem_of_getElem? (i := 47) (by decide +kernel))) rfl⟩
theorem lk_RX9_210 : am_lkV RX9 210 m9_writeBoth 4 := ⟨l0_m9_writeBoth, am_ix 1088 (by decide +kernel) rfl, lv_m9_writeBoth.1, lv_m9_writeBoth.2⟩
theorem l0_m9_pair : am_lk0 m9_pair 5 := ⟨am_ix 1095 (by decide +kernel) rfl, am_ix 12 (by decide +kernel) rfl, by decide +kernel, by decide +kernel, by decide +kernel⟩
theorem lv_m9_pair : Cond.instanceMethod (am_y m9_pair) ∈ am_tb ∧ Cond.selects (am_y m9_pair).cls (am_y m9_pair) (am_y m9_pair) ∈ am_tb := ⟨am_ix 1094 (by decide +kernel) rfl, am_tb_of (List.mem_append_left _ (List.mem_of_getElem? (i := 48) (by decide +kernel))) rfl⟩
theorem lk_RX9_213 : am_lkV RX9 213 m9_pair 5 := ⟨l0_m9_pair, am_ix 1092 (by decide +kernel) rfl, lv_m9_pair.1, lv_m9_pair.2⟩
theorem l0_m9_put : am_lk0 m9_put 3 := ⟨am_ix 1099 (by decide +kernel) rfl, am_ix 12 (by decide +kernel) rfl, by decide +kernel, by decide +kernel, by decide +kernel⟩
theorem lv_m9_put : Cond.instanceMethod (am_y m9_put) ∈ am_tb ∧ Cond.selects (am_y m9_put).cls (am_y m9_put) (am_y m9_put) ∈ am_tb := ⟨am_ix 1098 (by decide +kernel) rfl, am_tb_of (List.mem_append_left _ (List.mem_of_getElem? (i := 49) (by decide +kernel))) rfl⟩
theorem lk_RX9_217 : am_lkV RX9 217 m9_put 3 := ⟨l0_m9_put, am_ix 1096 (by decide +kernel) rfl, lv_m9_put.1, lv_m9_put.2⟩
theorem l0_m9_begins : am_lk0 m9_begins 0 := ⟨am_ix 1103 (by decide +kernel) rfl, am_ix 12 (by decide +kernel) rfl, by decide +kernel, by decide +kernel, by decide +kernel⟩
theorem lv_m9_begins : Cond.instanceMethod (am_y m9_begins) ∈ am_tb ∧ Cond.selects (am_y m9_begins).cls (am_y m9_begins) (am_y m9_begins) ∈ am_tb := ⟨am_ix 1102 (by decide +kernel) rfl, am_tb_of (List.mem_append_left _ (List.mem_of_getElem? (i := 50) (by decide +kernel))) rfl⟩
theorem lk_RX9_220 : am_lkV RX9 220 m9_begins 0 := ⟨l0_m9_begins, am_ix 1100 (by decide +kernel) rfl, lv_m9_begins.1, lv_m9_begins.2⟩
theorem l0_m9_keep : am_lk0 m9_keep 2 := ⟨am_ix 1107 (by decide +kernel) rfl, am_ix 12 (by decide +kernel) rfl, by decide +kernel, by decide +kernel, by decide +kernel⟩
theorem lv_m9_keep : Cond.instanceMethod (am_y m9_keep) ∈ am_tb ∧ Cond.selects (am_y m9_keep).cls (am_y m9_keep) (am_y m9_keep) ∈ am_tb := ⟨am_ix 1106 (by decide +kernel) rfl, am_tb_of (List.mem_append_left _ (List.mem_of_getElem? (i := 51) (by decide +kernel))) rfl⟩
theorem lk_RX9_224 : am_lkV RX9 224 m9_keep 2 := ⟨l0_m9_keep, am_ix 1104 (by decide +kernel) rfl, lv_m9_keep.1, lv_m9_keep.2⟩
theorem l0_m9_agrees : am_lk0 m9_agrees 3 := ⟨am_ix 1087 (by decide +kernel) rfl, am_ix 12 (by decide +kernel) rfl, by decide +kernel, by decide +kernel, by decide +kernel⟩
theorem lv_m9_agrees : Cond.instanceMethod (am_y m9_agrees) ∈ am_tb ∧ Cond.selects (am_y m9_agrees).cls (am_y m9_agrees) (am_y m9_agrees) ∈ am_tb := ⟨am_ix 1086 (by decide +kernel) rfl, am_tb_of (List.mem_append_left _ (List.mem_of_getElem? (i := 46) (by decide +kernel))) rfl⟩
theorem lk_RX9_228 : am_lkV RX9 228 m9_agrees 3 := ⟨l0_m9_agrees, am_ix 1084 (by decide +kernel) rfl, lv_m9_agrees.1, lv_m9_agrees.2⟩
theorem l0_m9_part : am_lk0 m9_part 2 := ⟨am_ix 1115 (by decide +kernel) rfl, am_ix 12 (by decide +kernel) rfl, by decide +kernel, by decide +kernel, by decide +kernel⟩
theorem lv_m9_part : Cond.instanceMethod (am_y m9_part) ∈ am_tb ∧ Cond.selects (am_y m9_part).cls (am_y m9_part) (am_y m9_part) ∈ am_tb := ⟨am_ix 1114 (by decide +kernel) rfl, am_tb_of (List.mem_append_left _ (List.mem_of_getElem? (i := 52) (by decide +kernel))) rfl⟩
theorem lk_RX9_232 : am_lkV RX9 232 m9_part 2 := ⟨l0_m9_part, am_ix 1112 (by decide +kernel) rfl, lv_m9_part.1, lv_m9_part.2⟩
theorem l0_m9_reckon : am_lk0 m9_reckon 2 := ⟨am_ix 1128 (by decide +kernel) rfl, am_ix 12 (by decide +kernel) rfl, by decide +kernel, by decide +kernel, by decide +kernel⟩
theorem lv_m9_reckon : Cond.instanceMethod (am_y m9_reckon) ∈ am_tb ∧ Cond.selects (am_y m9_reckon).cls (am_y m9_reckon) (am_y m9_reckon) ∈ am_tb := ⟨am_ix 1127 (by decide +kernel) rfl, am_tb_of (List.mem_append_left _ (List.mem_of_getElem? (i := 53) (by decide +kernel))) rfl⟩
theorem lk_RX9_237 : am_lkV RX9 237 m9_reckon 2 := ⟨l0_m9_reckon, am_ix 1125 (by decide +kernel) rfl, lv_m9_reckon.1, lv_m9_reckon.2⟩
theorem l0_m9_isSo : am_lk0 m9_isSo 1 := ⟨am_ix 1140 (by decide +kernel) rfl, am_ix 12 (by decide +kernel) rfl, by decide +kernel, by decide +kernel, by decide +kernel⟩
theorem lv_m9_isSo : Cond.instanceMethod (am_y m9_isSo) ∈ am_tb ∧ Cond.selects (am_y m9_isSo).cls (am_y m9_isSo) (am_y m9_isSo) ∈ am_tb := ⟨am_ix 1139 (by decide +kernel) rfl, am_tb_of (List.mem_append_left _ (List.mem_of_getElem? (i := 54) (by decide +kernel))) rfl⟩
theorem lk_RX9_240 : am_lkV RX9 240 m9_isSo 1 := ⟨l0_m9_isSo, am_ix 1137 (by decide +kernel) rfl, lv_m9_isSo.1, lv_m9_isSo.2⟩
theorem l0_m9_add : am_lk0 m9_add 1 := ⟨am_ix 1170 (by decide +kernel) rfl, am_ix 12 (by decide +kernel) rfl, by decide +kernel, by decide +kernel, by decide +kernel⟩
theorem lv_m9_add : Cond.instanceMethod (am_y m9_add) ∈ am_tb ∧ Cond.selects (am_y m9_add).cls (am_y m9_add) (am_y m9_add) ∈ am_tb := ⟨am_ix 1169 (by decide +kernel) rfl, am_tb_of (List.mem_append_left _ (List.mem_of_getElem? (i := 56) (by decide +kernel))) rfl⟩
theorem lk_RX9_250 : am_lkV RX9 250 m9_add 1 := ⟨l0_m9_add, am_ix 1167 (by decide +kernel) rfl, lv_m9_add.1, lv_m9_add.2⟩
theorem l0_m9_writes : am_lk0 m9_writes 1 := ⟨am_ix 1166 (by decide +kernel) rfl, am_ix 12 (by decide +kernel) rfl, by decide +kernel, by decide +kernel, by decide +kernel⟩
theorem lv_m9_writes : Cond.instanceMethod (am_y m9_writes) ∈ am_tb ∧ Cond.selects (am_y m9_writes).cls (am_y m9_writes) (am_y m9_writes) ∈ am_tb := ⟨am_ix 1165 (by decide +kernel) rfl, am_tb_of (List.mem_append_left _ (List.mem_of_getElem? (i := 55) (by decide +kernel))) rfl⟩
theorem lk_RX9_257 : am_lkV RX9 257 m9_writes 1 := ⟨l0_m9_writes, am_ix 1163 (by decide +kernel) rfl, lv_m9_writes.1, lv_m9_writes.2⟩
theorem l0_m9_take : am_lk0 m9_take 0 := ⟨am_ix 1174 (by decide +kernel) rfl, am_ix 12 (by decide +kernel) rfl, by decide +kernel, by decide +kernel, by decide +kernel⟩
theorem lv_m9_take : Cond.instanceMethod (am_y m9_take) ∈ am_tb ∧ Cond.selects (am_y m9_take).cls (am_y m9_take) (am_y m9_take) ∈ am_tb := ⟨am_ix 1173 (by decide +kernel) rfl, am_tb_of (List.mem_append_left _ (List.mem_of_getElem? (i := 57) (by decide +kernel))) rfl⟩
theorem lk_RX9_260 : am_lkV RX9 260 m9_take 0 := ⟨l0_m9_take, am_ix 1171 (by decide +kernel) rfl, lv_m9_take.1, lv_m9_take.2⟩
theorem l0_m8_init : am_lk0 m8_init 0 := ⟨am_ix 17 (by decide +kernel) rfl, am_ix 1 (by decide +kernel) rfl, by decide +kernel, by decide +kernel, by decide +kernel⟩
theorem li_m8_init : Cond.instanceMethod (am_y m8_init) ∈ am_tb := am_ix 16 (by decide +kernel) rfl
theorem lk_RL_9 : am_lkI RL 9 m8_init 0 := ⟨l0_m8_init, am_ix 15 (by decide +kernel) rfl, li_m8_init, rfl, rfl⟩
theorem l0_m9_init : am_lk0 m9_init 0 := ⟨am_ix 807 (by decide +kernel) rfl, am_ix 12 (by decide +kernel) rfl, by decide +kernel, by decide +kernel, by decide +kernel⟩
theorem li_m9_init : Cond.instanceMethod (am_y m9_init) ∈ am_tb := am_ix 806 (by decide +kernel) rfl
theorem lk_RL_12 : am_lkI RL 12 m9_init 0 := ⟨l0_m9_init, am_ix 805 (by decide +kernel) rfl, li_m9_init, rfl, rfl⟩
theorem l0_m8_letters : am_lk0 m8_letters 1 := ⟨am_ix 272 (by decide +kernel) rfl, am_ix 1 (by decide +kernel) rfl, by decide +kernel, by decide +kernel, by decide +kernel⟩
theorem lv_m8_letters : Cond.instanceMethod (am_y m8_letters) ∈ am_tb ∧ Cond.selects (am_y m8_letters).cls (am_y m8_letters) (am_y m8_letters) ∈ am_tb := ⟨am_ix 270 (by decide +kernel) rfl, am_ix 271 (by decide +kernel) rfl⟩
theorem lk_RL_13 : am_lkV RL 13 m8_letters 1 := ⟨l0_m8_letters, am_ix 269 (by decide +kernel) rfl, lv_m8_letters.1, lv_m8_letters.2⟩
theorem l0_m9_letters : am_lk0 m9_letters 1 := ⟨am_ix 931 (by decide +kernel) rfl, am_ix 12 (by decide +kernel) rfl, by decide +kernel, by decide +kernel, by decide +kernel⟩
theorem lv_m9_letters : Cond.instanceMethod (am_y m9_letters) ∈ am_tb ∧ Cond.selects (am_y m9_letters).cls (am_y m9_letters) (am_y m9_letters) ∈ am_tb := ⟨am_ix 929 (by decide +kernel) rfl, am_ix 930 (by decide +kernel) rfl⟩
theorem lk_RL_17 : am_lkV RL 17 m9_letters 1 := ⟨l0_m9_letters, am_ix 928 (by decide +kernel) rfl, lv_m9_letters.1, lv_m9_letters.2⟩
theorem l0_m8_point : am_lk0 m8_point 4 := ⟨am_ix 283 (by decide +kernel) rfl, am_ix 1 (by decide +kernel) rfl, by decide +kernel, by decide +kernel, by decide +kernel⟩
theorem lv_m8_point : Cond.instanceMethod (am_y m8_point) ∈ am_tb ∧ Cond.selects (am_y m8_point).cls (am_y m8_point) (am_y m8_point) ∈ am_tb := ⟨am_ix 281 (by decide +kernel) rfl, am_ix 282 (by decide +kernel) rfl⟩
theorem lk_RL_18 : am_lkV RL 18 m8_point 4 := ⟨l0_m8_point, am_ix 280 (by decide +kernel) rfl, lv_m8_point.1, lv_m8_point.2⟩
theorem l0_m9_point : am_lk0 m9_point 4 := ⟨am_ix 940 (by decide +kernel) rfl, am_ix 12 (by decide +kernel) rfl, by decide +kernel, by decide +kernel, by decide +kernel⟩
theorem lv_m9_point : Cond.instanceMethod (am_y m9_point) ∈ am_tb ∧ Cond.selects (am_y m9_point).cls (am_y m9_point) (am_y m9_point) ∈ am_tb := ⟨am_ix 938 (by decide +kernel) rfl, am_ix 939 (by decide +kernel) rfl⟩
theorem lk_RL_22 : am_lkV RL 22 m9_point 4 := ⟨l0_m9_point, am_ix 937 (by decide +kernel) rfl, lv_m9_point.1, lv_m9_point.2⟩
theorem l0_m8_holds : am_lk0 m8_holds 3 := ⟨am_ix 301 (by decide +kernel) rfl, am_ix 1 (by decide +kernel) rfl, by decide +kernel, by decide +kernel, by decide +kernel⟩
theorem lv_m8_holds : Cond.instanceMethod (am_y m8_holds) ∈ am_tb ∧ Cond.selects (am_y m8_holds).cls (am_y m8_holds) (am_y m8_holds) ∈ am_tb := ⟨am_ix 299 (by decide +kernel) rfl, am_ix 300 (by decide +kernel) rfl⟩
theorem lk_RL_23 : am_lkV RL 23 m8_holds 3 := ⟨l0_m8_holds, am_ix 298 (by decide +kernel) rfl, lv_m8_holds.1, lv_m8_holds.2⟩
theorem l0_m9_holds : am_lk0 m9_holds 3 := ⟨am_ix 956 (by decide +kernel) rfl, am_ix 12 (by decide +kernel) rfl, by decide +kernel, by decide +kernel, by decide +kernel⟩
theorem lv_m9_holds : Cond.instanceMethod (am_y m9_holds) ∈ am_tb ∧ Cond.selects (am_y m9_holds).cls (am_y m9_holds) (am_y m9_holds) ∈ am_tb := ⟨am_ix 954 (by decide +kernel) rfl, am_ix 955 (by decide +kernel) rfl⟩
theorem lk_RL_27 : am_lkV RL 27 m9_holds 3 := ⟨l0_m9_holds, am_ix 953 (by decide +kernel) rfl, lv_m9_holds.1, lv_m9_holds.2⟩
theorem l0_m8_make : am_lk0 m8_make 3 := ⟨am_ix 317 (by decide +kernel) rfl, am_ix 1 (by decide +kernel) rfl, by decide +kernel, by decide +kernel, by decide +kernel⟩
theorem lv_m8_make : Cond.instanceMethod (am_y m8_make) ∈ am_tb ∧ Cond.selects (am_y m8_make).cls (am_y m8_make) (am_y m8_make) ∈ am_tb := ⟨am_ix 315 (by decide +kernel) rfl, am_ix 316 (by decide +kernel) rfl⟩
theorem lk_RL_28 : am_lkV RL 28 m8_make 3 := ⟨l0_m8_make, am_ix 314 (by decide +kernel) rfl, lv_m8_make.1, lv_m8_make.2⟩
theorem l0_m9_make : am_lk0 m9_make 3 := ⟨am_ix 960 (by decide +kernel) rfl, am_ix 12 (by decide +kernel) rfl, by decide +kernel, by decide +kernel, by decide +kernel⟩
theorem lv_m9_make : Cond.instanceMethod (am_y m9_make) ∈ am_tb ∧ Cond.selects (am_y m9_make).cls (am_y m9_make) (am_y m9_make) ∈ am_tb := ⟨am_ix 958 (by decide +kernel) rfl, am_ix 959 (by decide +kernel) rfl⟩
theorem lk_RL_32 : am_lkV RL 32 m9_make 3 := ⟨l0_m9_make, am_ix 957 (by decide +kernel) rfl, lv_m9_make.1, lv_m9_make.2⟩
theorem l0_m8_not : am_lk0 m8_not 2 := ⟨am_ix 363 (by decide +kernel) rfl, am_ix 1 (by decide +kernel) rfl, by decide +kernel, by decide +kernel, by decide +kernel⟩
theorem lv_m8_not : Cond.instanceMethod (am_y m8_not) ∈ am_tb ∧ Cond.selects (am_y m8_not).cls (am_y m8_not) (am_y m8_not) ∈ am_tb := ⟨am_ix 361 (by decide +kernel) rfl, am_ix 362 (by decide +kernel) rfl⟩
theorem lk_RL_33 : am_lkV RL 33 m8_not 2 := ⟨l0_m8_not, am_ix 360 (by decide +kernel) rfl, lv_m8_not.1, lv_m8_not.2⟩
theorem l0_m9_not : am_lk0 m9_not 2 := ⟨am_ix 972 (by decide +kernel) rfl, am_ix 12 (by decide +kernel) rfl, by decide +kernel, by decide +kernel, by decide +kernel⟩
theorem lv_m9_not : Cond.instanceMethod (am_y m9_not) ∈ am_tb ∧ Cond.selects (am_y m9_not).cls (am_y m9_not) (am_y m9_not) ∈ am_tb := ⟨am_ix 970 (by decide +kernel) rfl, am_ix 971 (by decide +kernel) rfl⟩
theorem lk_RL_37 : am_lkV RL 37 m9_not 2 := ⟨l0_m9_not, am_ix 969 (by decide +kernel) rfl, lv_m9_not.1, lv_m9_not.2⟩
theorem l0_m8_both : am_lk0 m8_both 3 := ⟨am_ix 372 (by decide +kernel) rfl, am_ix 1 (by decide +kernel) rfl, by decide +kernel, by decide +kernel, by decide +kernel⟩
theorem lv_m8_both : Cond.instanceMethod (am_y m8_both) ∈ am_tb ∧ Cond.selects (am_y m8_both).cls (am_y m8_both) (am_y m8_both) ∈ am_tb := ⟨am_ix 370 (by decide +kernel) rfl, am_ix 371 (by decide +kernel) rfl⟩
theorem lk_RL_38 : am_lkV RL 38 m8_both 3 := ⟨l0_m8_both, am_ix 369 (by decide +kernel) rfl, lv_m8_both.1, lv_m8_both.2⟩
theorem l0_m9_both : am_lk0 m9_both 3 := ⟨am_ix 976 (by decide +kernel) rfl, am_ix 12 (by decide +kernel) rfl, by decide +kernel, by decide +kernel, by decide +kernel⟩
theorem lv_m9_both : Cond.instanceMethod (am_y m9_both) ∈ am_tb ∧ Cond.selects (am_y m9_both).cls (am_y m9_both) (am_y m9_both) ∈ am_tb := ⟨am_ix 974 (by decide +kernel) rfl, am_ix 975 (by decide +kernel) rfl⟩
theorem lk_RL_41 : am_lkV RL 41 m9_both 3 := ⟨l0_m9_both, am_ix 973 (by decide +kernel) rfl, lv_m9_both.1, lv_m9_both.2⟩
theorem l0_m8_about : am_lk0 m8_about 3 := ⟨am_ix 376 (by decide +kernel) rfl, am_ix 1 (by decide +kernel) rfl, by decide +kernel, by decide +kernel, by decide +kernel⟩
theorem lv_m8_about : Cond.instanceMethod (am_y m8_about) ∈ am_tb ∧ Cond.selects (am_y m8_about).cls (am_y m8_about) (am_y m8_about) ∈ am_tb := ⟨am_ix 374 (by decide +kernel) rfl, am_ix 375 (by decide +kernel) rfl⟩
theorem lk_RL_42 : am_lkV RL 42 m8_about 3 := ⟨l0_m8_about, am_ix 373 (by decide +kernel) rfl, lv_m8_about.1, lv_m8_about.2⟩
theorem l0_m9_about : am_lk0 m9_about 3 := ⟨am_ix 980 (by decide +kernel) rfl, am_ix 12 (by decide +kernel) rfl, by decide +kernel, by decide +kernel, by decide +kernel⟩
theorem lv_m9_about : Cond.instanceMethod (am_y m9_about) ∈ am_tb ∧ Cond.selects (am_y m9_about).cls (am_y m9_about) (am_y m9_about) ∈ am_tb := ⟨am_ix 978 (by decide +kernel) rfl, am_ix 979 (by decide +kernel) rfl⟩
theorem lk_RL_45 : am_lkV RL 45 m9_about 3 := ⟨l0_m9_about, am_ix 977 (by decide +kernel) rfl, lv_m9_about.1, lv_m9_about.2⟩
theorem l0_m8_spot : am_lk0 m8_spot 5 := ⟨am_ix 380 (by decide +kernel) rfl, am_ix 1 (by decide +kernel) rfl, by decide +kernel, by decide +kernel, by decide +kernel⟩
theorem lv_m8_spot : Cond.instanceMethod (am_y m8_spot) ∈ am_tb ∧ Cond.selects (am_y m8_spot).cls (am_y m8_spot) (am_y m8_spot) ∈ am_tb := ⟨am_ix 378 (by decide +kernel) rfl, am_ix 379 (by decide +kernel) rfl⟩
theorem lk_RL_46 : am_lkV RL 46 m8_spot 5 := ⟨l0_m8_spot, am_ix 377 (by decide +kernel) rfl, lv_m8_spot.1, lv_m8_spot.2⟩
theorem l0_m9_spot : am_lk0 m9_spot 5 := ⟨am_ix 984 (by decide +kernel) rfl, am_ix 12 (by decide +kernel) rfl, by decide +kernel, by decide +kernel, by decide +kernel⟩
theorem lv_m9_spot : Cond.instanceMethod (am_y m9_spot) ∈ am_tb ∧ Cond.selects (am_y m9_spot).cls (am_y m9_spot) (am_y m9_spot) ∈ am_tb := ⟨am_ix 982 (by decide +kernel) rfl, am_ix 983 (by decide +kernel) rfl⟩
theorem lk_RL_50 : am_lkV RL 50 m9_spot 5 := ⟨l0_m9_spot, am_ix 981 (by decide +kernel) rfl, lv_m9_spot.1, lv_m9_spot.2⟩
theorem l0_m8_end : am_lk0 m8_end 3 := ⟨am_ix 402 (by decide +kernel) rfl, am_ix 1 (by decide +kernel) rfl, by decide +kernel, by decide +kernel, by decide +kernel⟩
theorem lv_m8_end : Cond.instanceMethod (am_y m8_end) ∈ am_tb ∧ Cond.selects (am_y m8_end).cls (am_y m8_end) (am_y m8_end) ∈ am_tb := ⟨am_ix 400 (by decide +kernel) rfl, am_ix 401 (by decide +kernel) rfl⟩
theorem lk_RL_51 : am_lkV RL 51 m8_end 3 := ⟨l0_m8_end, am_ix 399 (by decide +kernel) rfl, lv_m8_end.1, lv_m8_end.2⟩
theorem l0_m9_end : am_lk0 m9_end 3 := ⟨am_ix 997 (by decide +kernel) rfl, am_ix 12 (by decide +kernel) rfl, by decide +kernel, by decide +kernel, by decide +kernel⟩
theorem lv_m9_end : Cond.instanceMethod (am_y m9_end) ∈ am_tb ∧ Cond.selects (am_y m9_end).cls (am_y m9_end) (am_y m9_end) ∈ am_tb := ⟨am_ix 995 (by decide +kernel) rfl, am_ix 996 (by decide +kernel) rfl⟩
theorem lk_RL_54 : am_lkV RL 54 m9_end 3 := ⟨l0_m9_end, am_ix 994 (by decide +kernel) rfl, lv_m9_end.1, lv_m9_end.2⟩
theorem l0_m8_of : am_lk0 m8_of 4 := ⟨am_ix 414 (by decide +kernel) rfl, am_ix 1 (by decide +kernel) rfl, by decide +kernel, by decide +kernel, by decide +kernel⟩
theorem lv_m8_of : Cond.instanceMethod (am_y m8_of) ∈ am_tb ∧ Cond.selects (am_y m8_of).cls (am_y m8_of) (am_y m8_of) ∈ am_tb := ⟨am_ix 412 (by decide +kernel) rfl, am_ix 413 (by decide +kernel) rfl⟩
theorem lk_RL_55 : am_lkV RL 55 m8_of 4 := ⟨l0_m8_of, am_ix 411 (by decide +kernel) rfl, lv_m8_of.1, lv_m8_of.2⟩
theorem l0_m9_of : am_lk0 m9_of 4 := ⟨am_ix 1001 (by decide +kernel) rfl, am_ix 12 (by decide +kernel) rfl, by decide +kernel, by decide +kernel, by decide +kernel⟩
theorem lv_m9_of : Cond.instanceMethod (am_y m9_of) ∈ am_tb ∧ Cond.selects (am_y m9_of).cls (am_y m9_of) (am_y m9_of) ∈ am_tb := ⟨am_ix 999 (by decide +kernel) rfl, am_ix 1000 (by decide +kernel) rfl⟩
theorem lk_RL_58 : am_lkV RL 58 m9_of 4 := ⟨l0_m9_of, am_ix 998 (by decide +kernel) rfl, lv_m9_of.1, lv_m9_of.2⟩
theorem l0_m8_claim : am_lk0 m8_claim 4 := ⟨am_ix 422 (by decide +kernel) rfl, am_ix 1 (by decide +kernel) rfl, by decide +kernel, by decide +kernel, by decide +kernel⟩
theorem lv_m8_claim : Cond.instanceMethod (am_y m8_claim) ∈ am_tb ∧ Cond.selects (am_y m8_claim).cls (am_y m8_claim) (am_y m8_claim) ∈ am_tb := ⟨am_ix 420 (by decide +kernel) rfl, am_ix 421 (by decide +kernel) rfl⟩
theorem lk_RL_59 : am_lkV RL 59 m8_claim 4 := ⟨l0_m8_claim, am_ix 419 (by decide +kernel) rfl, lv_m8_claim.1, lv_m8_claim.2⟩
theorem l0_m9_claim : am_lk0 m9_claim 4 := ⟨am_ix 1005 (by decide +kernel) rfl, am_ix 12 (by decide +kernel) rfl, by decide +kernel, by decide +kernel, by decide +kernel⟩
theorem lv_m9_claim : Cond.instanceMethod (am_y m9_claim) ∈ am_tb ∧ Cond.selects (am_y m9_claim).cls (am_y m9_claim) (am_y m9_claim) ∈ am_tb := ⟨am_ix 1003 (by decide +kernel) rfl, am_ix 1004 (by decide +kernel) rfl⟩
theorem lk_RL_62 : am_lkV RL 62 m9_claim 4 := ⟨l0_m9_claim, am_ix 1002 (by decide +kernel) rfl, lv_m9_claim.1, lv_m9_claim.2⟩
theorem l0_m8_picture : am_lk0 m8_picture 5 := ⟨am_ix 474 (by decide +kernel) rfl, am_ix 1 (by decide +kernel) rfl, by decide +kernel, by decide +kernel, by decide +kernel⟩
theorem lv_m8_picture : Cond.instanceMethod (am_y m8_picture) ∈ am_tb ∧ Cond.selects (am_y m8_picture).cls (am_y m8_picture) (am_y m8_picture) ∈ am_tb := ⟨am_ix 472 (by decide +kernel) rfl, am_ix 473 (by decide +kernel) rfl⟩
theorem lk_RL_63 : am_lkV RL 63 m8_picture 5 := ⟨l0_m8_picture, am_ix 471 (by decide +kernel) rfl, lv_m8_picture.1, lv_m8_picture.2⟩
theorem l0_m9_picture : am_lk0 m9_picture 5 := ⟨am_ix 1039 (by decide +kernel) rfl, am_ix 12 (by decide +kernel) rfl, by decide +kernel, by decide +kernel, by decide +kernel⟩
theorem lv_m9_picture : Cond.instanceMethod (am_y m9_picture) ∈ am_tb ∧ Cond.selects (am_y m9_picture).cls (am_y m9_picture) (am_y m9_picture) ∈ am_tb := ⟨am_ix 1037 (by decide +kernel) rfl, am_ix 1038 (by decide +kernel) rfl⟩
theorem lk_RL_66 : am_lkV RL 66 m9_picture 5 := ⟨l0_m9_picture, am_ix 1036 (by decide +kernel) rfl, lv_m9_picture.1, lv_m9_picture.2⟩
theorem l0_m8_met : am_lk0 m8_met 4 := ⟨am_ix 491 (by decide +kernel) rfl, am_ix 1 (by decide +kernel) rfl, by decide +kernel, by decide +kernel, by decide +kernel⟩
theorem lv_m8_met : Cond.instanceMethod (am_y m8_met) ∈ am_tb ∧ Cond.selects (am_y m8_met).cls (am_y m8_met) (am_y m8_met) ∈ am_tb := ⟨am_ix 489 (by decide +kernel) rfl, am_ix 490 (by decide +kernel) rfl⟩
theorem lk_RL_67 : am_lkV RL 67 m8_met 4 := ⟨l0_m8_met, am_ix 488 (by decide +kernel) rfl, lv_m8_met.1, lv_m8_met.2⟩
theorem l0_m9_met : am_lk0 m9_met 4 := ⟨am_ix 1047 (by decide +kernel) rfl, am_ix 12 (by decide +kernel) rfl, by decide +kernel, by decide +kernel, by decide +kernel⟩
theorem lv_m9_met : Cond.instanceMethod (am_y m9_met) ∈ am_tb ∧ Cond.selects (am_y m9_met).cls (am_y m9_met) (am_y m9_met) ∈ am_tb := ⟨am_ix 1045 (by decide +kernel) rfl, am_ix 1046 (by decide +kernel) rfl⟩
theorem lk_RL_70 : am_lkV RL 70 m9_met 4 := ⟨l0_m9_met, am_ix 1044 (by decide +kernel) rfl, lv_m9_met.1, lv_m9_met.2⟩
theorem l0_m8_place : am_lk0 m8_place 5 := ⟨am_ix 499 (by decide +kernel) rfl, am_ix 1 (by decide +kernel) rfl, by decide +kernel, by decide +kernel, by decide +kernel⟩
theorem lv_m8_place : Cond.instanceMethod (am_y m8_place) ∈ am_tb ∧ Cond.selects (am_y m8_place).cls (am_y m8_place) (am_y m8_place) ∈ am_tb := ⟨am_ix 497 (by decide +kernel) rfl, am_ix 498 (by decide +kernel) rfl⟩
theorem lk_RL_71 : am_lkV RL 71 m8_place 5 := ⟨l0_m8_place, am_ix 496 (by decide +kernel) rfl, lv_m8_place.1, lv_m8_place.2⟩
theorem l0_m9_place : am_lk0 m9_place 5 := ⟨am_ix 1051 (by decide +kernel) rfl, am_ix 12 (by decide +kernel) rfl, by decide +kernel, by decide +kernel, by decide +kernel⟩
theorem lv_m9_place : Cond.instanceMethod (am_y m9_place) ∈ am_tb ∧ Cond.selects (am_y m9_place).cls (am_y m9_place) (am_y m9_place) ∈ am_tb := ⟨am_ix 1049 (by decide +kernel) rfl, am_ix 1050 (by decide +kernel) rfl⟩
theorem lk_RL_74 : am_lkV RL 74 m9_place 5 := ⟨l0_m9_place, am_ix 1048 (by decide +kernel) rfl, lv_m9_place.1, lv_m9_place.2⟩
theorem l0_m8_sheet : am_lk0 m8_sheet 2 := ⟨am_ix 507 (by decide +kernel) rfl, am_ix 1 (by decide +kernel) rfl, by decide +kernel, by decide +kernel, by decide +kernel⟩
theorem lv_m8_sheet : Cond.instanceMethod (am_y m8_sheet) ∈ am_tb ∧ Cond.selects (am_y m8_sheet).cls (am_y m8_sheet) (am_y m8_sheet) ∈ am_tb := ⟨am_ix 505 (by decide +kernel) rfl, am_ix 506 (by decide +kernel) rfl⟩
theorem lk_RL_75 : am_lkV RL 75 m8_sheet 2 := ⟨l0_m8_sheet, am_ix 504 (by decide +kernel) rfl, lv_m8_sheet.1, lv_m8_sheet.2⟩
theorem l0_m9_sheet : am_lk0 m9_sheet 2 := ⟨am_ix 1055 (by decide +kernel) rfl, am_ix 12 (by decide +kernel) rfl, by decide +kernel, by decide +kernel, by decide +kernel⟩
theorem lv_m9_sheet : Cond.instanceMethod (am_y m9_sheet) ∈ am_tb ∧ Cond.selects (am_y m9_sheet).cls (am_y m9_sheet) (am_y m9_sheet) ∈ am_tb := ⟨am_ix 1053 (by decide +kernel) rfl, am_ix 1054 (by decide +kernel) rfl⟩
theorem lk_RL_79 : am_lkV RL 79 m9_sheet 2 := ⟨l0_m9_sheet, am_ix 1052 (by decide +kernel) rfl, lv_m9_sheet.1, lv_m9_sheet.2⟩
theorem l0_m8_write : am_lk0 m8_write 4 := ⟨am_ix 511 (by decide +kernel) rfl, am_ix 1 (by decide +kernel) rfl, by decide +kernel, by decide +kernel, by decide +kernel⟩
theorem lv_m8_write : Cond.instanceMethod (am_y m8_write) ∈ am_tb ∧ Cond.selects (am_y m8_write).cls (am_y m8_write) (am_y m8_write) ∈ am_tb := ⟨am_ix 509 (by decide +kernel) rfl, am_ix 510 (by decide +kernel) rfl⟩
theorem lk_RL_80 : am_lkV RL 80 m8_write 4 := ⟨l0_m8_write, am_ix 508 (by decide +kernel) rfl, lv_m8_write.1, lv_m8_write.2⟩
theorem l0_m9_write : am_lk0 m9_write 4 := ⟨am_ix 1060 (by decide +kernel) rfl, am_ix 12 (by decide +kernel) rfl, by decide +kernel, by decide +kernel, by decide +kernel⟩
theorem lv_m9_write : Cond.instanceMethod (am_y m9_write) ∈ am_tb ∧ Cond.selects (am_y m9_write).cls (am_y m9_write) (am_y m9_write) ∈ am_tb := ⟨am_ix 1058 (by decide +kernel) rfl, am_ix 1059 (by decide +kernel) rfl⟩
theorem lk_RL_83 : am_lkV RL 83 m9_write 4 := ⟨l0_m9_write, am_ix 1057 (by decide +kernel) rfl, lv_m9_write.1, lv_m9_write.2⟩
theorem l0_m8_check : am_lk0 m8_check 4 := ⟨am_ix 519 (by decide +kernel) rfl, am_ix 1 (by decide +kernel) rfl, by decide +kernel, by decide +kernel, by decide +kernel⟩
theorem lv_m8_check : Cond.instanceMethod (am_y m8_check) ∈ am_tb ∧ Cond.selects (am_y m8_check).cls (am_y m8_check) (am_y m8_check) ∈ am_tb := ⟨am_ix 517 (by decide +kernel) rfl, am_ix 518 (by decide +kernel) rfl⟩
theorem lk_RL_84 : am_lkV RL 84 m8_check 4 := ⟨l0_m8_check, am_ix 516 (by decide +kernel) rfl, lv_m8_check.1, lv_m8_check.2⟩
theorem l0_m9_check : am_lk0 m9_check 4 := ⟨am_ix 1064 (by decide +kernel) rfl, am_ix 12 (by decide +kernel) rfl, by decide +kernel, by decide +kernel, by decide +kernel⟩
theorem lv_m9_check : Cond.instanceMethod (am_y m9_check) ∈ am_tb ∧ Cond.selects (am_y m9_check).cls (am_y m9_check) (am_y m9_check) ∈ am_tb := ⟨am_ix 1062 (by decide +kernel) rfl, am_ix 1063 (by decide +kernel) rfl⟩
theorem lk_RL_87 : am_lkV RL 87 m9_check 4 := ⟨l0_m9_check, am_ix 1061 (by decide +kernel) rfl, lv_m9_check.1, lv_m9_check.2⟩
theorem l0_m8_stays : am_lk0 m8_stays 3 := ⟨am_ix 531 (by decide +kernel) rfl, am_ix 1 (by decide +kernel) rfl, by decide +kernel, by decide +kernel, by decide +kernel⟩
theorem lv_m8_stays : Cond.instanceMethod (am_y m8_stays) ∈ am_tb ∧ Cond.selects (am_y m8_stays).cls (am_y m8_stays) (am_y m8_stays) ∈ am_tb := ⟨am_ix 529 (by decide +kernel) rfl, am_ix 530 (by decide +kernel) rfl⟩
theorem lk_RL_88 : am_lkV RL 88 m8_stays 3 := ⟨l0_m8_stays, am_ix 528 (by decide +kernel) rfl, lv_m8_stays.1, lv_m8_stays.2⟩
theorem l0_m9_stays : am_lk0 m9_stays 3 := ⟨am_ix 1068 (by decide +kernel) rfl, am_ix 12 (by decide +kernel) rfl, by decide +kernel, by decide +kernel, by decide +kernel⟩
theorem lv_m9_stays : Cond.instanceMethod (am_y m9_stays) ∈ am_tb ∧ Cond.selects (am_y m9_stays).cls (am_y m9_stays) (am_y m9_stays) ∈ am_tb := ⟨am_ix 1066 (by decide +kernel) rfl, am_ix 1067 (by decide +kernel) rfl⟩
theorem lk_RL_91 : am_lkV RL 91 m9_stays 3 := ⟨l0_m9_stays, am_ix 1065 (by decide +kernel) rfl, lv_m9_stays.1, lv_m9_stays.2⟩
theorem l0_m8_witness : am_lk0 m8_witness 3 := ⟨am_ix 557 (by decide +kernel) rfl, am_ix 1 (by decide +kernel) rfl, by decide +kernel, by decide +kernel, by decide +kernel⟩
theorem lv_m8_witness : Cond.instanceMethod (am_y m8_witness) ∈ am_tb ∧ Cond.selects (am_y m8_witness).cls (am_y m8_witness) (am_y m8_witness) ∈ am_tb := ⟨am_ix 555 (by decide +kernel) rfl, am_ix 556 (by decide +kernel) rfl⟩
theorem lk_RL_92 : am_lkV RL 92 m8_witness 3 := ⟨l0_m8_witness, am_ix 554 (by decide +kernel) rfl, lv_m8_witness.1, lv_m8_witness.2⟩
theorem l0_m9_witness : am_lk0 m9_witness 3 := ⟨am_ix 1079 (by decide +kernel) rfl, am_ix 12 (by decide +kernel) rfl, by decide +kernel, by decide +kernel, by decide +kernel⟩
theorem lv_m9_witness : Cond.instanceMethod (am_y m9_witness) ∈ am_tb ∧ Cond.selects (am_y m9_witness).cls (am_y m9_witness) (am_y m9_witness) ∈ am_tb := ⟨am_ix 1077 (by decide +kernel) rfl, am_ix 1078 (by decide +kernel) rfl⟩
theorem lk_RL_95 : am_lkV RL 95 m9_witness 3 := ⟨l0_m9_witness, am_ix 1076 (by decide +kernel) rfl, lv_m9_witness.1, lv_m9_witness.2⟩
theorem l0_m8_agree : am_lk0 m8_agree 3 := ⟨am_ix 561 (by decide +kernel) rfl, am_ix 1 (by decide +kernel) rfl, by decide +kernel, by decide +kernel, by decide +kernel⟩
theorem lv_m8_agree : Cond.instanceMethod (am_y m8_agree) ∈ am_tb ∧ Cond.selects (am_y m8_agree).cls (am_y m8_agree) (am_y m8_agree) ∈ am_tb := ⟨am_ix 559 (by decide +kernel) rfl, am_ix 560 (by decide +kernel) rfl⟩
theorem lk_RL_96 : am_lkV RL 96 m8_agree 3 := ⟨l0_m8_agree, am_ix 558 (by decide +kernel) rfl, lv_m8_agree.1, lv_m8_agree.2⟩
theorem l0_m9_agree : am_lk0 m9_agree 3 := ⟨am_ix 1083 (by decide +kernel) rfl, am_ix 12 (by decide +kernel) rfl, by decide +kernel, by decide +kernel, by decide +kernel⟩
theorem lv_m9_agree : Cond.instanceMethod (am_y m9_agree) ∈ am_tb ∧ Cond.selects (am_y m9_agree).cls (am_y m9_agree) (am_y m9_agree) ∈ am_tb := ⟨am_ix 1081 (by decide +kernel) rfl, am_ix 1082 (by decide +kernel) rfl⟩
theorem lk_RL_99 : am_lkV RL 99 m9_agree 3 := ⟨l0_m9_agree, am_ix 1080 (by decide +kernel) rfl, lv_m9_agree.1, lv_m9_agree.2⟩
theorem l0_m8_follows : am_lk0 m8_follows 2 := ⟨am_ix 692 (by decide +kernel) rfl, am_ix 1 (by decide +kernel) rfl, by decide +kernel, by decide +kernel, by decide +kernel⟩
theorem lv_m8_follows : Cond.instanceMethod (am_y m8_follows) ∈ am_tb ∧ Cond.selects (am_y m8_follows).cls (am_y m8_follows) (am_y m8_follows) ∈ am_tb := ⟨am_ix 690 (by decide +kernel) rfl, am_ix 691 (by decide +kernel) rfl⟩
theorem lk_RL_100 : am_lkV RL 100 m8_follows 2 := ⟨l0_m8_follows, am_ix 689 (by decide +kernel) rfl, lv_m8_follows.1, lv_m8_follows.2⟩
theorem l0_m9_follows : am_lk0 m9_follows 2 := ⟨am_ix 1111 (by decide +kernel) rfl, am_ix 12 (by decide +kernel) rfl, by decide +kernel, by decide +kernel, by decide +kernel⟩
theorem lv_m9_follows : Cond.instanceMethod (am_y m9_follows) ∈ am_tb ∧ Cond.selects (am_y m9_follows).cls (am_y m9_follows) (am_y m9_follows) ∈ am_tb := ⟨am_ix 1109 (by decide +kernel) rfl, am_ix 1110 (by decide +kernel) rfl⟩
theorem lk_RL_103 : am_lkV RL 103 m9_follows 2 := ⟨l0_m9_follows, am_ix 1108 (by decide +kernel) rfl, lv_m9_follows.1, lv_m9_follows.2⟩
theorem l0_m8_unless : am_lk0 m8_unless 3 := ⟨am_ix 700 (by decide +kernel) rfl, am_ix 1 (by decide +kernel) rfl, by decide +kernel, by decide +kernel, by decide +kernel⟩
theorem lv_m8_unless : Cond.instanceMethod (am_y m8_unless) ∈ am_tb ∧ Cond.selects (am_y m8_unless).cls (am_y m8_unless) (am_y m8_unless) ∈ am_tb := ⟨am_ix 698 (by decide +kernel) rfl, am_ix 699 (by decide +kernel) rfl⟩
theorem lk_RL_104 : am_lkV RL 104 m8_unless 3 := ⟨l0_m8_unless, am_ix 697 (by decide +kernel) rfl, lv_m8_unless.1, lv_m8_unless.2⟩
theorem l0_m9_unless : am_lk0 m9_unless 3 := ⟨am_ix 1119 (by decide +kernel) rfl, am_ix 12 (by decide +kernel) rfl, by decide +kernel, by decide +kernel, by decide +kernel⟩
theorem lv_m9_unless : Cond.instanceMethod (am_y m9_unless) ∈ am_tb ∧ Cond.selects (am_y m9_unless).cls (am_y m9_unless) (am_y m9_unless) ∈ am_tb := ⟨am_ix 1117 (by decide +kernel) rfl, am_ix 1118 (by decide +kernel) rfl⟩
theorem lk_RL_107 : am_lkV RL 107 m9_unless 3 := ⟨l0_m9_unless, am_ix 1116 (by decide +kernel) rfl, lv_m9_unless.1, lv_m9_unless.2⟩
theorem l0_m8_rows : am_lk0 m8_rows 2 := ⟨am_ix 704 (by decide +kernel) rfl, am_ix 1 (by decide +kernel) rfl, by decide +kernel, by decide +kernel, by decide +kernel⟩
theorem lv_m8_rows : Cond.instanceMethod (am_y m8_rows) ∈ am_tb ∧ Cond.selects (am_y m8_rows).cls (am_y m8_rows) (am_y m8_rows) ∈ am_tb := ⟨am_ix 702 (by decide +kernel) rfl, am_ix 703 (by decide +kernel) rfl⟩
theorem lk_RL_108 : am_lkV RL 108 m8_rows 2 := ⟨l0_m8_rows, am_ix 701 (by decide +kernel) rfl, lv_m8_rows.1, lv_m8_rows.2⟩
theorem l0_m9_rows : am_lk0 m9_rows 2 := ⟨am_ix 1123 (by decide +kernel) rfl, am_ix 12 (by decide +kernel) rfl, by decide +kernel, by decide +kernel, by decide +kernel⟩
theorem lv_m9_rows : Cond.instanceMethod (am_y m9_rows) ∈ am_tb ∧ Cond.selects (am_y m9_rows).cls (am_y m9_rows) (am_y m9_rows) ∈ am_tb := ⟨am_ix 1121 (by decide +kernel) rfl, am_ix 1122 (by decide +kernel) rfl⟩
theorem lk_RL_112 : am_lkV RL 112 m9_rows 2 := ⟨l0_m9_rows, am_ix 1120 (by decide +kernel) rfl, lv_m9_rows.1, lv_m9_rows.2⟩
theorem l0_m8_lay : am_lk0 m8_lay 3 := ⟨am_ix 731 (by decide +kernel) rfl, am_ix 1 (by decide +kernel) rfl, by decide +kernel, by decide +kernel, by decide +kernel⟩
theorem lv_m8_lay : Cond.instanceMethod (am_y m8_lay) ∈ am_tb ∧ Cond.selects (am_y m8_lay).cls (am_y m8_lay) (am_y m8_lay) ∈ am_tb := ⟨am_ix 729 (by decide +kernel) rfl, am_ix 730 (by decide +kernel) rfl⟩
theorem lk_RL_115 : am_lkV RL 115 m8_lay 3 := ⟨l0_m8_lay, am_ix 728 (by decide +kernel) rfl, lv_m8_lay.1, lv_m8_lay.2⟩
theorem l0_m9_lay : am_lk0 m9_lay 3 := ⟨am_ix 1132 (by decide +kernel) rfl, am_ix 12 (by decide +kernel) rfl, by decide +kernel, by decide +kernel, by decide +kernel⟩
theorem lv_m9_lay : Cond.instanceMethod (am_y m9_lay) ∈ am_tb ∧ Cond.selects (am_y m9_lay).cls (am_y m9_lay) (am_y m9_lay) ∈ am_tb := ⟨am_ix 1130 (by decide +kernel) rfl, am_ix 1131 (by decide +kernel) rfl⟩
theorem lk_RL_119 : am_lkV RL 119 m9_lay 3 := ⟨l0_m9_lay, am_ix 1129 (by decide +kernel) rfl, lv_m9_lay.1, lv_m9_lay.2⟩
theorem l0_m8_rank : am_lk0 m8_rank 1 := ⟨am_ix 742 (by decide +kernel) rfl, am_ix 1 (by decide +kernel) rfl, by decide +kernel, by decide +kernel, by decide +kernel⟩
theorem lv_m8_rank : Cond.instanceMethod (am_y m8_rank) ∈ am_tb ∧ Cond.selects (am_y m8_rank).cls (am_y m8_rank) (am_y m8_rank) ∈ am_tb := ⟨am_ix 740 (by decide +kernel) rfl, am_ix 741 (by decide +kernel) rfl⟩
theorem lk_RL_120 : am_lkV RL 120 m8_rank 1 := ⟨l0_m8_rank, am_ix 739 (by decide +kernel) rfl, lv_m8_rank.1, lv_m8_rank.2⟩
theorem l0_m9_rank : am_lk0 m9_rank 1 := ⟨am_ix 1136 (by decide +kernel) rfl, am_ix 12 (by decide +kernel) rfl, by decide +kernel, by decide +kernel, by decide +kernel⟩
theorem lv_m9_rank : Cond.instanceMethod (am_y m9_rank) ∈ am_tb ∧ Cond.selects (am_y m9_rank).cls (am_y m9_rank) (am_y m9_rank) ∈ am_tb := ⟨am_ix 1134 (by decide +kernel) rfl, am_ix 1135 (by decide +kernel) rfl⟩
theorem lk_RL_124 : am_lkV RL 124 m9_rank 1 := ⟨l0_m9_rank, am_ix 1133 (by decide +kernel) rfl, lv_m9_rank.1, lv_m9_rank.2⟩
theorem l0_m8_letter : am_lk0 m8_letter 1 := ⟨am_ix 760 (by decide +kernel) rfl, am_ix 1 (by decide +kernel) rfl, by decide +kernel, by decide +kernel, by decide +kernel⟩
theorem lv_m8_letter : Cond.instanceMethod (am_y m8_letter) ∈ am_tb ∧ Cond.selects (am_y m8_letter).cls (am_y m8_letter) (am_y m8_letter) ∈ am_tb := ⟨am_ix 758 (by decide +kernel) rfl, am_ix 759 (by decide +kernel) rfl⟩
theorem lk_RL_125 : am_lkV RL 125 m8_letter 1 := ⟨l0_m8_letter, am_ix 757 (by decide +kernel) rfl, lv_m8_letter.1, lv_m8_letter.2⟩
theorem l0_m9_letter : am_lk0 m9_letter 1 := ⟨am_ix 1146 (by decide +kernel) rfl, am_ix 12 (by decide +kernel) rfl, by decide +kernel, by decide +kernel, by decide +kernel⟩
theorem lv_m9_letter : Cond.instanceMethod (am_y m9_letter) ∈ am_tb ∧ Cond.selects (am_y m9_letter).cls (am_y m9_letter) (am_y m9_letter) ∈ am_tb := ⟨am_ix 1144 (by decide +kernel) rfl, am_ix 1145 (by decide +kernel) rfl⟩
theorem lk_RL_128 : am_lkV RL 128 m9_letter 1 := ⟨l0_m9_letter, am_ix 1143 (by decide +kernel) rfl, lv_m9_letter.1, lv_m9_letter.2⟩
theorem l0_m8_clear : am_lk0 m8_clear 0 := ⟨am_ix 765 (by decide +kernel) rfl, am_ix 1 (by decide +kernel) rfl, by decide +kernel, by decide +kernel, by decide +kernel⟩
theorem lv_m8_clear : Cond.instanceMethod (am_y m8_clear) ∈ am_tb ∧ Cond.selects (am_y m8_clear).cls (am_y m8_clear) (am_y m8_clear) ∈ am_tb := ⟨am_ix 763 (by decide +kernel) rfl, am_ix 764 (by decide +kernel) rfl⟩
theorem lk_RL_129 : am_lkV RL 129 m8_clear 0 := ⟨l0_m8_clear, am_ix 762 (by decide +kernel) rfl, lv_m8_clear.1, lv_m8_clear.2⟩
theorem l0_m9_clear : am_lk0 m9_clear 0 := ⟨am_ix 1150 (by decide +kernel) rfl, am_ix 12 (by decide +kernel) rfl, by decide +kernel, by decide +kernel, by decide +kernel⟩
theorem lv_m9_clear : Cond.instanceMethod (am_y m9_clear) ∈ am_tb ∧ Cond.selects (am_y m9_clear).cls (am_y m9_clear) (am_y m9_clear) ∈ am_tb := ⟨am_ix 1148 (by decide +kernel) rfl, am_ix 1149 (by decide +kernel) rfl⟩
theorem lk_RL_133 : am_lkV RL 133 m9_clear 0 := ⟨l0_m9_clear, am_ix 1147 (by decide +kernel) rfl, lv_m9_clear.1, lv_m9_clear.2⟩
theorem l0_m8_at : am_lk0 m8_at 1 := ⟨am_ix 769 (by decide +kernel) rfl, am_ix 1 (by decide +kernel) rfl, by decide +kernel, by decide +kernel, by decide +kernel⟩
theorem lv_m8_at : Cond.instanceMethod (am_y m8_at) ∈ am_tb ∧ Cond.selects (am_y m8_at).cls (am_y m8_at) (am_y m8_at) ∈ am_tb := ⟨am_ix 767 (by decide +kernel) rfl, am_ix 768 (by decide +kernel) rfl⟩
theorem lk_RL_134 : am_lkV RL 134 m8_at 1 := ⟨l0_m8_at, am_ix 766 (by decide +kernel) rfl, lv_m8_at.1, lv_m8_at.2⟩
theorem l0_m9_at : am_lk0 m9_at 1 := ⟨am_ix 1154 (by decide +kernel) rfl, am_ix 12 (by decide +kernel) rfl, by decide +kernel, by decide +kernel, by decide +kernel⟩
theorem lv_m9_at : Cond.instanceMethod (am_y m9_at) ∈ am_tb ∧ Cond.selects (am_y m9_at).cls (am_y m9_at) (am_y m9_at) ∈ am_tb := ⟨am_ix 1152 (by decide +kernel) rfl, am_ix 1153 (by decide +kernel) rfl⟩
theorem lk_RL_137 : am_lkV RL 137 m9_at 1 := ⟨l0_m9_at, am_ix 1151 (by decide +kernel) rfl, lv_m9_at.1, lv_m9_at.2⟩
theorem l0_m8_is : am_lk0 m8_is 1 := ⟨am_ix 773 (by decide +kernel) rfl, am_ix 1 (by decide +kernel) rfl, by decide +kernel, by decide +kernel, by decide +kernel⟩
theorem lv_m8_is : Cond.instanceMethod (am_y m8_is) ∈ am_tb ∧ Cond.selects (am_y m8_is).cls (am_y m8_is) (am_y m8_is) ∈ am_tb := ⟨am_ix 771 (by decide +kernel) rfl, am_ix 772 (by decide +kernel) rfl⟩
theorem lk_RL_138 : am_lkV RL 138 m8_is 1 := ⟨l0_m8_is, am_ix 770 (by decide +kernel) rfl, lv_m8_is.1, lv_m8_is.2⟩
theorem l0_m9_is : am_lk0 m9_is 1 := ⟨am_ix 1158 (by decide +kernel) rfl, am_ix 12 (by decide +kernel) rfl, by decide +kernel, by decide +kernel, by decide +kernel⟩
theorem lv_m9_is : Cond.instanceMethod (am_y m9_is) ∈ am_tb ∧ Cond.selects (am_y m9_is).cls (am_y m9_is) (am_y m9_is) ∈ am_tb := ⟨am_ix 1156 (by decide +kernel) rfl, am_ix 1157 (by decide +kernel) rfl⟩
theorem lk_RL_141 : am_lkV RL 141 m9_is 1 := ⟨l0_m9_is, am_ix 1155 (by decide +kernel) rfl, lv_m9_is.1, lv_m9_is.2⟩
theorem l0_m8_run : am_lk0 m8_run 1 := ⟨am_ix 777 (by decide +kernel) rfl, am_ix 1 (by decide +kernel) rfl, by decide +kernel, by decide +kernel, by decide +kernel⟩
theorem lv_m8_run : Cond.instanceMethod (am_y m8_run) ∈ am_tb ∧ Cond.selects (am_y m8_run).cls (am_y m8_run) (am_y m8_run) ∈ am_tb := ⟨am_ix 775 (by decide +kernel) rfl, am_ix 776 (by decide +kernel) rfl⟩
theorem lk_RL_142 : am_lkV RL 142 m8_run 1 := ⟨l0_m8_run, am_ix 774 (by decide +kernel) rfl, lv_m8_run.1, lv_m8_run.2⟩
theorem l0_m9_run : am_lk0 m9_run 1 := ⟨am_ix 1162 (by decide +kernel) rfl, am_ix 12 (by decide +kernel) rfl, by decide +kernel, by decide +kernel, by decide +kernel⟩
theorem lv_m9_run : Cond.instanceMethod (am_y m9_run) ∈ am_tb ∧ Cond.selects (am_y m9_run).cls (am_y m9_run) (am_y m9_run) ∈ am_tb := ⟨am_ix 1160 (by decide +kernel) rfl, am_ix 1161 (by decide +kernel) rfl⟩
theorem lk_RL_145 : am_lkV RL 145 m9_run 1 := ⟨l0_m9_run, am_ix 1159 (by decide +kernel) rfl, lv_m9_run.1, lv_m9_run.2⟩
theorem l0_m8_rounds : am_lk0 m8_rounds 1 := ⟨am_ix 797 (by decide +kernel) rfl, am_ix 1 (by decide +kernel) rfl, by decide +kernel, by decide +kernel, by decide +kernel⟩
theorem lv_m8_rounds : Cond.instanceMethod (am_y m8_rounds) ∈ am_tb ∧ Cond.selects (am_y m8_rounds).cls (am_y m8_rounds) (am_y m8_rounds) ∈ am_tb := ⟨am_ix 795 (by decide +kernel) rfl, am_ix 796 (by decide +kernel) rfl⟩
theorem lk_RL_146 : am_lkV RL 146 m8_rounds 1 := ⟨l0_m8_rounds, am_ix 794 (by decide +kernel) rfl, lv_m8_rounds.1, lv_m8_rounds.2⟩
theorem l0_m9_rounds : am_lk0 m9_rounds 1 := ⟨am_ix 1178 (by decide +kernel) rfl, am_ix 12 (by decide +kernel) rfl, by decide +kernel, by decide +kernel, by decide +kernel⟩
theorem lv_m9_rounds : Cond.instanceMethod (am_y m9_rounds) ∈ am_tb ∧ Cond.selects (am_y m9_rounds).cls (am_y m9_rounds) (am_y m9_rounds) ∈ am_tb := ⟨am_ix 1176 (by decide +kernel) rfl, am_ix 1177 (by decide +kernel) rfl⟩
theorem lk_RL_149 : am_lkV RL 149 m9_rounds 1 := ⟨l0_m9_rounds, am_ix 1175 (by decide +kernel) rfl, lv_m9_rounds.1, lv_m9_rounds.2⟩
theorem l0_m8_count : am_lk0 m8_count 1 := ⟨am_ix 802 (by decide +kernel) rfl, am_ix 1 (by decide +kernel) rfl, by decide +kernel, by decide +kernel, by decide +kernel⟩
theorem lv_m8_count : Cond.instanceMethod (am_y m8_count) ∈ am_tb ∧ Cond.selects (am_y m8_count).cls (am_y m8_count) (am_y m8_count) ∈ am_tb := ⟨am_ix 800 (by decide +kernel) rfl, am_ix 801 (by decide +kernel) rfl⟩
theorem lk_RL_150 : am_lkV RL 150 m8_count 1 := ⟨l0_m8_count, am_ix 799 (by decide +kernel) rfl, lv_m8_count.1, lv_m8_count.2⟩
theorem l0_m9_count : am_lk0 m9_count 1 := ⟨am_ix 1182 (by decide +kernel) rfl, am_ix 12 (by decide +kernel) rfl, by decide +kernel, by decide +kernel, by decide +kernel⟩
theorem lv_m9_count : Cond.instanceMethod (am_y m9_count) ∈ am_tb ∧ Cond.selects (am_y m9_count).cls (am_y m9_count) (am_y m9_count) ∈ am_tb := ⟨am_ix 1180 (by decide +kernel) rfl, am_ix 1181 (by decide +kernel) rfl⟩
theorem lk_RL_153 : am_lkV RL 153 m9_count 1 := ⟨l0_m9_count, am_ix 1179 (by decide +kernel) rfl, lv_m9_count.1, lv_m9_count.2⟩
theorem lf_RX6_9 : Cond.fieldLink RX6 9 (TX6 0).1 (TX6 0).2.1 (TX6 0).2.2.1 ∈ am_tb := am_ix 35 (by decide +kernel) rfl
theorem lf_RX6_15 : Cond.fieldLink RX6 15 (TX6 1).1 (TX6 1).2.1 (TX6 1).2.2.1 ∈ am_tb := am_ix 36 (by decide +kernel) rfl
theorem lf_RX4_9 : Cond.fieldLink RX4 9 (TX4 0).1 (TX4 0).2.1 (TX4 0).2.2.1 ∈ am_tb := am_ix 61 (by decide +kernel) rfl
theorem lf_RX4_15 : Cond.fieldLink RX4 15 (TX4 1).1 (TX4 1).2.1 (TX4 1).2.2.1 ∈ am_tb := am_ix 62 (by decide +kernel) rfl
theorem lf_RX4_18 : Cond.fieldLink RX4 18 (TX4 2).1 (TX4 2).2.1 (TX4 2).2.2.1 ∈ am_tb := am_ix 63 (by decide +kernel) rfl
theorem lf_RX5_15 : Cond.fieldLink RX5 15 (TX5 0).1 (TX5 0).2.1 (TX5 0).2.2.1 ∈ am_tb := am_ix 80 (by decide +kernel) rfl
theorem lf_RX5_21 : Cond.fieldLink RX5 21 (TX5 1).1 (TX5 1).2.1 (TX5 1).2.2.1 ∈ am_tb := am_ix 81 (by decide +kernel) rfl
theorem lf_RX3_11 : Cond.fieldLink RX3 11 (TX3 0).1 (TX3 0).2.1 (TX3 0).2.2.1 ∈ am_tb := am_ix 95 (by decide +kernel) rfl
theorem lf_RX3_15 : Cond.fieldLink RX3 15 (TX3 1).1 (TX3 1).2.1 (TX3 1).2.2.1 ∈ am_tb := am_ix 96 (by decide +kernel) rfl
theorem lf_RX3_21 : Cond.fieldLink RX3 21 (TX3 2).1 (TX3 2).2.1 (TX3 2).2.2.1 ∈ am_tb := am_ix 97 (by decide +kernel) rfl
theorem lf_RX3_25 : Cond.fieldLink RX3 25 (TX3 3).1 (TX3 3).2.1 (TX3 3).2.2.1 ∈ am_tb := am_ix 98 (by decide +kernel) rfl
theorem lf_RX2_9 : Cond.fieldLink RX2 9 (TX2 0).1 (TX2 0).2.1 (TX2 0).2.2.1 ∈ am_tb := am_ix 114 (by decide +kernel) rfl
theorem lf_RX2_15 : Cond.fieldLink RX2 15 (TX2 1).1 (TX2 1).2.1 (TX2 1).2.2.1 ∈ am_tb := am_ix 115 (by decide +kernel) rfl
theorem lf_RX2_18 : Cond.fieldLink RX2 18 (TX2 2).1 (TX2 2).2.1 (TX2 2).2.2.1 ∈ am_tb := am_ix 116 (by decide +kernel) rfl
theorem lf_RX2_22 : Cond.fieldLink RX2 22 (TX2 3).1 (TX2 3).2.1 (TX2 3).2.2.1 ∈ am_tb := am_ix 117 (by decide +kernel) rfl
theorem lf_RX2_26 : Cond.fieldLink RX2 26 (TX2 4).1 (TX2 4).2.1 (TX2 4).2.2.1 ∈ am_tb := am_ix 118 (by decide +kernel) rfl
theorem lf_RX2_30 : Cond.fieldLink RX2 30 (TX2 5).1 (TX2 5).2.1 (TX2 5).2.2.1 ∈ am_tb := am_ix 119 (by decide +kernel) rfl
theorem lf_RX2_33 : Cond.fieldLink RX2 33 (TX2 6).1 (TX2 6).2.1 (TX2 6).2.2.1 ∈ am_tb := am_ix 120 (by decide +kernel) rfl
theorem lf_RX2_36 : Cond.fieldLink RX2 36 (TX2 7).1 (TX2 7).2.1 (TX2 7).2.2.1 ∈ am_tb := am_ix 121 (by decide +kernel) rfl
theorem lf_RX1_11 : Cond.fieldLink RX1 11 (TX1 0).1 (TX1 0).2.1 (TX1 0).2.2.1 ∈ am_tb := am_ix 145 (by decide +kernel) rfl
theorem lf_RX1_15 : Cond.fieldLink RX1 15 (TX1 1).1 (TX1 1).2.1 (TX1 1).2.2.1 ∈ am_tb := am_ix 146 (by decide +kernel) rfl
theorem lf_RX1_18 : Cond.fieldLink RX1 18 (TX1 2).1 (TX1 2).2.1 (TX1 2).2.2.1 ∈ am_tb := am_ix 147 (by decide +kernel) rfl
theorem lf_RX1_21 : Cond.fieldLink RX1 21 (TX1 3).1 (TX1 3).2.1 (TX1 3).2.2.1 ∈ am_tb := am_ix 148 (by decide +kernel) rfl
theorem lf_RX1_24 : Cond.fieldLink RX1 24 (TX1 4).1 (TX1 4).2.1 (TX1 4).2.2.1 ∈ am_tb := am_ix 149 (by decide +kernel) rfl
theorem lf_RX1_27 : Cond.fieldLink RX1 27 (TX1 5).1 (TX1 5).2.1 (TX1 5).2.2.1 ∈ am_tb := am_ix 150 (by decide +kernel) rfl
theorem lf_RX0_11 : Cond.fieldLink RX0 11 (TX0 0).1 (TX0 0).2.1 (TX0 0).2.2.1 ∈ am_tb := am_ix 172 (by decide +kernel) rfl
theorem lf_RX0_15 : Cond.fieldLink RX0 15 (TX0 1).1 (TX0 1).2.1 (TX0 1).2.2.1 ∈ am_tb := am_ix 173 (by decide +kernel) rfl
theorem lf_RX0_18 : Cond.fieldLink RX0 18 (TX0 2).1 (TX0 2).2.1 (TX0 2).2.2.1 ∈ am_tb := am_ix 174 (by decide +kernel) rfl
theorem lf_RX0_22 : Cond.fieldLink RX0 22 (TX0 3).1 (TX0 3).2.1 (TX0 3).2.2.1 ∈ am_tb := am_ix 175 (by decide +kernel) rfl
theorem lf_RX0_25 : Cond.fieldLink RX0 25 (TX0 4).1 (TX0 4).2.1 (TX0 4).2.2.1 ∈ am_tb := am_ix 176 (by decide +kernel) rfl
theorem lf_RX0_33 : Cond.fieldLink RX0 33 (TX0 5).1 (TX0 5).2.1 (TX0 5).2.2.1 ∈ am_tb := am_ix 177 (by decide +kernel) rfl
theorem lf_RX0_37 : Cond.fieldLink RX0 37 (TX0 6).1 (TX0 6).2.1 (TX0 6).2.2.1 ∈ am_tb := am_ix 178 (by decide +kernel) rfl
theorem lf_RX0_40 : Cond.fieldLink RX0 40 (TX0 7).1 (TX0 7).2.1 (TX0 7).2.2.1 ∈ am_tb := am_ix 179 (by decide +kernel) rfl
theorem lf_RX0_44 : Cond.fieldLink RX0 44 (TX0 8).1 (TX0 8).2.1 (TX0 8).2.2.1 ∈ am_tb := am_ix 180 (by decide +kernel) rfl
theorem lf_RX0_48 : Cond.fieldLink RX0 48 (TX0 9).1 (TX0 9).2.1 (TX0 9).2.2.1 ∈ am_tb := am_ix 181 (by decide +kernel) rfl
theorem lf_RX0_51 : Cond.fieldLink RX0 51 (TX0 10).1 (TX0 10).2.1 (TX0 10).2.2.1 ∈ am_tb := am_ix 182 (by decide +kernel) rfl
theorem lf_RX7_11 : Cond.fieldLink RX7 11 (TX7 0).1 (TX7 0).2.1 (TX7 0).2.2.1 ∈ am_tb := am_ix 212 (by decide +kernel) rfl
theorem lf_RX7_15 : Cond.fieldLink RX7 15 (TX7 1).1 (TX7 1).2.1 (TX7 1).2.2.1 ∈ am_tb := am_ix 213 (by decide +kernel) rfl
theorem lf_RX8_9 : Cond.fieldLink RX8 9 (TX8 0).1 (TX8 0).2.1 (TX8 0).2.2.1 ∈ am_tb := am_ix 220 (by decide +kernel) rfl
theorem lf_RX8_13 : Cond.fieldLink RX8 13 (TX8 1).1 (TX8 1).2.1 (TX8 1).2.2.1 ∈ am_tb := am_ix 221 (by decide +kernel) rfl
theorem lf_RX8_16 : Cond.fieldLink RX8 16 (TX8 2).1 (TX8 2).2.1 (TX8 2).2.2.1 ∈ am_tb := am_ix 222 (by decide +kernel) rfl
theorem lf_RX8_22 : Cond.fieldLink RX8 22 (TX8 3).1 (TX8 3).2.1 (TX8 3).2.2.1 ∈ am_tb := am_ix 223 (by decide +kernel) rfl
theorem lf_RX8_29 : Cond.fieldLink RX8 29 (TX8 4).1 (TX8 4).2.1 (TX8 4).2.2.1 ∈ am_tb := am_ix 224 (by decide +kernel) rfl
theorem lf_RX8_34 : Cond.fieldLink RX8 34 (TX8 5).1 (TX8 5).2.1 (TX8 5).2.2.1 ∈ am_tb := am_ix 225 (by decide +kernel) rfl
theorem lf_RX8_38 : Cond.fieldLink RX8 38 (TX8 6).1 (TX8 6).2.1 (TX8 6).2.2.1 ∈ am_tb := am_ix 226 (by decide +kernel) rfl
theorem lf_RX8_42 : Cond.fieldLink RX8 42 (TX8 7).1 (TX8 7).2.1 (TX8 7).2.2.1 ∈ am_tb := am_ix 227 (by decide +kernel) rfl
theorem lf_RX8_50 : Cond.fieldLink RX8 50 (TX8 8).1 (TX8 8).2.1 (TX8 8).2.2.1 ∈ am_tb := am_ix 228 (by decide +kernel) rfl
theorem lf_RX8_54 : Cond.fieldLink RX8 54 (TX8 9).1 (TX8 9).2.1 (TX8 9).2.2.1 ∈ am_tb := am_ix 229 (by decide +kernel) rfl
theorem lf_RX8_57 : Cond.fieldLink RX8 57 (TX8 10).1 (TX8 10).2.1 (TX8 10).2.2.1 ∈ am_tb := am_ix 230 (by decide +kernel) rfl
theorem lf_RX8_63 : Cond.fieldLink RX8 63 (TX8 11).1 (TX8 11).2.1 (TX8 11).2.2.1 ∈ am_tb := am_ix 231 (by decide +kernel) rfl
theorem lf_RX8_72 : Cond.fieldLink RX8 72 (TX8 12).1 (TX8 12).2.1 (TX8 12).2.2.1 ∈ am_tb := am_ix 232 (by decide +kernel) rfl
theorem lf_RX8_79 : Cond.fieldLink RX8 79 (TX8 13).1 (TX8 13).2.1 (TX8 13).2.2.1 ∈ am_tb := am_ix 233 (by decide +kernel) rfl
theorem lf_RX8_86 : Cond.fieldLink RX8 86 (TX8 14).1 (TX8 14).2.1 (TX8 14).2.2.1 ∈ am_tb := am_ix 234 (by decide +kernel) rfl
theorem lf_RX8_93 : Cond.fieldLink RX8 93 (TX8 15).1 (TX8 15).2.1 (TX8 15).2.2.1 ∈ am_tb := am_ix 235 (by decide +kernel) rfl
theorem lf_RX9_95 : Cond.fieldLink RX9 95 (TX9 0).1 (TX9 0).2.1 (TX9 0).2.2.1 ∈ am_tb := am_ix 818 (by decide +kernel) rfl
theorem lf_RX9_99 : Cond.fieldLink RX9 99 (TX9 1).1 (TX9 1).2.1 (TX9 1).2.2.1 ∈ am_tb := am_ix 819 (by decide +kernel) rfl
theorem lf_RX9_7 : Cond.fieldLink RX9 7 (TX9 2).1 (TX9 2).2.1 (TX9 2).2.2.1 ∈ am_tb := am_ix 820 (by decide +kernel) rfl
theorem lf_RX9_13 : Cond.fieldLink RX9 13 (TX9 3).1 (TX9 3).2.1 (TX9 3).2.2.1 ∈ am_tb := am_ix 821 (by decide +kernel) rfl
theorem lf_RX9_17 : Cond.fieldLink RX9 17 (TX9 4).1 (TX9 4).2.1 (TX9 4).2.2.1 ∈ am_tb := am_ix 822 (by decide +kernel) rfl
theorem lf_RX9_20 : Cond.fieldLink RX9 20 (TX9 5).1 (TX9 5).2.1 (TX9 5).2.2.1 ∈ am_tb := am_ix 823 (by decide +kernel) rfl
theorem lf_RX9_23 : Cond.fieldLink RX9 23 (TX9 6).1 (TX9 6).2.1 (TX9 6).2.2.1 ∈ am_tb := am_ix 824 (by decide +kernel) rfl
theorem lf_RX9_26 : Cond.fieldLink RX9 26 (TX9 7).1 (TX9 7).2.1 (TX9 7).2.2.1 ∈ am_tb := am_ix 825 (by decide +kernel) rfl
theorem lf_RX9_29 : Cond.fieldLink RX9 29 (TX9 8).1 (TX9 8).2.1 (TX9 8).2.2.1 ∈ am_tb := am_ix 826 (by decide +kernel) rfl
theorem lf_RX9_32 : Cond.fieldLink RX9 32 (TX9 9).1 (TX9 9).2.1 (TX9 9).2.2.1 ∈ am_tb := am_ix 827 (by decide +kernel) rfl
theorem lf_RX9_35 : Cond.fieldLink RX9 35 (TX9 10).1 (TX9 10).2.1 (TX9 10).2.2.1 ∈ am_tb := am_ix 828 (by decide +kernel) rfl
theorem lf_RX9_38 : Cond.fieldLink RX9 38 (TX9 11).1 (TX9 11).2.1 (TX9 11).2.2.1 ∈ am_tb := am_ix 829 (by decide +kernel) rfl
theorem lf_RX9_41 : Cond.fieldLink RX9 41 (TX9 12).1 (TX9 12).2.1 (TX9 12).2.2.1 ∈ am_tb := am_ix 830 (by decide +kernel) rfl
theorem lf_RX9_44 : Cond.fieldLink RX9 44 (TX9 13).1 (TX9 13).2.1 (TX9 13).2.2.1 ∈ am_tb := am_ix 831 (by decide +kernel) rfl
theorem lf_RX9_47 : Cond.fieldLink RX9 47 (TX9 14).1 (TX9 14).2.1 (TX9 14).2.2.1 ∈ am_tb := am_ix 832 (by decide +kernel) rfl
theorem lf_RX9_174 : Cond.fieldLink RX9 174 (TX9 15).1 (TX9 15).2.1 (TX9 15).2.2.1 ∈ am_tb := am_ix 833 (by decide +kernel) rfl
theorem lf_RX9_163 : Cond.fieldLink RX9 163 (TX9 16).1 (TX9 16).2.1 (TX9 16).2.2.1 ∈ am_tb := am_ix 834 (by decide +kernel) rfl
theorem lf_RX9_160 : Cond.fieldLink RX9 160 (TX9 17).1 (TX9 17).2.1 (TX9 17).2.2.1 ∈ am_tb := am_ix 835 (by decide +kernel) rfl
theorem lf_RX9_253 : Cond.fieldLink RX9 253 (TX9 18).1 (TX9 18).2.1 (TX9 18).2.2.1 ∈ am_tb := am_ix 836 (by decide +kernel) rfl
theorem lf_RX9_50 : Cond.fieldLink RX9 50 (TX9 19).1 (TX9 19).2.1 (TX9 19).2.2.1 ∈ am_tb := am_ix 837 (by decide +kernel) rfl
theorem lf_RX9_53 : Cond.fieldLink RX9 53 (TX9 20).1 (TX9 20).2.1 (TX9 20).2.2.1 ∈ am_tb := am_ix 838 (by decide +kernel) rfl
theorem lf_RX9_57 : Cond.fieldLink RX9 57 (TX9 21).1 (TX9 21).2.1 (TX9 21).2.2.1 ∈ am_tb := am_ix 839 (by decide +kernel) rfl
theorem lf_RX9_60 : Cond.fieldLink RX9 60 (TX9 22).1 (TX9 22).2.1 (TX9 22).2.2.1 ∈ am_tb := am_ix 840 (by decide +kernel) rfl
theorem lf_RX9_63 : Cond.fieldLink RX9 63 (TX9 23).1 (TX9 23).2.1 (TX9 23).2.2.1 ∈ am_tb := am_ix 841 (by decide +kernel) rfl
theorem lf_RX9_66 : Cond.fieldLink RX9 66 (TX9 24).1 (TX9 24).2.1 (TX9 24).2.2.1 ∈ am_tb := am_ix 842 (by decide +kernel) rfl
theorem lf_RX9_69 : Cond.fieldLink RX9 69 (TX9 25).1 (TX9 25).2.1 (TX9 25).2.2.1 ∈ am_tb := am_ix 843 (by decide +kernel) rfl
theorem lf_RX9_72 : Cond.fieldLink RX9 72 (TX9 26).1 (TX9 26).2.1 (TX9 26).2.2.1 ∈ am_tb := am_ix 844 (by decide +kernel) rfl
theorem lf_RX9_204 : Cond.fieldLink RX9 204 (TX9 27).1 (TX9 27).2.1 (TX9 27).2.2.1 ∈ am_tb := am_ix 845 (by decide +kernel) rfl
theorem lf_RX9_207 : Cond.fieldLink RX9 207 (TX9 28).1 (TX9 28).2.1 (TX9 28).2.2.1 ∈ am_tb := am_ix 846 (by decide +kernel) rfl
theorem lf_RX9_75 : Cond.fieldLink RX9 75 (TX9 29).1 (TX9 29).2.1 (TX9 29).2.2.1 ∈ am_tb := am_ix 847 (by decide +kernel) rfl
theorem lf_RX9_79 : Cond.fieldLink RX9 79 (TX9 30).1 (TX9 30).2.1 (TX9 30).2.2.1 ∈ am_tb := am_ix 848 (by decide +kernel) rfl
theorem lf_RX9_105 : Cond.fieldLink RX9 105 (TX9 31).1 (TX9 31).2.1 (TX9 31).2.2.1 ∈ am_tb := am_ix 849 (by decide +kernel) rfl
theorem lf_RX9_82 : Cond.fieldLink RX9 82 (TX9 32).1 (TX9 32).2.1 (TX9 32).2.2.1 ∈ am_tb := am_ix 850 (by decide +kernel) rfl
theorem lf_RX9_247 : Cond.fieldLink RX9 247 (TX9 33).1 (TX9 33).2.1 (TX9 33).2.2.1 ∈ am_tb := am_ix 851 (by decide +kernel) rfl
theorem lf_RX9_85 : Cond.fieldLink RX9 85 (TX9 34).1 (TX9 34).2.1 (TX9 34).2.2.1 ∈ am_tb := am_ix 852 (by decide +kernel) rfl
theorem lf_RX9_88 : Cond.fieldLink RX9 88 (TX9 35).1 (TX9 35).2.1 (TX9 35).2.2.1 ∈ am_tb := am_ix 853 (by decide +kernel) rfl
theorem lc_RX0_126 : Cond.constant RX0 126 (Int32.ofInt (1048576)) ∈ am_tb := am_ix 624 (by decide +kernel) rfl
theorem lc_RX9_56 : Cond.constant RX9 56 (Int32.ofInt (95040)) ∈ am_tb := am_ix 809 (by decide +kernel) rfl
theorem lc_RX8_213 : Cond.constantLong RX8 213 (Int64.ofInt (-1)) ∈ am_tb := am_ix 705 (by decide +kernel) rfl
theorem lc_RX8_215 : Cond.constantLong RX8 215 (Int64.ofInt (-2)) ∈ am_tb := am_ix 706 (by decide +kernel) rfl
theorem lc_RX8_235 : Cond.constantLong RX8 235 (Int64.ofInt (-3)) ∈ am_tb := am_ix 748 (by decide +kernel) rfl
theorem lc_RX8_240 : Cond.constantLong RX8 240 (Int64.ofInt (-4)) ∈ am_tb := am_ix 750 (by decide +kernel) rfl
theorem lc_RX9_118 : Cond.constantLong RX9 118 (Int64.ofInt (2)) ∈ am_tb := am_ix 932 (by decide +kernel) rfl
theorem lc_RX9_120 : Cond.constantLong RX9 120 (Int64.ofInt (4)) ∈ am_tb := am_ix 933 (by decide +kernel) rfl
theorem lc_RX9_108 : Cond.constantLong RX9 108 (Int64.ofInt (7)) ∈ am_tb := am_ix 944 (by decide +kernel) rfl
theorem lc_RX9_114 : Cond.constantLong RX9 114 (Int64.ofInt (5)) ∈ am_tb := am_ix 948 (by decide +kernel) rfl
theorem lc_RX9_132 : Cond.constantLong RX9 132 (Int64.ofInt (6)) ∈ am_tb := am_ix 961 (by decide +kernel) rfl
theorem lc_RX9_116 : Cond.constantLong RX9 116 (Int64.ofInt (3)) ∈ am_tb := am_ix 988 (by decide +kernel) rfl
theorem lc_RX9_142 : Cond.constantLong RX9 142 (Int64.ofInt (20)) ∈ am_tb := am_ix 993 (by decide +kernel) rfl
theorem lc_RX9_150 : Cond.constantLong RX9 150 (Int64.ofInt (-1)) ∈ am_tb := am_ix 1009 (by decide +kernel) rfl
theorem lc_RX9_195 : Cond.constantLong RX9 195 (Int64.ofInt (1295)) ∈ am_tb := am_ix 1056 (by decide +kernel) rfl
theorem lc_RX9_235 : Cond.constantLong RX9 235 (Int64.ofInt (-2)) ∈ am_tb := am_ix 1124 (by decide +kernel) rfl
theorem lc_RX9_243 : Cond.constantLong RX9 243 (Int64.ofInt (-3)) ∈ am_tb := am_ix 1141 (by decide +kernel) rfl
theorem lc_RX9_245 : Cond.constantLong RX9 245 (Int64.ofInt (-4)) ∈ am_tb := am_ix 1142 (by decide +kernel) rfl
theorem lc_RL_113 : Cond.constantLong RL 113 (Int64.ofInt (4294967295)) ∈ am_tb := am_ix 1183 (by decide +kernel) rfl
theorem lc_RL_7 : Cond.classLink RL 7 RX8 ∈ am_tb := am_ix 13 (by decide +kernel) rfl
theorem lc_RX8_20 : Cond.classLink RX8 20 RX6 ∈ am_tb := am_ix 21 (by decide +kernel) rfl
theorem lc_RX8_27 : Cond.classLink RX8 27 RX4 ∈ am_tb := am_ix 43 (by decide +kernel) rfl
theorem lc_RX8_45 : Cond.classLink RX8 45 RX5 ∈ am_tb := am_ix 71 (by decide +kernel) rfl
theorem lc_RX8_60 : Cond.classLink RX8 60 RX3 ∈ am_tb := am_ix 87 (by decide +kernel) rfl
theorem lc_RX3_18 : Cond.classLink RX3 18 RX6 ∈ am_tb := am_ix 93 (by decide +kernel) rfl
theorem lc_RX8_67 : Cond.classLink RX8 67 RX2 ∈ am_tb := am_ix 108 (by decide +kernel) rfl
theorem lc_RX8_76 : Cond.classLink RX8 76 RX1 ∈ am_tb := am_ix 139 (by decide +kernel) rfl
theorem lc_RX8_83 : Cond.classLink RX8 83 RX0 ∈ am_tb := am_ix 164 (by decide +kernel) rfl
theorem lc_RX0_28 : Cond.classLink RX0 28 RX5 ∈ am_tb := am_ix 170 (by decide +kernel) rfl
theorem lc_RX8_90 : Cond.classLink RX8 90 RX7 ∈ am_tb := am_ix 206 (by decide +kernel) rfl
theorem lc_RL_10 : Cond.classLink RL 10 RX9 ∈ am_tb := am_ix 803 (by decide +kernel) rfl
theorem lm_0 : Cond.instantiable RX0 11 ∈ am_tb ∧ Cond.initialized RX0 ∈ am_tb := ⟨am_ix 165 (by decide +kernel) rfl, am_ix 10 (by decide +kernel) rfl⟩
theorem lm_1 : Cond.instantiable RX1 6 ∈ am_tb ∧ Cond.initialized RX1 ∈ am_tb := ⟨am_ix 140 (by decide +kernel) rfl, am_ix 9 (by decide +kernel) rfl⟩
theorem lm_2 : Cond.instantiable RX2 8 ∈ am_tb ∧ Cond.initialized RX2 ∈ am_tb := ⟨am_ix 109 (by decide +kernel) rfl, am_ix 8 (by decide +kernel) rfl⟩
theorem lm_3 : Cond.instantiable RX3 4 ∈ am_tb ∧ Cond.initialized RX3 ∈ am_tb := ⟨am_ix 88 (by decide +kernel) rfl, am_ix 7 (by decide +kernel) rfl⟩
theorem lm_4 : Cond.instantiable RX4 3 ∈ am_tb ∧ Cond.initialized RX4 ∈ am_tb := ⟨am_ix 45 (by decide +kernel) rfl, am_ix 4 (by decide +kernel) rfl⟩
theorem lm_5 : Cond.instantiable RX5 2 ∈ am_tb ∧ Cond.initialized RX5 ∈ am_tb := ⟨am_ix 72 (by decide +kernel) rfl, am_ix 5 (by decide +kernel) rfl⟩
theorem lm_6 : Cond.instantiable RX6 2 ∈ am_tb ∧ Cond.initialized RX6 ∈ am_tb := ⟨am_ix 23 (by decide +kernel) rfl, am_ix 2 (by decide +kernel) rfl⟩
theorem lm_7 : Cond.instantiable RX7 2 ∈ am_tb ∧ Cond.initialized RX7 ∈ am_tb := ⟨am_ix 207 (by decide +kernel) rfl, am_ix 11 (by decide +kernel) rfl⟩
theorem lm_8 : Cond.instantiable RX8 16 ∈ am_tb ∧ Cond.initialized RX8 ∈ am_tb := ⟨am_ix 14 (by decide +kernel) rfl, am_ix 1 (by decide +kernel) rfl⟩
theorem lm_9 : Cond.instantiable RX9 36 ∈ am_tb ∧ Cond.initialized RX9 ∈ am_tb := ⟨am_ix 804 (by decide +kernel) rfl, am_ix 12 (by decide +kernel) rfl⟩
theorem lo_RX8 : Cond.methodLink RX8 3 objectInit ∈ am_tb := am_ix 18 (by decide +kernel) rfl
theorem lo_RX6 : Cond.methodLink RX6 3 objectInit ∈ am_tb := am_ix 27 (by decide +kernel) rfl
theorem lo_RX4 : Cond.methodLink RX4 3 objectInit ∈ am_tb := am_ix 49 (by decide +kernel) rfl
theorem lo_RX5 : Cond.methodLink RX5 3 objectInit ∈ am_tb := am_ix 76 (by decide +kernel) rfl
theorem lo_RX3 : Cond.methodLink RX3 3 objectInit ∈ am_tb := am_ix 92 (by decide +kernel) rfl
theorem lo_RX2 : Cond.methodLink RX2 3 objectInit ∈ am_tb := am_ix 113 (by decide +kernel) rfl
theorem lo_RX1 : Cond.methodLink RX1 5 objectInit ∈ am_tb := am_ix 144 (by decide +kernel) rfl
theorem lo_RX0 : Cond.methodLink RX0 5 objectInit ∈ am_tb := am_ix 169 (by decide +kernel) rfl
theorem lo_RX7 : Cond.methodLink RX7 3 objectInit ∈ am_tb := am_ix 211 (by decide +kernel) rfl
theorem lo_RX9 : Cond.methodLink RX9 1 objectInit ∈ am_tb := am_ix 808 (by decide +kernel) rfl
theorem lo_i : Cond.instanceMethod objectInit ∈ am_tb := am_ix 19 (by decide +kernel) rfl
theorem lo_c : Cond.code objectInit ⟨#[0xb1]⟩ 1 none ∈ am_tb := am_ix 20 (by decide +kernel) rfl
theorem la_i : Cond.arrayClass (newarray.typeOf .int) ∈ am_tb := am_ix 42 (by decide +kernel) rfl
theorem la_z : Cond.arrayClass (newarray.typeOf .boolean) ∈ am_tb := am_ix 927 (by decide +kernel) rfl
theorem la_j : Cond.arrayClass (newarray.typeOf .long) ∈ am_tb := am_ix 219 (by decide +kernel) rfl
end
section
def SH : List am_C := [(8, 16, [-1, -1, 1, 2, 27, 44, 47, 51, 54, 56, 58, 60, 66, 69, 75, 84]), (11, 1296, []), (14, 8, [3, 6, 9, 12, 15, 18, 21, 24]), (6, 2, [4, 5]), (11, 24, []), (11, 6, []), (6, 2, [7, 8]), (11, 24, []), (11, 6, []), (6, 2, [10, 11]), (11, 24, []), (11, 6, []), (6, 2, [13, 14]), (11, 24, []), (11, 6, []), (6, 2, [16, 17]), (11, 24, []), (11, 6, []), (6, 2, [19, 20]), (11, 24, []), (11, 6, []), (6, 2, [22, 23]), (11, 24, []), (11, 6, []), (6, 2, [25, 26]), (11, 24, []), (11, 6, []), (15, 4, [28, 32, 36, 40]), (4, 3, [29, 30, 31]), (11, 24, []), (11, 24, []), (11, 6, []), (4, 3, [33, 34, 35]), (11, 24, []), (11, 24, []), (11, 6, []), (4, 3, [37, 38, 39]), (11, 24, []), (11, 24, []), (11, 6, []), (4, 3, [41, 42, 43]), (11, 24, []), (11, 24, []), (11, 6, []), (6, 2, [45, 46]), (11, 24, []), (11, 6, []), (4, 3, [48, 49, 50]), (11, 24, []), (11, 24, []), (11, 6, []), (6, 2, [52, 53]), (11, 24, []), (11, 6, []), (5, 2, [55, -1]), (11, 50, []), (5, 2, [57, -1]), (11, 50, []), (5, 2, [59, -1]), (11, 50, []), (3, 4, [61, 62, 63, -1]), (11, 36, []), (11, 36, []), (6, 2, [64, 65]), (11, 24, []), (11, 6, []), (2, 8, [67, 68, -1, -1, -1, -1, -1, -1]), (11, 1296, []), (11, 1296, []), (1, 6, [70, 71, 72, 73, 74, -1]), (11, 36, []), (11, 36, []), (11, 72, []), (11, 72, []), (11, 72, []), (0, 11, [76, 77, -1, 78, 79, 80, 82, -1, -1, -1, -1]), (11, 216, []), (11, 216, []), (11, 216, []), (11, 1080, []), (5, 2, [81, -1]), (11, 74, []), (5, 2, [83, -1]), (11, 74, []), (7, 2, [85, -1]), (13, 126, []), (9, 36, [-1, -1, 87, 88, 89, 90, 91, 92, 93, 94, 95, 96, 97, 98, 99, -1, -1, -1, -1, 100, 101, 102, 103, 104, 105, 106, 107, -1, -1, 108, 109, -1, 110, -1, 111, 112]), (11, 192, []), (12, 48, []), (11, 40, []), (11, 40, []), (12, 40, []), (11, 96, []), (11, 96, []), (11, 24, []), (11, 1296, []), (11, 1296, []), (11, 1296, []), (12, 1296, []), (12, 1296, []), (12, 14400, []), (12, 14400, []), (11, 95040, []), (11, 216, []), (12, 216, []), (12, 216, []), (11, 450, []), (11, 450, []), (13, 126, []), (11, 64, []), (11, 64, []), (11, 64, []), (11, 1296, [])]
abbrev KS : am_K := (SH, 0, 0)
theorem kd0 : am_kd KS 0 = some (8, 16, [-1, -1, 1, 2, 27, 44, 47, 51, 54, 56, 58, 60, 66, 69, 75, 84]) := rfl
theorem kd1 : am_kd KS 1 = some (11, 1296, []) := rfl
theorem kd2 : am_kd KS 2 = some (14, 8, [3, 6, 9, 12, 15, 18, 21, 24]) := rfl
theorem kd3 : am_kd KS 3 = some (6, 2, [4, 5]) := rfl
theorem kd4 : am_kd KS 4 = some (11, 24, []) := rfl
theorem kd5 : am_kd KS 5 = some (11, 6, []) := rfl
theorem kd6 : am_kd KS 6 = some (6, 2, [7, 8]) := rfl
theorem kd7 : am_kd KS 7 = some (11, 24, []) := rfl
theorem kd8 : am_kd KS 8 = some (11, 6, []) := rfl
theorem kd9 : am_kd KS 9 = some (6, 2, [10, 11]) := rfl
theorem kd10 : am_kd KS 10 = some (11, 24, []) := rfl
theorem kd11 : am_kd KS 11 = some (11, 6, []) := rfl
theorem kd12 : am_kd KS 12 = some (6, 2, [13, 14]) := rfl
theorem kd13 : am_kd KS 13 = some (11, 24, []) := rfl
theorem kd14 : am_kd KS 14 = some (11, 6, []) := rfl
theorem kd15 : am_kd KS 15 = some (6, 2, [16, 17]) := rfl
theorem kd16 : am_kd KS 16 = some (11, 24, []) := rfl
theorem kd17 : am_kd KS 17 = some (11, 6, []) := rfl
theorem kd18 : am_kd KS 18 = some (6, 2, [19, 20]) := rfl
theorem kd19 : am_kd KS 19 = some (11, 24, []) := rfl
theorem kd20 : am_kd KS 20 = some (11, 6, []) := rfl
theorem kd21 : am_kd KS 21 = some (6, 2, [22, 23]) := rfl
theorem kd22 : am_kd KS 22 = some (11, 24, []) := rfl
theorem kd23 : am_kd KS 23 = some (11, 6, []) := rfl
theorem kd24 : am_kd KS 24 = some (6, 2, [25, 26]) := rfl
theorem kd25 : am_kd KS 25 = some (11, 24, []) := rfl
theorem kd26 : am_kd KS 26 = some (11, 6, []) := rfl
theorem kd27 : am_kd KS 27 = some (15, 4, [28, 32, 36, 40]) := rfl
theorem kd28 : am_kd KS 28 = some (4, 3, [29, 30, 31]) := rfl
theorem kd29 : am_kd KS 29 = some (11, 24, []) := rfl
theorem kd30 : am_kd KS 30 = some (11, 24, []) := rfl
theorem kd31 : am_kd KS 31 = some (11, 6, []) := rfl
theorem kd32 : am_kd KS 32 = some (4, 3, [33, 34, 35]) := rfl
theorem kd33 : am_kd KS 33 = some (11, 24, []) := rfl
theorem kd34 : am_kd KS 34 = some (11, 24, []) := rfl
theorem kd35 : am_kd KS 35 = some (11, 6, []) := rfl
theorem kd36 : am_kd KS 36 = some (4, 3, [37, 38, 39]) := rfl
theorem kd37 : am_kd KS 37 = some (11, 24, []) := rfl
theorem kd38 : am_kd KS 38 = some (11, 24, []) := rfl
theorem kd39 : am_kd KS 39 = some (11, 6, []) := rfl
theorem kd40 : am_kd KS 40 = some (4, 3, [41, 42, 43]) := rfl
theorem kd41 : am_kd KS 41 = some (11, 24, []) := rfl
theorem kd42 : am_kd KS 42 = some (11, 24, []) := rfl
theorem kd43 : am_kd KS 43 = some (11, 6, []) := rfl
theorem kd44 : am_kd KS 44 = some (6, 2, [45, 46]) := rfl
theorem kd45 : am_kd KS 45 = some (11, 24, []) := rfl
theorem kd46 : am_kd KS 46 = some (11, 6, []) := rfl
theorem kd47 : am_kd KS 47 = some (4, 3, [48, 49, 50]) := rfl
theorem kd48 : am_kd KS 48 = some (11, 24, []) := rfl
theorem kd49 : am_kd KS 49 = some (11, 24, []) := rfl
theorem kd50 : am_kd KS 50 = some (11, 6, []) := rfl
theorem kd51 : am_kd KS 51 = some (6, 2, [52, 53]) := rfl
theorem kd52 : am_kd KS 52 = some (11, 24, []) := rfl
theorem kd53 : am_kd KS 53 = some (11, 6, []) := rfl
theorem kd54 : am_kd KS 54 = some (5, 2, [55, -1]) := rfl
theorem kd55 : am_kd KS 55 = some (11, 50, []) := rfl
theorem kd56 : am_kd KS 56 = some (5, 2, [57, -1]) := rfl
theorem kd57 : am_kd KS 57 = some (11, 50, []) := rfl
theorem kd58 : am_kd KS 58 = some (5, 2, [59, -1]) := rfl
theorem kd59 : am_kd KS 59 = some (11, 50, []) := rfl
theorem kd60 : am_kd KS 60 = some (3, 4, [61, 62, 63, -1]) := rfl
theorem kd61 : am_kd KS 61 = some (11, 36, []) := rfl
theorem kd62 : am_kd KS 62 = some (11, 36, []) := rfl
theorem kd63 : am_kd KS 63 = some (6, 2, [64, 65]) := rfl
theorem kd64 : am_kd KS 64 = some (11, 24, []) := rfl
theorem kd65 : am_kd KS 65 = some (11, 6, []) := rfl
theorem kd66 : am_kd KS 66 = some (2, 8, [67, 68, -1, -1, -1, -1, -1, -1]) := rfl
theorem kd67 : am_kd KS 67 = some (11, 1296, []) := rfl
theorem kd68 : am_kd KS 68 = some (11, 1296, []) := rfl
theorem kd69 : am_kd KS 69 = some (1, 6, [70, 71, 72, 73, 74, -1]) := rfl
theorem kd70 : am_kd KS 70 = some (11, 36, []) := rfl
theorem kd71 : am_kd KS 71 = some (11, 36, []) := rfl
theorem kd72 : am_kd KS 72 = some (11, 72, []) := rfl
theorem kd73 : am_kd KS 73 = some (11, 72, []) := rfl
theorem kd74 : am_kd KS 74 = some (11, 72, []) := rfl
theorem kd75 : am_kd KS 75 = some (0, 11, [76, 77, -1, 78, 79, 80, 82, -1, -1, -1, -1]) := rfl
theorem kd76 : am_kd KS 76 = some (11, 216, []) := rfl
theorem kd77 : am_kd KS 77 = some (11, 216, []) := rfl
theorem kd78 : am_kd KS 78 = some (11, 216, []) := rfl
theorem kd79 : am_kd KS 79 = some (11, 1080, []) := rfl
theorem kd80 : am_kd KS 80 = some (5, 2, [81, -1]) := rfl
theorem kd81 : am_kd KS 81 = some (11, 74, []) := rfl
theorem kd82 : am_kd KS 82 = some (5, 2, [83, -1]) := rfl
theorem kd83 : am_kd KS 83 = some (11, 74, []) := rfl
theorem kd84 : am_kd KS 84 = some (7, 2, [85, -1]) := rfl
theorem kd85 : am_kd KS 85 = some (13, 126, []) := rfl
theorem kd86 : am_kd KS 86 = some (9, 36, [-1, -1, 87, 88, 89, 90, 91, 92, 93, 94, 95, 96, 97, 98, 99, -1, -1, -1, -1, 100, 101, 102, 103, 104, 105, 106, 107, -1, -1, 108, 109, -1, 110, -1, 111, 112]) := rfl
theorem kd87 : am_kd KS 87 = some (11, 192, []) := rfl
theorem kd88 : am_kd KS 88 = some (12, 48, []) := rfl
theorem kd89 : am_kd KS 89 = some (11, 40, []) := rfl
theorem kd90 : am_kd KS 90 = some (11, 40, []) := rfl
theorem kd91 : am_kd KS 91 = some (12, 40, []) := rfl
theorem kd92 : am_kd KS 92 = some (11, 96, []) := rfl
theorem kd93 : am_kd KS 93 = some (11, 96, []) := rfl
theorem kd94 : am_kd KS 94 = some (11, 24, []) := rfl
theorem kd95 : am_kd KS 95 = some (11, 1296, []) := rfl
theorem kd96 : am_kd KS 96 = some (11, 1296, []) := rfl
theorem kd97 : am_kd KS 97 = some (11, 1296, []) := rfl
theorem kd98 : am_kd KS 98 = some (12, 1296, []) := rfl
theorem kd99 : am_kd KS 99 = some (12, 1296, []) := rfl
theorem kd100 : am_kd KS 100 = some (12, 14400, []) := rfl
theorem kd101 : am_kd KS 101 = some (12, 14400, []) := rfl
theorem kd102 : am_kd KS 102 = some (11, 95040, []) := rfl
theorem kd103 : am_kd KS 103 = some (11, 216, []) := rfl
theorem kd104 : am_kd KS 104 = some (12, 216, []) := rfl
theorem kd105 : am_kd KS 105 = some (12, 216, []) := rfl
theorem kd106 : am_kd KS 106 = some (11, 450, []) := rfl
theorem kd107 : am_kd KS 107 = some (11, 450, []) := rfl
theorem kd108 : am_kd KS 108 = some (13, 126, []) := rfl
theorem kd109 : am_kd KS 109 = some (11, 64, []) := rfl
theorem kd110 : am_kd KS 110 = some (11, 64, []) := rfl
theorem kd111 : am_kd KS 111 = some (11, 64, []) := rfl
theorem kd112 : am_kd KS 112 = some (11, 1296, []) := rfl
end
section
theorem am_fg {mi : am_I} {pc : Nat} {ls : am_L} {stk : List am_V} {K : am_K} {M : am_M} {Q : am_Q} (i : Nat) (k : am_At mi pc (ls.set i none) stk K M Q) : am_At mi pc ls stk K M Q := by
  intro p l e s m args below meth c Z A D G0 K0 M0 G H locs rl hS hY hL hk hR
  refine k p l e s m args below meth c Z A D G0 K0 M0 G H locs rl hS hY ⟨by rw [List.length_set]; exact hL.1, hL.2.1, hL.2.2.1, fun j v hj => hL.2.2.2 j v ?_⟩ hk hR
  by_cases hji : j = i
  · subst hji
    rw [List.getElem?_set] at hj
    split at hj
    · split at hj <;> cases hj
    · exact hj
  · rw [List.getElem?_set_ne (fun q => hji q.symm)] at hj
    exact hj
theorem s_lcif_eq {mi : am_I} {pc : Nat} {ls : am_L} {stk : List am_V} {K : am_K} {M : am_M} {Q : am_Q} {x y : Int} {off : Int} {tgt : Nat} (hd1 : decode (am_cc mi) pc = .ok (.lcmp, 1)) (hd2 : decode (am_cc mi) (pc + 1) = .ok (.ifCond .eq off, 3)) (ht : ((pc + 1 : Nat) : Int) + off = (tgt : Int)) (k1 : x = y → am_At mi tgt ls stk K M Q) (k2 : ¬ x = y → am_At mi (pc + 4) ls stk K M Q) : am_At mi pc ls (vl y :: vl x :: stk) K M Q := by
  refine s_lcmp hd1 (s_if_eq hd2 ht (fun h => k1 ?_) (fun h => k2 ?_))
  all_goals
    split at h
    · omega
    · split at h <;> omega
theorem s_lcif_ne {mi : am_I} {pc : Nat} {ls : am_L} {stk : List am_V} {K : am_K} {M : am_M} {Q : am_Q} {x y : Int} {off : Int} {tgt : Nat} (hd1 : decode (am_cc mi) pc = .ok (.lcmp, 1)) (hd2 : decode (am_cc mi) (pc + 1) = .ok (.ifCond .ne off, 3)) (ht : ((pc + 1 : Nat) : Int) + off = (tgt : Int)) (k1 : ¬ x = y → am_At mi tgt ls stk K M Q) (k2 : x = y → am_At mi (pc + 4) ls stk K M Q) : am_At mi pc ls (vl y :: vl x :: stk) K M Q := by
  refine s_lcmp hd1 (s_if_ne hd2 ht (fun h => k1 ?_) (fun h => k2 ?_))
  all_goals
    split at h
    · omega
    · split at h <;> omega
theorem s_lcif_lt {mi : am_I} {pc : Nat} {ls : am_L} {stk : List am_V} {K : am_K} {M : am_M} {Q : am_Q} {x y : Int} {off : Int} {tgt : Nat} (hd1 : decode (am_cc mi) pc = .ok (.lcmp, 1)) (hd2 : decode (am_cc mi) (pc + 1) = .ok (.ifCond .lt off, 3)) (ht : ((pc + 1 : Nat) : Int) + off = (tgt : Int)) (k1 : x < y → am_At mi tgt ls stk K M Q) (k2 : ¬ x < y → am_At mi (pc + 4) ls stk K M Q) : am_At mi pc ls (vl y :: vl x :: stk) K M Q := by
  refine s_lcmp hd1 (s_if_lt hd2 ht (fun h => k1 ?_) (fun h => k2 ?_))
  all_goals
    split at h
    · omega
    · split at h <;> omega
theorem s_lcif_ge {mi : am_I} {pc : Nat} {ls : am_L} {stk : List am_V} {K : am_K} {M : am_M} {Q : am_Q} {x y : Int} {off : Int} {tgt : Nat} (hd1 : decode (am_cc mi) pc = .ok (.lcmp, 1)) (hd2 : decode (am_cc mi) (pc + 1) = .ok (.ifCond .ge off, 3)) (ht : ((pc + 1 : Nat) : Int) + off = (tgt : Int)) (k1 : y ≤ x → am_At mi tgt ls stk K M Q) (k2 : ¬ y ≤ x → am_At mi (pc + 4) ls stk K M Q) : am_At mi pc ls (vl y :: vl x :: stk) K M Q := by
  refine s_lcmp hd1 (s_if_ge hd2 ht (fun h => k1 ?_) (fun h => k2 ?_))
  all_goals
    split at h
    · omega
    · split at h <;> omega
theorem s_lcif_gt {mi : am_I} {pc : Nat} {ls : am_L} {stk : List am_V} {K : am_K} {M : am_M} {Q : am_Q} {x y : Int} {off : Int} {tgt : Nat} (hd1 : decode (am_cc mi) pc = .ok (.lcmp, 1)) (hd2 : decode (am_cc mi) (pc + 1) = .ok (.ifCond .gt off, 3)) (ht : ((pc + 1 : Nat) : Int) + off = (tgt : Int)) (k1 : y < x → am_At mi tgt ls stk K M Q) (k2 : ¬ y < x → am_At mi (pc + 4) ls stk K M Q) : am_At mi pc ls (vl y :: vl x :: stk) K M Q := by
  refine s_lcmp hd1 (s_if_gt hd2 ht (fun h => k1 ?_) (fun h => k2 ?_))
  all_goals
    split at h
    · omega
    · split at h <;> omega
theorem s_lcif_le {mi : am_I} {pc : Nat} {ls : am_L} {stk : List am_V} {K : am_K} {M : am_M} {Q : am_Q} {x y : Int} {off : Int} {tgt : Nat} (hd1 : decode (am_cc mi) pc = .ok (.lcmp, 1)) (hd2 : decode (am_cc mi) (pc + 1) = .ok (.ifCond .le off, 3)) (ht : ((pc + 1 : Nat) : Int) + off = (tgt : Int)) (k1 : x ≤ y → am_At mi tgt ls stk K M Q) (k2 : ¬ x ≤ y → am_At mi (pc + 4) ls stk K M Q) : am_At mi pc ls (vl y :: vl x :: stk) K M Q := by
  refine s_lcmp hd1 (s_if_le hd2 ht (fun h => k1 ?_) (fun h => k2 ?_))
  all_goals
    split at h
    · omega
    · split at h <;> omega
end
section
theorem g8_within_0 {a0 a1 : Int} {K : am_K} {M : am_M} {Q : Option am_V → am_M → Prop} (k1 : a0 < 0 → am_AtN m8_within 13 [some (vi a0), some (vi a1)] [] K M Q) (k2 : ¬ (a0 < 0) → am_AtN m8_within 4 [some (vi a0), some (vi a1)] [] K M Q) : am_AtN m8_within 0 [some (vi a0), some (vi a1)] [] K M Q := by
  refine s_iload_n (show decode (am_cc m8_within) 0 = .ok (.iload_n 0, 1) by decide +kernel) rfl ?_
  exact s_if_lt (tgt := 13) (show decode (am_cc m8_within) 1 = .ok (.ifCond .lt 12, 3) by decide +kernel) (by decide) k1 k2
theorem g8_within_4 {a0 a1 : Int} {K : am_K} {M : am_M} {Q : Option am_V → am_M → Prop} (k1 : a1 ≤ a0 → am_AtN m8_within 13 [some (vi a0), some (vi a1)] [] K M Q) (k2 : ¬ (a1 ≤ a0) → am_AtN m8_within 9 [some (vi a0), some (vi a1)] [] K M Q) : am_AtN m8_within 4 [some (vi a0), some (vi a1)] [] K M Q := by
  refine s_iload_n (show decode (am_cc m8_within) 4 = .ok (.iload_n 0, 1) by decide +kernel) rfl ?_
  refine s_iload_n (show decode (am_cc m8_within) 5 = .ok (.iload_n 1, 1) by decide +kernel) rfl ?_
  exact s_icmp_ge (tgt := 13) (show decode (am_cc m8_within) 6 = .ok (.if_icmp .ge 7, 3) by decide +kernel) (by decide) k1 k2
theorem g8_within_9 {a0 a1 : Int} {K : am_K} {M : am_M} {Q : Option am_V → am_M → Prop} (k : am_AtN m8_within 14 [some (vi a0), some (vi a1)] [vi 1] K M Q) : am_AtN m8_within 9 [some (vi a0), some (vi a1)] [] K M Q := by
  refine s_iconst (show decode (am_cc m8_within) 9 = .ok (.iconst 1, 1) by decide +kernel) ⟨by decide, by decide⟩ ?_
  refine s_goto (tgt := 14) (show decode (am_cc m8_within) 10 = .ok (.goto 4, 3) by decide +kernel) (by decide) ?_
  exact k
theorem g8_within_13 {a0 a1 : Int} {K : am_K} {M : am_M} {Q : Option am_V → am_M → Prop} (k : am_AtN m8_within 14 [some (vi a0), some (vi a1)] [vi 0] K M Q) : am_AtN m8_within 13 [some (vi a0), some (vi a1)] [] K M Q := by
  refine s_iconst (show decode (am_cc m8_within) 13 = .ok (.iconst 0, 1) by decide +kernel) ⟨by decide, by decide⟩ ?_
  exact k
theorem g8_within_14 {a0 a1 t0 : Int} {K : am_K} {M : am_M} {Q : Option am_V → am_M → Prop} (h1 : t0 = 0 ∨ t0 = 1) (k : Q (some (vi t0)) M) : am_AtN m8_within 14 [some (vi a0), some (vi a1)] [vi t0] K M Q := by
  exact s_zreturn (show decode (am_cc m8_within) 14 = .ok (.ireturn, 1) by decide +kernel) rfl h1 k
theorem g8_oneIf_0 {a0 : Int} {K : am_K} {M : am_M} {Q : Option am_V → am_M → Prop} (k1 : a0 = 0 → am_AtN m8_oneIf 8 [some (vi a0)] [] K M Q) (k2 : ¬ (a0 = 0) → am_AtN m8_oneIf 4 [some (vi a0)] [] K M Q) : am_AtN m8_oneIf 0 [some (vi a0)] [] K M Q := by
  refine s_iload_n (show decode (am_cc m8_oneIf) 0 = .ok (.iload_n 0, 1) by decide +kernel) rfl ?_
  exact s_if_eq (tgt := 8) (show decode (am_cc m8_oneIf) 1 = .ok (.ifCond .eq 7, 3) by decide +kernel) (by decide) k1 k2
theorem g8_oneIf_4 {a0 : Int} {K : am_K} {M : am_M} {Q : Option am_V → am_M → Prop} (k : am_AtN m8_oneIf 9 [some (vi a0)] [vi 1] K M Q) : am_AtN m8_oneIf 4 [some (vi a0)] [] K M Q := by
  refine s_iconst (show decode (am_cc m8_oneIf) 4 = .ok (.iconst 1, 1) by decide +kernel) ⟨by decide, by decide⟩ ?_
  refine s_goto (tgt := 9) (show decode (am_cc m8_oneIf) 5 = .ok (.goto 4, 3) by decide +kernel) (by decide) ?_
  exact k
theorem g8_oneIf_8 {a0 : Int} {K : am_K} {M : am_M} {Q : Option am_V → am_M → Prop} (k : am_AtN m8_oneIf 9 [some (vi a0)] [vi 0] K M Q) : am_AtN m8_oneIf 8 [some (vi a0)] [] K M Q := by
  refine s_iconst (show decode (am_cc m8_oneIf) 8 = .ok (.iconst 0, 1) by decide +kernel) ⟨by decide, by decide⟩ ?_
  exact k
theorem g8_oneIf_9 {a0 t0 : Int} {K : am_K} {M : am_M} {Q : Option am_V → am_M → Prop} (k : Q (some (vi t0)) M) : am_AtN m8_oneIf 9 [some (vi a0)] [vi t0] K M Q := by
  exact s_ireturn (show decode (am_cc m8_oneIf) 9 = .ok (.ireturn, 1) by decide +kernel) rfl k
theorem g8_isWord_0 {a0 a1 : Int} {K : am_K} {M : am_M} {Q : Option am_V → am_M → Prop} (k : am_CallN m8_within [vi a0, vi 21] K M (fun r M' => am_AtN m8_isWord 6 [some (vi a0), some (vi a1), none] (r.toList ++ []) K M' Q)) : am_AtN m8_isWord 0 [some (vi a0), some (vi a1), none] [] K M Q := by
  refine s_iload_n (show decode (am_cc m8_isWord) 0 = .ok (.iload_n 0, 1) by decide +kernel) rfl ?_
  refine s_bipush (show decode (am_cc m8_isWord) 1 = .ok (.bipush 21, 2) by decide +kernel) ⟨by decide, by decide⟩ (by decide) ?_
  exact n_callS (as := [vi a0, vi 21]) (stk := []) (show decode (am_cc m8_isWord) 3 = .ok (.invokestatic 114, 3) by decide +kernel) lk_RX8_114 (by decide) (Nat.le_of_ble_eq_true rfl) ⟨rfl, rfl⟩ k
theorem g8_isWord_6 {a0 a1 t0 : Int} {K : am_K} {M : am_M} {Q : Option am_V → am_M → Prop} (k1 : ¬ t0 = 0 → am_AtN m8_isWord 11 [some (vi a0), some (vi a1), none] [] K M Q) (k2 : t0 = 0 → am_AtN m8_isWord 9 [some (vi a0), some (vi a1), none] [] K M Q) : am_AtN m8_isWord 6 [some (vi a0), some (vi a1), none] [vi t0] K M Q := by
  exact s_if_ne (tgt := 11) (show decode (am_cc m8_isWord) 6 = .ok (.ifCond .ne 5, 3) by decide +kernel) (by decide) k1 k2
theorem g8_isWord_9 {a0 a1 : Int} {K : am_K} {M : am_M} {Q : Option am_V → am_M → Prop} (k : Q (some (vi 0)) M) : am_AtN m8_isWord 9 [some (vi a0), some (vi a1), none] [] K M Q := by
  refine s_iconst (show decode (am_cc m8_isWord) 9 = .ok (.iconst 0, 1) by decide +kernel) ⟨by decide, by decide⟩ ?_
  exact s_zreturn (show decode (am_cc m8_isWord) 10 = .ok (.ireturn, 1) by decide +kernel) rfl (by decide) k
theorem g8_isWord_11 {a0 a1 : Int} {K : am_K} {M : am_M} {Q : Option am_V → am_M → Prop} (k : am_AtN m8_isWord 13 [some (vi a0), some (vi a1), some (vi 0)] [] K M Q) : am_AtN m8_isWord 11 [some (vi a0), some (vi a1), none] [] K M Q := by
  refine s_iconst (show decode (am_cc m8_isWord) 11 = .ok (.iconst 0, 1) by decide +kernel) ⟨by decide, by decide⟩ ?_
  refine s_istore_n (show decode (am_cc m8_isWord) 12 = .ok (.istore_n 2, 1) by decide +kernel) (by decide) ?_
  exact k
theorem g8_isWord_13 {a0 a1 a2 : Int} {K : am_K} {M : am_M} {Q : Option am_V → am_M → Prop} (k : am_CallN m8_wordLength [vi a0] K M (fun r M' => am_AtN m8_isWord 18 [some (vi a0), some (vi a1), some (vi a2)] (r.toList ++ [vi a2]) K M' Q)) : am_AtN m8_isWord 13 [some (vi a0), some (vi a1), some (vi a2)] [] K M Q := by
  refine s_iload_n (show decode (am_cc m8_isWord) 13 = .ok (.iload_n 2, 1) by decide +kernel) rfl ?_
  refine s_iload_n (show decode (am_cc m8_isWord) 14 = .ok (.iload_n 0, 1) by decide +kernel) rfl ?_
  exact n_callS (as := [vi a0]) (stk := [vi a2]) (show decode (am_cc m8_isWord) 15 = .ok (.invokestatic 264, 3) by decide +kernel) lk_RX8_264 (by decide) (Nat.le_of_ble_eq_true rfl) ⟨rfl, rfl⟩ k
theorem g8_isWord_18 {a0 a1 a2 t0 t1 : Int} {K : am_K} {M : am_M} {Q : Option am_V → am_M → Prop} (k1 : t1 ≤ t0 → am_AtN m8_isWord 38 [some (vi a0), some (vi a1), some (vi a2)] [] K M Q) (k2 : ¬ (t1 ≤ t0) → am_AtN m8_isWord 21 [some (vi a0), some (vi a1), some (vi a2)] [] K M Q) : am_AtN m8_isWord 18 [some (vi a0), some (vi a1), some (vi a2)] [vi t1, vi t0] K M Q := by
  exact s_icmp_ge (tgt := 38) (show decode (am_cc m8_isWord) 18 = .ok (.if_icmp .ge 20, 3) by decide +kernel) (by decide) k1 k2
theorem g8_isWord_21 {a0 a1 a2 : Int} {K : am_K} {M : am_M} {Q : Option am_V → am_M → Prop} (k : am_CallN m8_wordLetter [vi a0, vi a2] K M (fun r M' => am_AtN m8_isWord 26 [some (vi a0), some (vi a1), some (vi a2)] (r.toList ++ []) K M' Q)) : am_AtN m8_isWord 21 [some (vi a0), some (vi a1), some (vi a2)] [] K M Q := by
  refine s_iload_n (show decode (am_cc m8_isWord) 21 = .ok (.iload_n 0, 1) by decide +kernel) rfl ?_
  refine s_iload_n (show decode (am_cc m8_isWord) 22 = .ok (.iload_n 2, 1) by decide +kernel) rfl ?_
  exact n_callS (as := [vi a0, vi a2]) (stk := []) (show decode (am_cc m8_isWord) 23 = .ok (.invokestatic 267, 3) by decide +kernel) lk_RX8_267 (by decide) (Nat.le_of_ble_eq_true rfl) ⟨rfl, rfl⟩ k
theorem g8_isWord_26 {a0 a1 a2 t0 : Int} {K : am_K} {M : am_M} {Q : Option am_V → am_M → Prop} (k1 : t0 < a1 → am_AtN m8_isWord 32 [some (vi a0), some (vi a1), some (vi a2)] [] K M Q) (k2 : ¬ (t0 < a1) → am_AtN m8_isWord 30 [some (vi a0), some (vi a1), some (vi a2)] [] K M Q) : am_AtN m8_isWord 26 [some (vi a0), some (vi a1), some (vi a2)] [vi t0] K M Q := by
  refine s_iload_n (show decode (am_cc m8_isWord) 26 = .ok (.iload_n 1, 1) by decide +kernel) rfl ?_
  exact s_icmp_lt (tgt := 32) (show decode (am_cc m8_isWord) 27 = .ok (.if_icmp .lt 5, 3) by decide +kernel) (by decide) k1 k2
theorem g8_isWord_30 {a0 a1 a2 : Int} {K : am_K} {M : am_M} {Q : Option am_V → am_M → Prop} (k : Q (some (vi 0)) M) : am_AtN m8_isWord 30 [some (vi a0), some (vi a1), some (vi a2)] [] K M Q := by
  refine s_iconst (show decode (am_cc m8_isWord) 30 = .ok (.iconst 0, 1) by decide +kernel) ⟨by decide, by decide⟩ ?_
  exact s_zreturn (show decode (am_cc m8_isWord) 31 = .ok (.ireturn, 1) by decide +kernel) rfl (by decide) k
theorem g8_isWord_32 {a0 a1 a2 : Int} {K : am_K} {M : am_M} {Q : Option am_V → am_M → Prop} (h1 : -2147483648 ≤ a2 + 1 ∧ a2 + 1 ≤ 2147483647) (k : am_AtN m8_isWord 13 [some (vi a0), some (vi a1), some (vi (a2 + 1))] [] K M Q) : am_AtN m8_isWord 32 [some (vi a0), some (vi a1), some (vi a2)] [] K M Q := by
  refine s_iinc (show decode (am_cc m8_isWord) 32 = .ok (.iinc 2 1, 3) by decide +kernel) rfl (by decide) h1 ?_
  refine s_goto (tgt := 13) (show decode (am_cc m8_isWord) 35 = .ok (.goto (-22), 3) by decide +kernel) (by decide) ?_
  exact k
theorem g8_isWord_38 {a0 a1 a2 : Int} {K : am_K} {M : am_M} {Q : Option am_V → am_M → Prop} (k : Q (some (vi 1)) M) : am_AtN m8_isWord 38 [some (vi a0), some (vi a1), some (vi a2)] [] K M Q := by
  refine s_iconst (show decode (am_cc m8_isWord) 38 = .ok (.iconst 1, 1) by decide +kernel) ⟨by decide, by decide⟩ ?_
  exact s_zreturn (show decode (am_cc m8_isWord) 39 = .ok (.ireturn, 1) by decide +kernel) rfl (by decide) k
theorem g8_wordLength_0 {a0 : Int} {K : am_K} {M : am_M} {Q : Option am_V → am_M → Prop} (k1 : 1 ≤ a0 → am_AtN m8_wordLength 7 [some (vi a0)] [] K M Q) (k2 : ¬ (1 ≤ a0) → am_AtN m8_wordLength 5 [some (vi a0)] [] K M Q) : am_AtN m8_wordLength 0 [some (vi a0)] [] K M Q := by
  refine s_iload_n (show decode (am_cc m8_wordLength) 0 = .ok (.iload_n 0, 1) by decide +kernel) rfl ?_
  refine s_iconst (show decode (am_cc m8_wordLength) 1 = .ok (.iconst 1, 1) by decide +kernel) ⟨by decide, by decide⟩ ?_
  exact s_icmp_ge (tgt := 7) (show decode (am_cc m8_wordLength) 2 = .ok (.if_icmp .ge 5, 3) by decide +kernel) (by decide) k1 k2
theorem g8_wordLength_5 {a0 : Int} {K : am_K} {M : am_M} {Q : Option am_V → am_M → Prop} (k : Q (some (vi 0)) M) : am_AtN m8_wordLength 5 [some (vi a0)] [] K M Q := by
  refine s_iconst (show decode (am_cc m8_wordLength) 5 = .ok (.iconst 0, 1) by decide +kernel) ⟨by decide, by decide⟩ ?_
  exact s_ireturn (show decode (am_cc m8_wordLength) 6 = .ok (.ireturn, 1) by decide +kernel) rfl k
theorem g8_wordLength_7 {a0 : Int} {K : am_K} {M : am_M} {Q : Option am_V → am_M → Prop} (k1 : 5 ≤ a0 → am_AtN m8_wordLength 16 [some (vi a0)] [] K M Q) (k2 : ¬ (5 ≤ a0) → am_AtN m8_wordLength 12 [some (vi a0)] [] K M Q) : am_AtN m8_wordLength 7 [some (vi a0)] [] K M Q := by
  refine s_iload_n (show decode (am_cc m8_wordLength) 7 = .ok (.iload_n 0, 1) by decide +kernel) rfl ?_
  refine s_iconst (show decode (am_cc m8_wordLength) 8 = .ok (.iconst 5, 1) by decide +kernel) ⟨by decide, by decide⟩ ?_
  exact s_icmp_ge (tgt := 16) (show decode (am_cc m8_wordLength) 9 = .ok (.if_icmp .ge 7, 3) by decide +kernel) (by decide) k1 k2
theorem g8_wordLength_12 {a0 : Int} {K : am_K} {M : am_M} {Q : Option am_V → am_M → Prop} (k : am_AtN m8_wordLength 17 [some (vi a0)] [vi 1] K M Q) : am_AtN m8_wordLength 12 [some (vi a0)] [] K M Q := by
  refine s_iconst (show decode (am_cc m8_wordLength) 12 = .ok (.iconst 1, 1) by decide +kernel) ⟨by decide, by decide⟩ ?_
  refine s_goto (tgt := 17) (show decode (am_cc m8_wordLength) 13 = .ok (.goto 4, 3) by decide +kernel) (by decide) ?_
  exact k
theorem g8_wordLength_16 {a0 : Int} {K : am_K} {M : am_M} {Q : Option am_V → am_M → Prop} (k : am_AtN m8_wordLength 17 [some (vi a0)] [vi 2] K M Q) : am_AtN m8_wordLength 16 [some (vi a0)] [] K M Q := by
  refine s_iconst (show decode (am_cc m8_wordLength) 16 = .ok (.iconst 2, 1) by decide +kernel) ⟨by decide, by decide⟩ ?_
  exact k
theorem g8_wordLength_17 {a0 t0 : Int} {K : am_K} {M : am_M} {Q : Option am_V → am_M → Prop} (k : Q (some (vi t0)) M) : am_AtN m8_wordLength 17 [some (vi a0)] [vi t0] K M Q := by
  exact s_ireturn (show decode (am_cc m8_wordLength) 17 = .ok (.ireturn, 1) by decide +kernel) rfl k
theorem g8_wordLetter_0 {a0 a1 : Int} {K : am_K} {M : am_M} {Q : Option am_V → am_M → Prop} (k1 : 5 ≤ a0 → am_AtN m8_wordLetter 9 [some (vi a0), some (vi a1)] [] K M Q) (k2 : ¬ (5 ≤ a0) → am_AtN m8_wordLetter 5 [some (vi a0), some (vi a1)] [] K M Q) : am_AtN m8_wordLetter 0 [some (vi a0), some (vi a1)] [] K M Q := by
  refine s_iload_n (show decode (am_cc m8_wordLetter) 0 = .ok (.iload_n 0, 1) by decide +kernel) rfl ?_
  refine s_iconst (show decode (am_cc m8_wordLetter) 1 = .ok (.iconst 5, 1) by decide +kernel) ⟨by decide, by decide⟩ ?_
  exact s_icmp_ge (tgt := 9) (show decode (am_cc m8_wordLetter) 2 = .ok (.if_icmp .ge 7, 3) by decide +kernel) (by decide) k1 k2
theorem g8_wordLetter_5 {a0 a1 : Int} {K : am_K} {M : am_M} {Q : Option am_V → am_M → Prop} (h1 : -2147483648 ≤ a0 - 1 ∧ a0 - 1 ≤ 2147483647) (k : Q (some (vi (a0 - 1))) M) : am_AtN m8_wordLetter 5 [some (vi a0), some (vi a1)] [] K M Q := by
  refine s_iload_n (show decode (am_cc m8_wordLetter) 5 = .ok (.iload_n 0, 1) by decide +kernel) rfl ?_
  refine s_iconst (show decode (am_cc m8_wordLetter) 6 = .ok (.iconst 1, 1) by decide +kernel) ⟨by decide, by decide⟩ ?_
  refine s_isub (show decode (am_cc m8_wordLetter) 7 = .ok (.isub, 1) by decide +kernel) h1 ?_
  exact s_ireturn (show decode (am_cc m8_wordLetter) 8 = .ok (.ireturn, 1) by decide +kernel) rfl k
theorem g8_wordLetter_9 {a0 a1 : Int} {K : am_K} {M : am_M} {Q : Option am_V → am_M → Prop} (k1 : ¬ a1 = 0 → am_AtN m8_wordLetter 21 [some (vi a0), some (vi a1)] [] K M Q) (k2 : a1 = 0 → am_AtN m8_wordLetter 13 [some (vi a0), some (vi a1)] [] K M Q) : am_AtN m8_wordLetter 9 [some (vi a0), some (vi a1)] [] K M Q := by
  refine s_iload_n (show decode (am_cc m8_wordLetter) 9 = .ok (.iload_n 1, 1) by decide +kernel) rfl ?_
  exact s_if_ne (tgt := 21) (show decode (am_cc m8_wordLetter) 10 = .ok (.ifCond .ne 11, 3) by decide +kernel) (by decide) k1 k2
theorem g8_wordLetter_13 {a0 a1 : Int} {K : am_K} {M : am_M} {Q : Option am_V → am_M → Prop} (h1 : -2147483648 ≤ a0 - 5 ∧ a0 - 5 ≤ 2147483647) (h2 : 0 ≤ a0 - 5) (k : am_AtN m8_wordLetter 26 [some (vi a0), some (vi a1)] [vi ((a0 - 5) / 4)] K M Q) : am_AtN m8_wordLetter 13 [some (vi a0), some (vi a1)] [] K M Q := by
  refine s_iload_n (show decode (am_cc m8_wordLetter) 13 = .ok (.iload_n 0, 1) by decide +kernel) rfl ?_
  refine s_iconst (show decode (am_cc m8_wordLetter) 14 = .ok (.iconst 5, 1) by decide +kernel) ⟨by decide, by decide⟩ ?_
  refine s_isub (show decode (am_cc m8_wordLetter) 15 = .ok (.isub, 1) by decide +kernel) h1 ?_
  refine s_iconst (show decode (am_cc m8_wordLetter) 16 = .ok (.iconst 4, 1) by decide +kernel) ⟨by decide, by decide⟩ ?_
  refine s_idiv (show decode (am_cc m8_wordLetter) 17 = .ok (.idiv, 1) by decide +kernel) h2 (by decide) ?_
  refine s_goto (tgt := 26) (show decode (am_cc m8_wordLetter) 18 = .ok (.goto 8, 3) by decide +kernel) (by decide) ?_
  exact k
theorem g8_wordLetter_21 {a0 a1 : Int} {K : am_K} {M : am_M} {Q : Option am_V → am_M → Prop} (h1 : -2147483648 ≤ a0 - 5 ∧ a0 - 5 ≤ 2147483647) (h2 : 0 ≤ a0 - 5) (k : am_AtN m8_wordLetter 26 [some (vi a0), some (vi a1)] [vi ((a0 - 5) % 4)] K M Q) : am_AtN m8_wordLetter 21 [some (vi a0), some (vi a1)] [] K M Q := by
  refine s_iload_n (show decode (am_cc m8_wordLetter) 21 = .ok (.iload_n 0, 1) by decide +kernel) rfl ?_
  refine s_iconst (show decode (am_cc m8_wordLetter) 22 = .ok (.iconst 5, 1) by decide +kernel) ⟨by decide, by decide⟩ ?_
  refine s_isub (show decode (am_cc m8_wordLetter) 23 = .ok (.isub, 1) by decide +kernel) h1 ?_
  refine s_iconst (show decode (am_cc m8_wordLetter) 24 = .ok (.iconst 4, 1) by decide +kernel) ⟨by decide, by decide⟩ ?_
  refine s_irem (show decode (am_cc m8_wordLetter) 25 = .ok (.irem, 1) by decide +kernel) h2 (by decide) ?_
  exact k
theorem g8_wordLetter_26 {a0 a1 t0 : Int} {K : am_K} {M : am_M} {Q : Option am_V → am_M → Prop} (k : Q (some (vi t0)) M) : am_AtN m8_wordLetter 26 [some (vi a0), some (vi a1)] [vi t0] K M Q := by
  exact s_ireturn (show decode (am_cc m8_wordLetter) 26 = .ok (.ireturn, 1) by decide +kernel) rfl k
theorem g8_timesIn_0 {a0 a1 : Int} {K : am_K} {M : am_M} {Q : Option am_V → am_M → Prop} (k : am_AtN m8_timesIn 4 [some (vi a0), some (vi a1), some (vi 0), some (vi 0)] [] K M Q) : am_AtN m8_timesIn 0 [some (vi a0), some (vi a1), none, none] [] K M Q := by
  refine s_iconst (show decode (am_cc m8_timesIn) 0 = .ok (.iconst 0, 1) by decide +kernel) ⟨by decide, by decide⟩ ?_
  refine s_istore_n (show decode (am_cc m8_timesIn) 1 = .ok (.istore_n 2, 1) by decide +kernel) (by decide) ?_
  refine s_iconst (show decode (am_cc m8_timesIn) 2 = .ok (.iconst 0, 1) by decide +kernel) ⟨by decide, by decide⟩ ?_
  refine s_istore_n (show decode (am_cc m8_timesIn) 3 = .ok (.istore_n 3, 1) by decide +kernel) (by decide) ?_
  exact k
theorem g8_timesIn_4 {a0 a1 a2 a3 : Int} {K : am_K} {M : am_M} {Q : Option am_V → am_M → Prop} (k : am_CallN m8_wordLength [vi a0] K M (fun r M' => am_AtN m8_timesIn 9 [some (vi a0), some (vi a1), some (vi a2), some (vi a3)] (r.toList ++ [vi a3]) K M' Q)) : am_AtN m8_timesIn 4 [some (vi a0), some (vi a1), some (vi a2), some (vi a3)] [] K M Q := by
  refine s_iload_n (show decode (am_cc m8_timesIn) 4 = .ok (.iload_n 3, 1) by decide +kernel) rfl ?_
  refine s_iload_n (show decode (am_cc m8_timesIn) 5 = .ok (.iload_n 0, 1) by decide +kernel) rfl ?_
  exact n_callS (as := [vi a0]) (stk := [vi a3]) (show decode (am_cc m8_timesIn) 6 = .ok (.invokestatic 264, 3) by decide +kernel) lk_RX8_264 (by decide) (Nat.le_of_ble_eq_true rfl) ⟨rfl, rfl⟩ k
theorem g8_timesIn_9 {a0 a1 a2 a3 t0 t1 : Int} {K : am_K} {M : am_M} {Q : Option am_V → am_M → Prop} (k1 : t1 ≤ t0 → am_AtN m8_timesIn 30 [some (vi a0), some (vi a1), some (vi a2), some (vi a3)] [] K M Q) (k2 : ¬ (t1 ≤ t0) → am_AtN m8_timesIn 12 [some (vi a0), some (vi a1), some (vi a2), some (vi a3)] [] K M Q) : am_AtN m8_timesIn 9 [some (vi a0), some (vi a1), some (vi a2), some (vi a3)] [vi t1, vi t0] K M Q := by
  exact s_icmp_ge (tgt := 30) (show decode (am_cc m8_timesIn) 9 = .ok (.if_icmp .ge 21, 3) by decide +kernel) (by decide) k1 k2
theorem g8_timesIn_12 {a0 a1 a2 a3 : Int} {K : am_K} {M : am_M} {Q : Option am_V → am_M → Prop} (k : am_CallN m8_wordLetter [vi a0, vi a3] K M (fun r M' => am_AtN m8_timesIn 17 [some (vi a0), some (vi a1), some (vi a2), some (vi a3)] (r.toList ++ []) K M' Q)) : am_AtN m8_timesIn 12 [some (vi a0), some (vi a1), some (vi a2), some (vi a3)] [] K M Q := by
  refine s_iload_n (show decode (am_cc m8_timesIn) 12 = .ok (.iload_n 0, 1) by decide +kernel) rfl ?_
  refine s_iload_n (show decode (am_cc m8_timesIn) 13 = .ok (.iload_n 3, 1) by decide +kernel) rfl ?_
  exact n_callS (as := [vi a0, vi a3]) (stk := []) (show decode (am_cc m8_timesIn) 14 = .ok (.invokestatic 267, 3) by decide +kernel) lk_RX8_267 (by decide) (Nat.le_of_ble_eq_true rfl) ⟨rfl, rfl⟩ k
theorem g8_timesIn_17 {a0 a1 a2 a3 t0 : Int} {K : am_K} {M : am_M} {Q : Option am_V → am_M → Prop} (k1 : ¬ t0 = a1 → am_AtN m8_timesIn 24 [some (vi a0), some (vi a1), some (vi a2), some (vi a3)] [] K M Q) (k2 : t0 = a1 → am_AtN m8_timesIn 21 [some (vi a0), some (vi a1), some (vi a2), some (vi a3)] [] K M Q) : am_AtN m8_timesIn 17 [some (vi a0), some (vi a1), some (vi a2), some (vi a3)] [vi t0] K M Q := by
  refine s_iload_n (show decode (am_cc m8_timesIn) 17 = .ok (.iload_n 1, 1) by decide +kernel) rfl ?_
  exact s_icmp_ne (tgt := 24) (show decode (am_cc m8_timesIn) 18 = .ok (.if_icmp .ne 6, 3) by decide +kernel) (by decide) k1 k2
theorem g8_timesIn_21 {a0 a1 a2 a3 : Int} {K : am_K} {M : am_M} {Q : Option am_V → am_M → Prop} (h1 : -2147483648 ≤ a2 + 1 ∧ a2 + 1 ≤ 2147483647) (k : am_AtN m8_timesIn 24 [some (vi a0), some (vi a1), some (vi (a2 + 1)), some (vi a3)] [] K M Q) : am_AtN m8_timesIn 21 [some (vi a0), some (vi a1), some (vi a2), some (vi a3)] [] K M Q := by
  refine s_iinc (show decode (am_cc m8_timesIn) 21 = .ok (.iinc 2 1, 3) by decide +kernel) rfl (by decide) h1 ?_
  exact k
theorem g8_timesIn_24 {a0 a1 a2 a3 : Int} {K : am_K} {M : am_M} {Q : Option am_V → am_M → Prop} (h1 : -2147483648 ≤ a3 + 1 ∧ a3 + 1 ≤ 2147483647) (k : am_AtN m8_timesIn 4 [some (vi a0), some (vi a1), some (vi a2), some (vi (a3 + 1))] [] K M Q) : am_AtN m8_timesIn 24 [some (vi a0), some (vi a1), some (vi a2), some (vi a3)] [] K M Q := by
  refine s_iinc (show decode (am_cc m8_timesIn) 24 = .ok (.iinc 3 1, 3) by decide +kernel) rfl (by decide) h1 ?_
  refine s_goto (tgt := 4) (show decode (am_cc m8_timesIn) 27 = .ok (.goto (-23), 3) by decide +kernel) (by decide) ?_
  exact k
theorem g8_timesIn_30 {a0 a1 a2 a3 : Int} {K : am_K} {M : am_M} {Q : Option am_V → am_M → Prop} (k : Q (some (vi a2)) M) : am_AtN m8_timesIn 30 [some (vi a0), some (vi a1), some (vi a2), some (vi a3)] [] K M Q := by
  refine s_iload_n (show decode (am_cc m8_timesIn) 30 = .ok (.iload_n 2, 1) by decide +kernel) rfl ?_
  exact s_ireturn (show decode (am_cc m8_timesIn) 31 = .ok (.ireturn, 1) by decide +kernel) rfl k
theorem gJ_abs_0 {a0 : Int} {K : am_K} {M : am_M} {Q : Option am_V → am_M → Prop} (k1 : 0 ≤ a0 → am_AtN mJ_abs 9 [some (vi a0)] [] K M Q) (k2 : ¬ (0 ≤ a0) → am_AtN mJ_abs 4 [some (vi a0)] [] K M Q) : am_AtN mJ_abs 0 [some (vi a0)] [] K M Q := by
  refine s_iload_n (show decode (am_cc mJ_abs) 0 = .ok (.iload_n 0, 1) by decide +kernel) rfl ?_
  exact s_if_ge (tgt := 9) (show decode (am_cc mJ_abs) 1 = .ok (.ifCond .ge 8, 3) by decide +kernel) (by decide) k1 k2
theorem gJ_abs_4 {a0 : Int} {K : am_K} {M : am_M} {Q : Option am_V → am_M → Prop} (h1 : -2147483648 ≤ -a0 ∧ -a0 ≤ 2147483647) (k : am_AtN mJ_abs 10 [some (vi a0)] [vi (-a0)] K M Q) : am_AtN mJ_abs 4 [some (vi a0)] [] K M Q := by
  refine s_iload_n (show decode (am_cc mJ_abs) 4 = .ok (.iload_n 0, 1) by decide +kernel) rfl ?_
  refine s_ineg (show decode (am_cc mJ_abs) 5 = .ok (.ineg, 1) by decide +kernel) h1 ?_
  refine s_goto (tgt := 10) (show decode (am_cc mJ_abs) 6 = .ok (.goto 4, 3) by decide +kernel) (by decide) ?_
  exact k
theorem gJ_abs_9 {a0 : Int} {K : am_K} {M : am_M} {Q : Option am_V → am_M → Prop} (k : am_AtN mJ_abs 10 [some (vi a0)] [vi a0] K M Q) : am_AtN mJ_abs 9 [some (vi a0)] [] K M Q := by
  refine s_iload_n (show decode (am_cc mJ_abs) 9 = .ok (.iload_n 0, 1) by decide +kernel) rfl ?_
  exact k
theorem gJ_abs_10 {a0 t0 : Int} {K : am_K} {M : am_M} {Q : Option am_V → am_M → Prop} (k : Q (some (vi t0)) M) : am_AtN mJ_abs 10 [some (vi a0)] [vi t0] K M Q := by
  exact s_ireturn (show decode (am_cc mJ_abs) 10 = .ok (.ireturn, 1) by decide +kernel) rfl k
theorem gJ_max_0 {a0 a1 : Int} {K : am_K} {M : am_M} {Q : Option am_V → am_M → Prop} (k1 : a0 < a1 → am_AtN mJ_max 9 [some (vi a0), some (vi a1)] [] K M Q) (k2 : ¬ (a0 < a1) → am_AtN mJ_max 5 [some (vi a0), some (vi a1)] [] K M Q) : am_AtN mJ_max 0 [some (vi a0), some (vi a1)] [] K M Q := by
  refine s_iload_n (show decode (am_cc mJ_max) 0 = .ok (.iload_n 0, 1) by decide +kernel) rfl ?_
  refine s_iload_n (show decode (am_cc mJ_max) 1 = .ok (.iload_n 1, 1) by decide +kernel) rfl ?_
  exact s_icmp_lt (tgt := 9) (show decode (am_cc mJ_max) 2 = .ok (.if_icmp .lt 7, 3) by decide +kernel) (by decide) k1 k2
theorem gJ_max_5 {a0 a1 : Int} {K : am_K} {M : am_M} {Q : Option am_V → am_M → Prop} (k : am_AtN mJ_max 10 [some (vi a0), some (vi a1)] [vi a0] K M Q) : am_AtN mJ_max 5 [some (vi a0), some (vi a1)] [] K M Q := by
  refine s_iload_n (show decode (am_cc mJ_max) 5 = .ok (.iload_n 0, 1) by decide +kernel) rfl ?_
  refine s_goto (tgt := 10) (show decode (am_cc mJ_max) 6 = .ok (.goto 4, 3) by decide +kernel) (by decide) ?_
  exact k
theorem gJ_max_9 {a0 a1 : Int} {K : am_K} {M : am_M} {Q : Option am_V → am_M → Prop} (k : am_AtN mJ_max 10 [some (vi a0), some (vi a1)] [vi a1] K M Q) : am_AtN mJ_max 9 [some (vi a0), some (vi a1)] [] K M Q := by
  refine s_iload_n (show decode (am_cc mJ_max) 9 = .ok (.iload_n 1, 1) by decide +kernel) rfl ?_
  exact k
theorem gJ_max_10 {a0 a1 t0 : Int} {K : am_K} {M : am_M} {Q : Option am_V → am_M → Prop} (k : Q (some (vi t0)) M) : am_AtN mJ_max 10 [some (vi a0), some (vi a1)] [vi t0] K M Q := by
  exact s_ireturn (show decode (am_cc mJ_max) 10 = .ok (.ireturn, 1) by decide +kernel) rfl k
theorem gJ_min_0 {a0 a1 : Int} {K : am_K} {M : am_M} {Q : Option am_V → am_M → Prop} (k1 : a1 < a0 → am_AtN mJ_min 9 [some (vi a0), some (vi a1)] [] K M Q) (k2 : ¬ (a1 < a0) → am_AtN mJ_min 5 [some (vi a0), some (vi a1)] [] K M Q) : am_AtN mJ_min 0 [some (vi a0), some (vi a1)] [] K M Q := by
  refine s_iload_n (show decode (am_cc mJ_min) 0 = .ok (.iload_n 0, 1) by decide +kernel) rfl ?_
  refine s_iload_n (show decode (am_cc mJ_min) 1 = .ok (.iload_n 1, 1) by decide +kernel) rfl ?_
  exact s_icmp_gt (tgt := 9) (show decode (am_cc mJ_min) 2 = .ok (.if_icmp .gt 7, 3) by decide +kernel) (by decide) k1 k2
theorem gJ_min_5 {a0 a1 : Int} {K : am_K} {M : am_M} {Q : Option am_V → am_M → Prop} (k : am_AtN mJ_min 10 [some (vi a0), some (vi a1)] [vi a0] K M Q) : am_AtN mJ_min 5 [some (vi a0), some (vi a1)] [] K M Q := by
  refine s_iload_n (show decode (am_cc mJ_min) 5 = .ok (.iload_n 0, 1) by decide +kernel) rfl ?_
  refine s_goto (tgt := 10) (show decode (am_cc mJ_min) 6 = .ok (.goto 4, 3) by decide +kernel) (by decide) ?_
  exact k
theorem gJ_min_9 {a0 a1 : Int} {K : am_K} {M : am_M} {Q : Option am_V → am_M → Prop} (k : am_AtN mJ_min 10 [some (vi a0), some (vi a1)] [vi a1] K M Q) : am_AtN mJ_min 9 [some (vi a0), some (vi a1)] [] K M Q := by
  refine s_iload_n (show decode (am_cc mJ_min) 9 = .ok (.iload_n 1, 1) by decide +kernel) rfl ?_
  exact k
theorem gJ_min_10 {a0 a1 t0 : Int} {K : am_K} {M : am_M} {Q : Option am_V → am_M → Prop} (k : Q (some (vi t0)) M) : am_AtN mJ_min 10 [some (vi a0), some (vi a1)] [vi t0] K M Q := by
  exact s_ireturn (show decode (am_cc mJ_min) 10 = .ok (.ireturn, 1) by decide +kernel) rfl k
theorem gJ_fill_0 {a0 a1 : Int} {K : am_K} {M : am_M} {Q : Option am_V → am_M → Prop} {n0 : Nat} {q0 : List Int} (h1 : am_kd K a0 = some (11, n0, q0)) (h2 : -2147483648 ≤ (n0 : Int) ∧ (n0 : Int) ≤ 2147483647) (k : am_AtN mJ_fill 5 [some (vr a0), some (vi a1), some (vi 0), some (vi (n0 : Int))] [] K M Q) : am_AtN mJ_fill 0 [some (vr a0), some (vi a1), none, none] [] K M Q := by
  refine s_iconst (show decode (am_cc mJ_fill) 0 = .ok (.iconst 0, 1) by decide +kernel) ⟨by decide, by decide⟩ ?_
  refine s_istore_n (show decode (am_cc mJ_fill) 1 = .ok (.istore_n 2, 1) by decide +kernel) (by decide) ?_
  refine s_aload_n (show decode (am_cc mJ_fill) 2 = .ok (.aload_n 0, 1) by decide +kernel) rfl ?_
  refine s_alen (show decode (am_cc mJ_fill) 3 = .ok (.arraylength, 1) by decide +kernel) h1 rfl h2 ?_
  refine s_istore_n (show decode (am_cc mJ_fill) 4 = .ok (.istore_n 3, 1) by decide +kernel) (by decide) ?_
  exact k
theorem gJ_fill_5 {a0 a1 a2 a3 : Int} {K : am_K} {M : am_M} {Q : Option am_V → am_M → Prop} (k1 : a3 ≤ a2 → am_AtN mJ_fill 20 [some (vr a0), some (vi a1), some (vi a2), some (vi a3)] [] K M Q) (k2 : ¬ (a3 ≤ a2) → am_AtN mJ_fill 10 [some (vr a0), some (vi a1), some (vi a2), some (vi a3)] [] K M Q) : am_AtN mJ_fill 5 [some (vr a0), some (vi a1), some (vi a2), some (vi a3)] [] K M Q := by
  refine s_iload_n (show decode (am_cc mJ_fill) 5 = .ok (.iload_n 2, 1) by decide +kernel) rfl ?_
  refine s_iload_n (show decode (am_cc mJ_fill) 6 = .ok (.iload_n 3, 1) by decide +kernel) rfl ?_
  exact s_icmp_ge (tgt := 20) (show decode (am_cc mJ_fill) 7 = .ok (.if_icmp .ge 13, 3) by decide +kernel) (by decide) k1 k2
theorem gJ_fill_10 {a0 a1 a2 a3 : Int} {K : am_K} {M : am_M} {Q : Option am_V → am_M → Prop} {n0 : Nat} {q0 : List Int} (h1 : am_kd K a0 = some (11, n0, q0)) (h2 : 0 ≤ a2) (h3 : a2 < (n0 : Int)) (h4 : -2147483648 ≤ a2 + 1 ∧ a2 + 1 ≤ 2147483647) (k : am_AtN mJ_fill 5 [some (vr a0), some (vi a1), some (vi (a2 + 1)), some (vi a3)] [] K (am_up M a0 a2 a1) Q) : am_AtN mJ_fill 10 [some (vr a0), some (vi a1), some (vi a2), some (vi a3)] [] K M Q := by
  refine s_aload_n (show decode (am_cc mJ_fill) 10 = .ok (.aload_n 0, 1) by decide +kernel) rfl ?_
  refine s_iload_n (show decode (am_cc mJ_fill) 11 = .ok (.iload_n 2, 1) by decide +kernel) rfl ?_
  refine s_iload_n (show decode (am_cc mJ_fill) 12 = .ok (.iload_n 1, 1) by decide +kernel) rfl ?_
  refine s_iastore (show decode (am_cc mJ_fill) 13 = .ok (.iastore, 1) by decide +kernel) h1 h2 h3 ?_
  refine s_iinc (show decode (am_cc mJ_fill) 14 = .ok (.iinc 2 1, 3) by decide +kernel) rfl (by decide) h4 ?_
  refine s_goto (tgt := 5) (show decode (am_cc mJ_fill) 17 = .ok (.goto (-12), 3) by decide +kernel) (by decide) ?_
  exact k
theorem gJ_fill_20 {a0 a1 a2 a3 : Int} {K : am_K} {M : am_M} {Q : Option am_V → am_M → Prop} (k : Q none M) : am_AtN mJ_fill 20 [some (vr a0), some (vi a1), some (vi a2), some (vi a3)] [] K M Q := by
  exact s_return (show decode (am_cc mJ_fill) 20 = .ok (.return_, 1) by decide +kernel) rfl k
theorem g6_startAnew_0 {a0 : Int} {K : am_K} {M : am_M} {Q : Option am_V → am_M → Prop} {r0_0 : Int} {r0_1 : Int} (h1 : am_kd K a0 = some (6, 2, [r0_0, r0_1])) (k : am_CallN mJ_fill [vr r0_0, vi 0] K M (fun r M' => am_AtN m6_startAnew 8 [some (vr a0)] (r.toList ++ []) K M' Q)) : am_AtN m6_startAnew 0 [some (vr a0)] [] K M Q := by
  refine s_aload_n (show decode (am_cc m6_startAnew) 0 = .ok (.aload_n 0, 1) by decide +kernel) rfl ?_
  refine s_getf (k := 0) (v := vr r0_0) (show decode (am_cc m6_startAnew) 1 = .ok (.getfield 9, 3) by decide +kernel) h1 (by decide) rfl jnX6 (by decide) lf_RX6_9 rfl ?_
  refine s_iconst (show decode (am_cc m6_startAnew) 4 = .ok (.iconst 0, 1) by decide +kernel) ⟨by decide, by decide⟩ ?_
  exact n_callS (as := [vr r0_0, vi 0]) (stk := []) (show decode (am_cc m6_startAnew) 5 = .ok (.invokestatic 21, 3) by decide +kernel) lk_RX6_21 (by decide) (Nat.le_of_ble_eq_true rfl) ⟨rfl, rfl⟩ k
theorem g6_startAnew_8 {a0 : Int} {K : am_K} {M : am_M} {Q : Option am_V → am_M → Prop} {r0_0 : Int} {r0_1 : Int} (h1 : am_kd K a0 = some (6, 2, [r0_0, r0_1])) (k : am_CallN mJ_fill [vr r0_1, vi 1] K M (fun r M' => am_AtN m6_startAnew 16 [some (vr a0)] (r.toList ++ []) K M' Q)) : am_AtN m6_startAnew 8 [some (vr a0)] [] K M Q := by
  refine s_aload_n (show decode (am_cc m6_startAnew) 8 = .ok (.aload_n 0, 1) by decide +kernel) rfl ?_
  refine s_getf (k := 1) (v := vr r0_1) (show decode (am_cc m6_startAnew) 9 = .ok (.getfield 15, 3) by decide +kernel) h1 (by decide) rfl jnX6 (by decide) lf_RX6_15 rfl ?_
  refine s_iconst (show decode (am_cc m6_startAnew) 12 = .ok (.iconst 1, 1) by decide +kernel) ⟨by decide, by decide⟩ ?_
  exact n_callS (as := [vr r0_1, vi 1]) (stk := []) (show decode (am_cc m6_startAnew) 13 = .ok (.invokestatic 21, 3) by decide +kernel) lk_RX6_21 (by decide) (Nat.le_of_ble_eq_true rfl) ⟨rfl, rfl⟩ k
theorem g6_startAnew_16 {a0 : Int} {K : am_K} {M : am_M} {Q : Option am_V → am_M → Prop} (k : Q none M) : am_AtN m6_startAnew 16 [some (vr a0)] [] K M Q := by
  exact s_return (show decode (am_cc m6_startAnew) 16 = .ok (.return_, 1) by decide +kernel) rfl k
theorem g6_nextOf_0 {a0 a1 a2 : Int} {K : am_K} {M : am_M} {Q : Option am_V → am_M → Prop} (k : am_CallN m8_within [vi a1, vi 6] K M (fun r M' => am_AtN m6_nextOf 6 [some (vr a0), some (vi a1), some (vi a2)] (r.toList ++ []) K M' Q)) : am_AtN m6_nextOf 0 [some (vr a0), some (vi a1), some (vi a2)] [] K M Q := by
  refine s_iload_n (show decode (am_cc m6_nextOf) 0 = .ok (.iload_n 1, 1) by decide +kernel) rfl ?_
  refine s_bipush (show decode (am_cc m6_nextOf) 1 = .ok (.bipush 6, 2) by decide +kernel) ⟨by decide, by decide⟩ (by decide) ?_
  exact n_callN (as := [vi a1, vi 6]) (stk := []) (show decode (am_cc m6_nextOf) 3 = .ok (.invokestatic 27, 3) by decide +kernel) lk_RX6_27 (by decide) (Nat.le_of_ble_eq_true rfl) ⟨rfl, rfl⟩ k
theorem g6_nextOf_6 {a0 a1 a2 t0 : Int} {K : am_K} {M : am_M} {Q : Option am_V → am_M → Prop} (k1 : t0 = 0 → am_AtN m6_nextOf 17 [some (vr a0), some (vi a1), some (vi a2)] [] K M Q) (k2 : ¬ (t0 = 0) → am_AtN m6_nextOf 9 [some (vr a0), some (vi a1), some (vi a2)] [] K M Q) : am_AtN m6_nextOf 6 [some (vr a0), some (vi a1), some (vi a2)] [vi t0] K M Q := by
  exact s_if_eq (tgt := 17) (show decode (am_cc m6_nextOf) 6 = .ok (.ifCond .eq 11, 3) by decide +kernel) (by decide) k1 k2
theorem g6_nextOf_9 {a0 a1 a2 : Int} {K : am_K} {M : am_M} {Q : Option am_V → am_M → Prop} (k : am_CallN m8_within [vi a2, vi 4] K M (fun r M' => am_AtN m6_nextOf 14 [some (vr a0), some (vi a1), some (vi a2)] (r.toList ++ []) K M' Q)) : am_AtN m6_nextOf 9 [some (vr a0), some (vi a1), some (vi a2)] [] K M Q := by
  refine s_iload_n (show decode (am_cc m6_nextOf) 9 = .ok (.iload_n 2, 1) by decide +kernel) rfl ?_
  refine s_iconst (show decode (am_cc m6_nextOf) 10 = .ok (.iconst 4, 1) by decide +kernel) ⟨by decide, by decide⟩ ?_
  exact n_callN (as := [vi a2, vi 4]) (stk := []) (show decode (am_cc m6_nextOf) 11 = .ok (.invokestatic 27, 3) by decide +kernel) lk_RX6_27 (by decide) (Nat.le_of_ble_eq_true rfl) ⟨rfl, rfl⟩ k
theorem g6_nextOf_14 {a0 a1 a2 t0 : Int} {K : am_K} {M : am_M} {Q : Option am_V → am_M → Prop} (k1 : ¬ t0 = 0 → am_AtN m6_nextOf 19 [some (vr a0), some (vi a1), some (vi a2)] [] K M Q) (k2 : t0 = 0 → am_AtN m6_nextOf 17 [some (vr a0), some (vi a1), some (vi a2)] [] K M Q) : am_AtN m6_nextOf 14 [some (vr a0), some (vi a1), some (vi a2)] [vi t0] K M Q := by
  exact s_if_ne (tgt := 19) (show decode (am_cc m6_nextOf) 14 = .ok (.ifCond .ne 5, 3) by decide +kernel) (by decide) k1 k2
theorem g6_nextOf_17 {a0 a1 a2 : Int} {K : am_K} {M : am_M} {Q : Option am_V → am_M → Prop} (k : Q (some (vi 0)) M) : am_AtN m6_nextOf 17 [some (vr a0), some (vi a1), some (vi a2)] [] K M Q := by
  refine s_iconst (show decode (am_cc m6_nextOf) 17 = .ok (.iconst 0, 1) by decide +kernel) ⟨by decide, by decide⟩ ?_
  exact s_ireturn (show decode (am_cc m6_nextOf) 18 = .ok (.ireturn, 1) by decide +kernel) rfl k
theorem g6_nextOf_19 {a0 a1 a2 : Int} {K : am_K} {M : am_M} {Q : Option am_V → am_M → Prop} {r0_0 : Int} {r0_1 : Int} {n1 : Nat} {q1 : List Int} (h1 : am_kd K a0 = some (6, 2, [r0_0, r0_1])) (h2 : -2147483648 ≤ a1 * 4 ∧ a1 * 4 ≤ 2147483647) (h3 : -2147483648 ≤ (a1 * 4) + a2 ∧ (a1 * 4) + a2 ≤ 2147483647) (h4 : am_kd K r0_0 = some (11, n1, q1)) (h5 : 0 ≤ (a1 * 4) + a2) (h6 : (a1 * 4) + a2 < (n1 : Int)) (k : Q (some (vi (M r0_0 ((a1 * 4) + a2)))) M) : am_AtN m6_nextOf 19 [some (vr a0), some (vi a1), some (vi a2)] [] K M Q := by
  refine s_aload_n (show decode (am_cc m6_nextOf) 19 = .ok (.aload_n 0, 1) by decide +kernel) rfl ?_
  refine s_getf (k := 0) (v := vr r0_0) (show decode (am_cc m6_nextOf) 20 = .ok (.getfield 9, 3) by decide +kernel) h1 (by decide) rfl jnX6 (by decide) lf_RX6_9 rfl ?_
  refine s_iload_n (show decode (am_cc m6_nextOf) 23 = .ok (.iload_n 1, 1) by decide +kernel) rfl ?_
  refine s_iconst (show decode (am_cc m6_nextOf) 24 = .ok (.iconst 4, 1) by decide +kernel) ⟨by decide, by decide⟩ ?_
  refine s_imul (show decode (am_cc m6_nextOf) 25 = .ok (.imul, 1) by decide +kernel) h2 ?_
  refine s_iload_n (show decode (am_cc m6_nextOf) 26 = .ok (.iload_n 2, 1) by decide +kernel) rfl ?_
  refine s_iadd (show decode (am_cc m6_nextOf) 27 = .ok (.iadd, 1) by decide +kernel) h3 ?_
  refine s_iaload (show decode (am_cc m6_nextOf) 28 = .ok (.iaload, 1) by decide +kernel) h4 h5 h6 ?_
  exact s_ireturn (show decode (am_cc m6_nextOf) 29 = .ok (.ireturn, 1) by decide +kernel) rfl k
theorem g6_holdsAt_0 {a0 a1 : Int} {K : am_K} {M : am_M} {Q : Option am_V → am_M → Prop} (k : am_CallN m8_within [vi a1, vi 6] K M (fun r M' => am_AtN m6_holdsAt 6 [some (vr a0), some (vi a1)] (r.toList ++ []) K M' Q)) : am_AtN m6_holdsAt 0 [some (vr a0), some (vi a1)] [] K M Q := by
  refine s_iload_n (show decode (am_cc m6_holdsAt) 0 = .ok (.iload_n 1, 1) by decide +kernel) rfl ?_
  refine s_bipush (show decode (am_cc m6_holdsAt) 1 = .ok (.bipush 6, 2) by decide +kernel) ⟨by decide, by decide⟩ (by decide) ?_
  exact n_callN (as := [vi a1, vi 6]) (stk := []) (show decode (am_cc m6_holdsAt) 3 = .ok (.invokestatic 27, 3) by decide +kernel) lk_RX6_27 (by decide) (Nat.le_of_ble_eq_true rfl) ⟨rfl, rfl⟩ k
theorem g6_holdsAt_6 {a0 a1 t0 : Int} {K : am_K} {M : am_M} {Q : Option am_V → am_M → Prop} (k1 : t0 = 0 → am_AtN m6_holdsAt 23 [some (vr a0), some (vi a1)] [] K M Q) (k2 : ¬ (t0 = 0) → am_AtN m6_holdsAt 9 [some (vr a0), some (vi a1)] [] K M Q) : am_AtN m6_holdsAt 6 [some (vr a0), some (vi a1)] [vi t0] K M Q := by
  exact s_if_eq (tgt := 23) (show decode (am_cc m6_holdsAt) 6 = .ok (.ifCond .eq 17, 3) by decide +kernel) (by decide) k1 k2
theorem g6_holdsAt_9 {a0 a1 : Int} {K : am_K} {M : am_M} {Q : Option am_V → am_M → Prop} {r0_0 : Int} {r0_1 : Int} {n1 : Nat} {q1 : List Int} (h1 : am_kd K a0 = some (6, 2, [r0_0, r0_1])) (h2 : am_kd K r0_1 = some (11, n1, q1)) (h3 : 0 ≤ a1) (h4 : a1 < (n1 : Int)) (k1 : ¬ M r0_1 a1 = 1 → am_AtN m6_holdsAt 23 [some (vr a0), some (vi a1)] [] K M Q) (k2 : M r0_1 a1 = 1 → am_AtN m6_holdsAt 19 [some (vr a0), some (vi a1)] [] K M Q) : am_AtN m6_holdsAt 9 [some (vr a0), some (vi a1)] [] K M Q := by
  refine s_aload_n (show decode (am_cc m6_holdsAt) 9 = .ok (.aload_n 0, 1) by decide +kernel) rfl ?_
  refine s_getf (k := 1) (v := vr r0_1) (show decode (am_cc m6_holdsAt) 10 = .ok (.getfield 15, 3) by decide +kernel) h1 (by decide) rfl jnX6 (by decide) lf_RX6_15 rfl ?_
  refine s_iload_n (show decode (am_cc m6_holdsAt) 13 = .ok (.iload_n 1, 1) by decide +kernel) rfl ?_
  refine s_iaload (show decode (am_cc m6_holdsAt) 14 = .ok (.iaload, 1) by decide +kernel) h2 h3 h4 ?_
  refine s_iconst (show decode (am_cc m6_holdsAt) 15 = .ok (.iconst 1, 1) by decide +kernel) ⟨by decide, by decide⟩ ?_
  exact s_icmp_ne (tgt := 23) (show decode (am_cc m6_holdsAt) 16 = .ok (.if_icmp .ne 7, 3) by decide +kernel) (by decide) k1 k2
theorem g6_holdsAt_19 {a0 a1 : Int} {K : am_K} {M : am_M} {Q : Option am_V → am_M → Prop} (k : am_AtN m6_holdsAt 24 [some (vr a0), some (vi a1)] [vi 1] K M Q) : am_AtN m6_holdsAt 19 [some (vr a0), some (vi a1)] [] K M Q := by
  refine s_iconst (show decode (am_cc m6_holdsAt) 19 = .ok (.iconst 1, 1) by decide +kernel) ⟨by decide, by decide⟩ ?_
  refine s_goto (tgt := 24) (show decode (am_cc m6_holdsAt) 20 = .ok (.goto 4, 3) by decide +kernel) (by decide) ?_
  exact k
theorem g6_holdsAt_23 {a0 a1 : Int} {K : am_K} {M : am_M} {Q : Option am_V → am_M → Prop} (k : am_AtN m6_holdsAt 24 [some (vr a0), some (vi a1)] [vi 0] K M Q) : am_AtN m6_holdsAt 23 [some (vr a0), some (vi a1)] [] K M Q := by
  refine s_iconst (show decode (am_cc m6_holdsAt) 23 = .ok (.iconst 0, 1) by decide +kernel) ⟨by decide, by decide⟩ ?_
  exact k
theorem g6_holdsAt_24 {a0 a1 t0 : Int} {K : am_K} {M : am_M} {Q : Option am_V → am_M → Prop} (h1 : t0 = 0 ∨ t0 = 1) (k : Q (some (vi t0)) M) : am_AtN m6_holdsAt 24 [some (vr a0), some (vi a1)] [vi t0] K M Q := by
  exact s_zreturn (show decode (am_cc m6_holdsAt) 24 = .ok (.ireturn, 1) by decide +kernel) rfl h1 k
theorem g6_lead_0 {a0 a1 a2 a3 : Int} {K : am_K} {M : am_M} {Q : Option am_V → am_M → Prop} (k : am_CallN m8_within [vi a1, vi 6] K M (fun r M' => am_AtN m6_lead 6 [some (vr a0), some (vi a1), some (vi a2), some (vi a3)] (r.toList ++ []) K M' Q)) : am_AtN m6_lead 0 [some (vr a0), some (vi a1), some (vi a2), some (vi a3)] [] K M Q := by
  refine s_iload_n (show decode (am_cc m6_lead) 0 = .ok (.iload_n 1, 1) by decide +kernel) rfl ?_
  refine s_bipush (show decode (am_cc m6_lead) 1 = .ok (.bipush 6, 2) by decide +kernel) ⟨by decide, by decide⟩ (by decide) ?_
  exact n_callN (as := [vi a1, vi 6]) (stk := []) (show decode (am_cc m6_lead) 3 = .ok (.invokestatic 27, 3) by decide +kernel) lk_RX6_27 (by decide) (Nat.le_of_ble_eq_true rfl) ⟨rfl, rfl⟩ k
theorem g6_lead_6 {a0 a1 a2 a3 t0 : Int} {K : am_K} {M : am_M} {Q : Option am_V → am_M → Prop} (k1 : t0 = 0 → am_AtN m6_lead 17 [some (vr a0), some (vi a1), some (vi a2), some (vi a3)] [] K M Q) (k2 : ¬ (t0 = 0) → am_AtN m6_lead 9 [some (vr a0), some (vi a1), some (vi a2), some (vi a3)] [] K M Q) : am_AtN m6_lead 6 [some (vr a0), some (vi a1), some (vi a2), some (vi a3)] [vi t0] K M Q := by
  exact s_if_eq (tgt := 17) (show decode (am_cc m6_lead) 6 = .ok (.ifCond .eq 11, 3) by decide +kernel) (by decide) k1 k2
theorem g6_lead_9 {a0 a1 a2 a3 : Int} {K : am_K} {M : am_M} {Q : Option am_V → am_M → Prop} (k : am_CallN m8_within [vi a2, vi 4] K M (fun r M' => am_AtN m6_lead 14 [some (vr a0), some (vi a1), some (vi a2), some (vi a3)] (r.toList ++ []) K M' Q)) : am_AtN m6_lead 9 [some (vr a0), some (vi a1), some (vi a2), some (vi a3)] [] K M Q := by
  refine s_iload_n (show decode (am_cc m6_lead) 9 = .ok (.iload_n 2, 1) by decide +kernel) rfl ?_
  refine s_iconst (show decode (am_cc m6_lead) 10 = .ok (.iconst 4, 1) by decide +kernel) ⟨by decide, by decide⟩ ?_
  exact n_callN (as := [vi a2, vi 4]) (stk := []) (show decode (am_cc m6_lead) 11 = .ok (.invokestatic 27, 3) by decide +kernel) lk_RX6_27 (by decide) (Nat.le_of_ble_eq_true rfl) ⟨rfl, rfl⟩ k
theorem g6_lead_14 {a0 a1 a2 a3 t0 : Int} {K : am_K} {M : am_M} {Q : Option am_V → am_M → Prop} (k1 : ¬ t0 = 0 → am_AtN m6_lead 18 [some (vr a0), some (vi a1), some (vi a2), some (vi a3)] [] K M Q) (k2 : t0 = 0 → am_AtN m6_lead 17 [some (vr a0), some (vi a1), some (vi a2), some (vi a3)] [] K M Q) : am_AtN m6_lead 14 [some (vr a0), some (vi a1), some (vi a2), some (vi a3)] [vi t0] K M Q := by
  exact s_if_ne (tgt := 18) (show decode (am_cc m6_lead) 14 = .ok (.ifCond .ne 4, 3) by decide +kernel) (by decide) k1 k2
theorem g6_lead_17 {a0 a1 a2 a3 : Int} {K : am_K} {M : am_M} {Q : Option am_V → am_M → Prop} (k : Q none M) : am_AtN m6_lead 17 [some (vr a0), some (vi a1), some (vi a2), some (vi a3)] [] K M Q := by
  exact s_return (show decode (am_cc m6_lead) 17 = .ok (.return_, 1) by decide +kernel) rfl k
theorem g6_lead_18 {a0 a1 a2 a3 : Int} {K : am_K} {M : am_M} {Q : Option am_V → am_M → Prop} {r0_0 : Int} {r0_1 : Int} {n1 : Nat} {q1 : List Int} (h1 : am_kd K a0 = some (6, 2, [r0_0, r0_1])) (h2 : -2147483648 ≤ a1 * 4 ∧ a1 * 4 ≤ 2147483647) (h3 : -2147483648 ≤ (a1 * 4) + a2 ∧ (a1 * 4) + a2 ≤ 2147483647) (h4 : am_kd K r0_0 = some (11, n1, q1)) (h5 : 0 ≤ (a1 * 4) + a2) (h6 : (a1 * 4) + a2 < (n1 : Int)) (k : Q none (am_up M r0_0 ((a1 * 4) + a2) a3)) : am_AtN m6_lead 18 [some (vr a0), some (vi a1), some (vi a2), some (vi a3)] [] K M Q := by
  refine s_aload_n (show decode (am_cc m6_lead) 18 = .ok (.aload_n 0, 1) by decide +kernel) rfl ?_
  refine s_getf (k := 0) (v := vr r0_0) (show decode (am_cc m6_lead) 19 = .ok (.getfield 9, 3) by decide +kernel) h1 (by decide) rfl jnX6 (by decide) lf_RX6_9 rfl ?_
  refine s_iload_n (show decode (am_cc m6_lead) 22 = .ok (.iload_n 1, 1) by decide +kernel) rfl ?_
  refine s_iconst (show decode (am_cc m6_lead) 23 = .ok (.iconst 4, 1) by decide +kernel) ⟨by decide, by decide⟩ ?_
  refine s_imul (show decode (am_cc m6_lead) 24 = .ok (.imul, 1) by decide +kernel) h2 ?_
  refine s_iload_n (show decode (am_cc m6_lead) 25 = .ok (.iload_n 2, 1) by decide +kernel) rfl ?_
  refine s_iadd (show decode (am_cc m6_lead) 26 = .ok (.iadd, 1) by decide +kernel) h3 ?_
  refine s_iload_n (show decode (am_cc m6_lead) 27 = .ok (.iload_n 3, 1) by decide +kernel) rfl ?_
  refine s_iastore (show decode (am_cc m6_lead) 28 = .ok (.iastore, 1) by decide +kernel) h4 h5 h6 ?_
  exact s_return (show decode (am_cc m6_lead) 29 = .ok (.return_, 1) by decide +kernel) rfl k
theorem g6_hold_0 {a0 a1 a2 : Int} {K : am_K} {M : am_M} {Q : Option am_V → am_M → Prop} (k : am_CallN m8_within [vi a1, vi 6] K M (fun r M' => am_AtN m6_hold 6 [some (vr a0), some (vi a1), some (vi a2)] (r.toList ++ []) K M' Q)) : am_AtN m6_hold 0 [some (vr a0), some (vi a1), some (vi a2)] [] K M Q := by
  refine s_iload_n (show decode (am_cc m6_hold) 0 = .ok (.iload_n 1, 1) by decide +kernel) rfl ?_
  refine s_bipush (show decode (am_cc m6_hold) 1 = .ok (.bipush 6, 2) by decide +kernel) ⟨by decide, by decide⟩ (by decide) ?_
  exact n_callN (as := [vi a1, vi 6]) (stk := []) (show decode (am_cc m6_hold) 3 = .ok (.invokestatic 27, 3) by decide +kernel) lk_RX6_27 (by decide) (Nat.le_of_ble_eq_true rfl) ⟨rfl, rfl⟩ k
theorem g6_hold_6 {a0 a1 a2 t0 : Int} {K : am_K} {M : am_M} {Q : Option am_V → am_M → Prop} (k1 : t0 = 0 → am_AtN m6_hold 19 [some (vr a0), some (vi a1), some (vi a2)] [] K M Q) (k2 : ¬ (t0 = 0) → am_AtN m6_hold 9 [some (vr a0), some (vi a1), some (vi a2)] [] K M Q) : am_AtN m6_hold 6 [some (vr a0), some (vi a1), some (vi a2)] [vi t0] K M Q := by
  exact s_if_eq (tgt := 19) (show decode (am_cc m6_hold) 6 = .ok (.ifCond .eq 13, 3) by decide +kernel) (by decide) k1 k2
theorem g6_hold_9 {a0 a1 a2 : Int} {K : am_K} {M : am_M} {Q : Option am_V → am_M → Prop} {r0_0 : Int} {r0_1 : Int} (h1 : am_kd K a0 = some (6, 2, [r0_0, r0_1])) (k : am_CallN m8_oneIf [vi a2] K M (fun r M' => am_AtN m6_hold 18 [some (vr a0), some (vi a1), some (vi a2)] (r.toList ++ [vi a1, vr r0_1]) K M' Q)) : am_AtN m6_hold 9 [some (vr a0), some (vi a1), some (vi a2)] [] K M Q := by
  refine s_aload_n (show decode (am_cc m6_hold) 9 = .ok (.aload_n 0, 1) by decide +kernel) rfl ?_
  refine s_getf (k := 1) (v := vr r0_1) (show decode (am_cc m6_hold) 10 = .ok (.getfield 15, 3) by decide +kernel) h1 (by decide) rfl jnX6 (by decide) lf_RX6_15 rfl ?_
  refine s_iload_n (show decode (am_cc m6_hold) 13 = .ok (.iload_n 1, 1) by decide +kernel) rfl ?_
  refine s_iload_n (show decode (am_cc m6_hold) 14 = .ok (.iload_n 2, 1) by decide +kernel) rfl ?_
  exact n_callN (as := [vi a2]) (stk := [vi a1, vr r0_1]) (show decode (am_cc m6_hold) 15 = .ok (.invokestatic 31, 3) by decide +kernel) lk_RX6_31 (by decide) (Nat.le_of_ble_eq_true rfl) ⟨rfl, rfl⟩ k
theorem g6_hold_18 {a0 a1 a2 t0 t1 t2 : Int} {K : am_K} {M : am_M} {Q : Option am_V → am_M → Prop} {n0 : Nat} {q0 : List Int} (h1 : am_kd K t0 = some (11, n0, q0)) (h2 : 0 ≤ t1) (h3 : t1 < (n0 : Int)) (k : am_AtN m6_hold 19 [some (vr a0), some (vi a1), some (vi a2)] [] K (am_up M t0 t1 t2) Q) : am_AtN m6_hold 18 [some (vr a0), some (vi a1), some (vi a2)] [vi t2, vi t1, vr t0] K M Q := by
  refine s_iastore (show decode (am_cc m6_hold) 18 = .ok (.iastore, 1) by decide +kernel) h1 h2 h3 ?_
  exact k
theorem g6_hold_19 {a0 a1 a2 : Int} {K : am_K} {M : am_M} {Q : Option am_V → am_M → Prop} (k : Q none M) : am_AtN m6_hold 19 [some (vr a0), some (vi a1), some (vi a2)] [] K M Q := by
  exact s_return (show decode (am_cc m6_hold) 19 = .ok (.return_, 1) by decide +kernel) rfl k
theorem g6_copy_0 {a0 a1 : Int} {K : am_K} {M : am_M} {Q : Option am_V → am_M → Prop} (k : am_AtN m6_copy 2 [some (vr a0), some (vr a1), some (vi 0)] [] K M Q) : am_AtN m6_copy 0 [some (vr a0), some (vr a1), none] [] K M Q := by
  refine s_iconst (show decode (am_cc m6_copy) 0 = .ok (.iconst 0, 1) by decide +kernel) ⟨by decide, by decide⟩ ?_
  refine s_istore_n (show decode (am_cc m6_copy) 1 = .ok (.istore_n 2, 1) by decide +kernel) (by decide) ?_
  exact k
theorem g6_copy_2 {a0 a1 a2 : Int} {K : am_K} {M : am_M} {Q : Option am_V → am_M → Prop} (k1 : 24 ≤ a2 → am_AtN m6_copy 26 [some (vr a0), some (vr a1), some (vi a2)] [] K M Q) (k2 : ¬ (24 ≤ a2) → am_AtN m6_copy 8 [some (vr a0), some (vr a1), some (vi a2)] [] K M Q) : am_AtN m6_copy 2 [some (vr a0), some (vr a1), some (vi a2)] [] K M Q := by
  refine s_iload_n (show decode (am_cc m6_copy) 2 = .ok (.iload_n 2, 1) by decide +kernel) rfl ?_
  refine s_bipush (show decode (am_cc m6_copy) 3 = .ok (.bipush 24, 2) by decide +kernel) ⟨by decide, by decide⟩ (by decide) ?_
  exact s_icmp_ge (tgt := 26) (show decode (am_cc m6_copy) 5 = .ok (.if_icmp .ge 21, 3) by decide +kernel) (by decide) k1 k2
theorem g6_copy_8 {a0 a1 a2 : Int} {K : am_K} {M : am_M} {Q : Option am_V → am_M → Prop} {r0_0 : Int} {r0_1 : Int} {r1_0 : Int} {r1_1 : Int} {n2 : Nat} {q2 : List Int} {n3 : Nat} {q3 : List Int} (h1 : am_kd K a0 = some (6, 2, [r0_0, r0_1])) (h2 : am_kd K a1 = some (6, 2, [r1_0, r1_1])) (h3 : am_kd K r1_0 = some (11, n2, q2)) (h4 : 0 ≤ a2) (h5 : a2 < (n2 : Int)) (h6 : am_kd K r0_0 = some (11, n3, q3)) (h7 : 0 ≤ a2) (h8 : a2 < (n3 : Int)) (h9 : -2147483648 ≤ a2 + 1 ∧ a2 + 1 ≤ 2147483647) (k : am_AtN m6_copy 2 [some (vr a0), some (vr a1), some (vi (a2 + 1))] [] K (am_up M r0_0 a2 (M r1_0 a2)) Q) : am_AtN m6_copy 8 [some (vr a0), some (vr a1), some (vi a2)] [] K M Q := by
  refine s_aload_n (show decode (am_cc m6_copy) 8 = .ok (.aload_n 0, 1) by decide +kernel) rfl ?_
  refine s_getf (k := 0) (v := vr r0_0) (show decode (am_cc m6_copy) 9 = .ok (.getfield 9, 3) by decide +kernel) h1 (by decide) rfl jnX6 (by decide) lf_RX6_9 rfl ?_
  refine s_iload_n (show decode (am_cc m6_copy) 12 = .ok (.iload_n 2, 1) by decide +kernel) rfl ?_
  refine s_aload_n (show decode (am_cc m6_copy) 13 = .ok (.aload_n 1, 1) by decide +kernel) rfl ?_
  refine s_getf (k := 0) (v := vr r1_0) (show decode (am_cc m6_copy) 14 = .ok (.getfield 9, 3) by decide +kernel) h2 (by decide) rfl jnX6 (by decide) lf_RX6_9 rfl ?_
  refine s_iload_n (show decode (am_cc m6_copy) 17 = .ok (.iload_n 2, 1) by decide +kernel) rfl ?_
  refine s_iaload (show decode (am_cc m6_copy) 18 = .ok (.iaload, 1) by decide +kernel) h3 h4 h5 ?_
  refine s_iastore (show decode (am_cc m6_copy) 19 = .ok (.iastore, 1) by decide +kernel) h6 h7 h8 ?_
  refine s_iinc (show decode (am_cc m6_copy) 20 = .ok (.iinc 2 1, 3) by decide +kernel) rfl (by decide) h9 ?_
  refine s_goto (tgt := 2) (show decode (am_cc m6_copy) 23 = .ok (.goto (-21), 3) by decide +kernel) (by decide) ?_
  exact k
theorem g6_copy_26 {a0 a1 a2 : Int} {K : am_K} {M : am_M} {Q : Option am_V → am_M → Prop} (k : am_AtN m6_copy 28 [some (vr a0), some (vr a1), some (vi 0)] [] K M Q) : am_AtN m6_copy 26 [some (vr a0), some (vr a1), some (vi a2)] [] K M Q := by
  refine s_iconst (show decode (am_cc m6_copy) 26 = .ok (.iconst 0, 1) by decide +kernel) ⟨by decide, by decide⟩ ?_
  refine s_istore_n (show decode (am_cc m6_copy) 27 = .ok (.istore_n 2, 1) by decide +kernel) (by decide) ?_
  exact k
theorem g6_copy_28 {a0 a1 a2 : Int} {K : am_K} {M : am_M} {Q : Option am_V → am_M → Prop} (k1 : 6 ≤ a2 → am_AtN m6_copy 52 [some (vr a0), some (vr a1), some (vi a2)] [] K M Q) (k2 : ¬ (6 ≤ a2) → am_AtN m6_copy 34 [some (vr a0), some (vr a1), some (vi a2)] [] K M Q) : am_AtN m6_copy 28 [some (vr a0), some (vr a1), some (vi a2)] [] K M Q := by
  refine s_iload_n (show decode (am_cc m6_copy) 28 = .ok (.iload_n 2, 1) by decide +kernel) rfl ?_
  refine s_bipush (show decode (am_cc m6_copy) 29 = .ok (.bipush 6, 2) by decide +kernel) ⟨by decide, by decide⟩ (by decide) ?_
  exact s_icmp_ge (tgt := 52) (show decode (am_cc m6_copy) 31 = .ok (.if_icmp .ge 21, 3) by decide +kernel) (by decide) k1 k2
theorem g6_copy_34 {a0 a1 a2 : Int} {K : am_K} {M : am_M} {Q : Option am_V → am_M → Prop} {r0_0 : Int} {r0_1 : Int} {r1_0 : Int} {r1_1 : Int} {n2 : Nat} {q2 : List Int} {n3 : Nat} {q3 : List Int} (h1 : am_kd K a0 = some (6, 2, [r0_0, r0_1])) (h2 : am_kd K a1 = some (6, 2, [r1_0, r1_1])) (h3 : am_kd K r1_1 = some (11, n2, q2)) (h4 : 0 ≤ a2) (h5 : a2 < (n2 : Int)) (h6 : am_kd K r0_1 = some (11, n3, q3)) (h7 : 0 ≤ a2) (h8 : a2 < (n3 : Int)) (h9 : -2147483648 ≤ a2 + 1 ∧ a2 + 1 ≤ 2147483647) (k : am_AtN m6_copy 28 [some (vr a0), some (vr a1), some (vi (a2 + 1))] [] K (am_up M r0_1 a2 (M r1_1 a2)) Q) : am_AtN m6_copy 34 [some (vr a0), some (vr a1), some (vi a2)] [] K M Q := by
  refine s_aload_n (show decode (am_cc m6_copy) 34 = .ok (.aload_n 0, 1) by decide +kernel) rfl ?_
  refine s_getf (k := 1) (v := vr r0_1) (show decode (am_cc m6_copy) 35 = .ok (.getfield 15, 3) by decide +kernel) h1 (by decide) rfl jnX6 (by decide) lf_RX6_15 rfl ?_
  refine s_iload_n (show decode (am_cc m6_copy) 38 = .ok (.iload_n 2, 1) by decide +kernel) rfl ?_
  refine s_aload_n (show decode (am_cc m6_copy) 39 = .ok (.aload_n 1, 1) by decide +kernel) rfl ?_
  refine s_getf (k := 1) (v := vr r1_1) (show decode (am_cc m6_copy) 40 = .ok (.getfield 15, 3) by decide +kernel) h2 (by decide) rfl jnX6 (by decide) lf_RX6_15 rfl ?_
  refine s_iload_n (show decode (am_cc m6_copy) 43 = .ok (.iload_n 2, 1) by decide +kernel) rfl ?_
  refine s_iaload (show decode (am_cc m6_copy) 44 = .ok (.iaload, 1) by decide +kernel) h3 h4 h5 ?_
  refine s_iastore (show decode (am_cc m6_copy) 45 = .ok (.iastore, 1) by decide +kernel) h6 h7 h8 ?_
  refine s_iinc (show decode (am_cc m6_copy) 46 = .ok (.iinc 2 1, 3) by decide +kernel) rfl (by decide) h9 ?_
  refine s_goto (tgt := 28) (show decode (am_cc m6_copy) 49 = .ok (.goto (-21), 3) by decide +kernel) (by decide) ?_
  exact k
theorem g6_copy_52 {a0 a1 a2 : Int} {K : am_K} {M : am_M} {Q : Option am_V → am_M → Prop} (k : Q none M) : am_AtN m6_copy 52 [some (vr a0), some (vr a1), some (vi a2)] [] K M Q := by
  exact s_return (show decode (am_cc m6_copy) 52 = .ok (.return_, 1) by decide +kernel) rfl k
theorem g6_turnRound_0 {a0 : Int} {K : am_K} {M : am_M} {Q : Option am_V → am_M → Prop} (k : am_AtN m6_turnRound 4 [some (vr a0), some (vi 0), some (vi 0)] [] K M Q) : am_AtN m6_turnRound 0 [some (vr a0), none, none] [] K M Q := by
  refine s_iconst (show decode (am_cc m6_turnRound) 0 = .ok (.iconst 0, 1) by decide +kernel) ⟨by decide, by decide⟩ ?_
  refine s_istore_n (show decode (am_cc m6_turnRound) 1 = .ok (.istore_n 1, 1) by decide +kernel) (by decide) ?_
  refine s_iconst (show decode (am_cc m6_turnRound) 2 = .ok (.iconst 0, 1) by decide +kernel) ⟨by decide, by decide⟩ ?_
  refine s_istore_n (show decode (am_cc m6_turnRound) 3 = .ok (.istore_n 2, 1) by decide +kernel) (by decide) ?_
  exact k
theorem g6_turnRound_4 {a0 a1 a2 : Int} {K : am_K} {M : am_M} {Q : Option am_V → am_M → Prop} (k1 : 6 ≤ a2 → am_AtN m6_turnRound 39 [some (vr a0), some (vi a1), some (vi a2)] [] K M Q) (k2 : ¬ (6 ≤ a2) → am_AtN m6_turnRound 10 [some (vr a0), some (vi a1), some (vi a2)] [] K M Q) : am_AtN m6_turnRound 4 [some (vr a0), some (vi a1), some (vi a2)] [] K M Q := by
  refine s_iload_n (show decode (am_cc m6_turnRound) 4 = .ok (.iload_n 2, 1) by decide +kernel) rfl ?_
  refine s_bipush (show decode (am_cc m6_turnRound) 5 = .ok (.bipush 6, 2) by decide +kernel) ⟨by decide, by decide⟩ (by decide) ?_
  exact s_icmp_ge (tgt := 39) (show decode (am_cc m6_turnRound) 7 = .ok (.if_icmp .ge 32, 3) by decide +kernel) (by decide) k1 k2
theorem g6_turnRound_10 {a0 a1 a2 : Int} {K : am_K} {M : am_M} {Q : Option am_V → am_M → Prop} {r0_0 : Int} {r0_1 : Int} {n1 : Nat} {q1 : List Int} (h1 : am_kd K a0 = some (6, 2, [r0_0, r0_1])) (h2 : am_kd K r0_1 = some (11, n1, q1)) (h3 : 0 ≤ a2) (h4 : a2 < (n1 : Int)) (h5 : -2147483648 ≤ 1 - (M r0_1 a2) ∧ 1 - (M r0_1 a2) ≤ 2147483647) (h6 : 0 ≤ a2) (h7 : a2 < (n1 : Int)) (h8 : 0 ≤ a2) (h9 : a2 < (n1 : Int)) (h10 : -2147483648 ≤ a1 + ((am_up M r0_1 a2 (1 - (M r0_1 a2))) r0_1 a2) ∧ a1 + ((am_up M r0_1 a2 (1 - (M r0_1 a2))) r0_1 a2) ≤ 2147483647) (h11 : -2147483648 ≤ a2 + 1 ∧ a2 + 1 ≤ 2147483647) (k : am_AtN m6_turnRound 4 [some (vr a0), some (vi (a1 + ((am_up M r0_1 a2 (1 - (M r0_1 a2))) r0_1 a2))), some (vi (a2 + 1))] [] K (am_up M r0_1 a2 (1 - (M r0_1 a2))) Q) : am_AtN m6_turnRound 10 [some (vr a0), some (vi a1), some (vi a2)] [] K M Q := by
  refine s_aload_n (show decode (am_cc m6_turnRound) 10 = .ok (.aload_n 0, 1) by decide +kernel) rfl ?_
  refine s_getf (k := 1) (v := vr r0_1) (show decode (am_cc m6_turnRound) 11 = .ok (.getfield 15, 3) by decide +kernel) h1 (by decide) rfl jnX6 (by decide) lf_RX6_15 rfl ?_
  refine s_iload_n (show decode (am_cc m6_turnRound) 14 = .ok (.iload_n 2, 1) by decide +kernel) rfl ?_
  refine s_iconst (show decode (am_cc m6_turnRound) 15 = .ok (.iconst 1, 1) by decide +kernel) ⟨by decide, by decide⟩ ?_
  refine s_aload_n (show decode (am_cc m6_turnRound) 16 = .ok (.aload_n 0, 1) by decide +kernel) rfl ?_
  refine s_getf (k := 1) (v := vr r0_1) (show decode (am_cc m6_turnRound) 17 = .ok (.getfield 15, 3) by decide +kernel) h1 (by decide) rfl jnX6 (by decide) lf_RX6_15 rfl ?_
  refine s_iload_n (show decode (am_cc m6_turnRound) 20 = .ok (.iload_n 2, 1) by decide +kernel) rfl ?_
  refine s_iaload (show decode (am_cc m6_turnRound) 21 = .ok (.iaload, 1) by decide +kernel) h2 h3 h4 ?_
  refine s_isub (show decode (am_cc m6_turnRound) 22 = .ok (.isub, 1) by decide +kernel) h5 ?_
  refine s_iastore (show decode (am_cc m6_turnRound) 23 = .ok (.iastore, 1) by decide +kernel) h2 h6 h7 ?_
  refine s_iload_n (show decode (am_cc m6_turnRound) 24 = .ok (.iload_n 1, 1) by decide +kernel) rfl ?_
  refine s_aload_n (show decode (am_cc m6_turnRound) 25 = .ok (.aload_n 0, 1) by decide +kernel) rfl ?_
  refine s_getf (k := 1) (v := vr r0_1) (show decode (am_cc m6_turnRound) 26 = .ok (.getfield 15, 3) by decide +kernel) h1 (by decide) rfl jnX6 (by decide) lf_RX6_15 rfl ?_
  refine s_iload_n (show decode (am_cc m6_turnRound) 29 = .ok (.iload_n 2, 1) by decide +kernel) rfl ?_
  refine s_iaload (show decode (am_cc m6_turnRound) 30 = .ok (.iaload, 1) by decide +kernel) h2 h8 h9 ?_
  refine s_iadd (show decode (am_cc m6_turnRound) 31 = .ok (.iadd, 1) by decide +kernel) h10 ?_
  refine s_istore_n (show decode (am_cc m6_turnRound) 32 = .ok (.istore_n 1, 1) by decide +kernel) (by decide) ?_
  refine s_iinc (show decode (am_cc m6_turnRound) 33 = .ok (.iinc 2 1, 3) by decide +kernel) rfl (by decide) h11 ?_
  refine s_goto (tgt := 4) (show decode (am_cc m6_turnRound) 36 = .ok (.goto (-32), 3) by decide +kernel) (by decide) ?_
  exact k
theorem g6_turnRound_39 {a0 a1 a2 : Int} {K : am_K} {M : am_M} {Q : Option am_V → am_M → Prop} (k : Q (some (vi a1)) M) : am_AtN m6_turnRound 39 [some (vr a0), some (vi a1), some (vi a2)] [] K M Q := by
  refine s_iload_n (show decode (am_cc m6_turnRound) 39 = .ok (.iload_n 1, 1) by decide +kernel) rfl ?_
  exact s_ireturn (show decode (am_cc m6_turnRound) 40 = .ok (.ireturn, 1) by decide +kernel) rfl k
theorem g6_afterWord_0 {a0 a1 a2 : Int} {K : am_K} {M : am_M} {Q : Option am_V → am_M → Prop} (k : am_AtN m6_afterWord 5 [some (vr a0), some (vi a1), some (vi a2), some (vi a1), some (vi 0)] [] K M Q) : am_AtN m6_afterWord 0 [some (vr a0), some (vi a1), some (vi a2), none, none] [] K M Q := by
  refine s_iload_n (show decode (am_cc m6_afterWord) 0 = .ok (.iload_n 1, 1) by decide +kernel) rfl ?_
  refine s_istore_n (show decode (am_cc m6_afterWord) 1 = .ok (.istore_n 3, 1) by decide +kernel) (by decide) ?_
  refine s_iconst (show decode (am_cc m6_afterWord) 2 = .ok (.iconst 0, 1) by decide +kernel) ⟨by decide, by decide⟩ ?_
  refine s_istore (show decode (am_cc m6_afterWord) 3 = .ok (.istore 4, 2) by decide +kernel) (by decide) ?_
  exact k
theorem g6_afterWord_5 {a0 a1 a2 a3 a4 : Int} {K : am_K} {M : am_M} {Q : Option am_V → am_M → Prop} (k : am_CallN m8_wordLength [vi a2] K M (fun r M' => am_AtN m6_afterWord 11 [some (vr a0), some (vi a1), some (vi a2), some (vi a3), some (vi a4)] (r.toList ++ [vi a4]) K M' Q)) : am_AtN m6_afterWord 5 [some (vr a0), some (vi a1), some (vi a2), some (vi a3), some (vi a4)] [] K M Q := by
  refine s_iload (show decode (am_cc m6_afterWord) 5 = .ok (.iload 4, 2) by decide +kernel) rfl ?_
  refine s_iload_n (show decode (am_cc m6_afterWord) 7 = .ok (.iload_n 2, 1) by decide +kernel) rfl ?_
  exact n_callN (as := [vi a2]) (stk := [vi a4]) (show decode (am_cc m6_afterWord) 8 = .ok (.invokestatic 35, 3) by decide +kernel) lk_RX6_35 (by decide) (Nat.le_of_ble_eq_true rfl) ⟨rfl, rfl⟩ k
theorem g6_afterWord_11 {a0 a1 a2 a3 a4 t0 t1 : Int} {K : am_K} {M : am_M} {Q : Option am_V → am_M → Prop} (k1 : t1 ≤ t0 → am_AtN m6_afterWord 32 [some (vr a0), some (vi a1), some (vi a2), some (vi a3), some (vi a4)] [] K M Q) (k2 : ¬ (t1 ≤ t0) → am_AtN m6_afterWord 14 [some (vr a0), some (vi a1), some (vi a2), some (vi a3), some (vi a4)] [] K M Q) : am_AtN m6_afterWord 11 [some (vr a0), some (vi a1), some (vi a2), some (vi a3), some (vi a4)] [vi t1, vi t0] K M Q := by
  exact s_icmp_ge (tgt := 32) (show decode (am_cc m6_afterWord) 11 = .ok (.if_icmp .ge 21, 3) by decide +kernel) (by decide) k1 k2
theorem g6_afterWord_14 {a0 a1 a2 a3 a4 : Int} {K : am_K} {M : am_M} {Q : Option am_V → am_M → Prop} (k : am_CallN m8_wordLetter [vi a2, vi a4] K M (fun r M' => am_AtN m6_afterWord 22 [some (vr a0), some (vi a1), some (vi a2), some (vi a3), some (vi a4)] (r.toList ++ [vi a3, vr a0]) K M' Q)) : am_AtN m6_afterWord 14 [some (vr a0), some (vi a1), some (vi a2), some (vi a3), some (vi a4)] [] K M Q := by
  refine s_aload_n (show decode (am_cc m6_afterWord) 14 = .ok (.aload_n 0, 1) by decide +kernel) rfl ?_
  refine s_iload_n (show decode (am_cc m6_afterWord) 15 = .ok (.iload_n 3, 1) by decide +kernel) rfl ?_
  refine s_iload_n (show decode (am_cc m6_afterWord) 16 = .ok (.iload_n 2, 1) by decide +kernel) rfl ?_
  refine s_iload (show decode (am_cc m6_afterWord) 17 = .ok (.iload 4, 2) by decide +kernel) rfl ?_
  exact n_callN (as := [vi a2, vi a4]) (stk := [vi a3, vr a0]) (show decode (am_cc m6_afterWord) 19 = .ok (.invokestatic 39, 3) by decide +kernel) lk_RX6_39 (by decide) (Nat.le_of_ble_eq_true rfl) ⟨rfl, rfl⟩ k
theorem g6_afterWord_22 {a0 a1 a2 a3 a4 t0 t1 t2 : Int} {K : am_K} {M : am_M} {Q : Option am_V → am_M → Prop} {r0 : List Int} (h1 : am_kd K t0 = some (6, 2, r0)) (k : am_CallN m6_nextOf [vr t0, vi t1, vi t2] K M (fun r M' => am_AtN m6_afterWord 25 [some (vr a0), some (vi a1), some (vi a2), some (vi a3), some (vi a4)] (r.toList ++ []) K M' Q)) : am_AtN m6_afterWord 22 [some (vr a0), some (vi a1), some (vi a2), some (vi a3), some (vi a4)] [vi t2, vi t1, vr t0] K M Q := by
  exact n_callV (as := [vi t1, vi t2]) (stk := []) (show decode (am_cc m6_afterWord) 22 = .ok (.invokevirtual 43, 3) by decide +kernel) lk_RX6_43 h1 (by decide) rfl rfl (by decide) (Nat.le_of_ble_eq_true rfl) ⟨rfl, rfl⟩ k
theorem g6_afterWord_25 {a0 a1 a2 a3 a4 t0 : Int} {K : am_K} {M : am_M} {Q : Option am_V → am_M → Prop} (h1 : -2147483648 ≤ a4 + 1 ∧ a4 + 1 ≤ 2147483647) (k : am_AtN m6_afterWord 5 [some (vr a0), some (vi a1), some (vi a2), some (vi t0), some (vi (a4 + 1))] [] K M Q) : am_AtN m6_afterWord 25 [some (vr a0), some (vi a1), some (vi a2), some (vi a3), some (vi a4)] [vi t0] K M Q := by
  refine s_istore_n (show decode (am_cc m6_afterWord) 25 = .ok (.istore_n 3, 1) by decide +kernel) (by decide) ?_
  refine s_iinc (show decode (am_cc m6_afterWord) 26 = .ok (.iinc 4 1, 3) by decide +kernel) rfl (by decide) h1 ?_
  refine s_goto (tgt := 5) (show decode (am_cc m6_afterWord) 29 = .ok (.goto (-24), 3) by decide +kernel) (by decide) ?_
  exact k
theorem g6_afterWord_32 {a0 a1 a2 a3 a4 : Int} {K : am_K} {M : am_M} {Q : Option am_V → am_M → Prop} (k : Q (some (vi a3)) M) : am_AtN m6_afterWord 32 [some (vr a0), some (vi a1), some (vi a2), some (vi a3), some (vi a4)] [] K M Q := by
  refine s_iload_n (show decode (am_cc m6_afterWord) 32 = .ok (.iload_n 3, 1) by decide +kernel) rfl ?_
  exact s_ireturn (show decode (am_cc m6_afterWord) 33 = .ok (.ireturn, 1) by decide +kernel) rfl k
theorem g6_draw_0 {a0 a1 a2 a3 : Int} {K : am_K} {M : am_M} {Q : Option am_V → am_M → Prop} (k : am_AtN m6_draw 3 [some (vr a0), some (vi a1), some (vi a2), some (vi a3), some (vi 0), none] [] K M Q) : am_AtN m6_draw 0 [some (vr a0), some (vi a1), some (vi a2), some (vi a3), none, none] [] K M Q := by
  refine s_iconst (show decode (am_cc m6_draw) 0 = .ok (.iconst 0, 1) by decide +kernel) ⟨by decide, by decide⟩ ?_
  refine s_istore (show decode (am_cc m6_draw) 1 = .ok (.istore 4, 2) by decide +kernel) (by decide) ?_
  exact k
theorem g6_draw_3 {a0 a1 a2 a3 a4 : Int} {K : am_K} {M : am_M} {Q : Option am_V → am_M → Prop} (k1 : 6 ≤ a4 → am_AtN m6_draw 62 [some (vr a0), some (vi a1), some (vi a2), some (vi a3), some (vi a4), none] [] K M Q) (k2 : ¬ (6 ≤ a4) → am_AtN m6_draw 10 [some (vr a0), some (vi a1), some (vi a2), some (vi a3), some (vi a4), none] [] K M Q) : am_AtN m6_draw 3 [some (vr a0), some (vi a1), some (vi a2), some (vi a3), some (vi a4), none] [] K M Q := by
  refine s_iload (show decode (am_cc m6_draw) 3 = .ok (.iload 4, 2) by decide +kernel) rfl ?_
  refine s_bipush (show decode (am_cc m6_draw) 5 = .ok (.bipush 6, 2) by decide +kernel) ⟨by decide, by decide⟩ (by decide) ?_
  exact s_icmp_ge (tgt := 62) (show decode (am_cc m6_draw) 7 = .ok (.if_icmp .ge 55, 3) by decide +kernel) (by decide) k1 k2
theorem g6_draw_10 {a0 a1 a2 a3 a4 : Int} {K : am_K} {M : am_M} {Q : Option am_V → am_M → Prop} (k : am_CallN m6_kindHolds [vi a1, vi a4, vi a3] K M (fun r M' => am_AtN m6_draw 20 [some (vr a0), some (vi a1), some (vi a2), some (vi a3), some (vi a4), none] (r.toList ++ [vi a4, vr a0]) K M' Q)) : am_AtN m6_draw 10 [some (vr a0), some (vi a1), some (vi a2), some (vi a3), some (vi a4), none] [] K M Q := by
  refine s_aload_n (show decode (am_cc m6_draw) 10 = .ok (.aload_n 0, 1) by decide +kernel) rfl ?_
  refine s_iload (show decode (am_cc m6_draw) 11 = .ok (.iload 4, 2) by decide +kernel) rfl ?_
  refine s_iload_n (show decode (am_cc m6_draw) 13 = .ok (.iload_n 1, 1) by decide +kernel) rfl ?_
  refine s_iload (show decode (am_cc m6_draw) 14 = .ok (.iload 4, 2) by decide +kernel) rfl ?_
  refine s_iload_n (show decode (am_cc m6_draw) 16 = .ok (.iload_n 3, 1) by decide +kernel) rfl ?_
  exact n_callS (as := [vi a1, vi a4, vi a3]) (stk := [vi a4, vr a0]) (show decode (am_cc m6_draw) 17 = .ok (.invokestatic 46, 3) by decide +kernel) lk_RX6_46 (by decide) (Nat.le_of_ble_eq_true rfl) ⟨rfl, rfl⟩ k
theorem g6_draw_20 {a0 a1 a2 a3 a4 t0 t1 t2 : Int} {K : am_K} {M : am_M} {Q : Option am_V → am_M → Prop} {r0 : List Int} (h1 : am_kd K t0 = some (6, 2, r0)) (k : am_CallN m6_hold [vr t0, vi t1, vi t2] K M (fun r M' => am_AtN m6_draw 23 [some (vr a0), some (vi a1), some (vi a2), some (vi a3), some (vi a4), none] (r.toList ++ []) K M' Q)) : am_AtN m6_draw 20 [some (vr a0), some (vi a1), some (vi a2), some (vi a3), some (vi a4), none] [vi t2, vi t1, vr t0] K M Q := by
  exact n_callV (as := [vi t1, vi t2]) (stk := []) (show decode (am_cc m6_draw) 20 = .ok (.invokevirtual 50, 3) by decide +kernel) lk_RX6_50 h1 (by decide) rfl rfl (by decide) (Nat.le_of_ble_eq_true rfl) ⟨rfl, rfl⟩ k
theorem g6_draw_23 {a0 a1 a2 a3 a4 : Int} {K : am_K} {M : am_M} {Q : Option am_V → am_M → Prop} (k : am_AtN m6_draw 26 [some (vr a0), some (vi a1), some (vi a2), some (vi a3), some (vi a4), some (vi 0)] [] K M Q) : am_AtN m6_draw 23 [some (vr a0), some (vi a1), some (vi a2), some (vi a3), some (vi a4), none] [] K M Q := by
  refine s_iconst (show decode (am_cc m6_draw) 23 = .ok (.iconst 0, 1) by decide +kernel) ⟨by decide, by decide⟩ ?_
  refine s_istore (show decode (am_cc m6_draw) 24 = .ok (.istore 5, 2) by decide +kernel) (by decide) ?_
  exact k
theorem g6_draw_26 {a0 a1 a2 a3 a4 a5 : Int} {K : am_K} {M : am_M} {Q : Option am_V → am_M → Prop} (k1 : a3 ≤ a5 → am_AtN m6_draw 56 [some (vr a0), some (vi a1), some (vi a2), some (vi a3), some (vi a4), some (vi a5)] [] K M Q) (k2 : ¬ (a3 ≤ a5) → am_AtN m6_draw 32 [some (vr a0), some (vi a1), some (vi a2), some (vi a3), some (vi a4), some (vi a5)] [] K M Q) : am_AtN m6_draw 26 [some (vr a0), some (vi a1), some (vi a2), some (vi a3), some (vi a4), some (vi a5)] [] K M Q := by
  refine s_iload (show decode (am_cc m6_draw) 26 = .ok (.iload 5, 2) by decide +kernel) rfl ?_
  refine s_iload_n (show decode (am_cc m6_draw) 28 = .ok (.iload_n 3, 1) by decide +kernel) rfl ?_
  exact s_icmp_ge (tgt := 56) (show decode (am_cc m6_draw) 29 = .ok (.if_icmp .ge 27, 3) by decide +kernel) (by decide) k1 k2
theorem g6_draw_32 {a0 a1 a2 a3 a4 a5 : Int} {K : am_K} {M : am_M} {Q : Option am_V → am_M → Prop} (k : am_CallN m6_kindNext [vi a1, vi a2, vi a4, vi a5, vi a3] K M (fun r M' => am_AtN m6_draw 47 [some (vr a0), some (vi a1), some (vi a2), some (vi a3), some (vi a4), some (vi a5)] (r.toList ++ [vi a5, vi a4, vr a0]) K M' Q)) : am_AtN m6_draw 32 [some (vr a0), some (vi a1), some (vi a2), some (vi a3), some (vi a4), some (vi a5)] [] K M Q := by
  refine s_aload_n (show decode (am_cc m6_draw) 32 = .ok (.aload_n 0, 1) by decide +kernel) rfl ?_
  refine s_iload (show decode (am_cc m6_draw) 33 = .ok (.iload 4, 2) by decide +kernel) rfl ?_
  refine s_iload (show decode (am_cc m6_draw) 35 = .ok (.iload 5, 2) by decide +kernel) rfl ?_
  refine s_iload_n (show decode (am_cc m6_draw) 37 = .ok (.iload_n 1, 1) by decide +kernel) rfl ?_
  refine s_iload_n (show decode (am_cc m6_draw) 38 = .ok (.iload_n 2, 1) by decide +kernel) rfl ?_
  refine s_iload (show decode (am_cc m6_draw) 39 = .ok (.iload 4, 2) by decide +kernel) rfl ?_
  refine s_iload (show decode (am_cc m6_draw) 41 = .ok (.iload 5, 2) by decide +kernel) rfl ?_
  refine s_iload_n (show decode (am_cc m6_draw) 43 = .ok (.iload_n 3, 1) by decide +kernel) rfl ?_
  exact n_callS (as := [vi a1, vi a2, vi a4, vi a5, vi a3]) (stk := [vi a5, vi a4, vr a0]) (show decode (am_cc m6_draw) 44 = .ok (.invokestatic 54, 3) by decide +kernel) lk_RX6_54 (by decide) (Nat.le_of_ble_eq_true rfl) ⟨rfl, rfl⟩ k
theorem g6_draw_47 {a0 a1 a2 a3 a4 a5 t0 t1 t2 t3 : Int} {K : am_K} {M : am_M} {Q : Option am_V → am_M → Prop} {r0 : List Int} (h1 : am_kd K t0 = some (6, 2, r0)) (k : am_CallN m6_lead [vr t0, vi t1, vi t2, vi t3] K M (fun r M' => am_AtN m6_draw 50 [some (vr a0), some (vi a1), some (vi a2), some (vi a3), some (vi a4), some (vi a5)] (r.toList ++ []) K M' Q)) : am_AtN m6_draw 47 [some (vr a0), some (vi a1), some (vi a2), some (vi a3), some (vi a4), some (vi a5)] [vi t3, vi t2, vi t1, vr t0] K M Q := by
  exact n_callV (as := [vi t1, vi t2, vi t3]) (stk := []) (show decode (am_cc m6_draw) 47 = .ok (.invokevirtual 58, 3) by decide +kernel) lk_RX6_58 h1 (by decide) rfl rfl (by decide) (Nat.le_of_ble_eq_true rfl) ⟨rfl, rfl⟩ k
theorem g6_draw_50 {a0 a1 a2 a3 a4 a5 : Int} {K : am_K} {M : am_M} {Q : Option am_V → am_M → Prop} (h1 : -2147483648 ≤ a5 + 1 ∧ a5 + 1 ≤ 2147483647) (k : am_AtN m6_draw 26 [some (vr a0), some (vi a1), some (vi a2), some (vi a3), some (vi a4), some (vi (a5 + 1))] [] K M Q) : am_AtN m6_draw 50 [some (vr a0), some (vi a1), some (vi a2), some (vi a3), some (vi a4), some (vi a5)] [] K M Q := by
  refine s_iinc (show decode (am_cc m6_draw) 50 = .ok (.iinc 5 1, 3) by decide +kernel) rfl (by decide) h1 ?_
  refine s_goto (tgt := 26) (show decode (am_cc m6_draw) 53 = .ok (.goto (-27), 3) by decide +kernel) (by decide) ?_
  exact k
theorem g6_draw_56 {a0 a1 a2 a3 a4 a5 : Int} {K : am_K} {M : am_M} {Q : Option am_V → am_M → Prop} (h1 : -2147483648 ≤ a4 + 1 ∧ a4 + 1 ≤ 2147483647) (k : am_AtN m6_draw 3 [some (vr a0), some (vi a1), some (vi a2), some (vi a3), some (vi (a4 + 1)), none] [] K M Q) : am_AtN m6_draw 56 [some (vr a0), some (vi a1), some (vi a2), some (vi a3), some (vi a4), some (vi a5)] [] K M Q := by
  refine s_iinc (show decode (am_cc m6_draw) 56 = .ok (.iinc 4 1, 3) by decide +kernel) rfl (by decide) h1 ?_
  refine s_goto (tgt := 3) (show decode (am_cc m6_draw) 59 = .ok (.goto (-56), 3) by decide +kernel) (by decide) ?_
  refine am_fg 5 ?_
  exact k
theorem g6_draw_62 {a0 a1 a2 a3 a4 : Int} {K : am_K} {M : am_M} {Q : Option am_V → am_M → Prop} (k : Q none M) : am_AtN m6_draw 62 [some (vr a0), some (vi a1), some (vi a2), some (vi a3), some (vi a4), none] [] K M Q := by
  exact s_return (show decode (am_cc m6_draw) 62 = .ok (.return_, 1) by decide +kernel) rfl k
theorem g6_kindHolds_0 {a0 a1 a2 : Int} {K : am_K} {M : am_M} {Q : Option am_V → am_M → Prop} (kd : (a0 < 1 ∨ 7 < a0) → am_AtN m6_kindHolds 87 [some (vi a0), some (vi a1), some (vi a2)] [] K M Q) (k1 : a0 = 1 → am_AtN m6_kindHolds 44 [some (vi a0), some (vi a1), some (vi a2)] [] K M Q) (k2 : a0 = 2 → am_AtN m6_kindHolds 55 [some (vi a0), some (vi a1), some (vi a2)] [] K M Q) (k3 : a0 = 3 → am_AtN m6_kindHolds 66 [some (vi a0), some (vi a1), some (vi a2)] [] K M Q) (k4 : a0 = 4 → am_AtN m6_kindHolds 66 [some (vi a0), some (vi a1), some (vi a2)] [] K M Q) (k5 : a0 = 5 → am_AtN m6_kindHolds 55 [some (vi a0), some (vi a1), some (vi a2)] [] K M Q) (k6 : a0 = 6 → am_AtN m6_kindHolds 55 [some (vi a0), some (vi a1), some (vi a2)] [] K M Q) (k7 : a0 = 7 → am_AtN m6_kindHolds 76 [some (vi a0), some (vi a1), some (vi a2)] [] K M Q) : am_AtN m6_kindHolds 0 [some (vi a0), some (vi a1), some (vi a2)] [] K M Q := by
  refine s_iload_n (show decode (am_cc m6_kindHolds) 0 = .ok (.iload_n 0, 1) by decide +kernel) rfl ?_
  by_cases hd0 : a0 < 1 ∨ 7 < a0
  · refine s_tableOut (tgt := 87) (show decode (am_cc m6_kindHolds) 1 = .ok (.tableswitch 86 1 7 #[43, 54, 65, 65, 54, 54, 75], 43) by decide +kernel) hd0 (by decide) ?_
    exact kd hd0
  · have hc0 : a0 = 1 ∨ a0 = 2 ∨ a0 = 3 ∨ a0 = 4 ∨ a0 = 5 ∨ a0 = 6 ∨ a0 = 7 := by omega
    rcases hc0 with hc0 | hc0 | hc0 | hc0 | hc0 | hc0 | hc0
    · refine s_tableIn (tgt := 44) (off := 43) (show decode (am_cc m6_kindHolds) 1 = .ok (.tableswitch 86 1 7 #[43, 54, 65, 65, 54, 54, 75], 43) by decide +kernel) 0 (by omega) (by decide) (by decide) (by decide) ?_
      exact k1 hc0
    · refine s_tableIn (tgt := 55) (off := 54) (show decode (am_cc m6_kindHolds) 1 = .ok (.tableswitch 86 1 7 #[43, 54, 65, 65, 54, 54, 75], 43) by decide +kernel) 1 (by omega) (by decide) (by decide) (by decide) ?_
      exact k2 hc0
    · refine s_tableIn (tgt := 66) (off := 65) (show decode (am_cc m6_kindHolds) 1 = .ok (.tableswitch 86 1 7 #[43, 54, 65, 65, 54, 54, 75], 43) by decide +kernel) 2 (by omega) (by decide) (by decide) (by decide) ?_
      exact k3 hc0
    · refine s_tableIn (tgt := 66) (off := 65) (show decode (am_cc m6_kindHolds) 1 = .ok (.tableswitch 86 1 7 #[43, 54, 65, 65, 54, 54, 75], 43) by decide +kernel) 3 (by omega) (by decide) (by decide) (by decide) ?_
      exact k4 hc0
    · refine s_tableIn (tgt := 55) (off := 54) (show decode (am_cc m6_kindHolds) 1 = .ok (.tableswitch 86 1 7 #[43, 54, 65, 65, 54, 54, 75], 43) by decide +kernel) 4 (by omega) (by decide) (by decide) (by decide) ?_
      exact k5 hc0
    · refine s_tableIn (tgt := 55) (off := 54) (show decode (am_cc m6_kindHolds) 1 = .ok (.tableswitch 86 1 7 #[43, 54, 65, 65, 54, 54, 75], 43) by decide +kernel) 5 (by omega) (by decide) (by decide) (by decide) ?_
      exact k6 hc0
    · refine s_tableIn (tgt := 76) (off := 75) (show decode (am_cc m6_kindHolds) 1 = .ok (.tableswitch 86 1 7 #[43, 54, 65, 65, 54, 54, 75], 43) by decide +kernel) 6 (by omega) (by decide) (by decide) (by decide) ?_
      exact k7 hc0
theorem g6_kindHolds_44 {a0 a1 a2 : Int} {K : am_K} {M : am_M} {Q : Option am_V → am_M → Prop} (k1 : a2 ≤ a1 → am_AtN m6_kindHolds 53 [some (vi a0), some (vi a1), some (vi a2)] [] K M Q) (k2 : ¬ (a2 ≤ a1) → am_AtN m6_kindHolds 49 [some (vi a0), some (vi a1), some (vi a2)] [] K M Q) : am_AtN m6_kindHolds 44 [some (vi a0), some (vi a1), some (vi a2)] [] K M Q := by
  refine s_iload_n (show decode (am_cc m6_kindHolds) 44 = .ok (.iload_n 1, 1) by decide +kernel) rfl ?_
  refine s_iload_n (show decode (am_cc m6_kindHolds) 45 = .ok (.iload_n 2, 1) by decide +kernel) rfl ?_
  exact s_icmp_ge (tgt := 53) (show decode (am_cc m6_kindHolds) 46 = .ok (.if_icmp .ge 7, 3) by decide +kernel) (by decide) k1 k2
theorem g6_kindHolds_49 {a0 a1 a2 : Int} {K : am_K} {M : am_M} {Q : Option am_V → am_M → Prop} (k : am_AtN m6_kindHolds 54 [some (vi a0), some (vi a1), some (vi a2)] [vi 1] K M Q) : am_AtN m6_kindHolds 49 [some (vi a0), some (vi a1), some (vi a2)] [] K M Q := by
  refine s_iconst (show decode (am_cc m6_kindHolds) 49 = .ok (.iconst 1, 1) by decide +kernel) ⟨by decide, by decide⟩ ?_
  refine s_goto (tgt := 54) (show decode (am_cc m6_kindHolds) 50 = .ok (.goto 4, 3) by decide +kernel) (by decide) ?_
  exact k
theorem g6_kindHolds_53 {a0 a1 a2 : Int} {K : am_K} {M : am_M} {Q : Option am_V → am_M → Prop} (k : am_AtN m6_kindHolds 54 [some (vi a0), some (vi a1), some (vi a2)] [vi 0] K M Q) : am_AtN m6_kindHolds 53 [some (vi a0), some (vi a1), some (vi a2)] [] K M Q := by
  refine s_iconst (show decode (am_cc m6_kindHolds) 53 = .ok (.iconst 0, 1) by decide +kernel) ⟨by decide, by decide⟩ ?_
  exact k
theorem g6_kindHolds_54 {a0 a1 a2 t0 : Int} {K : am_K} {M : am_M} {Q : Option am_V → am_M → Prop} (h1 : t0 = 0 ∨ t0 = 1) (k : Q (some (vi t0)) M) : am_AtN m6_kindHolds 54 [some (vi a0), some (vi a1), some (vi a2)] [vi t0] K M Q := by
  exact s_zreturn (show decode (am_cc m6_kindHolds) 54 = .ok (.ireturn, 1) by decide +kernel) rfl h1 k
theorem g6_kindHolds_55 {a0 a1 a2 : Int} {K : am_K} {M : am_M} {Q : Option am_V → am_M → Prop} (k1 : ¬ a1 = 1 → am_AtN m6_kindHolds 64 [some (vi a0), some (vi a1), some (vi a2)] [] K M Q) (k2 : a1 = 1 → am_AtN m6_kindHolds 60 [some (vi a0), some (vi a1), some (vi a2)] [] K M Q) : am_AtN m6_kindHolds 55 [some (vi a0), some (vi a1), some (vi a2)] [] K M Q := by
  refine s_iload_n (show decode (am_cc m6_kindHolds) 55 = .ok (.iload_n 1, 1) by decide +kernel) rfl ?_
  refine s_iconst (show decode (am_cc m6_kindHolds) 56 = .ok (.iconst 1, 1) by decide +kernel) ⟨by decide, by decide⟩ ?_
  exact s_icmp_ne (tgt := 64) (show decode (am_cc m6_kindHolds) 57 = .ok (.if_icmp .ne 7, 3) by decide +kernel) (by decide) k1 k2
theorem g6_kindHolds_60 {a0 a1 a2 : Int} {K : am_K} {M : am_M} {Q : Option am_V → am_M → Prop} (k : am_AtN m6_kindHolds 65 [some (vi a0), some (vi a1), some (vi a2)] [vi 1] K M Q) : am_AtN m6_kindHolds 60 [some (vi a0), some (vi a1), some (vi a2)] [] K M Q := by
  refine s_iconst (show decode (am_cc m6_kindHolds) 60 = .ok (.iconst 1, 1) by decide +kernel) ⟨by decide, by decide⟩ ?_
  refine s_goto (tgt := 65) (show decode (am_cc m6_kindHolds) 61 = .ok (.goto 4, 3) by decide +kernel) (by decide) ?_
  exact k
theorem g6_kindHolds_64 {a0 a1 a2 : Int} {K : am_K} {M : am_M} {Q : Option am_V → am_M → Prop} (k : am_AtN m6_kindHolds 65 [some (vi a0), some (vi a1), some (vi a2)] [vi 0] K M Q) : am_AtN m6_kindHolds 64 [some (vi a0), some (vi a1), some (vi a2)] [] K M Q := by
  refine s_iconst (show decode (am_cc m6_kindHolds) 64 = .ok (.iconst 0, 1) by decide +kernel) ⟨by decide, by decide⟩ ?_
  exact k
theorem g6_kindHolds_65 {a0 a1 a2 t0 : Int} {K : am_K} {M : am_M} {Q : Option am_V → am_M → Prop} (h1 : t0 = 0 ∨ t0 = 1) (k : Q (some (vi t0)) M) : am_AtN m6_kindHolds 65 [some (vi a0), some (vi a1), some (vi a2)] [vi t0] K M Q := by
  exact s_zreturn (show decode (am_cc m6_kindHolds) 65 = .ok (.ireturn, 1) by decide +kernel) rfl h1 k
theorem g6_kindHolds_66 {a0 a1 a2 : Int} {K : am_K} {M : am_M} {Q : Option am_V → am_M → Prop} (k1 : ¬ a1 = 0 → am_AtN m6_kindHolds 74 [some (vi a0), some (vi a1), some (vi a2)] [] K M Q) (k2 : a1 = 0 → am_AtN m6_kindHolds 70 [some (vi a0), some (vi a1), some (vi a2)] [] K M Q) : am_AtN m6_kindHolds 66 [some (vi a0), some (vi a1), some (vi a2)] [] K M Q := by
  refine s_iload_n (show decode (am_cc m6_kindHolds) 66 = .ok (.iload_n 1, 1) by decide +kernel) rfl ?_
  exact s_if_ne (tgt := 74) (show decode (am_cc m6_kindHolds) 67 = .ok (.ifCond .ne 7, 3) by decide +kernel) (by decide) k1 k2
theorem g6_kindHolds_70 {a0 a1 a2 : Int} {K : am_K} {M : am_M} {Q : Option am_V → am_M → Prop} (k : am_AtN m6_kindHolds 75 [some (vi a0), some (vi a1), some (vi a2)] [vi 1] K M Q) : am_AtN m6_kindHolds 70 [some (vi a0), some (vi a1), some (vi a2)] [] K M Q := by
  refine s_iconst (show decode (am_cc m6_kindHolds) 70 = .ok (.iconst 1, 1) by decide +kernel) ⟨by decide, by decide⟩ ?_
  refine s_goto (tgt := 75) (show decode (am_cc m6_kindHolds) 71 = .ok (.goto 4, 3) by decide +kernel) (by decide) ?_
  exact k
theorem g6_kindHolds_74 {a0 a1 a2 : Int} {K : am_K} {M : am_M} {Q : Option am_V → am_M → Prop} (k : am_AtN m6_kindHolds 75 [some (vi a0), some (vi a1), some (vi a2)] [vi 0] K M Q) : am_AtN m6_kindHolds 74 [some (vi a0), some (vi a1), some (vi a2)] [] K M Q := by
  refine s_iconst (show decode (am_cc m6_kindHolds) 74 = .ok (.iconst 0, 1) by decide +kernel) ⟨by decide, by decide⟩ ?_
  exact k
theorem g6_kindHolds_75 {a0 a1 a2 t0 : Int} {K : am_K} {M : am_M} {Q : Option am_V → am_M → Prop} (h1 : t0 = 0 ∨ t0 = 1) (k : Q (some (vi t0)) M) : am_AtN m6_kindHolds 75 [some (vi a0), some (vi a1), some (vi a2)] [vi t0] K M Q := by
  exact s_zreturn (show decode (am_cc m6_kindHolds) 75 = .ok (.ireturn, 1) by decide +kernel) rfl h1 k
theorem g6_kindHolds_76 {a0 a1 a2 : Int} {K : am_K} {M : am_M} {Q : Option am_V → am_M → Prop} (k1 : a2 < a1 → am_AtN m6_kindHolds 85 [some (vi a0), some (vi a1), some (vi a2)] [] K M Q) (k2 : ¬ (a2 < a1) → am_AtN m6_kindHolds 81 [some (vi a0), some (vi a1), some (vi a2)] [] K M Q) : am_AtN m6_kindHolds 76 [some (vi a0), some (vi a1), some (vi a2)] [] K M Q := by
  refine s_iload_n (show decode (am_cc m6_kindHolds) 76 = .ok (.iload_n 1, 1) by decide +kernel) rfl ?_
  refine s_iload_n (show decode (am_cc m6_kindHolds) 77 = .ok (.iload_n 2, 1) by decide +kernel) rfl ?_
  exact s_icmp_gt (tgt := 85) (show decode (am_cc m6_kindHolds) 78 = .ok (.if_icmp .gt 7, 3) by decide +kernel) (by decide) k1 k2
theorem g6_kindHolds_81 {a0 a1 a2 : Int} {K : am_K} {M : am_M} {Q : Option am_V → am_M → Prop} (k : am_AtN m6_kindHolds 86 [some (vi a0), some (vi a1), some (vi a2)] [vi 1] K M Q) : am_AtN m6_kindHolds 81 [some (vi a0), some (vi a1), some (vi a2)] [] K M Q := by
  refine s_iconst (show decode (am_cc m6_kindHolds) 81 = .ok (.iconst 1, 1) by decide +kernel) ⟨by decide, by decide⟩ ?_
  refine s_goto (tgt := 86) (show decode (am_cc m6_kindHolds) 82 = .ok (.goto 4, 3) by decide +kernel) (by decide) ?_
  exact k
theorem g6_kindHolds_85 {a0 a1 a2 : Int} {K : am_K} {M : am_M} {Q : Option am_V → am_M → Prop} (k : am_AtN m6_kindHolds 86 [some (vi a0), some (vi a1), some (vi a2)] [vi 0] K M Q) : am_AtN m6_kindHolds 85 [some (vi a0), some (vi a1), some (vi a2)] [] K M Q := by
  refine s_iconst (show decode (am_cc m6_kindHolds) 85 = .ok (.iconst 0, 1) by decide +kernel) ⟨by decide, by decide⟩ ?_
  exact k
theorem g6_kindHolds_86 {a0 a1 a2 t0 : Int} {K : am_K} {M : am_M} {Q : Option am_V → am_M → Prop} (h1 : t0 = 0 ∨ t0 = 1) (k : Q (some (vi t0)) M) : am_AtN m6_kindHolds 86 [some (vi a0), some (vi a1), some (vi a2)] [vi t0] K M Q := by
  exact s_zreturn (show decode (am_cc m6_kindHolds) 86 = .ok (.ireturn, 1) by decide +kernel) rfl h1 k
theorem g6_kindHolds_87 {a0 a1 a2 : Int} {K : am_K} {M : am_M} {Q : Option am_V → am_M → Prop} (k : Q (some (vi 1)) M) : am_AtN m6_kindHolds 87 [some (vi a0), some (vi a1), some (vi a2)] [] K M Q := by
  refine s_iconst (show decode (am_cc m6_kindHolds) 87 = .ok (.iconst 1, 1) by decide +kernel) ⟨by decide, by decide⟩ ?_
  exact s_zreturn (show decode (am_cc m6_kindHolds) 88 = .ok (.ireturn, 1) by decide +kernel) rfl (by decide) k
theorem g6_kindNext_0 {a0 a1 a2 a3 a4 : Int} {K : am_K} {M : am_M} {Q : Option am_V → am_M → Prop} (kd : (a0 < 1 ∨ 7 < a0) → am_AtN m6_kindNext 141 [some (vi a0), some (vi a1), some (vi a2), some (vi a3), some (vi a4)] [] K M Q) (k1 : a0 = 1 → am_AtN m6_kindNext 44 [some (vi a0), some (vi a1), some (vi a2), some (vi a3), some (vi a4)] [] K M Q) (k2 : a0 = 2 → am_AtN m6_kindNext 56 [some (vi a0), some (vi a1), some (vi a2), some (vi a3), some (vi a4)] [] K M Q) (k3 : a0 = 3 → am_AtN m6_kindNext 72 [some (vi a0), some (vi a1), some (vi a2), some (vi a3), some (vi a4)] [] K M Q) (k4 : a0 = 4 → am_AtN m6_kindNext 56 [some (vi a0), some (vi a1), some (vi a2), some (vi a3), some (vi a4)] [] K M Q) (k5 : a0 = 5 → am_AtN m6_kindNext 87 [some (vi a0), some (vi a1), some (vi a2), some (vi a3), some (vi a4)] [] K M Q) (k6 : a0 = 6 → am_AtN m6_kindNext 106 [some (vi a0), some (vi a1), some (vi a2), some (vi a3), some (vi a4)] [] K M Q) (k7 : a0 = 7 → am_AtN m6_kindNext 117 [some (vi a0), some (vi a1), some (vi a2), some (vi a3), some (vi a4)] [] K M Q) : am_AtN m6_kindNext 0 [some (vi a0), some (vi a1), some (vi a2), some (vi a3), some (vi a4)] [] K M Q := by
  refine s_iload_n (show decode (am_cc m6_kindNext) 0 = .ok (.iload_n 0, 1) by decide +kernel) rfl ?_
  by_cases hd0 : a0 < 1 ∨ 7 < a0
  · refine s_tableOut (tgt := 141) (show decode (am_cc m6_kindNext) 1 = .ok (.tableswitch 140 1 7 #[43, 55, 71, 55, 86, 105, 116], 43) by decide +kernel) hd0 (by decide) ?_
    exact kd hd0
  · have hc0 : a0 = 1 ∨ a0 = 2 ∨ a0 = 3 ∨ a0 = 4 ∨ a0 = 5 ∨ a0 = 6 ∨ a0 = 7 := by omega
    rcases hc0 with hc0 | hc0 | hc0 | hc0 | hc0 | hc0 | hc0
    · refine s_tableIn (tgt := 44) (off := 43) (show decode (am_cc m6_kindNext) 1 = .ok (.tableswitch 140 1 7 #[43, 55, 71, 55, 86, 105, 116], 43) by decide +kernel) 0 (by omega) (by decide) (by decide) (by decide) ?_
      exact k1 hc0
    · refine s_tableIn (tgt := 56) (off := 55) (show decode (am_cc m6_kindNext) 1 = .ok (.tableswitch 140 1 7 #[43, 55, 71, 55, 86, 105, 116], 43) by decide +kernel) 1 (by omega) (by decide) (by decide) (by decide) ?_
      exact k2 hc0
    · refine s_tableIn (tgt := 72) (off := 71) (show decode (am_cc m6_kindNext) 1 = .ok (.tableswitch 140 1 7 #[43, 55, 71, 55, 86, 105, 116], 43) by decide +kernel) 2 (by omega) (by decide) (by decide) (by decide) ?_
      exact k3 hc0
    · refine s_tableIn (tgt := 56) (off := 55) (show decode (am_cc m6_kindNext) 1 = .ok (.tableswitch 140 1 7 #[43, 55, 71, 55, 86, 105, 116], 43) by decide +kernel) 3 (by omega) (by decide) (by decide) (by decide) ?_
      exact k4 hc0
    · refine s_tableIn (tgt := 87) (off := 86) (show decode (am_cc m6_kindNext) 1 = .ok (.tableswitch 140 1 7 #[43, 55, 71, 55, 86, 105, 116], 43) by decide +kernel) 4 (by omega) (by decide) (by decide) (by decide) ?_
      exact k5 hc0
    · refine s_tableIn (tgt := 106) (off := 105) (show decode (am_cc m6_kindNext) 1 = .ok (.tableswitch 140 1 7 #[43, 55, 71, 55, 86, 105, 116], 43) by decide +kernel) 5 (by omega) (by decide) (by decide) (by decide) ?_
      exact k6 hc0
    · refine s_tableIn (tgt := 117) (off := 116) (show decode (am_cc m6_kindNext) 1 = .ok (.tableswitch 140 1 7 #[43, 55, 71, 55, 86, 105, 116], 43) by decide +kernel) 6 (by omega) (by decide) (by decide) (by decide) ?_
      exact k7 hc0
theorem g6_kindNext_44 {a0 a1 a2 a3 a4 : Int} {K : am_K} {M : am_M} {Q : Option am_V → am_M → Prop} (k1 : a2 ≤ a3 → am_AtN m6_kindNext 54 [some (vi a0), some (vi a1), some (vi a2), some (vi a3), some (vi a4)] [] K M Q) (k2 : ¬ (a2 ≤ a3) → am_AtN m6_kindNext 49 [some (vi a0), some (vi a1), some (vi a2), some (vi a3), some (vi a4)] [] K M Q) : am_AtN m6_kindNext 44 [some (vi a0), some (vi a1), some (vi a2), some (vi a3), some (vi a4)] [] K M Q := by
  refine s_iload_n (show decode (am_cc m6_kindNext) 44 = .ok (.iload_n 3, 1) by decide +kernel) rfl ?_
  refine s_iload_n (show decode (am_cc m6_kindNext) 45 = .ok (.iload_n 2, 1) by decide +kernel) rfl ?_
  exact s_icmp_ge (tgt := 54) (show decode (am_cc m6_kindNext) 46 = .ok (.if_icmp .ge 8, 3) by decide +kernel) (by decide) k1 k2
theorem g6_kindNext_49 {a0 a1 a2 a3 a4 : Int} {K : am_K} {M : am_M} {Q : Option am_V → am_M → Prop} (k : am_AtN m6_kindNext 55 [some (vi a0), some (vi a1), some (vi a2), some (vi a3), some (vi a4)] [vi a4] K M Q) : am_AtN m6_kindNext 49 [some (vi a0), some (vi a1), some (vi a2), some (vi a3), some (vi a4)] [] K M Q := by
  refine s_iload (show decode (am_cc m6_kindNext) 49 = .ok (.iload 4, 2) by decide +kernel) rfl ?_
  refine s_goto (tgt := 55) (show decode (am_cc m6_kindNext) 51 = .ok (.goto 4, 3) by decide +kernel) (by decide) ?_
  exact k
theorem g6_kindNext_54 {a0 a1 a2 a3 a4 : Int} {K : am_K} {M : am_M} {Q : Option am_V → am_M → Prop} (k : am_AtN m6_kindNext 55 [some (vi a0), some (vi a1), some (vi a2), some (vi a3), some (vi a4)] [vi a3] K M Q) : am_AtN m6_kindNext 54 [some (vi a0), some (vi a1), some (vi a2), some (vi a3), some (vi a4)] [] K M Q := by
  refine s_iload_n (show decode (am_cc m6_kindNext) 54 = .ok (.iload_n 3, 1) by decide +kernel) rfl ?_
  exact k
theorem g6_kindNext_55 {a0 a1 a2 a3 a4 t0 : Int} {K : am_K} {M : am_M} {Q : Option am_V → am_M → Prop} (k : Q (some (vi t0)) M) : am_AtN m6_kindNext 55 [some (vi a0), some (vi a1), some (vi a2), some (vi a3), some (vi a4)] [vi t0] K M Q := by
  exact s_ireturn (show decode (am_cc m6_kindNext) 55 = .ok (.ireturn, 1) by decide +kernel) rfl k
theorem g6_kindNext_56 {a0 a1 a2 a3 a4 : Int} {K : am_K} {M : am_M} {Q : Option am_V → am_M → Prop} (k1 : a2 = 1 → am_AtN m6_kindNext 66 [some (vi a0), some (vi a1), some (vi a2), some (vi a3), some (vi a4)] [] K M Q) (k2 : ¬ (a2 = 1) → am_AtN m6_kindNext 61 [some (vi a0), some (vi a1), some (vi a2), some (vi a3), some (vi a4)] [] K M Q) : am_AtN m6_kindNext 56 [some (vi a0), some (vi a1), some (vi a2), some (vi a3), some (vi a4)] [] K M Q := by
  refine s_iload_n (show decode (am_cc m6_kindNext) 56 = .ok (.iload_n 2, 1) by decide +kernel) rfl ?_
  refine s_iconst (show decode (am_cc m6_kindNext) 57 = .ok (.iconst 1, 1) by decide +kernel) ⟨by decide, by decide⟩ ?_
  exact s_icmp_eq (tgt := 66) (show decode (am_cc m6_kindNext) 58 = .ok (.if_icmp .eq 8, 3) by decide +kernel) (by decide) k1 k2
theorem g6_kindNext_61 {a0 a1 a2 a3 a4 : Int} {K : am_K} {M : am_M} {Q : Option am_V → am_M → Prop} (k1 : ¬ a3 = a1 → am_AtN m6_kindNext 70 [some (vi a0), some (vi a1), some (vi a2), some (vi a3), some (vi a4)] [] K M Q) (k2 : a3 = a1 → am_AtN m6_kindNext 66 [some (vi a0), some (vi a1), some (vi a2), some (vi a3), some (vi a4)] [] K M Q) : am_AtN m6_kindNext 61 [some (vi a0), some (vi a1), some (vi a2), some (vi a3), some (vi a4)] [] K M Q := by
  refine s_iload_n (show decode (am_cc m6_kindNext) 61 = .ok (.iload_n 3, 1) by decide +kernel) rfl ?_
  refine s_iload_n (show decode (am_cc m6_kindNext) 62 = .ok (.iload_n 1, 1) by decide +kernel) rfl ?_
  exact s_icmp_ne (tgt := 70) (show decode (am_cc m6_kindNext) 63 = .ok (.if_icmp .ne 7, 3) by decide +kernel) (by decide) k1 k2
theorem g6_kindNext_66 {a0 a1 a2 a3 a4 : Int} {K : am_K} {M : am_M} {Q : Option am_V → am_M → Prop} (k : am_AtN m6_kindNext 71 [some (vi a0), some (vi a1), some (vi a2), some (vi a3), some (vi a4)] [vi 1] K M Q) : am_AtN m6_kindNext 66 [some (vi a0), some (vi a1), some (vi a2), some (vi a3), some (vi a4)] [] K M Q := by
  refine s_iconst (show decode (am_cc m6_kindNext) 66 = .ok (.iconst 1, 1) by decide +kernel) ⟨by decide, by decide⟩ ?_
  refine s_goto (tgt := 71) (show decode (am_cc m6_kindNext) 67 = .ok (.goto 4, 3) by decide +kernel) (by decide) ?_
  exact k
theorem g6_kindNext_70 {a0 a1 a2 a3 a4 : Int} {K : am_K} {M : am_M} {Q : Option am_V → am_M → Prop} (k : am_AtN m6_kindNext 71 [some (vi a0), some (vi a1), some (vi a2), some (vi a3), some (vi a4)] [vi 0] K M Q) : am_AtN m6_kindNext 70 [some (vi a0), some (vi a1), some (vi a2), some (vi a3), some (vi a4)] [] K M Q := by
  refine s_iconst (show decode (am_cc m6_kindNext) 70 = .ok (.iconst 0, 1) by decide +kernel) ⟨by decide, by decide⟩ ?_
  exact k
theorem g6_kindNext_71 {a0 a1 a2 a3 a4 t0 : Int} {K : am_K} {M : am_M} {Q : Option am_V → am_M → Prop} (k : Q (some (vi t0)) M) : am_AtN m6_kindNext 71 [some (vi a0), some (vi a1), some (vi a2), some (vi a3), some (vi a4)] [vi t0] K M Q := by
  exact s_ireturn (show decode (am_cc m6_kindNext) 71 = .ok (.ireturn, 1) by decide +kernel) rfl k
theorem g6_kindNext_72 {a0 a1 a2 a3 a4 : Int} {K : am_K} {M : am_M} {Q : Option am_V → am_M → Prop} (h1 : -2147483648 ≤ a2 + 1 ∧ a2 + 1 ≤ 2147483647) (k1 : a1 ≤ a2 + 1 → am_AtN m6_kindNext 85 [some (vi a0), some (vi a1), some (vi a2), some (vi a3), some (vi a4)] [] K M Q) (k2 : ¬ (a1 ≤ a2 + 1) → am_AtN m6_kindNext 79 [some (vi a0), some (vi a1), some (vi a2), some (vi a3), some (vi a4)] [] K M Q) : am_AtN m6_kindNext 72 [some (vi a0), some (vi a1), some (vi a2), some (vi a3), some (vi a4)] [] K M Q := by
  refine s_iload_n (show decode (am_cc m6_kindNext) 72 = .ok (.iload_n 2, 1) by decide +kernel) rfl ?_
  refine s_iconst (show decode (am_cc m6_kindNext) 73 = .ok (.iconst 1, 1) by decide +kernel) ⟨by decide, by decide⟩ ?_
  refine s_iadd (show decode (am_cc m6_kindNext) 74 = .ok (.iadd, 1) by decide +kernel) h1 ?_
  refine s_iload_n (show decode (am_cc m6_kindNext) 75 = .ok (.iload_n 1, 1) by decide +kernel) rfl ?_
  exact s_icmp_ge (tgt := 85) (show decode (am_cc m6_kindNext) 76 = .ok (.if_icmp .ge 9, 3) by decide +kernel) (by decide) k1 k2
theorem g6_kindNext_79 {a0 a1 a2 a3 a4 : Int} {K : am_K} {M : am_M} {Q : Option am_V → am_M → Prop} (h1 : -2147483648 ≤ a2 + 1 ∧ a2 + 1 ≤ 2147483647) (k : am_AtN m6_kindNext 86 [some (vi a0), some (vi a1), some (vi a2), some (vi a3), some (vi a4)] [vi (a2 + 1)] K M Q) : am_AtN m6_kindNext 79 [some (vi a0), some (vi a1), some (vi a2), some (vi a3), some (vi a4)] [] K M Q := by
  refine s_iload_n (show decode (am_cc m6_kindNext) 79 = .ok (.iload_n 2, 1) by decide +kernel) rfl ?_
  refine s_iconst (show decode (am_cc m6_kindNext) 80 = .ok (.iconst 1, 1) by decide +kernel) ⟨by decide, by decide⟩ ?_
  refine s_iadd (show decode (am_cc m6_kindNext) 81 = .ok (.iadd, 1) by decide +kernel) h1 ?_
  refine s_goto (tgt := 86) (show decode (am_cc m6_kindNext) 82 = .ok (.goto 4, 3) by decide +kernel) (by decide) ?_
  exact k
theorem g6_kindNext_85 {a0 a1 a2 a3 a4 : Int} {K : am_K} {M : am_M} {Q : Option am_V → am_M → Prop} (k : am_AtN m6_kindNext 86 [some (vi a0), some (vi a1), some (vi a2), some (vi a3), some (vi a4)] [vi 0] K M Q) : am_AtN m6_kindNext 85 [some (vi a0), some (vi a1), some (vi a2), some (vi a3), some (vi a4)] [] K M Q := by
  refine s_iconst (show decode (am_cc m6_kindNext) 85 = .ok (.iconst 0, 1) by decide +kernel) ⟨by decide, by decide⟩ ?_
  exact k
theorem g6_kindNext_86 {a0 a1 a2 a3 a4 t0 : Int} {K : am_K} {M : am_M} {Q : Option am_V → am_M → Prop} (k : Q (some (vi t0)) M) : am_AtN m6_kindNext 86 [some (vi a0), some (vi a1), some (vi a2), some (vi a3), some (vi a4)] [vi t0] K M Q := by
  exact s_ireturn (show decode (am_cc m6_kindNext) 86 = .ok (.ireturn, 1) by decide +kernel) rfl k
theorem g6_kindNext_87 {a0 a1 a2 a3 a4 : Int} {K : am_K} {M : am_M} {Q : Option am_V → am_M → Prop} (k1 : a2 = 0 → am_AtN m6_kindNext 95 [some (vi a0), some (vi a1), some (vi a2), some (vi a3), some (vi a4)] [] K M Q) (k2 : ¬ (a2 = 0) → am_AtN m6_kindNext 91 [some (vi a0), some (vi a1), some (vi a2), some (vi a3), some (vi a4)] [] K M Q) : am_AtN m6_kindNext 87 [some (vi a0), some (vi a1), some (vi a2), some (vi a3), some (vi a4)] [] K M Q := by
  refine s_iload_n (show decode (am_cc m6_kindNext) 87 = .ok (.iload_n 2, 1) by decide +kernel) rfl ?_
  exact s_if_eq (tgt := 95) (show decode (am_cc m6_kindNext) 88 = .ok (.ifCond .eq 7, 3) by decide +kernel) (by decide) k1 k2
theorem g6_kindNext_91 {a0 a1 a2 a3 a4 : Int} {K : am_K} {M : am_M} {Q : Option am_V → am_M → Prop} (k : am_AtN m6_kindNext 105 [some (vi a0), some (vi a1), some (vi a2), some (vi a3), some (vi a4)] [vi a2] K M Q) : am_AtN m6_kindNext 91 [some (vi a0), some (vi a1), some (vi a2), some (vi a3), some (vi a4)] [] K M Q := by
  refine s_iload_n (show decode (am_cc m6_kindNext) 91 = .ok (.iload_n 2, 1) by decide +kernel) rfl ?_
  refine s_goto (tgt := 105) (show decode (am_cc m6_kindNext) 92 = .ok (.goto 13, 3) by decide +kernel) (by decide) ?_
  exact k
theorem g6_kindNext_95 {a0 a1 a2 a3 a4 : Int} {K : am_K} {M : am_M} {Q : Option am_V → am_M → Prop} (k1 : ¬ a3 = a1 → am_AtN m6_kindNext 104 [some (vi a0), some (vi a1), some (vi a2), some (vi a3), some (vi a4)] [] K M Q) (k2 : a3 = a1 → am_AtN m6_kindNext 100 [some (vi a0), some (vi a1), some (vi a2), some (vi a3), some (vi a4)] [] K M Q) : am_AtN m6_kindNext 95 [some (vi a0), some (vi a1), some (vi a2), some (vi a3), some (vi a4)] [] K M Q := by
  refine s_iload_n (show decode (am_cc m6_kindNext) 95 = .ok (.iload_n 3, 1) by decide +kernel) rfl ?_
  refine s_iload_n (show decode (am_cc m6_kindNext) 96 = .ok (.iload_n 1, 1) by decide +kernel) rfl ?_
  exact s_icmp_ne (tgt := 104) (show decode (am_cc m6_kindNext) 97 = .ok (.if_icmp .ne 7, 3) by decide +kernel) (by decide) k1 k2
theorem g6_kindNext_100 {a0 a1 a2 a3 a4 : Int} {K : am_K} {M : am_M} {Q : Option am_V → am_M → Prop} (k : am_AtN m6_kindNext 105 [some (vi a0), some (vi a1), some (vi a2), some (vi a3), some (vi a4)] [vi 1] K M Q) : am_AtN m6_kindNext 100 [some (vi a0), some (vi a1), some (vi a2), some (vi a3), some (vi a4)] [] K M Q := by
  refine s_iconst (show decode (am_cc m6_kindNext) 100 = .ok (.iconst 1, 1) by decide +kernel) ⟨by decide, by decide⟩ ?_
  refine s_goto (tgt := 105) (show decode (am_cc m6_kindNext) 101 = .ok (.goto 4, 3) by decide +kernel) (by decide) ?_
  exact k
theorem g6_kindNext_104 {a0 a1 a2 a3 a4 : Int} {K : am_K} {M : am_M} {Q : Option am_V → am_M → Prop} (k : am_AtN m6_kindNext 105 [some (vi a0), some (vi a1), some (vi a2), some (vi a3), some (vi a4)] [vi 2] K M Q) : am_AtN m6_kindNext 104 [some (vi a0), some (vi a1), some (vi a2), some (vi a3), some (vi a4)] [] K M Q := by
  refine s_iconst (show decode (am_cc m6_kindNext) 104 = .ok (.iconst 2, 1) by decide +kernel) ⟨by decide, by decide⟩ ?_
  exact k
theorem g6_kindNext_105 {a0 a1 a2 a3 a4 t0 : Int} {K : am_K} {M : am_M} {Q : Option am_V → am_M → Prop} (k : Q (some (vi t0)) M) : am_AtN m6_kindNext 105 [some (vi a0), some (vi a1), some (vi a2), some (vi a3), some (vi a4)] [vi t0] K M Q := by
  exact s_ireturn (show decode (am_cc m6_kindNext) 105 = .ok (.ireturn, 1) by decide +kernel) rfl k
theorem g6_kindNext_106 {a0 a1 a2 a3 a4 : Int} {K : am_K} {M : am_M} {Q : Option am_V → am_M → Prop} (k1 : ¬ a3 = a1 → am_AtN m6_kindNext 115 [some (vi a0), some (vi a1), some (vi a2), some (vi a3), some (vi a4)] [] K M Q) (k2 : a3 = a1 → am_AtN m6_kindNext 111 [some (vi a0), some (vi a1), some (vi a2), some (vi a3), some (vi a4)] [] K M Q) : am_AtN m6_kindNext 106 [some (vi a0), some (vi a1), some (vi a2), some (vi a3), some (vi a4)] [] K M Q := by
  refine s_iload_n (show decode (am_cc m6_kindNext) 106 = .ok (.iload_n 3, 1) by decide +kernel) rfl ?_
  refine s_iload_n (show decode (am_cc m6_kindNext) 107 = .ok (.iload_n 1, 1) by decide +kernel) rfl ?_
  exact s_icmp_ne (tgt := 115) (show decode (am_cc m6_kindNext) 108 = .ok (.if_icmp .ne 7, 3) by decide +kernel) (by decide) k1 k2
theorem g6_kindNext_111 {a0 a1 a2 a3 a4 : Int} {K : am_K} {M : am_M} {Q : Option am_V → am_M → Prop} (k : am_AtN m6_kindNext 116 [some (vi a0), some (vi a1), some (vi a2), some (vi a3), some (vi a4)] [vi 1] K M Q) : am_AtN m6_kindNext 111 [some (vi a0), some (vi a1), some (vi a2), some (vi a3), some (vi a4)] [] K M Q := by
  refine s_iconst (show decode (am_cc m6_kindNext) 111 = .ok (.iconst 1, 1) by decide +kernel) ⟨by decide, by decide⟩ ?_
  refine s_goto (tgt := 116) (show decode (am_cc m6_kindNext) 112 = .ok (.goto 4, 3) by decide +kernel) (by decide) ?_
  exact k
theorem g6_kindNext_115 {a0 a1 a2 a3 a4 : Int} {K : am_K} {M : am_M} {Q : Option am_V → am_M → Prop} (k : am_AtN m6_kindNext 116 [some (vi a0), some (vi a1), some (vi a2), some (vi a3), some (vi a4)] [vi 0] K M Q) : am_AtN m6_kindNext 115 [some (vi a0), some (vi a1), some (vi a2), some (vi a3), some (vi a4)] [] K M Q := by
  refine s_iconst (show decode (am_cc m6_kindNext) 115 = .ok (.iconst 0, 1) by decide +kernel) ⟨by decide, by decide⟩ ?_
  exact k
theorem g6_kindNext_116 {a0 a1 a2 a3 a4 t0 : Int} {K : am_K} {M : am_M} {Q : Option am_V → am_M → Prop} (k : Q (some (vi t0)) M) : am_AtN m6_kindNext 116 [some (vi a0), some (vi a1), some (vi a2), some (vi a3), some (vi a4)] [vi t0] K M Q := by
  exact s_ireturn (show decode (am_cc m6_kindNext) 116 = .ok (.ireturn, 1) by decide +kernel) rfl k
theorem g6_kindNext_117 {a0 a1 a2 a3 a4 : Int} {K : am_K} {M : am_M} {Q : Option am_V → am_M → Prop} (h1 : -2147483648 ≤ a3 + 1 ∧ a3 + 1 ≤ 2147483647) (k1 : a2 = a3 + 1 → am_AtN m6_kindNext 130 [some (vi a0), some (vi a1), some (vi a2), some (vi a3), some (vi a4)] [] K M Q) (k2 : ¬ (a2 = a3 + 1) → am_AtN m6_kindNext 124 [some (vi a0), some (vi a1), some (vi a2), some (vi a3), some (vi a4)] [] K M Q) : am_AtN m6_kindNext 117 [some (vi a0), some (vi a1), some (vi a2), some (vi a3), some (vi a4)] [] K M Q := by
  refine s_iload_n (show decode (am_cc m6_kindNext) 117 = .ok (.iload_n 2, 1) by decide +kernel) rfl ?_
  refine s_iload_n (show decode (am_cc m6_kindNext) 118 = .ok (.iload_n 3, 1) by decide +kernel) rfl ?_
  refine s_iconst (show decode (am_cc m6_kindNext) 119 = .ok (.iconst 1, 1) by decide +kernel) ⟨by decide, by decide⟩ ?_
  refine s_iadd (show decode (am_cc m6_kindNext) 120 = .ok (.iadd, 1) by decide +kernel) h1 ?_
  exact s_icmp_eq (tgt := 130) (show decode (am_cc m6_kindNext) 121 = .ok (.if_icmp .eq 9, 3) by decide +kernel) (by decide) k1 k2
theorem g6_kindNext_124 {a0 a1 a2 a3 a4 : Int} {K : am_K} {M : am_M} {Q : Option am_V → am_M → Prop} (k1 : a2 ≤ a4 → am_AtN m6_kindNext 137 [some (vi a0), some (vi a1), some (vi a2), some (vi a3), some (vi a4)] [] K M Q) (k2 : ¬ (a2 ≤ a4) → am_AtN m6_kindNext 130 [some (vi a0), some (vi a1), some (vi a2), some (vi a3), some (vi a4)] [] K M Q) : am_AtN m6_kindNext 124 [some (vi a0), some (vi a1), some (vi a2), some (vi a3), some (vi a4)] [] K M Q := by
  refine s_iload_n (show decode (am_cc m6_kindNext) 124 = .ok (.iload_n 2, 1) by decide +kernel) rfl ?_
  refine s_iload (show decode (am_cc m6_kindNext) 125 = .ok (.iload 4, 2) by decide +kernel) rfl ?_
  exact s_icmp_le (tgt := 137) (show decode (am_cc m6_kindNext) 127 = .ok (.if_icmp .le 10, 3) by decide +kernel) (by decide) k1 k2
theorem g6_kindNext_130 {a0 a1 a2 a3 a4 : Int} {K : am_K} {M : am_M} {Q : Option am_V → am_M → Prop} (h1 : -2147483648 ≤ a4 + 1 ∧ a4 + 1 ≤ 2147483647) (k : am_AtN m6_kindNext 140 [some (vi a0), some (vi a1), some (vi a2), some (vi a3), some (vi a4)] [vi (a4 + 1)] K M Q) : am_AtN m6_kindNext 130 [some (vi a0), some (vi a1), some (vi a2), some (vi a3), some (vi a4)] [] K M Q := by
  refine s_iload (show decode (am_cc m6_kindNext) 130 = .ok (.iload 4, 2) by decide +kernel) rfl ?_
  refine s_iconst (show decode (am_cc m6_kindNext) 132 = .ok (.iconst 1, 1) by decide +kernel) ⟨by decide, by decide⟩ ?_
  refine s_iadd (show decode (am_cc m6_kindNext) 133 = .ok (.iadd, 1) by decide +kernel) h1 ?_
  refine s_goto (tgt := 140) (show decode (am_cc m6_kindNext) 134 = .ok (.goto 6, 3) by decide +kernel) (by decide) ?_
  exact k
theorem g6_kindNext_137 {a0 a1 a2 a3 a4 : Int} {K : am_K} {M : am_M} {Q : Option am_V → am_M → Prop} (h1 : -2147483648 ≤ a3 + 1 ∧ a3 + 1 ≤ 2147483647) (k : am_AtN m6_kindNext 140 [some (vi a0), some (vi a1), some (vi a2), some (vi a3), some (vi a4)] [vi (a3 + 1)] K M Q) : am_AtN m6_kindNext 137 [some (vi a0), some (vi a1), some (vi a2), some (vi a3), some (vi a4)] [] K M Q := by
  refine s_iload_n (show decode (am_cc m6_kindNext) 137 = .ok (.iload_n 3, 1) by decide +kernel) rfl ?_
  refine s_iconst (show decode (am_cc m6_kindNext) 138 = .ok (.iconst 1, 1) by decide +kernel) ⟨by decide, by decide⟩ ?_
  refine s_iadd (show decode (am_cc m6_kindNext) 139 = .ok (.iadd, 1) by decide +kernel) h1 ?_
  exact k
theorem g6_kindNext_140 {a0 a1 a2 a3 a4 t0 : Int} {K : am_K} {M : am_M} {Q : Option am_V → am_M → Prop} (k : Q (some (vi t0)) M) : am_AtN m6_kindNext 140 [some (vi a0), some (vi a1), some (vi a2), some (vi a3), some (vi a4)] [vi t0] K M Q := by
  exact s_ireturn (show decode (am_cc m6_kindNext) 140 = .ok (.ireturn, 1) by decide +kernel) rfl k
theorem g6_kindNext_141 {a0 a1 a2 a3 a4 : Int} {K : am_K} {M : am_M} {Q : Option am_V → am_M → Prop} (k : Q (some (vi 0)) M) : am_AtN m6_kindNext 141 [some (vi a0), some (vi a1), some (vi a2), some (vi a3), some (vi a4)] [] K M Q := by
  refine s_iconst (show decode (am_cc m6_kindNext) 141 = .ok (.iconst 0, 1) by decide +kernel) ⟨by decide, by decide⟩ ?_
  exact s_ireturn (show decode (am_cc m6_kindNext) 142 = .ok (.ireturn, 1) by decide +kernel) rfl k
theorem g4_startAnew_0 {a0 : Int} {K : am_K} {M : am_M} {Q : Option am_V → am_M → Prop} (k : am_AtN m4_startAnew 2 [some (vr a0), some (vi 0), none] [] K M Q) : am_AtN m4_startAnew 0 [some (vr a0), none, none] [] K M Q := by
  refine s_iconst (show decode (am_cc m4_startAnew) 0 = .ok (.iconst 0, 1) by decide +kernel) ⟨by decide, by decide⟩ ?_
  refine s_istore_n (show decode (am_cc m4_startAnew) 1 = .ok (.istore_n 1, 1) by decide +kernel) (by decide) ?_
  exact k
theorem g4_startAnew_2 {a0 a1 : Int} {K : am_K} {M : am_M} {Q : Option am_V → am_M → Prop} (k1 : 6 ≤ a1 → am_AtN m4_startAnew 44 [some (vr a0), some (vi a1), none] [] K M Q) (k2 : ¬ (6 ≤ a1) → am_AtN m4_startAnew 8 [some (vr a0), some (vi a1), none] [] K M Q) : am_AtN m4_startAnew 2 [some (vr a0), some (vi a1), none] [] K M Q := by
  refine s_iload_n (show decode (am_cc m4_startAnew) 2 = .ok (.iload_n 1, 1) by decide +kernel) rfl ?_
  refine s_bipush (show decode (am_cc m4_startAnew) 3 = .ok (.bipush 6, 2) by decide +kernel) ⟨by decide, by decide⟩ (by decide) ?_
  exact s_icmp_ge (tgt := 44) (show decode (am_cc m4_startAnew) 5 = .ok (.if_icmp .ge 39, 3) by decide +kernel) (by decide) k1 k2
theorem g4_startAnew_8 {a0 a1 : Int} {K : am_K} {M : am_M} {Q : Option am_V → am_M → Prop} {r0_0 : Int} {r0_1 : Int} {r0_2 : Int} {n1 : Nat} {q1 : List Int} (h1 : am_kd K a0 = some (4, 3, [r0_0, r0_1, r0_2])) (h2 : am_kd K r0_2 = some (11, n1, q1)) (h3 : 0 ≤ a1) (h4 : a1 < (n1 : Int)) (k : am_AtN m4_startAnew 17 [some (vr a0), some (vi a1), some (vi 0)] [] K (am_up M r0_2 a1 0) Q) : am_AtN m4_startAnew 8 [some (vr a0), some (vi a1), none] [] K M Q := by
  refine s_aload_n (show decode (am_cc m4_startAnew) 8 = .ok (.aload_n 0, 1) by decide +kernel) rfl ?_
  refine s_getf (k := 2) (v := vr r0_2) (show decode (am_cc m4_startAnew) 9 = .ok (.getfield 18, 3) by decide +kernel) h1 (by decide) rfl jnX4 (by decide) lf_RX4_18 rfl ?_
  refine s_iload_n (show decode (am_cc m4_startAnew) 12 = .ok (.iload_n 1, 1) by decide +kernel) rfl ?_
  refine s_iconst (show decode (am_cc m4_startAnew) 13 = .ok (.iconst 0, 1) by decide +kernel) ⟨by decide, by decide⟩ ?_
  refine s_iastore (show decode (am_cc m4_startAnew) 14 = .ok (.iastore, 1) by decide +kernel) h2 h3 h4 ?_
  refine s_iconst (show decode (am_cc m4_startAnew) 15 = .ok (.iconst 0, 1) by decide +kernel) ⟨by decide, by decide⟩ ?_
  refine s_istore_n (show decode (am_cc m4_startAnew) 16 = .ok (.istore_n 2, 1) by decide +kernel) (by decide) ?_
  exact k
theorem g4_startAnew_17 {a0 a1 a2 : Int} {K : am_K} {M : am_M} {Q : Option am_V → am_M → Prop} (k1 : 4 ≤ a2 → am_AtN m4_startAnew 38 [some (vr a0), some (vi a1), some (vi a2)] [] K M Q) (k2 : ¬ (4 ≤ a2) → am_AtN m4_startAnew 22 [some (vr a0), some (vi a1), some (vi a2)] [] K M Q) : am_AtN m4_startAnew 17 [some (vr a0), some (vi a1), some (vi a2)] [] K M Q := by
  refine s_iload_n (show decode (am_cc m4_startAnew) 17 = .ok (.iload_n 2, 1) by decide +kernel) rfl ?_
  refine s_iconst (show decode (am_cc m4_startAnew) 18 = .ok (.iconst 4, 1) by decide +kernel) ⟨by decide, by decide⟩ ?_
  exact s_icmp_ge (tgt := 38) (show decode (am_cc m4_startAnew) 19 = .ok (.if_icmp .ge 19, 3) by decide +kernel) (by decide) k1 k2
theorem g4_startAnew_22 {a0 a1 a2 : Int} {K : am_K} {M : am_M} {Q : Option am_V → am_M → Prop} {r0 : List Int} (h1 : -2147483648 ≤ 1 + a2 ∧ 1 + a2 ≤ 2147483647) (h2 : am_kd K a0 = some (4, 3, r0)) (k : am_CallN m4_lead [vr a0, vi a1, vi a2, vi 0, vi (1 + a2)] K M (fun r M' => am_AtN m4_startAnew 32 [some (vr a0), some (vi a1), some (vi a2)] (r.toList ++ []) K M' Q)) : am_AtN m4_startAnew 22 [some (vr a0), some (vi a1), some (vi a2)] [] K M Q := by
  refine s_aload_n (show decode (am_cc m4_startAnew) 22 = .ok (.aload_n 0, 1) by decide +kernel) rfl ?_
  refine s_iload_n (show decode (am_cc m4_startAnew) 23 = .ok (.iload_n 1, 1) by decide +kernel) rfl ?_
  refine s_iload_n (show decode (am_cc m4_startAnew) 24 = .ok (.iload_n 2, 1) by decide +kernel) rfl ?_
  refine s_iconst (show decode (am_cc m4_startAnew) 25 = .ok (.iconst 0, 1) by decide +kernel) ⟨by decide, by decide⟩ ?_
  refine s_iconst (show decode (am_cc m4_startAnew) 26 = .ok (.iconst 1, 1) by decide +kernel) ⟨by decide, by decide⟩ ?_
  refine s_iload_n (show decode (am_cc m4_startAnew) 27 = .ok (.iload_n 2, 1) by decide +kernel) rfl ?_
  refine s_iadd (show decode (am_cc m4_startAnew) 28 = .ok (.iadd, 1) by decide +kernel) h1 ?_
  exact n_callV (as := [vi a1, vi a2, vi 0, vi (1 + a2)]) (stk := []) (show decode (am_cc m4_startAnew) 29 = .ok (.invokevirtual 24, 3) by decide +kernel) lk_RX4_24 h2 (by decide) rfl rfl (by decide) (Nat.le_of_ble_eq_true rfl) ⟨rfl, rfl⟩ k
theorem g4_startAnew_32 {a0 a1 a2 : Int} {K : am_K} {M : am_M} {Q : Option am_V → am_M → Prop} (h1 : -2147483648 ≤ a2 + 1 ∧ a2 + 1 ≤ 2147483647) (k : am_AtN m4_startAnew 17 [some (vr a0), some (vi a1), some (vi (a2 + 1))] [] K M Q) : am_AtN m4_startAnew 32 [some (vr a0), some (vi a1), some (vi a2)] [] K M Q := by
  refine s_iinc (show decode (am_cc m4_startAnew) 32 = .ok (.iinc 2 1, 3) by decide +kernel) rfl (by decide) h1 ?_
  refine s_goto (tgt := 17) (show decode (am_cc m4_startAnew) 35 = .ok (.goto (-18), 3) by decide +kernel) (by decide) ?_
  exact k
theorem g4_startAnew_38 {a0 a1 a2 : Int} {K : am_K} {M : am_M} {Q : Option am_V → am_M → Prop} (h1 : -2147483648 ≤ a1 + 1 ∧ a1 + 1 ≤ 2147483647) (k : am_AtN m4_startAnew 2 [some (vr a0), some (vi (a1 + 1)), none] [] K M Q) : am_AtN m4_startAnew 38 [some (vr a0), some (vi a1), some (vi a2)] [] K M Q := by
  refine s_iinc (show decode (am_cc m4_startAnew) 38 = .ok (.iinc 1 1, 3) by decide +kernel) rfl (by decide) h1 ?_
  refine s_goto (tgt := 2) (show decode (am_cc m4_startAnew) 41 = .ok (.goto (-39), 3) by decide +kernel) (by decide) ?_
  refine am_fg 2 ?_
  exact k
theorem g4_startAnew_44 {a0 a1 : Int} {K : am_K} {M : am_M} {Q : Option am_V → am_M → Prop} (k : Q none M) : am_AtN m4_startAnew 44 [some (vr a0), some (vi a1), none] [] K M Q := by
  exact s_return (show decode (am_cc m4_startAnew) 44 = .ok (.return_, 1) by decide +kernel) rfl k
theorem g4_nextOf_0 {a0 a1 a2 : Int} {K : am_K} {M : am_M} {Q : Option am_V → am_M → Prop} (k : am_CallN m8_within [vi a1, vi 6] K M (fun r M' => am_AtN m4_nextOf 6 [some (vr a0), some (vi a1), some (vi a2)] (r.toList ++ []) K M' Q)) : am_AtN m4_nextOf 0 [some (vr a0), some (vi a1), some (vi a2)] [] K M Q := by
  refine s_iload_n (show decode (am_cc m4_nextOf) 0 = .ok (.iload_n 1, 1) by decide +kernel) rfl ?_
  refine s_bipush (show decode (am_cc m4_nextOf) 1 = .ok (.bipush 6, 2) by decide +kernel) ⟨by decide, by decide⟩ (by decide) ?_
  exact n_callN (as := [vi a1, vi 6]) (stk := []) (show decode (am_cc m4_nextOf) 3 = .ok (.invokestatic 28, 3) by decide +kernel) lk_RX4_28 (by decide) (Nat.le_of_ble_eq_true rfl) ⟨rfl, rfl⟩ k
theorem g4_nextOf_6 {a0 a1 a2 t0 : Int} {K : am_K} {M : am_M} {Q : Option am_V → am_M → Prop} (k1 : t0 = 0 → am_AtN m4_nextOf 17 [some (vr a0), some (vi a1), some (vi a2)] [] K M Q) (k2 : ¬ (t0 = 0) → am_AtN m4_nextOf 9 [some (vr a0), some (vi a1), some (vi a2)] [] K M Q) : am_AtN m4_nextOf 6 [some (vr a0), some (vi a1), some (vi a2)] [vi t0] K M Q := by
  exact s_if_eq (tgt := 17) (show decode (am_cc m4_nextOf) 6 = .ok (.ifCond .eq 11, 3) by decide +kernel) (by decide) k1 k2
theorem g4_nextOf_9 {a0 a1 a2 : Int} {K : am_K} {M : am_M} {Q : Option am_V → am_M → Prop} (k : am_CallN m8_within [vi a2, vi 4] K M (fun r M' => am_AtN m4_nextOf 14 [some (vr a0), some (vi a1), some (vi a2)] (r.toList ++ []) K M' Q)) : am_AtN m4_nextOf 9 [some (vr a0), some (vi a1), some (vi a2)] [] K M Q := by
  refine s_iload_n (show decode (am_cc m4_nextOf) 9 = .ok (.iload_n 2, 1) by decide +kernel) rfl ?_
  refine s_iconst (show decode (am_cc m4_nextOf) 10 = .ok (.iconst 4, 1) by decide +kernel) ⟨by decide, by decide⟩ ?_
  exact n_callN (as := [vi a2, vi 4]) (stk := []) (show decode (am_cc m4_nextOf) 11 = .ok (.invokestatic 28, 3) by decide +kernel) lk_RX4_28 (by decide) (Nat.le_of_ble_eq_true rfl) ⟨rfl, rfl⟩ k
theorem g4_nextOf_14 {a0 a1 a2 t0 : Int} {K : am_K} {M : am_M} {Q : Option am_V → am_M → Prop} (k1 : ¬ t0 = 0 → am_AtN m4_nextOf 19 [some (vr a0), some (vi a1), some (vi a2)] [] K M Q) (k2 : t0 = 0 → am_AtN m4_nextOf 17 [some (vr a0), some (vi a1), some (vi a2)] [] K M Q) : am_AtN m4_nextOf 14 [some (vr a0), some (vi a1), some (vi a2)] [vi t0] K M Q := by
  exact s_if_ne (tgt := 19) (show decode (am_cc m4_nextOf) 14 = .ok (.ifCond .ne 5, 3) by decide +kernel) (by decide) k1 k2
theorem g4_nextOf_17 {a0 a1 a2 : Int} {K : am_K} {M : am_M} {Q : Option am_V → am_M → Prop} (k : Q (some (vi 0)) M) : am_AtN m4_nextOf 17 [some (vr a0), some (vi a1), some (vi a2)] [] K M Q := by
  refine s_iconst (show decode (am_cc m4_nextOf) 17 = .ok (.iconst 0, 1) by decide +kernel) ⟨by decide, by decide⟩ ?_
  exact s_ireturn (show decode (am_cc m4_nextOf) 18 = .ok (.ireturn, 1) by decide +kernel) rfl k
theorem g4_nextOf_19 {a0 a1 a2 : Int} {K : am_K} {M : am_M} {Q : Option am_V → am_M → Prop} {r0_0 : Int} {r0_1 : Int} {r0_2 : Int} {n1 : Nat} {q1 : List Int} (h1 : am_kd K a0 = some (4, 3, [r0_0, r0_1, r0_2])) (h2 : -2147483648 ≤ a1 * 4 ∧ a1 * 4 ≤ 2147483647) (h3 : -2147483648 ≤ (a1 * 4) + a2 ∧ (a1 * 4) + a2 ≤ 2147483647) (h4 : am_kd K r0_0 = some (11, n1, q1)) (h5 : 0 ≤ (a1 * 4) + a2) (h6 : (a1 * 4) + a2 < (n1 : Int)) (k : Q (some (vi (M r0_0 ((a1 * 4) + a2)))) M) : am_AtN m4_nextOf 19 [some (vr a0), some (vi a1), some (vi a2)] [] K M Q := by
  refine s_aload_n (show decode (am_cc m4_nextOf) 19 = .ok (.aload_n 0, 1) by decide +kernel) rfl ?_
  refine s_getf (k := 0) (v := vr r0_0) (show decode (am_cc m4_nextOf) 20 = .ok (.getfield 9, 3) by decide +kernel) h1 (by decide) rfl jnX4 (by decide) lf_RX4_9 rfl ?_
  refine s_iload_n (show decode (am_cc m4_nextOf) 23 = .ok (.iload_n 1, 1) by decide +kernel) rfl ?_
  refine s_iconst (show decode (am_cc m4_nextOf) 24 = .ok (.iconst 4, 1) by decide +kernel) ⟨by decide, by decide⟩ ?_
  refine s_imul (show decode (am_cc m4_nextOf) 25 = .ok (.imul, 1) by decide +kernel) h2 ?_
  refine s_iload_n (show decode (am_cc m4_nextOf) 26 = .ok (.iload_n 2, 1) by decide +kernel) rfl ?_
  refine s_iadd (show decode (am_cc m4_nextOf) 27 = .ok (.iadd, 1) by decide +kernel) h3 ?_
  refine s_iaload (show decode (am_cc m4_nextOf) 28 = .ok (.iaload, 1) by decide +kernel) h4 h5 h6 ?_
  exact s_ireturn (show decode (am_cc m4_nextOf) 29 = .ok (.ireturn, 1) by decide +kernel) rfl k
theorem g4_wordOf_0 {a0 a1 a2 : Int} {K : am_K} {M : am_M} {Q : Option am_V → am_M → Prop} (k : am_CallN m8_within [vi a1, vi 6] K M (fun r M' => am_AtN m4_wordOf 6 [some (vr a0), some (vi a1), some (vi a2)] (r.toList ++ []) K M' Q)) : am_AtN m4_wordOf 0 [some (vr a0), some (vi a1), some (vi a2)] [] K M Q := by
  refine s_iload_n (show decode (am_cc m4_wordOf) 0 = .ok (.iload_n 1, 1) by decide +kernel) rfl ?_
  refine s_bipush (show decode (am_cc m4_wordOf) 1 = .ok (.bipush 6, 2) by decide +kernel) ⟨by decide, by decide⟩ (by decide) ?_
  exact n_callN (as := [vi a1, vi 6]) (stk := []) (show decode (am_cc m4_wordOf) 3 = .ok (.invokestatic 28, 3) by decide +kernel) lk_RX4_28 (by decide) (Nat.le_of_ble_eq_true rfl) ⟨rfl, rfl⟩ k
theorem g4_wordOf_6 {a0 a1 a2 t0 : Int} {K : am_K} {M : am_M} {Q : Option am_V → am_M → Prop} (k1 : t0 = 0 → am_AtN m4_wordOf 17 [some (vr a0), some (vi a1), some (vi a2)] [] K M Q) (k2 : ¬ (t0 = 0) → am_AtN m4_wordOf 9 [some (vr a0), some (vi a1), some (vi a2)] [] K M Q) : am_AtN m4_wordOf 6 [some (vr a0), some (vi a1), some (vi a2)] [vi t0] K M Q := by
  exact s_if_eq (tgt := 17) (show decode (am_cc m4_wordOf) 6 = .ok (.ifCond .eq 11, 3) by decide +kernel) (by decide) k1 k2
theorem g4_wordOf_9 {a0 a1 a2 : Int} {K : am_K} {M : am_M} {Q : Option am_V → am_M → Prop} (k : am_CallN m8_within [vi a2, vi 4] K M (fun r M' => am_AtN m4_wordOf 14 [some (vr a0), some (vi a1), some (vi a2)] (r.toList ++ []) K M' Q)) : am_AtN m4_wordOf 9 [some (vr a0), some (vi a1), some (vi a2)] [] K M Q := by
  refine s_iload_n (show decode (am_cc m4_wordOf) 9 = .ok (.iload_n 2, 1) by decide +kernel) rfl ?_
  refine s_iconst (show decode (am_cc m4_wordOf) 10 = .ok (.iconst 4, 1) by decide +kernel) ⟨by decide, by decide⟩ ?_
  exact n_callN (as := [vi a2, vi 4]) (stk := []) (show decode (am_cc m4_wordOf) 11 = .ok (.invokestatic 28, 3) by decide +kernel) lk_RX4_28 (by decide) (Nat.le_of_ble_eq_true rfl) ⟨rfl, rfl⟩ k
theorem g4_wordOf_14 {a0 a1 a2 t0 : Int} {K : am_K} {M : am_M} {Q : Option am_V → am_M → Prop} (k1 : ¬ t0 = 0 → am_AtN m4_wordOf 19 [some (vr a0), some (vi a1), some (vi a2)] [] K M Q) (k2 : t0 = 0 → am_AtN m4_wordOf 17 [some (vr a0), some (vi a1), some (vi a2)] [] K M Q) : am_AtN m4_wordOf 14 [some (vr a0), some (vi a1), some (vi a2)] [vi t0] K M Q := by
  exact s_if_ne (tgt := 19) (show decode (am_cc m4_wordOf) 14 = .ok (.ifCond .ne 5, 3) by decide +kernel) (by decide) k1 k2
theorem g4_wordOf_17 {a0 a1 a2 : Int} {K : am_K} {M : am_M} {Q : Option am_V → am_M → Prop} (k : Q (some (vi 0)) M) : am_AtN m4_wordOf 17 [some (vr a0), some (vi a1), some (vi a2)] [] K M Q := by
  refine s_iconst (show decode (am_cc m4_wordOf) 17 = .ok (.iconst 0, 1) by decide +kernel) ⟨by decide, by decide⟩ ?_
  exact s_ireturn (show decode (am_cc m4_wordOf) 18 = .ok (.ireturn, 1) by decide +kernel) rfl k
theorem g4_wordOf_19 {a0 a1 a2 : Int} {K : am_K} {M : am_M} {Q : Option am_V → am_M → Prop} {r0_0 : Int} {r0_1 : Int} {r0_2 : Int} {n1 : Nat} {q1 : List Int} (h1 : am_kd K a0 = some (4, 3, [r0_0, r0_1, r0_2])) (h2 : -2147483648 ≤ a1 * 4 ∧ a1 * 4 ≤ 2147483647) (h3 : -2147483648 ≤ (a1 * 4) + a2 ∧ (a1 * 4) + a2 ≤ 2147483647) (h4 : am_kd K r0_1 = some (11, n1, q1)) (h5 : 0 ≤ (a1 * 4) + a2) (h6 : (a1 * 4) + a2 < (n1 : Int)) (k : Q (some (vi (M r0_1 ((a1 * 4) + a2)))) M) : am_AtN m4_wordOf 19 [some (vr a0), some (vi a1), some (vi a2)] [] K M Q := by
  refine s_aload_n (show decode (am_cc m4_wordOf) 19 = .ok (.aload_n 0, 1) by decide +kernel) rfl ?_
  refine s_getf (k := 1) (v := vr r0_1) (show decode (am_cc m4_wordOf) 20 = .ok (.getfield 15, 3) by decide +kernel) h1 (by decide) rfl jnX4 (by decide) lf_RX4_15 rfl ?_
  refine s_iload_n (show decode (am_cc m4_wordOf) 23 = .ok (.iload_n 1, 1) by decide +kernel) rfl ?_
  refine s_iconst (show decode (am_cc m4_wordOf) 24 = .ok (.iconst 4, 1) by decide +kernel) ⟨by decide, by decide⟩ ?_
  refine s_imul (show decode (am_cc m4_wordOf) 25 = .ok (.imul, 1) by decide +kernel) h2 ?_
  refine s_iload_n (show decode (am_cc m4_wordOf) 26 = .ok (.iload_n 2, 1) by decide +kernel) rfl ?_
  refine s_iadd (show decode (am_cc m4_wordOf) 27 = .ok (.iadd, 1) by decide +kernel) h3 ?_
  refine s_iaload (show decode (am_cc m4_wordOf) 28 = .ok (.iaload, 1) by decide +kernel) h4 h5 h6 ?_
  exact s_ireturn (show decode (am_cc m4_wordOf) 29 = .ok (.ireturn, 1) by decide +kernel) rfl k
theorem g4_endOf_0 {a0 a1 : Int} {K : am_K} {M : am_M} {Q : Option am_V → am_M → Prop} (k : am_CallN m8_within [vi a1, vi 6] K M (fun r M' => am_AtN m4_endOf 6 [some (vr a0), some (vi a1)] (r.toList ++ []) K M' Q)) : am_AtN m4_endOf 0 [some (vr a0), some (vi a1)] [] K M Q := by
  refine s_iload_n (show decode (am_cc m4_endOf) 0 = .ok (.iload_n 1, 1) by decide +kernel) rfl ?_
  refine s_bipush (show decode (am_cc m4_endOf) 1 = .ok (.bipush 6, 2) by decide +kernel) ⟨by decide, by decide⟩ (by decide) ?_
  exact n_callN (as := [vi a1, vi 6]) (stk := []) (show decode (am_cc m4_endOf) 3 = .ok (.invokestatic 28, 3) by decide +kernel) lk_RX4_28 (by decide) (Nat.le_of_ble_eq_true rfl) ⟨rfl, rfl⟩ k
theorem g4_endOf_6 {a0 a1 t0 : Int} {K : am_K} {M : am_M} {Q : Option am_V → am_M → Prop} (k1 : t0 = 0 → am_AtN m4_endOf 18 [some (vr a0), some (vi a1)] [] K M Q) (k2 : ¬ (t0 = 0) → am_AtN m4_endOf 9 [some (vr a0), some (vi a1)] [] K M Q) : am_AtN m4_endOf 6 [some (vr a0), some (vi a1)] [vi t0] K M Q := by
  exact s_if_eq (tgt := 18) (show decode (am_cc m4_endOf) 6 = .ok (.ifCond .eq 12, 3) by decide +kernel) (by decide) k1 k2
theorem g4_endOf_9 {a0 a1 : Int} {K : am_K} {M : am_M} {Q : Option am_V → am_M → Prop} {r0_0 : Int} {r0_1 : Int} {r0_2 : Int} {n1 : Nat} {q1 : List Int} (h1 : am_kd K a0 = some (4, 3, [r0_0, r0_1, r0_2])) (h2 : am_kd K r0_2 = some (11, n1, q1)) (h3 : 0 ≤ a1) (h4 : a1 < (n1 : Int)) (k : am_AtN m4_endOf 19 [some (vr a0), some (vi a1)] [vi (M r0_2 a1)] K M Q) : am_AtN m4_endOf 9 [some (vr a0), some (vi a1)] [] K M Q := by
  refine s_aload_n (show decode (am_cc m4_endOf) 9 = .ok (.aload_n 0, 1) by decide +kernel) rfl ?_
  refine s_getf (k := 2) (v := vr r0_2) (show decode (am_cc m4_endOf) 10 = .ok (.getfield 18, 3) by decide +kernel) h1 (by decide) rfl jnX4 (by decide) lf_RX4_18 rfl ?_
  refine s_iload_n (show decode (am_cc m4_endOf) 13 = .ok (.iload_n 1, 1) by decide +kernel) rfl ?_
  refine s_iaload (show decode (am_cc m4_endOf) 14 = .ok (.iaload, 1) by decide +kernel) h2 h3 h4 ?_
  refine s_goto (tgt := 19) (show decode (am_cc m4_endOf) 15 = .ok (.goto 4, 3) by decide +kernel) (by decide) ?_
  exact k
theorem g4_endOf_18 {a0 a1 : Int} {K : am_K} {M : am_M} {Q : Option am_V → am_M → Prop} (k : am_AtN m4_endOf 19 [some (vr a0), some (vi a1)] [vi (-1)] K M Q) : am_AtN m4_endOf 18 [some (vr a0), some (vi a1)] [] K M Q := by
  refine s_iconst (show decode (am_cc m4_endOf) 18 = .ok (.iconst (-1), 1) by decide +kernel) ⟨by decide, by decide⟩ ?_
  exact k
theorem g4_endOf_19 {a0 a1 t0 : Int} {K : am_K} {M : am_M} {Q : Option am_V → am_M → Prop} (k : Q (some (vi t0)) M) : am_AtN m4_endOf 19 [some (vr a0), some (vi a1)] [vi t0] K M Q := by
  exact s_ireturn (show decode (am_cc m4_endOf) 19 = .ok (.ireturn, 1) by decide +kernel) rfl k
theorem g4_lead_0 {a0 a1 a2 a3 a4 : Int} {K : am_K} {M : am_M} {Q : Option am_V → am_M → Prop} (k : am_CallN m8_within [vi a1, vi 6] K M (fun r M' => am_AtN m4_lead 6 [some (vr a0), some (vi a1), some (vi a2), some (vi a3), some (vi a4)] (r.toList ++ []) K M' Q)) : am_AtN m4_lead 0 [some (vr a0), some (vi a1), some (vi a2), some (vi a3), some (vi a4)] [] K M Q := by
  refine s_iload_n (show decode (am_cc m4_lead) 0 = .ok (.iload_n 1, 1) by decide +kernel) rfl ?_
  refine s_bipush (show decode (am_cc m4_lead) 1 = .ok (.bipush 6, 2) by decide +kernel) ⟨by decide, by decide⟩ (by decide) ?_
  exact n_callN (as := [vi a1, vi 6]) (stk := []) (show decode (am_cc m4_lead) 3 = .ok (.invokestatic 28, 3) by decide +kernel) lk_RX4_28 (by decide) (Nat.le_of_ble_eq_true rfl) ⟨rfl, rfl⟩ k
theorem g4_lead_6 {a0 a1 a2 a3 a4 t0 : Int} {K : am_K} {M : am_M} {Q : Option am_V → am_M → Prop} (k1 : t0 = 0 → am_AtN m4_lead 17 [some (vr a0), some (vi a1), some (vi a2), some (vi a3), some (vi a4)] [] K M Q) (k2 : ¬ (t0 = 0) → am_AtN m4_lead 9 [some (vr a0), some (vi a1), some (vi a2), some (vi a3), some (vi a4)] [] K M Q) : am_AtN m4_lead 6 [some (vr a0), some (vi a1), some (vi a2), some (vi a3), some (vi a4)] [vi t0] K M Q := by
  exact s_if_eq (tgt := 17) (show decode (am_cc m4_lead) 6 = .ok (.ifCond .eq 11, 3) by decide +kernel) (by decide) k1 k2
theorem g4_lead_9 {a0 a1 a2 a3 a4 : Int} {K : am_K} {M : am_M} {Q : Option am_V → am_M → Prop} (k : am_CallN m8_within [vi a2, vi 4] K M (fun r M' => am_AtN m4_lead 14 [some (vr a0), some (vi a1), some (vi a2), some (vi a3), some (vi a4)] (r.toList ++ []) K M' Q)) : am_AtN m4_lead 9 [some (vr a0), some (vi a1), some (vi a2), some (vi a3), some (vi a4)] [] K M Q := by
  refine s_iload_n (show decode (am_cc m4_lead) 9 = .ok (.iload_n 2, 1) by decide +kernel) rfl ?_
  refine s_iconst (show decode (am_cc m4_lead) 10 = .ok (.iconst 4, 1) by decide +kernel) ⟨by decide, by decide⟩ ?_
  exact n_callN (as := [vi a2, vi 4]) (stk := []) (show decode (am_cc m4_lead) 11 = .ok (.invokestatic 28, 3) by decide +kernel) lk_RX4_28 (by decide) (Nat.le_of_ble_eq_true rfl) ⟨rfl, rfl⟩ k
theorem g4_lead_14 {a0 a1 a2 a3 a4 t0 : Int} {K : am_K} {M : am_M} {Q : Option am_V → am_M → Prop} (k1 : ¬ t0 = 0 → am_AtN m4_lead 18 [some (vr a0), some (vi a1), some (vi a2), some (vi a3), some (vi a4)] [] K M Q) (k2 : t0 = 0 → am_AtN m4_lead 17 [some (vr a0), some (vi a1), some (vi a2), some (vi a3), some (vi a4)] [] K M Q) : am_AtN m4_lead 14 [some (vr a0), some (vi a1), some (vi a2), some (vi a3), some (vi a4)] [vi t0] K M Q := by
  exact s_if_ne (tgt := 18) (show decode (am_cc m4_lead) 14 = .ok (.ifCond .ne 4, 3) by decide +kernel) (by decide) k1 k2
theorem g4_lead_17 {a0 a1 a2 a3 a4 : Int} {K : am_K} {M : am_M} {Q : Option am_V → am_M → Prop} (k : Q none M) : am_AtN m4_lead 17 [some (vr a0), some (vi a1), some (vi a2), some (vi a3), some (vi a4)] [] K M Q := by
  exact s_return (show decode (am_cc m4_lead) 17 = .ok (.return_, 1) by decide +kernel) rfl k
theorem g4_lead_18 {a0 a1 a2 a3 a4 : Int} {K : am_K} {M : am_M} {Q : Option am_V → am_M → Prop} {r0_0 : Int} {r0_1 : Int} {r0_2 : Int} {n1 : Nat} {q1 : List Int} {n2 : Nat} {q2 : List Int} (h1 : am_kd K a0 = some (4, 3, [r0_0, r0_1, r0_2])) (h2 : -2147483648 ≤ a1 * 4 ∧ a1 * 4 ≤ 2147483647) (h3 : -2147483648 ≤ (a1 * 4) + a2 ∧ (a1 * 4) + a2 ≤ 2147483647) (h4 : am_kd K r0_0 = some (11, n1, q1)) (h5 : 0 ≤ (a1 * 4) + a2) (h6 : (a1 * 4) + a2 < (n1 : Int)) (h7 : -2147483648 ≤ a1 * 4 ∧ a1 * 4 ≤ 2147483647) (h8 : -2147483648 ≤ (a1 * 4) + a2 ∧ (a1 * 4) + a2 ≤ 2147483647) (h9 : am_kd K r0_1 = some (11, n2, q2)) (h10 : 0 ≤ (a1 * 4) + a2) (h11 : (a1 * 4) + a2 < (n2 : Int)) (k : Q none (am_up (am_up M r0_0 ((a1 * 4) + a2) a3) r0_1 ((a1 * 4) + a2) a4)) : am_AtN m4_lead 18 [some (vr a0), some (vi a1), some (vi a2), some (vi a3), some (vi a4)] [] K M Q := by
  refine s_aload_n (show decode (am_cc m4_lead) 18 = .ok (.aload_n 0, 1) by decide +kernel) rfl ?_
  refine s_getf (k := 0) (v := vr r0_0) (show decode (am_cc m4_lead) 19 = .ok (.getfield 9, 3) by decide +kernel) h1 (by decide) rfl jnX4 (by decide) lf_RX4_9 rfl ?_
  refine s_iload_n (show decode (am_cc m4_lead) 22 = .ok (.iload_n 1, 1) by decide +kernel) rfl ?_
  refine s_iconst (show decode (am_cc m4_lead) 23 = .ok (.iconst 4, 1) by decide +kernel) ⟨by decide, by decide⟩ ?_
  refine s_imul (show decode (am_cc m4_lead) 24 = .ok (.imul, 1) by decide +kernel) h2 ?_
  refine s_iload_n (show decode (am_cc m4_lead) 25 = .ok (.iload_n 2, 1) by decide +kernel) rfl ?_
  refine s_iadd (show decode (am_cc m4_lead) 26 = .ok (.iadd, 1) by decide +kernel) h3 ?_
  refine s_iload_n (show decode (am_cc m4_lead) 27 = .ok (.iload_n 3, 1) by decide +kernel) rfl ?_
  refine s_iastore (show decode (am_cc m4_lead) 28 = .ok (.iastore, 1) by decide +kernel) h4 h5 h6 ?_
  refine s_aload_n (show decode (am_cc m4_lead) 29 = .ok (.aload_n 0, 1) by decide +kernel) rfl ?_
  refine s_getf (k := 1) (v := vr r0_1) (show decode (am_cc m4_lead) 30 = .ok (.getfield 15, 3) by decide +kernel) h1 (by decide) rfl jnX4 (by decide) lf_RX4_15 rfl ?_
  refine s_iload_n (show decode (am_cc m4_lead) 33 = .ok (.iload_n 1, 1) by decide +kernel) rfl ?_
  refine s_iconst (show decode (am_cc m4_lead) 34 = .ok (.iconst 4, 1) by decide +kernel) ⟨by decide, by decide⟩ ?_
  refine s_imul (show decode (am_cc m4_lead) 35 = .ok (.imul, 1) by decide +kernel) h7 ?_
  refine s_iload_n (show decode (am_cc m4_lead) 36 = .ok (.iload_n 2, 1) by decide +kernel) rfl ?_
  refine s_iadd (show decode (am_cc m4_lead) 37 = .ok (.iadd, 1) by decide +kernel) h8 ?_
  refine s_iload (show decode (am_cc m4_lead) 38 = .ok (.iload 4, 2) by decide +kernel) rfl ?_
  refine s_iastore (show decode (am_cc m4_lead) 40 = .ok (.iastore, 1) by decide +kernel) h9 h10 h11 ?_
  exact s_return (show decode (am_cc m4_lead) 41 = .ok (.return_, 1) by decide +kernel) rfl k
theorem g4_finish_0 {a0 a1 a2 : Int} {K : am_K} {M : am_M} {Q : Option am_V → am_M → Prop} (k : am_CallN m8_within [vi a1, vi 6] K M (fun r M' => am_AtN m4_finish 6 [some (vr a0), some (vi a1), some (vi a2)] (r.toList ++ []) K M' Q)) : am_AtN m4_finish 0 [some (vr a0), some (vi a1), some (vi a2)] [] K M Q := by
  refine s_iload_n (show decode (am_cc m4_finish) 0 = .ok (.iload_n 1, 1) by decide +kernel) rfl ?_
  refine s_bipush (show decode (am_cc m4_finish) 1 = .ok (.bipush 6, 2) by decide +kernel) ⟨by decide, by decide⟩ (by decide) ?_
  exact n_callN (as := [vi a1, vi 6]) (stk := []) (show decode (am_cc m4_finish) 3 = .ok (.invokestatic 28, 3) by decide +kernel) lk_RX4_28 (by decide) (Nat.le_of_ble_eq_true rfl) ⟨rfl, rfl⟩ k
theorem g4_finish_6 {a0 a1 a2 t0 : Int} {K : am_K} {M : am_M} {Q : Option am_V → am_M → Prop} (k1 : t0 = 0 → am_AtN m4_finish 16 [some (vr a0), some (vi a1), some (vi a2)] [] K M Q) (k2 : ¬ (t0 = 0) → am_AtN m4_finish 9 [some (vr a0), some (vi a1), some (vi a2)] [] K M Q) : am_AtN m4_finish 6 [some (vr a0), some (vi a1), some (vi a2)] [vi t0] K M Q := by
  exact s_if_eq (tgt := 16) (show decode (am_cc m4_finish) 6 = .ok (.ifCond .eq 10, 3) by decide +kernel) (by decide) k1 k2
theorem g4_finish_9 {a0 a1 a2 : Int} {K : am_K} {M : am_M} {Q : Option am_V → am_M → Prop} {r0_0 : Int} {r0_1 : Int} {r0_2 : Int} {n1 : Nat} {q1 : List Int} (h1 : am_kd K a0 = some (4, 3, [r0_0, r0_1, r0_2])) (h2 : am_kd K r0_2 = some (11, n1, q1)) (h3 : 0 ≤ a1) (h4 : a1 < (n1 : Int)) (k : am_AtN m4_finish 16 [some (vr a0), some (vi a1), some (vi a2)] [] K (am_up M r0_2 a1 a2) Q) : am_AtN m4_finish 9 [some (vr a0), some (vi a1), some (vi a2)] [] K M Q := by
  refine s_aload_n (show decode (am_cc m4_finish) 9 = .ok (.aload_n 0, 1) by decide +kernel) rfl ?_
  refine s_getf (k := 2) (v := vr r0_2) (show decode (am_cc m4_finish) 10 = .ok (.getfield 18, 3) by decide +kernel) h1 (by decide) rfl jnX4 (by decide) lf_RX4_18 rfl ?_
  refine s_iload_n (show decode (am_cc m4_finish) 13 = .ok (.iload_n 1, 1) by decide +kernel) rfl ?_
  refine s_iload_n (show decode (am_cc m4_finish) 14 = .ok (.iload_n 2, 1) by decide +kernel) rfl ?_
  refine s_iastore (show decode (am_cc m4_finish) 15 = .ok (.iastore, 1) by decide +kernel) h2 h3 h4 ?_
  exact k
theorem g4_finish_16 {a0 a1 a2 : Int} {K : am_K} {M : am_M} {Q : Option am_V → am_M → Prop} (k : Q none M) : am_AtN m4_finish 16 [some (vr a0), some (vi a1), some (vi a2)] [] K M Q := by
  exact s_return (show decode (am_cc m4_finish) 16 = .ok (.return_, 1) by decide +kernel) rfl k
theorem g4_rewrite_0 {a0 a1 a2 : Int} {K : am_K} {M : am_M} {Q : Option am_V → am_M → Prop} {r0 : List Int} (h1 : am_kd K a2 = some (5, 2, r0)) (k : am_CallN m5_empty [vr a2] K M (fun r M' => am_AtN m4_rewrite 4 [some (vr a0), some (vr a1), some (vr a2), none, none, none] (r.toList ++ []) K M' Q)) : am_AtN m4_rewrite 0 [some (vr a0), some (vr a1), some (vr a2), none, none, none] [] K M Q := by
  refine s_aload_n (show decode (am_cc m4_rewrite) 0 = .ok (.aload_n 2, 1) by decide +kernel) rfl ?_
  exact n_callV (as := []) (stk := []) (show decode (am_cc m4_rewrite) 1 = .ok (.invokevirtual 32, 3) by decide +kernel) lk_RX4_32 h1 (by decide) rfl rfl (by decide) (Nat.le_of_ble_eq_true rfl) ⟨rfl, rfl⟩ k
theorem g4_rewrite_4 {a0 a1 a2 : Int} {K : am_K} {M : am_M} {Q : Option am_V → am_M → Prop} (k : am_AtN m4_rewrite 9 [some (vr a0), some (vr a1), some (vr a2), some (vi 0), some (vi 0), none] [] K M Q) : am_AtN m4_rewrite 4 [some (vr a0), some (vr a1), some (vr a2), none, none, none] [] K M Q := by
  refine s_iconst (show decode (am_cc m4_rewrite) 4 = .ok (.iconst 0, 1) by decide +kernel) ⟨by decide, by decide⟩ ?_
  refine s_istore_n (show decode (am_cc m4_rewrite) 5 = .ok (.istore_n 3, 1) by decide +kernel) (by decide) ?_
  refine s_iconst (show decode (am_cc m4_rewrite) 6 = .ok (.iconst 0, 1) by decide +kernel) ⟨by decide, by decide⟩ ?_
  refine s_istore (show decode (am_cc m4_rewrite) 7 = .ok (.istore 4, 2) by decide +kernel) (by decide) ?_
  exact k
theorem g4_rewrite_9 {a0 a1 a2 a3 a4 : Int} {K : am_K} {M : am_M} {Q : Option am_V → am_M → Prop} {r0 : List Int} (h1 : am_kd K a1 = some (5, 2, r0)) (k : am_CallN m5_size [vr a1] K M (fun r M' => am_AtN m4_rewrite 15 [some (vr a0), some (vr a1), some (vr a2), some (vi a3), some (vi a4), none] (r.toList ++ [vi a4]) K M' Q)) : am_AtN m4_rewrite 9 [some (vr a0), some (vr a1), some (vr a2), some (vi a3), some (vi a4), none] [] K M Q := by
  refine s_iload (show decode (am_cc m4_rewrite) 9 = .ok (.iload 4, 2) by decide +kernel) rfl ?_
  refine s_aload_n (show decode (am_cc m4_rewrite) 11 = .ok (.aload_n 1, 1) by decide +kernel) rfl ?_
  exact n_callV (as := []) (stk := [vi a4]) (show decode (am_cc m4_rewrite) 12 = .ok (.invokevirtual 37, 3) by decide +kernel) lk_RX4_37 h1 (by decide) rfl rfl (by decide) (Nat.le_of_ble_eq_true rfl) ⟨rfl, rfl⟩ k
theorem g4_rewrite_15 {a0 a1 a2 a3 a4 t0 t1 : Int} {K : am_K} {M : am_M} {Q : Option am_V → am_M → Prop} (k1 : t1 ≤ t0 → am_AtN m4_rewrite 51 [some (vr a0), some (vr a1), some (vr a2), some (vi a3), some (vi a4), none] [] K M Q) (k2 : ¬ (t1 ≤ t0) → am_AtN m4_rewrite 18 [some (vr a0), some (vr a1), some (vr a2), some (vi a3), some (vi a4), none] [] K M Q) : am_AtN m4_rewrite 15 [some (vr a0), some (vr a1), some (vr a2), some (vi a3), some (vi a4), none] [vi t1, vi t0] K M Q := by
  exact s_icmp_ge (tgt := 51) (show decode (am_cc m4_rewrite) 15 = .ok (.if_icmp .ge 36, 3) by decide +kernel) (by decide) k1 k2
theorem g4_rewrite_18 {a0 a1 a2 a3 a4 : Int} {K : am_K} {M : am_M} {Q : Option am_V → am_M → Prop} {r0 : List Int} (h1 : am_kd K a1 = some (5, 2, r0)) (k : am_CallN m5_letterAt [vr a1, vi a4] K M (fun r M' => am_AtN m4_rewrite 24 [some (vr a0), some (vr a1), some (vr a2), some (vi a3), some (vi a4), none] (r.toList ++ []) K M' Q)) : am_AtN m4_rewrite 18 [some (vr a0), some (vr a1), some (vr a2), some (vi a3), some (vi a4), none] [] K M Q := by
  refine s_aload_n (show decode (am_cc m4_rewrite) 18 = .ok (.aload_n 1, 1) by decide +kernel) rfl ?_
  refine s_iload (show decode (am_cc m4_rewrite) 19 = .ok (.iload 4, 2) by decide +kernel) rfl ?_
  exact n_callV (as := [vi a4]) (stk := []) (show decode (am_cc m4_rewrite) 21 = .ok (.invokevirtual 41, 3) by decide +kernel) lk_RX4_41 h1 (by decide) rfl rfl (by decide) (Nat.le_of_ble_eq_true rfl) ⟨rfl, rfl⟩ k
theorem g4_rewrite_24 {a0 a1 a2 a3 a4 t0 : Int} {K : am_K} {M : am_M} {Q : Option am_V → am_M → Prop} {r0 : List Int} (h1 : am_kd K a0 = some (4, 3, r0)) (k : am_CallN m4_wordOf [vr a0, vi a3, vi t0] K M (fun r M' => am_AtN m4_rewrite 34 [some (vr a0), some (vr a1), some (vr a2), some (vi a3), some (vi a4), some (vi t0)] (r.toList ++ [vr a2]) K M' Q)) : am_AtN m4_rewrite 24 [some (vr a0), some (vr a1), some (vr a2), some (vi a3), some (vi a4), none] [vi t0] K M Q := by
  refine s_istore (show decode (am_cc m4_rewrite) 24 = .ok (.istore 5, 2) by decide +kernel) (by decide) ?_
  refine s_aload_n (show decode (am_cc m4_rewrite) 26 = .ok (.aload_n 2, 1) by decide +kernel) rfl ?_
  refine s_aload_n (show decode (am_cc m4_rewrite) 27 = .ok (.aload_n 0, 1) by decide +kernel) rfl ?_
  refine s_iload_n (show decode (am_cc m4_rewrite) 28 = .ok (.iload_n 3, 1) by decide +kernel) rfl ?_
  refine s_iload (show decode (am_cc m4_rewrite) 29 = .ok (.iload 5, 2) by decide +kernel) rfl ?_
  exact n_callV (as := [vi a3, vi t0]) (stk := [vr a2]) (show decode (am_cc m4_rewrite) 31 = .ok (.invokevirtual 45, 3) by decide +kernel) lk_RX4_45 h1 (by decide) rfl rfl (by decide) (Nat.le_of_ble_eq_true rfl) ⟨rfl, rfl⟩ k
theorem g4_rewrite_34 {a0 a1 a2 a3 a4 a5 t0 t1 : Int} {K : am_K} {M : am_M} {Q : Option am_V → am_M → Prop} {r0 : List Int} (h1 : am_kd K t0 = some (5, 2, r0)) (k : am_CallN m5_addWord [vr t0, vi t1] K M (fun r M' => am_AtN m4_rewrite 37 [some (vr a0), some (vr a1), some (vr a2), some (vi a3), some (vi a4), some (vi a5)] (r.toList ++ []) K M' Q)) : am_AtN m4_rewrite 34 [some (vr a0), some (vr a1), some (vr a2), some (vi a3), some (vi a4), some (vi a5)] [vi t1, vr t0] K M Q := by
  exact n_callV (as := [vi t1]) (stk := []) (show decode (am_cc m4_rewrite) 34 = .ok (.invokevirtual 49, 3) by decide +kernel) lk_RX4_49 h1 (by decide) rfl rfl (by decide) (Nat.le_of_ble_eq_true rfl) ⟨rfl, rfl⟩ k
theorem g4_rewrite_37 {a0 a1 a2 a3 a4 a5 : Int} {K : am_K} {M : am_M} {Q : Option am_V → am_M → Prop} {r0 : List Int} (h1 : am_kd K a0 = some (4, 3, r0)) (k : am_CallN m4_nextOf [vr a0, vi a3, vi a5] K M (fun r M' => am_AtN m4_rewrite 44 [some (vr a0), some (vr a1), some (vr a2), some (vi a3), some (vi a4), some (vi a5)] (r.toList ++ []) K M' Q)) : am_AtN m4_rewrite 37 [some (vr a0), some (vr a1), some (vr a2), some (vi a3), some (vi a4), some (vi a5)] [] K M Q := by
  refine s_aload_n (show decode (am_cc m4_rewrite) 37 = .ok (.aload_n 0, 1) by decide +kernel) rfl ?_
  refine s_iload_n (show decode (am_cc m4_rewrite) 38 = .ok (.iload_n 3, 1) by decide +kernel) rfl ?_
  refine s_iload (show decode (am_cc m4_rewrite) 39 = .ok (.iload 5, 2) by decide +kernel) rfl ?_
  exact n_callV (as := [vi a3, vi a5]) (stk := []) (show decode (am_cc m4_rewrite) 41 = .ok (.invokevirtual 53, 3) by decide +kernel) lk_RX4_53 h1 (by decide) rfl rfl (by decide) (Nat.le_of_ble_eq_true rfl) ⟨rfl, rfl⟩ k
theorem g4_rewrite_44 {a0 a1 a2 a3 a4 a5 t0 : Int} {K : am_K} {M : am_M} {Q : Option am_V → am_M → Prop} (h1 : -2147483648 ≤ a4 + 1 ∧ a4 + 1 ≤ 2147483647) (k : am_AtN m4_rewrite 9 [some (vr a0), some (vr a1), some (vr a2), some (vi t0), some (vi (a4 + 1)), none] [] K M Q) : am_AtN m4_rewrite 44 [some (vr a0), some (vr a1), some (vr a2), some (vi a3), some (vi a4), some (vi a5)] [vi t0] K M Q := by
  refine s_istore_n (show decode (am_cc m4_rewrite) 44 = .ok (.istore_n 3, 1) by decide +kernel) (by decide) ?_
  refine s_iinc (show decode (am_cc m4_rewrite) 45 = .ok (.iinc 4 1, 3) by decide +kernel) rfl (by decide) h1 ?_
  refine s_goto (tgt := 9) (show decode (am_cc m4_rewrite) 48 = .ok (.goto (-39), 3) by decide +kernel) (by decide) ?_
  refine am_fg 5 ?_
  exact k
theorem g4_rewrite_51 {a0 a1 a2 a3 a4 : Int} {K : am_K} {M : am_M} {Q : Option am_V → am_M → Prop} {r0 : List Int} (h1 : am_kd K a0 = some (4, 3, r0)) (k : am_CallN m4_endOf [vr a0, vi a3] K M (fun r M' => am_AtN m4_rewrite 56 [some (vr a0), some (vr a1), some (vr a2), some (vi a3), some (vi a4), none] (r.toList ++ []) K M' Q)) : am_AtN m4_rewrite 51 [some (vr a0), some (vr a1), some (vr a2), some (vi a3), some (vi a4), none] [] K M Q := by
  refine s_aload_n (show decode (am_cc m4_rewrite) 51 = .ok (.aload_n 0, 1) by decide +kernel) rfl ?_
  refine s_iload_n (show decode (am_cc m4_rewrite) 52 = .ok (.iload_n 3, 1) by decide +kernel) rfl ?_
  exact n_callV (as := [vi a3]) (stk := []) (show decode (am_cc m4_rewrite) 53 = .ok (.invokevirtual 56, 3) by decide +kernel) lk_RX4_56 h1 (by decide) rfl rfl (by decide) (Nat.le_of_ble_eq_true rfl) ⟨rfl, rfl⟩ k
theorem g4_rewrite_56 {a0 a1 a2 a3 a4 t0 : Int} {K : am_K} {M : am_M} {Q : Option am_V → am_M → Prop} (k1 : ¬ t0 = -1 → am_AtN m4_rewrite 62 [some (vr a0), some (vr a1), some (vr a2), some (vi a3), some (vi a4), none] [] K M Q) (k2 : t0 = -1 → am_AtN m4_rewrite 60 [some (vr a0), some (vr a1), some (vr a2), some (vi a3), some (vi a4), none] [] K M Q) : am_AtN m4_rewrite 56 [some (vr a0), some (vr a1), some (vr a2), some (vi a3), some (vi a4), none] [vi t0] K M Q := by
  refine s_iconst (show decode (am_cc m4_rewrite) 56 = .ok (.iconst (-1), 1) by decide +kernel) ⟨by decide, by decide⟩ ?_
  exact s_icmp_ne (tgt := 62) (show decode (am_cc m4_rewrite) 57 = .ok (.if_icmp .ne 5, 3) by decide +kernel) (by decide) k1 k2
theorem g4_rewrite_60 {a0 a1 a2 a3 a4 : Int} {K : am_K} {M : am_M} {Q : Option am_V → am_M → Prop} (k : Q (some (vi 0)) M) : am_AtN m4_rewrite 60 [some (vr a0), some (vr a1), some (vr a2), some (vi a3), some (vi a4), none] [] K M Q := by
  refine s_iconst (show decode (am_cc m4_rewrite) 60 = .ok (.iconst 0, 1) by decide +kernel) ⟨by decide, by decide⟩ ?_
  exact s_zreturn (show decode (am_cc m4_rewrite) 61 = .ok (.ireturn, 1) by decide +kernel) rfl (by decide) k
theorem g4_rewrite_62 {a0 a1 a2 a3 a4 : Int} {K : am_K} {M : am_M} {Q : Option am_V → am_M → Prop} {r0 : List Int} (h1 : am_kd K a0 = some (4, 3, r0)) (k : am_CallN m4_endOf [vr a0, vi a3] K M (fun r M' => am_AtN m4_rewrite 68 [some (vr a0), some (vr a1), some (vr a2), some (vi a3), some (vi a4), none] (r.toList ++ [vr a2]) K M' Q)) : am_AtN m4_rewrite 62 [some (vr a0), some (vr a1), some (vr a2), some (vi a3), some (vi a4), none] [] K M Q := by
  refine s_aload_n (show decode (am_cc m4_rewrite) 62 = .ok (.aload_n 2, 1) by decide +kernel) rfl ?_
  refine s_aload_n (show decode (am_cc m4_rewrite) 63 = .ok (.aload_n 0, 1) by decide +kernel) rfl ?_
  refine s_iload_n (show decode (am_cc m4_rewrite) 64 = .ok (.iload_n 3, 1) by decide +kernel) rfl ?_
  exact n_callV (as := [vi a3]) (stk := [vr a2]) (show decode (am_cc m4_rewrite) 65 = .ok (.invokevirtual 56, 3) by decide +kernel) lk_RX4_56 h1 (by decide) rfl rfl (by decide) (Nat.le_of_ble_eq_true rfl) ⟨rfl, rfl⟩ k
theorem g4_rewrite_68 {a0 a1 a2 a3 a4 t0 t1 : Int} {K : am_K} {M : am_M} {Q : Option am_V → am_M → Prop} {r0 : List Int} (h1 : am_kd K t0 = some (5, 2, r0)) (k : am_CallN m5_addWord [vr t0, vi t1] K M (fun r M' => am_AtN m4_rewrite 71 [some (vr a0), some (vr a1), some (vr a2), some (vi a3), some (vi a4), none] (r.toList ++ []) K M' Q)) : am_AtN m4_rewrite 68 [some (vr a0), some (vr a1), some (vr a2), some (vi a3), some (vi a4), none] [vi t1, vr t0] K M Q := by
  exact n_callV (as := [vi t1]) (stk := []) (show decode (am_cc m4_rewrite) 68 = .ok (.invokevirtual 49, 3) by decide +kernel) lk_RX4_49 h1 (by decide) rfl rfl (by decide) (Nat.le_of_ble_eq_true rfl) ⟨rfl, rfl⟩ k
theorem g4_rewrite_71 {a0 a1 a2 a3 a4 : Int} {K : am_K} {M : am_M} {Q : Option am_V → am_M → Prop} (k : Q (some (vi 1)) M) : am_AtN m4_rewrite 71 [some (vr a0), some (vr a1), some (vr a2), some (vi a3), some (vi a4), none] [] K M Q := by
  refine s_iconst (show decode (am_cc m4_rewrite) 71 = .ok (.iconst 1, 1) by decide +kernel) ⟨by decide, by decide⟩ ?_
  exact s_zreturn (show decode (am_cc m4_rewrite) 72 = .ok (.ireturn, 1) by decide +kernel) rfl (by decide) k
theorem g5_size_0 {a0 : Int} {K : am_K} {M : am_M} {Q : Option am_V → am_M → Prop} {r0_0 : Int} {r0_1 : Int} (h1 : am_kd K a0 = some (5, 2, [r0_0, r0_1])) (k : Q (some (vi (M a0 1))) M) : am_AtN m5_size 0 [some (vr a0)] [] K M Q := by
  refine s_aload_n (show decode (am_cc m5_size) 0 = .ok (.aload_n 0, 1) by decide +kernel) rfl ?_
  refine s_getf (k := 1) (v := vi (M a0 1)) (show decode (am_cc m5_size) 1 = .ok (.getfield 21, 3) by decide +kernel) h1 (by decide) rfl jnX5 (by decide) lf_RX5_21 rfl ?_
  exact s_ireturn (show decode (am_cc m5_size) 4 = .ok (.ireturn, 1) by decide +kernel) rfl k
theorem g5_empty_0 {a0 : Int} {K : am_K} {M : am_M} {Q : Option am_V → am_M → Prop} {r0_0 : Int} {r0_1 : Int} (h1 : am_kd K a0 = some (5, 2, [r0_0, r0_1])) (k : Q none (am_up M a0 1 0)) : am_AtN m5_empty 0 [some (vr a0)] [] K M Q := by
  refine s_aload_n (show decode (am_cc m5_empty) 0 = .ok (.aload_n 0, 1) by decide +kernel) rfl ?_
  refine s_iconst (show decode (am_cc m5_empty) 1 = .ok (.iconst 0, 1) by decide +kernel) ⟨by decide, by decide⟩ ?_
  refine s_putf (k := 1) (x := 0) (ty0 := tyX5) (show decode (am_cc m5_empty) 2 = .ok (.putfield 21, 3) by decide +kernel) h1 (by decide) rfl jnX5 tyX5_ok nmX5 (by decide) lf_RX5_21 rfl (Or.inl ⟨rfl, rfl, rfl⟩) ?_
  exact s_return (show decode (am_cc m5_empty) 5 = .ok (.return_, 1) by decide +kernel) rfl k
theorem g5_letterAt_0 {a0 a1 : Int} {K : am_K} {M : am_M} {Q : Option am_V → am_M → Prop} {r0_0 : Int} {r0_1 : Int} (h1 : am_kd K a0 = some (5, 2, [r0_0, r0_1])) (k : am_CallN m8_within [vi a1, vi (M a0 1)] K M (fun r M' => am_AtN m5_letterAt 8 [some (vr a0), some (vi a1)] (r.toList ++ []) K M' Q)) : am_AtN m5_letterAt 0 [some (vr a0), some (vi a1)] [] K M Q := by
  refine s_iload_n (show decode (am_cc m5_letterAt) 0 = .ok (.iload_n 1, 1) by decide +kernel) rfl ?_
  refine s_aload_n (show decode (am_cc m5_letterAt) 1 = .ok (.aload_n 0, 1) by decide +kernel) rfl ?_
  refine s_getf (k := 1) (v := vi (M a0 1)) (show decode (am_cc m5_letterAt) 2 = .ok (.getfield 21, 3) by decide +kernel) h1 (by decide) rfl jnX5 (by decide) lf_RX5_21 rfl ?_
  exact n_callN (as := [vi a1, vi (M a0 1)]) (stk := []) (show decode (am_cc m5_letterAt) 5 = .ok (.invokestatic 25, 3) by decide +kernel) lk_RX5_25 (by decide) (Nat.le_of_ble_eq_true rfl) ⟨rfl, rfl⟩ k
theorem g5_letterAt_8 {a0 a1 t0 : Int} {K : am_K} {M : am_M} {Q : Option am_V → am_M → Prop} (k1 : t0 = 0 → am_AtN m5_letterAt 29 [some (vr a0), some (vi a1)] [] K M Q) (k2 : ¬ (t0 = 0) → am_AtN m5_letterAt 11 [some (vr a0), some (vi a1)] [] K M Q) : am_AtN m5_letterAt 8 [some (vr a0), some (vi a1)] [vi t0] K M Q := by
  exact s_if_eq (tgt := 29) (show decode (am_cc m5_letterAt) 8 = .ok (.ifCond .eq 21, 3) by decide +kernel) (by decide) k1 k2
theorem g5_letterAt_11 {a0 a1 : Int} {K : am_K} {M : am_M} {Q : Option am_V → am_M → Prop} {r0_0 : Int} {r0_1 : Int} {n1 : Nat} {q1 : List Int} (h1 : am_kd K a0 = some (5, 2, [r0_0, r0_1])) (h2 : am_kd K r0_0 = some (11, n1, q1)) (h3 : -2147483648 ≤ (n1 : Int) ∧ (n1 : Int) ≤ 2147483647) (k1 : (n1 : Int) ≤ a1 → am_AtN m5_letterAt 29 [some (vr a0), some (vi a1)] [] K M Q) (k2 : ¬ ((n1 : Int) ≤ a1) → am_AtN m5_letterAt 20 [some (vr a0), some (vi a1)] [] K M Q) : am_AtN m5_letterAt 11 [some (vr a0), some (vi a1)] [] K M Q := by
  refine s_iload_n (show decode (am_cc m5_letterAt) 11 = .ok (.iload_n 1, 1) by decide +kernel) rfl ?_
  refine s_aload_n (show decode (am_cc m5_letterAt) 12 = .ok (.aload_n 0, 1) by decide +kernel) rfl ?_
  refine s_getf (k := 0) (v := vr r0_0) (show decode (am_cc m5_letterAt) 13 = .ok (.getfield 15, 3) by decide +kernel) h1 (by decide) rfl jnX5 (by decide) lf_RX5_15 rfl ?_
  refine s_alen (show decode (am_cc m5_letterAt) 16 = .ok (.arraylength, 1) by decide +kernel) h2 rfl h3 ?_
  exact s_icmp_ge (tgt := 29) (show decode (am_cc m5_letterAt) 17 = .ok (.if_icmp .ge 12, 3) by decide +kernel) (by decide) k1 k2
theorem g5_letterAt_20 {a0 a1 : Int} {K : am_K} {M : am_M} {Q : Option am_V → am_M → Prop} {r0_0 : Int} {r0_1 : Int} {n1 : Nat} {q1 : List Int} (h1 : am_kd K a0 = some (5, 2, [r0_0, r0_1])) (h2 : am_kd K r0_0 = some (11, n1, q1)) (h3 : 0 ≤ a1) (h4 : a1 < (n1 : Int)) (k : am_AtN m5_letterAt 31 [some (vr a0), some (vi a1)] [vi (M r0_0 a1)] K M Q) : am_AtN m5_letterAt 20 [some (vr a0), some (vi a1)] [] K M Q := by
  refine s_aload_n (show decode (am_cc m5_letterAt) 20 = .ok (.aload_n 0, 1) by decide +kernel) rfl ?_
  refine s_getf (k := 0) (v := vr r0_0) (show decode (am_cc m5_letterAt) 21 = .ok (.getfield 15, 3) by decide +kernel) h1 (by decide) rfl jnX5 (by decide) lf_RX5_15 rfl ?_
  refine s_iload_n (show decode (am_cc m5_letterAt) 24 = .ok (.iload_n 1, 1) by decide +kernel) rfl ?_
  refine s_iaload (show decode (am_cc m5_letterAt) 25 = .ok (.iaload, 1) by decide +kernel) h2 h3 h4 ?_
  refine s_goto (tgt := 31) (show decode (am_cc m5_letterAt) 26 = .ok (.goto 5, 3) by decide +kernel) (by decide) ?_
  exact k
theorem g5_letterAt_29 {a0 a1 : Int} {K : am_K} {M : am_M} {Q : Option am_V → am_M → Prop} (k : am_AtN m5_letterAt 31 [some (vr a0), some (vi a1)] [vi (-9)] K M Q) : am_AtN m5_letterAt 29 [some (vr a0), some (vi a1)] [] K M Q := by
  refine s_bipush (show decode (am_cc m5_letterAt) 29 = .ok (.bipush (-9), 2) by decide +kernel) ⟨by decide, by decide⟩ (by decide) ?_
  exact k
theorem g5_letterAt_31 {a0 a1 t0 : Int} {K : am_K} {M : am_M} {Q : Option am_V → am_M → Prop} (k : Q (some (vi t0)) M) : am_AtN m5_letterAt 31 [some (vr a0), some (vi a1)] [vi t0] K M Q := by
  exact s_ireturn (show decode (am_cc m5_letterAt) 31 = .ok (.ireturn, 1) by decide +kernel) rfl k
theorem g5_add_0 {a0 a1 : Int} {K : am_K} {M : am_M} {Q : Option am_V → am_M → Prop} {r0_0 : Int} {r0_1 : Int} {n1 : Nat} {q1 : List Int} (h1 : am_kd K a0 = some (5, 2, [r0_0, r0_1])) (h2 : am_kd K r0_0 = some (11, n1, q1)) (h3 : -2147483648 ≤ (n1 : Int) ∧ (n1 : Int) ≤ 2147483647) (k : am_CallN m8_within [vi (M a0 1), vi (n1 : Int)] K M (fun r M' => am_AtN m5_add 12 [some (vr a0), some (vi a1)] (r.toList ++ []) K M' Q)) : am_AtN m5_add 0 [some (vr a0), some (vi a1)] [] K M Q := by
  refine s_aload_n (show decode (am_cc m5_add) 0 = .ok (.aload_n 0, 1) by decide +kernel) rfl ?_
  refine s_getf (k := 1) (v := vi (M a0 1)) (show decode (am_cc m5_add) 1 = .ok (.getfield 21, 3) by decide +kernel) h1 (by decide) rfl jnX5 (by decide) lf_RX5_21 rfl ?_
  refine s_aload_n (show decode (am_cc m5_add) 4 = .ok (.aload_n 0, 1) by decide +kernel) rfl ?_
  refine s_getf (k := 0) (v := vr r0_0) (show decode (am_cc m5_add) 5 = .ok (.getfield 15, 3) by decide +kernel) h1 (by decide) rfl jnX5 (by decide) lf_RX5_15 rfl ?_
  refine s_alen (show decode (am_cc m5_add) 8 = .ok (.arraylength, 1) by decide +kernel) h2 rfl h3 ?_
  exact n_callN (as := [vi (M a0 1), vi (n1 : Int)]) (stk := []) (show decode (am_cc m5_add) 9 = .ok (.invokestatic 25, 3) by decide +kernel) lk_RX5_25 (by decide) (Nat.le_of_ble_eq_true rfl) ⟨rfl, rfl⟩ k
theorem g5_add_12 {a0 a1 t0 : Int} {K : am_K} {M : am_M} {Q : Option am_V → am_M → Prop} (k1 : ¬ t0 = 0 → am_AtN m5_add 16 [some (vr a0), some (vi a1)] [] K M Q) (k2 : t0 = 0 → am_AtN m5_add 15 [some (vr a0), some (vi a1)] [] K M Q) : am_AtN m5_add 12 [some (vr a0), some (vi a1)] [vi t0] K M Q := by
  exact s_if_ne (tgt := 16) (show decode (am_cc m5_add) 12 = .ok (.ifCond .ne 4, 3) by decide +kernel) (by decide) k1 k2
theorem g5_add_15 {a0 a1 : Int} {K : am_K} {M : am_M} {Q : Option am_V → am_M → Prop} (k : Q none M) : am_AtN m5_add 15 [some (vr a0), some (vi a1)] [] K M Q := by
  exact s_return (show decode (am_cc m5_add) 15 = .ok (.return_, 1) by decide +kernel) rfl k
theorem g5_add_16 {a0 a1 : Int} {K : am_K} {M : am_M} {Q : Option am_V → am_M → Prop} {r0_0 : Int} {r0_1 : Int} {n1 : Nat} {q1 : List Int} (h1 : am_kd K a0 = some (5, 2, [r0_0, r0_1])) (h2 : am_kd K r0_0 = some (11, n1, q1)) (h3 : 0 ≤ M a0 1) (h4 : M a0 1 < (n1 : Int)) (h5 : -2147483648 ≤ ((am_up M r0_0 (M a0 1) a1) a0 1) + 1 ∧ ((am_up M r0_0 (M a0 1) a1) a0 1) + 1 ≤ 2147483647) (k : Q none (am_up (am_up M r0_0 (M a0 1) a1) a0 1 (((am_up M r0_0 (M a0 1) a1) a0 1) + 1))) : am_AtN m5_add 16 [some (vr a0), some (vi a1)] [] K M Q := by
  refine s_aload_n (show decode (am_cc m5_add) 16 = .ok (.aload_n 0, 1) by decide +kernel) rfl ?_
  refine s_getf (k := 0) (v := vr r0_0) (show decode (am_cc m5_add) 17 = .ok (.getfield 15, 3) by decide +kernel) h1 (by decide) rfl jnX5 (by decide) lf_RX5_15 rfl ?_
  refine s_aload_n (show decode (am_cc m5_add) 20 = .ok (.aload_n 0, 1) by decide +kernel) rfl ?_
  refine s_getf (k := 1) (v := vi (M a0 1)) (show decode (am_cc m5_add) 21 = .ok (.getfield 21, 3) by decide +kernel) h1 (by decide) rfl jnX5 (by decide) lf_RX5_21 rfl ?_
  refine s_iload_n (show decode (am_cc m5_add) 24 = .ok (.iload_n 1, 1) by decide +kernel) rfl ?_
  refine s_iastore (show decode (am_cc m5_add) 25 = .ok (.iastore, 1) by decide +kernel) h2 h3 h4 ?_
  refine s_aload_n (show decode (am_cc m5_add) 26 = .ok (.aload_n 0, 1) by decide +kernel) rfl ?_
  refine s_dupr (show decode (am_cc m5_add) 27 = .ok (.dup, 1) by decide +kernel) ?_
  refine s_getf (k := 1) (v := vi ((am_up M r0_0 (M a0 1) a1) a0 1)) (show decode (am_cc m5_add) 28 = .ok (.getfield 21, 3) by decide +kernel) h1 (by decide) rfl jnX5 (by decide) lf_RX5_21 rfl ?_
  refine s_iconst (show decode (am_cc m5_add) 31 = .ok (.iconst 1, 1) by decide +kernel) ⟨by decide, by decide⟩ ?_
  refine s_iadd (show decode (am_cc m5_add) 32 = .ok (.iadd, 1) by decide +kernel) h5 ?_
  refine s_putf (k := 1) (x := ((am_up M r0_0 (M a0 1) a1) a0 1) + 1) (ty0 := tyX5) (show decode (am_cc m5_add) 33 = .ok (.putfield 21, 3) by decide +kernel) h1 (by decide) rfl jnX5 tyX5_ok nmX5 (by decide) lf_RX5_21 rfl (Or.inl ⟨rfl, rfl, rfl⟩) ?_
  exact s_return (show decode (am_cc m5_add) 36 = .ok (.return_, 1) by decide +kernel) rfl k
theorem g5_addWord_0 {a0 a1 : Int} {K : am_K} {M : am_M} {Q : Option am_V → am_M → Prop} (k : am_AtN m5_addWord 2 [some (vr a0), some (vi a1), some (vi 0)] [] K M Q) : am_AtN m5_addWord 0 [some (vr a0), some (vi a1), none] [] K M Q := by
  refine s_iconst (show decode (am_cc m5_addWord) 0 = .ok (.iconst 0, 1) by decide +kernel) ⟨by decide, by decide⟩ ?_
  refine s_istore_n (show decode (am_cc m5_addWord) 1 = .ok (.istore_n 2, 1) by decide +kernel) (by decide) ?_
  exact k
theorem g5_addWord_2 {a0 a1 a2 : Int} {K : am_K} {M : am_M} {Q : Option am_V → am_M → Prop} (k : am_CallN m8_wordLength [vi a1] K M (fun r M' => am_AtN m5_addWord 7 [some (vr a0), some (vi a1), some (vi a2)] (r.toList ++ [vi a2]) K M' Q)) : am_AtN m5_addWord 2 [some (vr a0), some (vi a1), some (vi a2)] [] K M Q := by
  refine s_iload_n (show decode (am_cc m5_addWord) 2 = .ok (.iload_n 2, 1) by decide +kernel) rfl ?_
  refine s_iload_n (show decode (am_cc m5_addWord) 3 = .ok (.iload_n 1, 1) by decide +kernel) rfl ?_
  exact n_callN (as := [vi a1]) (stk := [vi a2]) (show decode (am_cc m5_addWord) 4 = .ok (.invokestatic 29, 3) by decide +kernel) lk_RX5_29 (by decide) (Nat.le_of_ble_eq_true rfl) ⟨rfl, rfl⟩ k
theorem g5_addWord_7 {a0 a1 a2 t0 t1 : Int} {K : am_K} {M : am_M} {Q : Option am_V → am_M → Prop} (k1 : t1 ≤ t0 → am_AtN m5_addWord 25 [some (vr a0), some (vi a1), some (vi a2)] [] K M Q) (k2 : ¬ (t1 ≤ t0) → am_AtN m5_addWord 10 [some (vr a0), some (vi a1), some (vi a2)] [] K M Q) : am_AtN m5_addWord 7 [some (vr a0), some (vi a1), some (vi a2)] [vi t1, vi t0] K M Q := by
  exact s_icmp_ge (tgt := 25) (show decode (am_cc m5_addWord) 7 = .ok (.if_icmp .ge 18, 3) by decide +kernel) (by decide) k1 k2
theorem g5_addWord_10 {a0 a1 a2 : Int} {K : am_K} {M : am_M} {Q : Option am_V → am_M → Prop} (k : am_CallN m8_wordLetter [vi a1, vi a2] K M (fun r M' => am_AtN m5_addWord 16 [some (vr a0), some (vi a1), some (vi a2)] (r.toList ++ [vr a0]) K M' Q)) : am_AtN m5_addWord 10 [some (vr a0), some (vi a1), some (vi a2)] [] K M Q := by
  refine s_aload_n (show decode (am_cc m5_addWord) 10 = .ok (.aload_n 0, 1) by decide +kernel) rfl ?_
  refine s_iload_n (show decode (am_cc m5_addWord) 11 = .ok (.iload_n 1, 1) by decide +kernel) rfl ?_
  refine s_iload_n (show decode (am_cc m5_addWord) 12 = .ok (.iload_n 2, 1) by decide +kernel) rfl ?_
  exact n_callN (as := [vi a1, vi a2]) (stk := [vr a0]) (show decode (am_cc m5_addWord) 13 = .ok (.invokestatic 33, 3) by decide +kernel) lk_RX5_33 (by decide) (Nat.le_of_ble_eq_true rfl) ⟨rfl, rfl⟩ k
theorem g5_addWord_16 {a0 a1 a2 t0 t1 : Int} {K : am_K} {M : am_M} {Q : Option am_V → am_M → Prop} {r0 : List Int} (h1 : am_kd K t0 = some (5, 2, r0)) (k : am_CallN m5_add [vr t0, vi t1] K M (fun r M' => am_AtN m5_addWord 19 [some (vr a0), some (vi a1), some (vi a2)] (r.toList ++ []) K M' Q)) : am_AtN m5_addWord 16 [some (vr a0), some (vi a1), some (vi a2)] [vi t1, vr t0] K M Q := by
  exact n_callV (as := [vi t1]) (stk := []) (show decode (am_cc m5_addWord) 16 = .ok (.invokevirtual 36, 3) by decide +kernel) lk_RX5_36 h1 (by decide) rfl rfl (by decide) (Nat.le_of_ble_eq_true rfl) ⟨rfl, rfl⟩ k
theorem g5_addWord_19 {a0 a1 a2 : Int} {K : am_K} {M : am_M} {Q : Option am_V → am_M → Prop} (h1 : -2147483648 ≤ a2 + 1 ∧ a2 + 1 ≤ 2147483647) (k : am_AtN m5_addWord 2 [some (vr a0), some (vi a1), some (vi (a2 + 1))] [] K M Q) : am_AtN m5_addWord 19 [some (vr a0), some (vi a1), some (vi a2)] [] K M Q := by
  refine s_iinc (show decode (am_cc m5_addWord) 19 = .ok (.iinc 2 1, 3) by decide +kernel) rfl (by decide) h1 ?_
  refine s_goto (tgt := 2) (show decode (am_cc m5_addWord) 22 = .ok (.goto (-20), 3) by decide +kernel) (by decide) ?_
  exact k
theorem g5_addWord_25 {a0 a1 a2 : Int} {K : am_K} {M : am_M} {Q : Option am_V → am_M → Prop} (k : Q none M) : am_AtN m5_addWord 25 [some (vr a0), some (vi a1), some (vi a2)] [] K M Q := by
  exact s_return (show decode (am_cc m5_addWord) 25 = .ok (.return_, 1) by decide +kernel) rfl k
theorem g5_copy_0 {a0 a1 : Int} {K : am_K} {M : am_M} {Q : Option am_V → am_M → Prop} {r0 : List Int} (h1 : am_kd K a0 = some (5, 2, r0)) (k : am_CallN m5_empty [vr a0] K M (fun r M' => am_AtN m5_copy 4 [some (vr a0), some (vr a1), none] (r.toList ++ []) K M' Q)) : am_AtN m5_copy 0 [some (vr a0), some (vr a1), none] [] K M Q := by
  refine s_aload_n (show decode (am_cc m5_copy) 0 = .ok (.aload_n 0, 1) by decide +kernel) rfl ?_
  exact n_callV (as := []) (stk := []) (show decode (am_cc m5_copy) 1 = .ok (.invokevirtual 40, 3) by decide +kernel) lk_RX5_40 h1 (by decide) rfl rfl (by decide) (Nat.le_of_ble_eq_true rfl) ⟨rfl, rfl⟩ k
theorem g5_copy_4 {a0 a1 : Int} {K : am_K} {M : am_M} {Q : Option am_V → am_M → Prop} (k : am_AtN m5_copy 6 [some (vr a0), some (vr a1), some (vi 0)] [] K M Q) : am_AtN m5_copy 4 [some (vr a0), some (vr a1), none] [] K M Q := by
  refine s_iconst (show decode (am_cc m5_copy) 4 = .ok (.iconst 0, 1) by decide +kernel) ⟨by decide, by decide⟩ ?_
  refine s_istore_n (show decode (am_cc m5_copy) 5 = .ok (.istore_n 2, 1) by decide +kernel) (by decide) ?_
  exact k
theorem g5_copy_6 {a0 a1 a2 : Int} {K : am_K} {M : am_M} {Q : Option am_V → am_M → Prop} {r0_0 : Int} {r0_1 : Int} (h1 : am_kd K a1 = some (5, 2, [r0_0, r0_1])) (k1 : M a1 1 ≤ a2 → am_AtN m5_copy 29 [some (vr a0), some (vr a1), some (vi a2)] [] K M Q) (k2 : ¬ (M a1 1 ≤ a2) → am_AtN m5_copy 14 [some (vr a0), some (vr a1), some (vi a2)] [] K M Q) : am_AtN m5_copy 6 [some (vr a0), some (vr a1), some (vi a2)] [] K M Q := by
  refine s_iload_n (show decode (am_cc m5_copy) 6 = .ok (.iload_n 2, 1) by decide +kernel) rfl ?_
  refine s_aload_n (show decode (am_cc m5_copy) 7 = .ok (.aload_n 1, 1) by decide +kernel) rfl ?_
  refine s_getf (k := 1) (v := vi (M a1 1)) (show decode (am_cc m5_copy) 8 = .ok (.getfield 21, 3) by decide +kernel) h1 (by decide) rfl jnX5 (by decide) lf_RX5_21 rfl ?_
  exact s_icmp_ge (tgt := 29) (show decode (am_cc m5_copy) 11 = .ok (.if_icmp .ge 18, 3) by decide +kernel) (by decide) k1 k2
theorem g5_copy_14 {a0 a1 a2 : Int} {K : am_K} {M : am_M} {Q : Option am_V → am_M → Prop} {r0 : List Int} (h1 : am_kd K a1 = some (5, 2, r0)) (k : am_CallN m5_letterAt [vr a1, vi a2] K M (fun r M' => am_AtN m5_copy 20 [some (vr a0), some (vr a1), some (vi a2)] (r.toList ++ [vr a0]) K M' Q)) : am_AtN m5_copy 14 [some (vr a0), some (vr a1), some (vi a2)] [] K M Q := by
  refine s_aload_n (show decode (am_cc m5_copy) 14 = .ok (.aload_n 0, 1) by decide +kernel) rfl ?_
  refine s_aload_n (show decode (am_cc m5_copy) 15 = .ok (.aload_n 1, 1) by decide +kernel) rfl ?_
  refine s_iload_n (show decode (am_cc m5_copy) 16 = .ok (.iload_n 2, 1) by decide +kernel) rfl ?_
  exact n_callV (as := [vi a2]) (stk := [vr a0]) (show decode (am_cc m5_copy) 17 = .ok (.invokevirtual 43, 3) by decide +kernel) lk_RX5_43 h1 (by decide) rfl rfl (by decide) (Nat.le_of_ble_eq_true rfl) ⟨rfl, rfl⟩ k
theorem g5_copy_20 {a0 a1 a2 t0 t1 : Int} {K : am_K} {M : am_M} {Q : Option am_V → am_M → Prop} {r0 : List Int} (h1 : am_kd K t0 = some (5, 2, r0)) (k : am_CallN m5_add [vr t0, vi t1] K M (fun r M' => am_AtN m5_copy 23 [some (vr a0), some (vr a1), some (vi a2)] (r.toList ++ []) K M' Q)) : am_AtN m5_copy 20 [some (vr a0), some (vr a1), some (vi a2)] [vi t1, vr t0] K M Q := by
  exact n_callV (as := [vi t1]) (stk := []) (show decode (am_cc m5_copy) 20 = .ok (.invokevirtual 36, 3) by decide +kernel) lk_RX5_36 h1 (by decide) rfl rfl (by decide) (Nat.le_of_ble_eq_true rfl) ⟨rfl, rfl⟩ k
theorem g5_copy_23 {a0 a1 a2 : Int} {K : am_K} {M : am_M} {Q : Option am_V → am_M → Prop} (h1 : -2147483648 ≤ a2 + 1 ∧ a2 + 1 ≤ 2147483647) (k : am_AtN m5_copy 6 [some (vr a0), some (vr a1), some (vi (a2 + 1))] [] K M Q) : am_AtN m5_copy 23 [some (vr a0), some (vr a1), some (vi a2)] [] K M Q := by
  refine s_iinc (show decode (am_cc m5_copy) 23 = .ok (.iinc 2 1, 3) by decide +kernel) rfl (by decide) h1 ?_
  refine s_goto (tgt := 6) (show decode (am_cc m5_copy) 26 = .ok (.goto (-20), 3) by decide +kernel) (by decide) ?_
  exact k
theorem g5_copy_29 {a0 a1 a2 : Int} {K : am_K} {M : am_M} {Q : Option am_V → am_M → Prop} (k : Q none M) : am_AtN m5_copy 29 [some (vr a0), some (vr a1), some (vi a2)] [] K M Q := by
  exact s_return (show decode (am_cc m5_copy) 29 = .ok (.return_, 1) by decide +kernel) rfl k
theorem g5_isLike_0 {a0 a1 : Int} {K : am_K} {M : am_M} {Q : Option am_V → am_M → Prop} {r0_0 : Int} {r0_1 : Int} {r1_0 : Int} {r1_1 : Int} (h1 : am_kd K a0 = some (5, 2, [r0_0, r0_1])) (h2 : am_kd K a1 = some (5, 2, [r1_0, r1_1])) (k1 : ¬ M a0 1 = M a1 1 → am_AtN m5_isLike 23 [some (vr a0), some (vr a1)] [] K M Q) (k2 : M a0 1 = M a1 1 → am_AtN m5_isLike 11 [some (vr a0), some (vr a1)] [] K M Q) : am_AtN m5_isLike 0 [some (vr a0), some (vr a1)] [] K M Q := by
  refine s_aload_n (show decode (am_cc m5_isLike) 0 = .ok (.aload_n 0, 1) by decide +kernel) rfl ?_
  refine s_getf (k := 1) (v := vi (M a0 1)) (show decode (am_cc m5_isLike) 1 = .ok (.getfield 21, 3) by decide +kernel) h1 (by decide) rfl jnX5 (by decide) lf_RX5_21 rfl ?_
  refine s_aload_n (show decode (am_cc m5_isLike) 4 = .ok (.aload_n 1, 1) by decide +kernel) rfl ?_
  refine s_getf (k := 1) (v := vi (M a1 1)) (show decode (am_cc m5_isLike) 5 = .ok (.getfield 21, 3) by decide +kernel) h2 (by decide) rfl jnX5 (by decide) lf_RX5_21 rfl ?_
  exact s_icmp_ne (tgt := 23) (show decode (am_cc m5_isLike) 8 = .ok (.if_icmp .ne 15, 3) by decide +kernel) (by decide) k1 k2
theorem g5_isLike_11 {a0 a1 : Int} {K : am_K} {M : am_M} {Q : Option am_V → am_M → Prop} {r0 : List Int} (h1 : am_kd K a0 = some (5, 2, r0)) (k : am_CallN m5_isLikeSoFar [vr a0, vr a1] K M (fun r M' => am_AtN m5_isLike 16 [some (vr a0), some (vr a1)] (r.toList ++ []) K M' Q)) : am_AtN m5_isLike 11 [some (vr a0), some (vr a1)] [] K M Q := by
  refine s_aload_n (show decode (am_cc m5_isLike) 11 = .ok (.aload_n 0, 1) by decide +kernel) rfl ?_
  refine s_aload_n (show decode (am_cc m5_isLike) 12 = .ok (.aload_n 1, 1) by decide +kernel) rfl ?_
  exact n_callV (as := [vr a1]) (stk := []) (show decode (am_cc m5_isLike) 13 = .ok (.invokevirtual 46, 3) by decide +kernel) lk_RX5_46 h1 (by decide) rfl rfl (by decide) (Nat.le_of_ble_eq_true rfl) ⟨rfl, rfl⟩ k
theorem g5_isLike_16 {a0 a1 t0 : Int} {K : am_K} {M : am_M} {Q : Option am_V → am_M → Prop} (k1 : t0 = 0 → am_AtN m5_isLike 23 [some (vr a0), some (vr a1)] [] K M Q) (k2 : ¬ (t0 = 0) → am_AtN m5_isLike 19 [some (vr a0), some (vr a1)] [] K M Q) : am_AtN m5_isLike 16 [some (vr a0), some (vr a1)] [vi t0] K M Q := by
  exact s_if_eq (tgt := 23) (show decode (am_cc m5_isLike) 16 = .ok (.ifCond .eq 7, 3) by decide +kernel) (by decide) k1 k2
theorem g5_isLike_19 {a0 a1 : Int} {K : am_K} {M : am_M} {Q : Option am_V → am_M → Prop} (k : am_AtN m5_isLike 24 [some (vr a0), some (vr a1)] [vi 1] K M Q) : am_AtN m5_isLike 19 [some (vr a0), some (vr a1)] [] K M Q := by
  refine s_iconst (show decode (am_cc m5_isLike) 19 = .ok (.iconst 1, 1) by decide +kernel) ⟨by decide, by decide⟩ ?_
  refine s_goto (tgt := 24) (show decode (am_cc m5_isLike) 20 = .ok (.goto 4, 3) by decide +kernel) (by decide) ?_
  exact k
theorem g5_isLike_23 {a0 a1 : Int} {K : am_K} {M : am_M} {Q : Option am_V → am_M → Prop} (k : am_AtN m5_isLike 24 [some (vr a0), some (vr a1)] [vi 0] K M Q) : am_AtN m5_isLike 23 [some (vr a0), some (vr a1)] [] K M Q := by
  refine s_iconst (show decode (am_cc m5_isLike) 23 = .ok (.iconst 0, 1) by decide +kernel) ⟨by decide, by decide⟩ ?_
  exact k
theorem g5_isLike_24 {a0 a1 t0 : Int} {K : am_K} {M : am_M} {Q : Option am_V → am_M → Prop} (h1 : t0 = 0 ∨ t0 = 1) (k : Q (some (vi t0)) M) : am_AtN m5_isLike 24 [some (vr a0), some (vr a1)] [vi t0] K M Q := by
  exact s_zreturn (show decode (am_cc m5_isLike) 24 = .ok (.ireturn, 1) by decide +kernel) rfl h1 k
theorem g5_isLikeSoFar_0 {a0 a1 : Int} {K : am_K} {M : am_M} {Q : Option am_V → am_M → Prop} (k : am_AtN m5_isLikeSoFar 2 [some (vr a0), some (vr a1), some (vi 0)] [] K M Q) : am_AtN m5_isLikeSoFar 0 [some (vr a0), some (vr a1), none] [] K M Q := by
  refine s_iconst (show decode (am_cc m5_isLikeSoFar) 0 = .ok (.iconst 0, 1) by decide +kernel) ⟨by decide, by decide⟩ ?_
  refine s_istore_n (show decode (am_cc m5_isLikeSoFar) 1 = .ok (.istore_n 2, 1) by decide +kernel) (by decide) ?_
  exact k
theorem g5_isLikeSoFar_2 {a0 a1 a2 : Int} {K : am_K} {M : am_M} {Q : Option am_V → am_M → Prop} {r0_0 : Int} {r0_1 : Int} {r1_0 : Int} {r1_1 : Int} (h1 : am_kd K a0 = some (5, 2, [r0_0, r0_1])) (h2 : am_kd K a1 = some (5, 2, [r1_0, r1_1])) (k : am_CallN mJ_min [vi (M a0 1), vi (M a1 1)] K M (fun r M' => am_AtN m5_isLikeSoFar 14 [some (vr a0), some (vr a1), some (vi a2)] (r.toList ++ [vi a2]) K M' Q)) : am_AtN m5_isLikeSoFar 2 [some (vr a0), some (vr a1), some (vi a2)] [] K M Q := by
  refine s_iload_n (show decode (am_cc m5_isLikeSoFar) 2 = .ok (.iload_n 2, 1) by decide +kernel) rfl ?_
  refine s_aload_n (show decode (am_cc m5_isLikeSoFar) 3 = .ok (.aload_n 0, 1) by decide +kernel) rfl ?_
  refine s_getf (k := 1) (v := vi (M a0 1)) (show decode (am_cc m5_isLikeSoFar) 4 = .ok (.getfield 21, 3) by decide +kernel) h1 (by decide) rfl jnX5 (by decide) lf_RX5_21 rfl ?_
  refine s_aload_n (show decode (am_cc m5_isLikeSoFar) 7 = .ok (.aload_n 1, 1) by decide +kernel) rfl ?_
  refine s_getf (k := 1) (v := vi (M a1 1)) (show decode (am_cc m5_isLikeSoFar) 8 = .ok (.getfield 21, 3) by decide +kernel) h2 (by decide) rfl jnX5 (by decide) lf_RX5_21 rfl ?_
  exact n_callS (as := [vi (M a0 1), vi (M a1 1)]) (stk := [vi a2]) (show decode (am_cc m5_isLikeSoFar) 11 = .ok (.invokestatic 50, 3) by decide +kernel) lk_RX5_50 (by decide) (Nat.le_of_ble_eq_true rfl) ⟨rfl, rfl⟩ k
theorem g5_isLikeSoFar_14 {a0 a1 a2 t0 t1 : Int} {K : am_K} {M : am_M} {Q : Option am_V → am_M → Prop} (k1 : t1 ≤ t0 → am_AtN m5_isLikeSoFar 38 [some (vr a0), some (vr a1), some (vi a2)] [] K M Q) (k2 : ¬ (t1 ≤ t0) → am_AtN m5_isLikeSoFar 17 [some (vr a0), some (vr a1), some (vi a2)] [] K M Q) : am_AtN m5_isLikeSoFar 14 [some (vr a0), some (vr a1), some (vi a2)] [vi t1, vi t0] K M Q := by
  exact s_icmp_ge (tgt := 38) (show decode (am_cc m5_isLikeSoFar) 14 = .ok (.if_icmp .ge 24, 3) by decide +kernel) (by decide) k1 k2
theorem g5_isLikeSoFar_17 {a0 a1 a2 : Int} {K : am_K} {M : am_M} {Q : Option am_V → am_M → Prop} {r0 : List Int} (h1 : am_kd K a0 = some (5, 2, r0)) (k : am_CallN m5_letterAt [vr a0, vi a2] K M (fun r M' => am_AtN m5_isLikeSoFar 22 [some (vr a0), some (vr a1), some (vi a2)] (r.toList ++ []) K M' Q)) : am_AtN m5_isLikeSoFar 17 [some (vr a0), some (vr a1), some (vi a2)] [] K M Q := by
  refine s_aload_n (show decode (am_cc m5_isLikeSoFar) 17 = .ok (.aload_n 0, 1) by decide +kernel) rfl ?_
  refine s_iload_n (show decode (am_cc m5_isLikeSoFar) 18 = .ok (.iload_n 2, 1) by decide +kernel) rfl ?_
  exact n_callV (as := [vi a2]) (stk := []) (show decode (am_cc m5_isLikeSoFar) 19 = .ok (.invokevirtual 43, 3) by decide +kernel) lk_RX5_43 h1 (by decide) rfl rfl (by decide) (Nat.le_of_ble_eq_true rfl) ⟨rfl, rfl⟩ k
theorem g5_isLikeSoFar_22 {a0 a1 a2 t0 : Int} {K : am_K} {M : am_M} {Q : Option am_V → am_M → Prop} {r0 : List Int} (h1 : am_kd K a1 = some (5, 2, r0)) (k : am_CallN m5_letterAt [vr a1, vi a2] K M (fun r M' => am_AtN m5_isLikeSoFar 27 [some (vr a0), some (vr a1), some (vi a2)] (r.toList ++ [vi t0]) K M' Q)) : am_AtN m5_isLikeSoFar 22 [some (vr a0), some (vr a1), some (vi a2)] [vi t0] K M Q := by
  refine s_aload_n (show decode (am_cc m5_isLikeSoFar) 22 = .ok (.aload_n 1, 1) by decide +kernel) rfl ?_
  refine s_iload_n (show decode (am_cc m5_isLikeSoFar) 23 = .ok (.iload_n 2, 1) by decide +kernel) rfl ?_
  exact n_callV (as := [vi a2]) (stk := [vi t0]) (show decode (am_cc m5_isLikeSoFar) 24 = .ok (.invokevirtual 43, 3) by decide +kernel) lk_RX5_43 h1 (by decide) rfl rfl (by decide) (Nat.le_of_ble_eq_true rfl) ⟨rfl, rfl⟩ k
theorem g5_isLikeSoFar_27 {a0 a1 a2 t0 t1 : Int} {K : am_K} {M : am_M} {Q : Option am_V → am_M → Prop} (k1 : t0 = t1 → am_AtN m5_isLikeSoFar 32 [some (vr a0), some (vr a1), some (vi a2)] [] K M Q) (k2 : ¬ (t0 = t1) → am_AtN m5_isLikeSoFar 30 [some (vr a0), some (vr a1), some (vi a2)] [] K M Q) : am_AtN m5_isLikeSoFar 27 [some (vr a0), some (vr a1), some (vi a2)] [vi t1, vi t0] K M Q := by
  exact s_icmp_eq (tgt := 32) (show decode (am_cc m5_isLikeSoFar) 27 = .ok (.if_icmp .eq 5, 3) by decide +kernel) (by decide) k1 k2
theorem g5_isLikeSoFar_30 {a0 a1 a2 : Int} {K : am_K} {M : am_M} {Q : Option am_V → am_M → Prop} (k : Q (some (vi 0)) M) : am_AtN m5_isLikeSoFar 30 [some (vr a0), some (vr a1), some (vi a2)] [] K M Q := by
  refine s_iconst (show decode (am_cc m5_isLikeSoFar) 30 = .ok (.iconst 0, 1) by decide +kernel) ⟨by decide, by decide⟩ ?_
  exact s_zreturn (show decode (am_cc m5_isLikeSoFar) 31 = .ok (.ireturn, 1) by decide +kernel) rfl (by decide) k
theorem g5_isLikeSoFar_32 {a0 a1 a2 : Int} {K : am_K} {M : am_M} {Q : Option am_V → am_M → Prop} (h1 : -2147483648 ≤ a2 + 1 ∧ a2 + 1 ≤ 2147483647) (k : am_AtN m5_isLikeSoFar 2 [some (vr a0), some (vr a1), some (vi (a2 + 1))] [] K M Q) : am_AtN m5_isLikeSoFar 32 [some (vr a0), some (vr a1), some (vi a2)] [] K M Q := by
  refine s_iinc (show decode (am_cc m5_isLikeSoFar) 32 = .ok (.iinc 2 1, 3) by decide +kernel) rfl (by decide) h1 ?_
  refine s_goto (tgt := 2) (show decode (am_cc m5_isLikeSoFar) 35 = .ok (.goto (-33), 3) by decide +kernel) (by decide) ?_
  exact k
theorem g5_isLikeSoFar_38 {a0 a1 a2 : Int} {K : am_K} {M : am_M} {Q : Option am_V → am_M → Prop} (k : Q (some (vi 1)) M) : am_AtN m5_isLikeSoFar 38 [some (vr a0), some (vr a1), some (vi a2)] [] K M Q := by
  refine s_iconst (show decode (am_cc m5_isLikeSoFar) 38 = .ok (.iconst 1, 1) by decide +kernel) ⟨by decide, by decide⟩ ?_
  exact s_zreturn (show decode (am_cc m5_isLikeSoFar) 39 = .ok (.ireturn, 1) by decide +kernel) rfl (by decide) k
theorem g5_walkedBy_0 {a0 a1 : Int} {K : am_K} {M : am_M} {Q : Option am_V → am_M → Prop} (k : am_AtN m5_walkedBy 4 [some (vr a0), some (vr a1), some (vi 0), some (vi 0)] [] K M Q) : am_AtN m5_walkedBy 0 [some (vr a0), some (vr a1), none, none] [] K M Q := by
  refine s_iconst (show decode (am_cc m5_walkedBy) 0 = .ok (.iconst 0, 1) by decide +kernel) ⟨by decide, by decide⟩ ?_
  refine s_istore_n (show decode (am_cc m5_walkedBy) 1 = .ok (.istore_n 2, 1) by decide +kernel) (by decide) ?_
  refine s_iconst (show decode (am_cc m5_walkedBy) 2 = .ok (.iconst 0, 1) by decide +kernel) ⟨by decide, by decide⟩ ?_
  refine s_istore_n (show decode (am_cc m5_walkedBy) 3 = .ok (.istore_n 3, 1) by decide +kernel) (by decide) ?_
  exact k
theorem g5_walkedBy_4 {a0 a1 a2 a3 : Int} {K : am_K} {M : am_M} {Q : Option am_V → am_M → Prop} {r0_0 : Int} {r0_1 : Int} (h1 : am_kd K a0 = some (5, 2, [r0_0, r0_1])) (k1 : M a0 1 ≤ a3 → am_AtN m5_walkedBy 29 [some (vr a0), some (vr a1), some (vi a2), some (vi a3)] [] K M Q) (k2 : ¬ (M a0 1 ≤ a3) → am_AtN m5_walkedBy 12 [some (vr a0), some (vr a1), some (vi a2), some (vi a3)] [] K M Q) : am_AtN m5_walkedBy 4 [some (vr a0), some (vr a1), some (vi a2), some (vi a3)] [] K M Q := by
  refine s_iload_n (show decode (am_cc m5_walkedBy) 4 = .ok (.iload_n 3, 1) by decide +kernel) rfl ?_
  refine s_aload_n (show decode (am_cc m5_walkedBy) 5 = .ok (.aload_n 0, 1) by decide +kernel) rfl ?_
  refine s_getf (k := 1) (v := vi (M a0 1)) (show decode (am_cc m5_walkedBy) 6 = .ok (.getfield 21, 3) by decide +kernel) h1 (by decide) rfl jnX5 (by decide) lf_RX5_21 rfl ?_
  exact s_icmp_ge (tgt := 29) (show decode (am_cc m5_walkedBy) 9 = .ok (.if_icmp .ge 20, 3) by decide +kernel) (by decide) k1 k2
theorem g5_walkedBy_12 {a0 a1 a2 a3 : Int} {K : am_K} {M : am_M} {Q : Option am_V → am_M → Prop} {r0 : List Int} (h1 : am_kd K a0 = some (5, 2, r0)) (k : am_CallN m5_letterAt [vr a0, vi a3] K M (fun r M' => am_AtN m5_walkedBy 19 [some (vr a0), some (vr a1), some (vi a2), some (vi a3)] (r.toList ++ [vi a2, vr a1]) K M' Q)) : am_AtN m5_walkedBy 12 [some (vr a0), some (vr a1), some (vi a2), some (vi a3)] [] K M Q := by
  refine s_aload_n (show decode (am_cc m5_walkedBy) 12 = .ok (.aload_n 1, 1) by decide +kernel) rfl ?_
  refine s_iload_n (show decode (am_cc m5_walkedBy) 13 = .ok (.iload_n 2, 1) by decide +kernel) rfl ?_
  refine s_aload_n (show decode (am_cc m5_walkedBy) 14 = .ok (.aload_n 0, 1) by decide +kernel) rfl ?_
  refine s_iload_n (show decode (am_cc m5_walkedBy) 15 = .ok (.iload_n 3, 1) by decide +kernel) rfl ?_
  exact n_callV (as := [vi a3]) (stk := [vi a2, vr a1]) (show decode (am_cc m5_walkedBy) 16 = .ok (.invokevirtual 43, 3) by decide +kernel) lk_RX5_43 h1 (by decide) rfl rfl (by decide) (Nat.le_of_ble_eq_true rfl) ⟨rfl, rfl⟩ k
theorem g5_walkedBy_19 {a0 a1 a2 a3 t0 t1 t2 : Int} {K : am_K} {M : am_M} {Q : Option am_V → am_M → Prop} {r0 : List Int} (h1 : am_kd K t0 = some (6, 2, r0)) (k : am_CallN m6_nextOf [vr t0, vi t1, vi t2] K M (fun r M' => am_AtN m5_walkedBy 22 [some (vr a0), some (vr a1), some (vi a2), some (vi a3)] (r.toList ++ []) K M' Q)) : am_AtN m5_walkedBy 19 [some (vr a0), some (vr a1), some (vi a2), some (vi a3)] [vi t2, vi t1, vr t0] K M Q := by
  exact n_callV (as := [vi t1, vi t2]) (stk := []) (show decode (am_cc m5_walkedBy) 19 = .ok (.invokevirtual 53, 3) by decide +kernel) lk_RX5_53 h1 (by decide) rfl rfl (by decide) (Nat.le_of_ble_eq_true rfl) ⟨rfl, rfl⟩ k
theorem g5_walkedBy_22 {a0 a1 a2 a3 t0 : Int} {K : am_K} {M : am_M} {Q : Option am_V → am_M → Prop} (h1 : -2147483648 ≤ a3 + 1 ∧ a3 + 1 ≤ 2147483647) (k : am_AtN m5_walkedBy 4 [some (vr a0), some (vr a1), some (vi t0), some (vi (a3 + 1))] [] K M Q) : am_AtN m5_walkedBy 22 [some (vr a0), some (vr a1), some (vi a2), some (vi a3)] [vi t0] K M Q := by
  refine s_istore_n (show decode (am_cc m5_walkedBy) 22 = .ok (.istore_n 2, 1) by decide +kernel) (by decide) ?_
  refine s_iinc (show decode (am_cc m5_walkedBy) 23 = .ok (.iinc 3 1, 3) by decide +kernel) rfl (by decide) h1 ?_
  refine s_goto (tgt := 4) (show decode (am_cc m5_walkedBy) 26 = .ok (.goto (-22), 3) by decide +kernel) (by decide) ?_
  exact k
theorem g5_walkedBy_29 {a0 a1 a2 a3 : Int} {K : am_K} {M : am_M} {Q : Option am_V → am_M → Prop} (k : Q (some (vi a2)) M) : am_AtN m5_walkedBy 29 [some (vr a0), some (vr a1), some (vi a2), some (vi a3)] [] K M Q := by
  refine s_iload_n (show decode (am_cc m5_walkedBy) 29 = .ok (.iload_n 2, 1) by decide +kernel) rfl ?_
  exact s_ireturn (show decode (am_cc m5_walkedBy) 30 = .ok (.ireturn, 1) by decide +kernel) rfl k
end
