section
-- ===== PART A: goes FIRST, ahead of the names: the tables' words, and 'selects' of the private methods out of them =====
/-- a private method of a class that the tables say can be made, by its rows of tables_1 -/
def lw_okq (q : MethodName × Nat) : Prop := (q.1.cls ≠ "java/lang/invoke/MethodHandle" ∧ q.1.cls ≠ "java/lang/invoke/VarHandle") ∧ Cond.instantiable q.1.cls q.2 ∈ tables_1 ∧ Cond.privateMethod q.1 ∈ tables_1 ∧ Cond.instanceMethod q.1 ∈ tables_1
theorem lw_p0 : lw_okq (⟨"ClosureFrames", "methodAt", "(I)LClosureFrames$Method;"⟩, 5) := ⟨⟨by decide +kernel, by decide +kernel⟩, List.mem_of_getElem? (i := 14) (by decide +kernel), List.mem_of_getElem? (i := 230) (by decide +kernel), List.mem_of_getElem? (i := 231) (by decide +kernel)⟩
theorem lw_p1 : lw_okq (⟨"ClosureFrames$Snapshot", "breakWideAt", "(I)V"⟩, 3) := ⟨⟨by decide +kernel, by decide +kernel⟩, List.mem_of_getElem? (i := 52) (by decide +kernel), List.mem_of_getElem? (i := 258) (by decide +kernel), List.mem_of_getElem? (i := 259) (by decide +kernel)⟩
theorem lw_p2 : lw_okq (⟨"ClosureFrames", "isAct", "(III)Z"⟩, 5) := ⟨⟨by decide +kernel, by decide +kernel⟩, List.mem_of_getElem? (i := 14) (by decide +kernel), List.mem_of_getElem? (i := 274) (by decide +kernel), List.mem_of_getElem? (i := 275) (by decide +kernel)⟩
theorem lw_p3 : lw_okq (⟨"ClosureFrames$Computing", "arrive", "(LClosureFrames$Method;IILClosureFrames$Snapshot;)I"⟩, 5) := ⟨⟨by decide +kernel, by decide +kernel⟩, List.mem_of_getElem? (i := 124) (by decide +kernel), List.mem_of_getElem? (i := 393) (by decide +kernel), List.mem_of_getElem? (i := 394) (by decide +kernel)⟩
theorem lw_p4 : lw_okq (⟨"ClosureFrames$Computing", "merge", "(LClosureFrames$Act;LClosureFrames$Snapshot;)I"⟩, 5) := ⟨⟨by decide +kernel, by decide +kernel⟩, List.mem_of_getElem? (i := 124) (by decide +kernel), List.mem_of_getElem? (i := 413) (by decide +kernel), List.mem_of_getElem? (i := 414) (by decide +kernel)⟩
theorem lw_p5 : lw_okq (⟨"ClosureFrames$Computing", "workOn", "(LClosureFrames$Method;I)I"⟩, 5) := ⟨⟨by decide +kernel, by decide +kernel⟩, List.mem_of_getElem? (i := 124) (by decide +kernel), List.mem_of_getElem? (i := 435) (by decide +kernel), List.mem_of_getElem? (i := 436) (by decide +kernel)⟩
theorem lw_p6 : lw_okq (⟨"ClosureFrames$Computing", "sendToGuards", "(LClosureFrames$Method;I)I"⟩, 5) := ⟨⟨by decide +kernel, by decide +kernel⟩, List.mem_of_getElem? (i := 124) (by decide +kernel), List.mem_of_getElem? (i := 450) (by decide +kernel), List.mem_of_getElem? (i := 451) (by decide +kernel)⟩
theorem lw_p7 : lw_okq (⟨"ClosureFrames$Worker", "load", "(LClosureFrames$Method;ILClosureFrames$Snapshot;)I"⟩, 1) := ⟨⟨by decide +kernel, by decide +kernel⟩, List.mem_of_getElem? (i := 114) (by decide +kernel), List.mem_of_getElem? (i := 478) (by decide +kernel), List.mem_of_getElem? (i := 479) (by decide +kernel)⟩
theorem lw_p8 : lw_okq (⟨"ClosureFrames$Worker", "store", "(LClosureFrames$Method;ILClosureFrames$Snapshot;)I"⟩, 1) := ⟨⟨by decide +kernel, by decide +kernel⟩, List.mem_of_getElem? (i := 114) (by decide +kernel), List.mem_of_getElem? (i := 487) (by decide +kernel), List.mem_of_getElem? (i := 488) (by decide +kernel)⟩
theorem lw_p9 : lw_okq (⟨"ClosureFrames$Worker", "add", "(LClosureFrames$Snapshot;I)I"⟩, 1) := ⟨⟨by decide +kernel, by decide +kernel⟩, List.mem_of_getElem? (i := 114) (by decide +kernel), List.mem_of_getElem? (i := 500) (by decide +kernel), List.mem_of_getElem? (i := 501) (by decide +kernel)⟩
theorem lw_p10 : lw_okq (⟨"ClosureFrames$Worker", "take", "(LClosureFrames$Snapshot;I)I"⟩, 1) := ⟨⟨by decide +kernel, by decide +kernel⟩, List.mem_of_getElem? (i := 114) (by decide +kernel), List.mem_of_getElem? (i := 504) (by decide +kernel), List.mem_of_getElem? (i := 505) (by decide +kernel)⟩
theorem lw_p11 : lw_okq (⟨"ClosureFrames$Worker", "pushUnless", "(ILClosureFrames$Snapshot;I)I"⟩, 1) := ⟨⟨by decide +kernel, by decide +kernel⟩, List.mem_of_getElem? (i := 114) (by decide +kernel), List.mem_of_getElem? (i := 508) (by decide +kernel), List.mem_of_getElem? (i := 509) (by decide +kernel)⟩
theorem lw_p12 : lw_okq (⟨"ClosureFrames$Worker", "make", "(LClosureFrames$Method;ILClosureFrames$Snapshot;)I"⟩, 1) := ⟨⟨by decide +kernel, by decide +kernel⟩, List.mem_of_getElem? (i := 114) (by decide +kernel), List.mem_of_getElem? (i := 512) (by decide +kernel), List.mem_of_getElem? (i := 513) (by decide +kernel)⟩
theorem lw_p13 : lw_okq (⟨"ClosureFrames$Worker", "takeObject", "(LClosureFrames$Snapshot;I)I"⟩, 1) := ⟨⟨by decide +kernel, by decide +kernel⟩, List.mem_of_getElem? (i := 114) (by decide +kernel), List.mem_of_getElem? (i := 524) (by decide +kernel), List.mem_of_getElem? (i := 525) (by decide +kernel)⟩
theorem lw_p14 : lw_okq (⟨"ClosureFrames$Worker", "callOn", "(LClosureFrames$Snapshot;I)I"⟩, 1) := ⟨⟨by decide +kernel, by decide +kernel⟩, List.mem_of_getElem? (i := 114) (by decide +kernel), List.mem_of_getElem? (i := 533) (by decide +kernel), List.mem_of_getElem? (i := 534) (by decide +kernel)⟩
theorem lw_p15 : lw_okq (⟨"ClosureFrames$Computing", "sendOn", "(LClosureFrames$Method;ILClosureFrames$Act;)I"⟩, 5) := ⟨⟨by decide +kernel, by decide +kernel⟩, List.mem_of_getElem? (i := 124) (by decide +kernel), List.mem_of_getElem? (i := 546) (by decide +kernel), List.mem_of_getElem? (i := 547) (by decide +kernel)⟩
def lw_privs_1 : List (MethodName × Nat) := [(⟨"ClosureFrames", "methodAt", "(I)LClosureFrames$Method;"⟩, 5), (⟨"ClosureFrames$Snapshot", "breakWideAt", "(I)V"⟩, 3), (⟨"ClosureFrames", "isAct", "(III)Z"⟩, 5), (⟨"ClosureFrames$Computing", "arrive", "(LClosureFrames$Method;IILClosureFrames$Snapshot;)I"⟩, 5), (⟨"ClosureFrames$Computing", "merge", "(LClosureFrames$Act;LClosureFrames$Snapshot;)I"⟩, 5), (⟨"ClosureFrames$Computing", "workOn", "(LClosureFrames$Method;I)I"⟩, 5), (⟨"ClosureFrames$Computing", "sendToGuards", "(LClosureFrames$Method;I)I"⟩, 5), (⟨"ClosureFrames$Worker", "load", "(LClosureFrames$Method;ILClosureFrames$Snapshot;)I"⟩, 1), (⟨"ClosureFrames$Worker", "store", "(LClosureFrames$Method;ILClosureFrames$Snapshot;)I"⟩, 1), (⟨"ClosureFrames$Worker", "add", "(LClosureFrames$Snapshot;I)I"⟩, 1), (⟨"ClosureFrames$Worker", "take", "(LClosureFrames$Snapshot;I)I"⟩, 1), (⟨"ClosureFrames$Worker", "pushUnless", "(ILClosureFrames$Snapshot;I)I"⟩, 1), (⟨"ClosureFrames$Worker", "make", "(LClosureFrames$Method;ILClosureFrames$Snapshot;)I"⟩, 1), (⟨"ClosureFrames$Worker", "takeObject", "(LClosureFrames$Snapshot;I)I"⟩, 1), (⟨"ClosureFrames$Worker", "callOn", "(LClosureFrames$Snapshot;I)I"⟩, 1), (⟨"ClosureFrames$Computing", "sendOn", "(LClosureFrames$Method;ILClosureFrames$Act;)I"⟩, 5)]
theorem lw_r1 : ∀ q ∈ lw_privs_1, lw_okq q := List.forall_mem_cons.mpr ⟨lw_p0, List.forall_mem_cons.mpr ⟨lw_p1, List.forall_mem_cons.mpr ⟨lw_p2, List.forall_mem_cons.mpr ⟨lw_p3, List.forall_mem_cons.mpr ⟨lw_p4, List.forall_mem_cons.mpr ⟨lw_p5, List.forall_mem_cons.mpr ⟨lw_p6, List.forall_mem_cons.mpr ⟨lw_p7, List.forall_mem_cons.mpr ⟨lw_p8, List.forall_mem_cons.mpr ⟨lw_p9, List.forall_mem_cons.mpr ⟨lw_p10, List.forall_mem_cons.mpr ⟨lw_p11, List.forall_mem_cons.mpr ⟨lw_p12, List.forall_mem_cons.mpr ⟨lw_p13, List.forall_mem_cons.mpr ⟨lw_p14, List.forall_mem_cons.mpr ⟨lw_p15, fun _ h => absurd h List.not_mem_nil⟩⟩⟩⟩⟩⟩⟩⟩⟩⟩⟩⟩⟩⟩⟩⟩
theorem lw_p16 : lw_okq (⟨"ClosureFrames$Act", "jumps", "()Z"⟩, 8) := ⟨⟨by decide +kernel, by decide +kernel⟩, List.mem_of_getElem? (i := 287) (by decide +kernel), List.mem_of_getElem? (i := 558) (by decide +kernel), List.mem_of_getElem? (i := 559) (by decide +kernel)⟩
theorem lw_p17 : lw_okq (⟨"ClosureFrames$Method", "leads", "(II)Z"⟩, 10) := ⟨⟨by decide +kernel, by decide +kernel⟩, List.mem_of_getElem? (i := 42) (by decide +kernel), List.mem_of_getElem? (i := 574) (by decide +kernel), List.mem_of_getElem? (i := 575) (by decide +kernel)⟩
theorem lw_p18 : lw_okq (⟨"ClosureFrames$Snapshot", "end", "()I"⟩, 3) := ⟨⟨by decide +kernel, by decide +kernel⟩, List.mem_of_getElem? (i := 52) (by decide +kernel), List.mem_of_getElem? (i := 624) (by decide +kernel), List.mem_of_getElem? (i := 625) (by decide +kernel)⟩
theorem lw_p19 : lw_okq (⟨"ClosureFrames$Snapshot", "isLikeUpTo", "(LClosureFrames$Snapshot;I)Z"⟩, 3) := ⟨⟨by decide +kernel, by decide +kernel⟩, List.mem_of_getElem? (i := 52) (by decide +kernel), List.mem_of_getElem? (i := 631) (by decide +kernel), List.mem_of_getElem? (i := 632) (by decide +kernel)⟩
theorem lw_p20 : lw_okq (⟨"ClosureFrames$Snapshot", "countTold", "(II)I"⟩, 3) := ⟨⟨by decide +kernel, by decide +kernel⟩, List.mem_of_getElem? (i := 52) (by decide +kernel), List.mem_of_getElem? (i := 635) (by decide +kernel), List.mem_of_getElem? (i := 636) (by decide +kernel)⟩
theorem lw_p21 : lw_okq (⟨"ClosureFrames$Looking", "lookAt", "(LClosureFrames$Method;I)I"⟩, 6) := ⟨⟨by decide +kernel, by decide +kernel⟩, List.mem_of_getElem? (i := 149) (by decide +kernel), List.mem_of_getElem? (i := 671) (by decide +kernel), List.mem_of_getElem? (i := 672) (by decide +kernel)⟩
theorem lw_p22 : lw_okq (⟨"ClosureFrames$Looking", "takeFrame", "(LClosureFrames$Act;)I"⟩, 6) := ⟨⟨by decide +kernel, by decide +kernel⟩, List.mem_of_getElem? (i := 149) (by decide +kernel), List.mem_of_getElem? (i := 676) (by decide +kernel), List.mem_of_getElem? (i := 677) (by decide +kernel)⟩
theorem lw_p23 : lw_okq (⟨"ClosureFrames$Looking", "lookAtGuards", "(LClosureFrames$Method;I)I"⟩, 6) := ⟨⟨by decide +kernel, by decide +kernel⟩, List.mem_of_getElem? (i := 149) (by decide +kernel), List.mem_of_getElem? (i := 690) (by decide +kernel), List.mem_of_getElem? (i := 691) (by decide +kernel)⟩
theorem lw_p24 : lw_okq (⟨"ClosureFrames$Looking", "meet", "(LClosureFrames$Act;LClosureFrames$Snapshot;)I"⟩, 6) := ⟨⟨by decide +kernel, by decide +kernel⟩, List.mem_of_getElem? (i := 149) (by decide +kernel), List.mem_of_getElem? (i := 696) (by decide +kernel), List.mem_of_getElem? (i := 697) (by decide +kernel)⟩
theorem lw_p25 : lw_okq (⟨"ClosureFrames$Looking", "lookAtTargets", "(LClosureFrames$Method;ILClosureFrames$Act;)I"⟩, 6) := ⟨⟨by decide +kernel, by decide +kernel⟩, List.mem_of_getElem? (i := 149) (by decide +kernel), List.mem_of_getElem? (i := 701) (by decide +kernel), List.mem_of_getElem? (i := 702) (by decide +kernel)⟩
theorem lw_p26 : lw_okq (⟨"ClosureFrames", "toldActs", "(I)I"⟩, 5) := ⟨⟨by decide +kernel, by decide +kernel⟩, List.mem_of_getElem? (i := 14) (by decide +kernel), List.mem_of_getElem? (i := 716) (by decide +kernel), List.mem_of_getElem? (i := 717) (by decide +kernel)⟩
theorem lw_p27 : lw_okq (⟨"ClosureFrames", "toldGuards", "(I)I"⟩, 5) := ⟨⟨by decide +kernel, by decide +kernel⟩, List.mem_of_getElem? (i := 14) (by decide +kernel), List.mem_of_getElem? (i := 720) (by decide +kernel), List.mem_of_getElem? (i := 721) (by decide +kernel)⟩
theorem lw_p28 : lw_okq (⟨"ClosureFrames", "toldPlaces", "(I)I"⟩, 5) := ⟨⟨by decide +kernel, by decide +kernel⟩, List.mem_of_getElem? (i := 14) (by decide +kernel), List.mem_of_getElem? (i := 724) (by decide +kernel), List.mem_of_getElem? (i := 725) (by decide +kernel)⟩
theorem lw_p29 : lw_okq (⟨"ClosureFrames", "toldFrames", "(I)I"⟩, 5) := ⟨⟨by decide +kernel, by decide +kernel⟩, List.mem_of_getElem? (i := 14) (by decide +kernel), List.mem_of_getElem? (i := 728) (by decide +kernel), List.mem_of_getElem? (i := 729) (by decide +kernel)⟩
theorem lw_p30 : lw_okq (⟨"ClosureFramesModel", "isClass", "(I)Z"⟩, 29) := ⟨⟨by decide +kernel, by decide +kernel⟩, List.mem_of_getElem? (i := 732) (by decide +kernel), List.mem_of_getElem? (i := 830) (by decide +kernel), List.mem_of_getElem? (i := 831) (by decide +kernel)⟩
theorem lw_p31 : lw_okq (⟨"ClosureFramesModel", "joinOf", "(II)I"⟩, 29) := ⟨⟨by decide +kernel, by decide +kernel⟩, List.mem_of_getElem? (i := 732) (by decide +kernel), List.mem_of_getElem? (i := 841) (by decide +kernel), List.mem_of_getElem? (i := 842) (by decide +kernel)⟩
def lw_privs_2 : List (MethodName × Nat) := [(⟨"ClosureFrames$Act", "jumps", "()Z"⟩, 8), (⟨"ClosureFrames$Method", "leads", "(II)Z"⟩, 10), (⟨"ClosureFrames$Snapshot", "end", "()I"⟩, 3), (⟨"ClosureFrames$Snapshot", "isLikeUpTo", "(LClosureFrames$Snapshot;I)Z"⟩, 3), (⟨"ClosureFrames$Snapshot", "countTold", "(II)I"⟩, 3), (⟨"ClosureFrames$Looking", "lookAt", "(LClosureFrames$Method;I)I"⟩, 6), (⟨"ClosureFrames$Looking", "takeFrame", "(LClosureFrames$Act;)I"⟩, 6), (⟨"ClosureFrames$Looking", "lookAtGuards", "(LClosureFrames$Method;I)I"⟩, 6), (⟨"ClosureFrames$Looking", "meet", "(LClosureFrames$Act;LClosureFrames$Snapshot;)I"⟩, 6), (⟨"ClosureFrames$Looking", "lookAtTargets", "(LClosureFrames$Method;ILClosureFrames$Act;)I"⟩, 6), (⟨"ClosureFrames", "toldActs", "(I)I"⟩, 5), (⟨"ClosureFrames", "toldGuards", "(I)I"⟩, 5), (⟨"ClosureFrames", "toldPlaces", "(I)I"⟩, 5), (⟨"ClosureFrames", "toldFrames", "(I)I"⟩, 5), (⟨"ClosureFramesModel", "isClass", "(I)Z"⟩, 29), (⟨"ClosureFramesModel", "joinOf", "(II)I"⟩, 29)]
theorem lw_r2 : ∀ q ∈ lw_privs_2, lw_okq q := List.forall_mem_cons.mpr ⟨lw_p16, List.forall_mem_cons.mpr ⟨lw_p17, List.forall_mem_cons.mpr ⟨lw_p18, List.forall_mem_cons.mpr ⟨lw_p19, List.forall_mem_cons.mpr ⟨lw_p20, List.forall_mem_cons.mpr ⟨lw_p21, List.forall_mem_cons.mpr ⟨lw_p22, List.forall_mem_cons.mpr ⟨lw_p23, List.forall_mem_cons.mpr ⟨lw_p24, List.forall_mem_cons.mpr ⟨lw_p25, List.forall_mem_cons.mpr ⟨lw_p26, List.forall_mem_cons.mpr ⟨lw_p27, List.forall_mem_cons.mpr ⟨lw_p28, List.forall_mem_cons.mpr ⟨lw_p29, List.forall_mem_cons.mpr ⟨lw_p30, List.forall_mem_cons.mpr ⟨lw_p31, fun _ h => absurd h List.not_mem_nil⟩⟩⟩⟩⟩⟩⟩⟩⟩⟩⟩⟩⟩⟩⟩⟩
theorem lw_p32 : lw_okq (⟨"ClosureFramesModel", "isBelow", "(II)Z"⟩, 29) := ⟨⟨by decide +kernel, by decide +kernel⟩, List.mem_of_getElem? (i := 732) (by decide +kernel), List.mem_of_getElem? (i := 845) (by decide +kernel), List.mem_of_getElem? (i := 846) (by decide +kernel)⟩
theorem lw_p33 : lw_okq (⟨"ClosureFramesModel", "isOne", "(II)Z"⟩, 29) := ⟨⟨by decide +kernel, by decide +kernel⟩, List.mem_of_getElem? (i := 732) (by decide +kernel), List.mem_of_getElem? (i := 853) (by decide +kernel), List.mem_of_getElem? (i := 854) (by decide +kernel)⟩
theorem lw_p34 : lw_okq (⟨"ClosureFramesModel", "beginning", "([I)V"⟩, 29) := ⟨⟨by decide +kernel, by decide +kernel⟩, List.mem_of_getElem? (i := 732) (by decide +kernel), List.mem_of_getElem? (i := 883) (by decide +kernel), List.mem_of_getElem? (i := 884) (by decide +kernel)⟩
theorem lw_p35 : lw_okq (⟨"ClosureFramesModel", "works", "(I)V"⟩, 29) := ⟨⟨by decide +kernel, by decide +kernel⟩, List.mem_of_getElem? (i := 732) (by decide +kernel), List.mem_of_getElem? (i := 890) (by decide +kernel), List.mem_of_getElem? (i := 891) (by decide +kernel)⟩
theorem lw_p36 : lw_okq (⟨"ClosureFramesModel", "holds", "(II)Z"⟩, 29) := ⟨⟨by decide +kernel, by decide +kernel⟩, List.mem_of_getElem? (i := 732) (by decide +kernel), List.mem_of_getElem? (i := 894) (by decide +kernel), List.mem_of_getElem? (i := 895) (by decide +kernel)⟩
theorem lw_p37 : lw_okq (⟨"ClosureFramesModel", "caughtState", "(I)V"⟩, 29) := ⟨⟨by decide +kernel, by decide +kernel⟩, List.mem_of_getElem? (i := 732) (by decide +kernel), List.mem_of_getElem? (i := 898) (by decide +kernel), List.mem_of_getElem? (i := 899) (by decide +kernel)⟩
theorem lw_p38 : lw_okq (⟨"ClosureFramesModel", "comes", "(IIZ)V"⟩, 29) := ⟨⟨by decide +kernel, by decide +kernel⟩, List.mem_of_getElem? (i := 732) (by decide +kernel), List.mem_of_getElem? (i := 905) (by decide +kernel), List.mem_of_getElem? (i := 906) (by decide +kernel)⟩
theorem lw_p39 : lw_okq (⟨"ClosureFramesModel", "fails", "(I)V"⟩, 29) := ⟨⟨by decide +kernel, by decide +kernel⟩, List.mem_of_getElem? (i := 732) (by decide +kernel), List.mem_of_getElem? (i := 909) (by decide +kernel), List.mem_of_getElem? (i := 910) (by decide +kernel)⟩
theorem lw_p40 : lw_okq (⟨"ClosureFramesModel", "hasUnmade", "([I)Z"⟩, 29) := ⟨⟨by decide +kernel, by decide +kernel⟩, List.mem_of_getElem? (i := 732) (by decide +kernel), List.mem_of_getElem? (i := 913) (by decide +kernel), List.mem_of_getElem? (i := 914) (by decide +kernel)⟩
theorem lw_p41 : lw_okq (⟨"ClosureFramesModel", "joinTypes", "(II)I"⟩, 29) := ⟨⟨by decide +kernel, by decide +kernel⟩, List.mem_of_getElem? (i := 732) (by decide +kernel), List.mem_of_getElem? (i := 917) (by decide +kernel), List.mem_of_getElem? (i := 918) (by decide +kernel)⟩
theorem lw_p42 : lw_okq (⟨"ClosureFramesModel", "does", "(I)V"⟩, 29) := ⟨⟨by decide +kernel, by decide +kernel⟩, List.mem_of_getElem? (i := 732) (by decide +kernel), List.mem_of_getElem? (i := 921) (by decide +kernel), List.mem_of_getElem? (i := 922) (by decide +kernel)⟩
theorem lw_p43 : lw_okq (⟨"ClosureFramesModel", "push", "(I)V"⟩, 29) := ⟨⟨by decide +kernel, by decide +kernel⟩, List.mem_of_getElem? (i := 732) (by decide +kernel), List.mem_of_getElem? (i := 925) (by decide +kernel), List.mem_of_getElem? (i := 926) (by decide +kernel)⟩
theorem lw_p44 : lw_okq (⟨"ClosureFramesModel", "placeActs", "(II)V"⟩, 29) := ⟨⟨by decide +kernel, by decide +kernel⟩, List.mem_of_getElem? (i := 732) (by decide +kernel), List.mem_of_getElem? (i := 929) (by decide +kernel), List.mem_of_getElem? (i := 930) (by decide +kernel)⟩
theorem lw_p45 : lw_okq (⟨"ClosureFramesModel", "pop", "()I"⟩, 29) := ⟨⟨by decide +kernel, by decide +kernel⟩, List.mem_of_getElem? (i := 732) (by decide +kernel), List.mem_of_getElem? (i := 933) (by decide +kernel), List.mem_of_getElem? (i := 934) (by decide +kernel)⟩
theorem lw_p46 : lw_okq (⟨"ClosureFramesModel", "top", "()I"⟩, 29) := ⟨⟨by decide +kernel, by decide +kernel⟩, List.mem_of_getElem? (i := 732) (by decide +kernel), List.mem_of_getElem? (i := 937) (by decide +kernel), List.mem_of_getElem? (i := 938) (by decide +kernel)⟩
theorem lw_p47 : lw_okq (⟨"ClosureFramesModel", "put", "(II)V"⟩, 29) := ⟨⟨by decide +kernel, by decide +kernel⟩, List.mem_of_getElem? (i := 732) (by decide +kernel), List.mem_of_getElem? (i := 941) (by decide +kernel), List.mem_of_getElem? (i := 942) (by decide +kernel)⟩
def lw_privs_3 : List (MethodName × Nat) := [(⟨"ClosureFramesModel", "isBelow", "(II)Z"⟩, 29), (⟨"ClosureFramesModel", "isOne", "(II)Z"⟩, 29), (⟨"ClosureFramesModel", "beginning", "([I)V"⟩, 29), (⟨"ClosureFramesModel", "works", "(I)V"⟩, 29), (⟨"ClosureFramesModel", "holds", "(II)Z"⟩, 29), (⟨"ClosureFramesModel", "caughtState", "(I)V"⟩, 29), (⟨"ClosureFramesModel", "comes", "(IIZ)V"⟩, 29), (⟨"ClosureFramesModel", "fails", "(I)V"⟩, 29), (⟨"ClosureFramesModel", "hasUnmade", "([I)Z"⟩, 29), (⟨"ClosureFramesModel", "joinTypes", "(II)I"⟩, 29), (⟨"ClosureFramesModel", "does", "(I)V"⟩, 29), (⟨"ClosureFramesModel", "push", "(I)V"⟩, 29), (⟨"ClosureFramesModel", "placeActs", "(II)V"⟩, 29), (⟨"ClosureFramesModel", "pop", "()I"⟩, 29), (⟨"ClosureFramesModel", "top", "()I"⟩, 29), (⟨"ClosureFramesModel", "put", "(II)V"⟩, 29)]
theorem lw_r3 : ∀ q ∈ lw_privs_3, lw_okq q := List.forall_mem_cons.mpr ⟨lw_p32, List.forall_mem_cons.mpr ⟨lw_p33, List.forall_mem_cons.mpr ⟨lw_p34, List.forall_mem_cons.mpr ⟨lw_p35, List.forall_mem_cons.mpr ⟨lw_p36, List.forall_mem_cons.mpr ⟨lw_p37, List.forall_mem_cons.mpr ⟨lw_p38, List.forall_mem_cons.mpr ⟨lw_p39, List.forall_mem_cons.mpr ⟨lw_p40, List.forall_mem_cons.mpr ⟨lw_p41, List.forall_mem_cons.mpr ⟨lw_p42, List.forall_mem_cons.mpr ⟨lw_p43, List.forall_mem_cons.mpr ⟨lw_p44, List.forall_mem_cons.mpr ⟨lw_p45, List.forall_mem_cons.mpr ⟨lw_p46, List.forall_mem_cons.mpr ⟨lw_p47, fun _ h => absurd h List.not_mem_nil⟩⟩⟩⟩⟩⟩⟩⟩⟩⟩⟩⟩⟩⟩⟩⟩
theorem lw_p48 : lw_okq (⟨"ClosureFramesModel", "wants", "(I)V"⟩, 29) := ⟨⟨by decide +kernel, by decide +kernel⟩, List.mem_of_getElem? (i := 732) (by decide +kernel), List.mem_of_getElem? (i := 945) (by decide +kernel), List.mem_of_getElem? (i := 946) (by decide +kernel)⟩
theorem lw_p49 : lw_okq (⟨"ClosureFramesModel", "doesMore", "(III)V"⟩, 29) := ⟨⟨by decide +kernel, by decide +kernel⟩, List.mem_of_getElem? (i := 732) (by decide +kernel), List.mem_of_getElem? (i := 949) (by decide +kernel), List.mem_of_getElem? (i := 950) (by decide +kernel)⟩
theorem lw_p50 : lw_okq (⟨"ClosureFramesModel", "make", "(I)V"⟩, 29) := ⟨⟨by decide +kernel, by decide +kernel⟩, List.mem_of_getElem? (i := 732) (by decide +kernel), List.mem_of_getElem? (i := 953) (by decide +kernel), List.mem_of_getElem? (i := 954) (by decide +kernel)⟩
theorem lw_p51 : lw_okq (⟨"ClosureFramesModel", "wantsObject", "(I)V"⟩, 29) := ⟨⟨by decide +kernel, by decide +kernel⟩, List.mem_of_getElem? (i := 732) (by decide +kernel), List.mem_of_getElem? (i := 957) (by decide +kernel), List.mem_of_getElem? (i := 958) (by decide +kernel)⟩
theorem lw_p52 : lw_okq (⟨"ClosureFramesModel", "leastDue", "()I"⟩, 29) := ⟨⟨by decide +kernel, by decide +kernel⟩, List.mem_of_getElem? (i := 732) (by decide +kernel), List.mem_of_getElem? (i := 970) (by decide +kernel), List.mem_of_getElem? (i := 971) (by decide +kernel)⟩
theorem lw_p53 : lw_okq (⟨"ClosureFramesModel", "layFrames", "(I)I"⟩, 29) := ⟨⟨by decide +kernel, by decide +kernel⟩, List.mem_of_getElem? (i := 732) (by decide +kernel), List.mem_of_getElem? (i := 974) (by decide +kernel), List.mem_of_getElem? (i := 975) (by decide +kernel)⟩
theorem lw_p54 : lw_okq (⟨"ClosureFramesModel", "part", "([III)I"⟩, 29) := ⟨⟨by decide +kernel, by decide +kernel⟩, List.mem_of_getElem? (i := 732) (by decide +kernel), List.mem_of_getElem? (i := 989) (by decide +kernel), List.mem_of_getElem? (i := 990) (by decide +kernel)⟩
theorem lw_p55 : lw_okq (⟨"ClosureFramesModel", "actOf", "(II)I"⟩, 29) := ⟨⟨by decide +kernel, by decide +kernel⟩, List.mem_of_getElem? (i := 732) (by decide +kernel), List.mem_of_getElem? (i := 997) (by decide +kernel), List.mem_of_getElem? (i := 998) (by decide +kernel)⟩
theorem lw_p56 : lw_okq (⟨"ClosureFramesModel", "looksAt", "(IZ)V"⟩, 29) := ⟨⟨by decide +kernel, by decide +kernel⟩, List.mem_of_getElem? (i := 732) (by decide +kernel), List.mem_of_getElem? (i := 1024) (by decide +kernel), List.mem_of_getElem? (i := 1025) (by decide +kernel)⟩
theorem lw_p57 : lw_okq (⟨"ClosureFramesModel", "allFit", "([II)Z"⟩, 29) := ⟨⟨by decide +kernel, by decide +kernel⟩, List.mem_of_getElem? (i := 732) (by decide +kernel), List.mem_of_getElem? (i := 1028) (by decide +kernel), List.mem_of_getElem? (i := 1029) (by decide +kernel)⟩
theorem lw_p58 : lw_okq (⟨"ClosureFramesModel", "fits", "(II)Z"⟩, 29) := ⟨⟨by decide +kernel, by decide +kernel⟩, List.mem_of_getElem? (i := 732) (by decide +kernel), List.mem_of_getElem? (i := 1032) (by decide +kernel), List.mem_of_getElem? (i := 1033) (by decide +kernel)⟩
theorem lw_p59 : lw_okq (⟨"ClosureFramesModel", "looks", "([IIIZ)V"⟩, 29) := ⟨⟨by decide +kernel, by decide +kernel⟩, List.mem_of_getElem? (i := 732) (by decide +kernel), List.mem_of_getElem? (i := 1036) (by decide +kernel), List.mem_of_getElem? (i := 1037) (by decide +kernel)⟩
theorem lw_p60 : lw_okq (⟨"ClosureFramesModel", "frameCount", "(I)I"⟩, 29) := ⟨⟨by decide +kernel, by decide +kernel⟩, List.mem_of_getElem? (i := 732) (by decide +kernel), List.mem_of_getElem? (i := 1044) (by decide +kernel), List.mem_of_getElem? (i := 1045) (by decide +kernel)⟩
def lw_privs_4 : List (MethodName × Nat) := [(⟨"ClosureFramesModel", "wants", "(I)V"⟩, 29), (⟨"ClosureFramesModel", "doesMore", "(III)V"⟩, 29), (⟨"ClosureFramesModel", "make", "(I)V"⟩, 29), (⟨"ClosureFramesModel", "wantsObject", "(I)V"⟩, 29), (⟨"ClosureFramesModel", "leastDue", "()I"⟩, 29), (⟨"ClosureFramesModel", "layFrames", "(I)I"⟩, 29), (⟨"ClosureFramesModel", "part", "([III)I"⟩, 29), (⟨"ClosureFramesModel", "actOf", "(II)I"⟩, 29), (⟨"ClosureFramesModel", "looksAt", "(IZ)V"⟩, 29), (⟨"ClosureFramesModel", "allFit", "([II)Z"⟩, 29), (⟨"ClosureFramesModel", "fits", "(II)Z"⟩, 29), (⟨"ClosureFramesModel", "looks", "([IIIZ)V"⟩, 29), (⟨"ClosureFramesModel", "frameCount", "(I)I"⟩, 29)]
theorem lw_r4 : ∀ q ∈ lw_privs_4, lw_okq q := List.forall_mem_cons.mpr ⟨lw_p48, List.forall_mem_cons.mpr ⟨lw_p49, List.forall_mem_cons.mpr ⟨lw_p50, List.forall_mem_cons.mpr ⟨lw_p51, List.forall_mem_cons.mpr ⟨lw_p52, List.forall_mem_cons.mpr ⟨lw_p53, List.forall_mem_cons.mpr ⟨lw_p54, List.forall_mem_cons.mpr ⟨lw_p55, List.forall_mem_cons.mpr ⟨lw_p56, List.forall_mem_cons.mpr ⟨lw_p57, List.forall_mem_cons.mpr ⟨lw_p58, List.forall_mem_cons.mpr ⟨lw_p59, List.forall_mem_cons.mpr ⟨lw_p60, fun _ h => absurd h List.not_mem_nil⟩⟩⟩⟩⟩⟩⟩⟩⟩⟩⟩⟩⟩
def lw_privs : List (MethodName × Nat) := lw_privs_1 ++ (lw_privs_2 ++ (lw_privs_3 ++ (lw_privs_4)))
def lw_tbl : List Cond := k2_sels lw_privs ++ tables_1
theorem lw_privs_ok : ∀ q ∈ lw_privs, lw_okq q := by
  show ∀ q ∈ lw_privs_1 ++ (lw_privs_2 ++ (lw_privs_3 ++ (lw_privs_4))), lw_okq q
  exact List.forall_mem_append.mpr ⟨lw_r1, List.forall_mem_append.mpr ⟨lw_r2, List.forall_mem_append.mpr ⟨lw_r3, lw_r4⟩⟩⟩
end
section
def RX0 : String := "ClosureFrames$Act"
def TX0 : u_T := fun k => match k with
  | 0 => ("ClosureFrames$Act", "kind", "I", false)
  | 1 => ("ClosureFrames$Act", "a", "I", false)
  | 2 => ("ClosureFrames$Act", "b", "I", false)
  | 3 => ("ClosureFrames$Act", "reached", "Z", false)
  | 4 => ("ClosureFrames$Act", "due", "Z", false)
  | 5 => ("ClosureFrames$Act", "framed", "Z", false)
  | 6 => ("ClosureFrames$Act", "before", "LClosureFrames$Snapshot;", true)
  | _ => ("ClosureFrames$Act", "frame", "LClosureFrames$Snapshot;", true)
def tyX0 : Nat → FieldType := fun k => match k with
  | 0 => .int
  | 1 => .int
  | 2 => .int
  | 3 => .boolean
  | 4 => .boolean
  | 5 => .boolean
  | 6 => .object "ClosureFrames$Snapshot"
  | _ => .object "ClosureFrames$Snapshot"
theorem nmX0 : ∀ a, a < 8 → ∀ b, b < 8 → a ≠ b → (TX0 a).2.1 ≠ (TX0 b).2.1 := by decide +kernel
theorem tyX0_ok : ∀ k, k < 8 → parseFieldDescriptor (TX0 k).2.2.1 = some (tyX0 k) := by decide +kernel
abbrev cX0_init : ByteArray := prog_2_method_1_code
def yX0_init : MethodName := ⟨RX0, "<init>", "()V"⟩
abbrev cX0_tell : ByteArray := prog_2_method_2_code
def yX0_tell : MethodName := ⟨RX0, "tell", "(III)V"⟩
abbrev cX0_forget : ByteArray := prog_2_method_3_code
def yX0_forget : MethodName := ⟨RX0, "forget", "()V"⟩
abbrev cX0_jumps : ByteArray := prog_2_method_4_code
def yX0_jumps : MethodName := ⟨RX0, "jumps", "()Z"⟩
abbrev cX0_firstTarget : ByteArray := prog_2_method_5_code
def yX0_firstTarget : MethodName := ⟨RX0, "firstTarget", "()I"⟩
abbrev cX0_lastTarget : ByteArray := prog_2_method_6_code
def yX0_lastTarget : MethodName := ⟨RX0, "lastTarget", "()I"⟩
abbrev cX0_goesOnAt : ByteArray := prog_2_method_7_code
def yX0_goesOnAt : MethodName := ⟨RX0, "goesOnAt", "(I)Z"⟩
abbrev cX0_goesToNext : ByteArray := prog_2_method_8_code
def yX0_goesToNext : MethodName := ⟨RX0, "goesToNext", "()Z"⟩
abbrev cX0_usesPlace : ByteArray := prog_2_method_9_code
def yX0_usesPlace : MethodName := ⟨RX0, "usesPlace", "()Z"⟩
def RX1 : String := "ClosureFrames$ClassTree"
def TX1 : u_T := fun k => match k with
  | 0 => ("ClosureFrames$ClassTree", "lines", "[I", true)
  | 1 => ("ClosureFrames$ClassTree", "faces", "[Z", true)
  | _ => ("ClosureFrames$ClassTree", "count", "I", false)
def tyX1 : Nat → FieldType := fun k => match k with
  | 0 => .array .int
  | 1 => .array .boolean
  | _ => .int
theorem nmX1 : ∀ a, a < 3 → ∀ b, b < 3 → a ≠ b → (TX1 a).2.1 ≠ (TX1 b).2.1 := by decide +kernel
theorem tyX1_ok : ∀ k, k < 3 → parseFieldDescriptor (TX1 k).2.2.1 = some (tyX1 k) := by decide +kernel
abbrev cX1_init : ByteArray := prog_3_method_1_code
def yX1_init : MethodName := ⟨RX1, "<init>", "()V"⟩
abbrev cX1_has : ByteArray := prog_3_method_2_code
def yX1_has : MethodName := ⟨RX1, "has", "(I)Z"⟩
abbrev cX1_isFace : ByteArray := prog_3_method_3_code
def yX1_isFace : MethodName := ⟨RX1, "isFace", "(I)Z"⟩
abbrev cX1_add : ByteArray := prog_3_method_4_code
def yX1_add : MethodName := ⟨RX1, "add", "(IZ)I"⟩
abbrev cX1_nearest : ByteArray := prog_3_method_5_code
def yX1_nearest : MethodName := ⟨RX1, "nearest", "(II)I"⟩
abbrev cX1_isKindOf : ByteArray := prog_3_method_6_code
def yX1_isKindOf : MethodName := ⟨RX1, "isKindOf", "(II)Z"⟩
abbrev cX1_isKnownObject : ByteArray := prog_3_method_7_code
def yX1_isKnownObject : MethodName := ⟨RX1, "isKnownObject", "(I)Z"⟩
abbrev cX1_joinTypes : ByteArray := prog_3_method_8_code
def yX1_joinTypes : MethodName := ⟨RX1, "joinTypes", "(II)I"⟩
abbrev cX1_isObjectFor : ByteArray := prog_3_method_9_code
def yX1_isObjectFor : MethodName := ⟨RX1, "isObjectFor", "(II)Z"⟩
abbrev cX1_fitsType : ByteArray := prog_3_method_10_code
def yX1_fitsType : MethodName := ⟨RX1, "fitsType", "(II)Z"⟩
abbrev cX1_fitsAll : ByteArray := prog_3_method_11_code
def yX1_fitsAll : MethodName := ⟨RX1, "fitsAll", "(LClosureFrames$Snapshot;LClosureFrames$Snapshot;)Z"⟩
def RX2 : String := "ClosureFrames$Computing"
def TX2 : u_T := fun k => match k with
  | 0 => ("ClosureFrames$Computing", "tree", "LClosureFrames$ClassTree;", true)
  | 1 => ("ClosureFrames$Computing", "worker", "LClosureFrames$Worker;", true)
  | 2 => ("ClosureFrames$Computing", "taken", "LClosureFrames$Snapshot;", true)
  | 3 => ("ClosureFrames$Computing", "caught", "LClosureFrames$Snapshot;", true)
  | _ => ("ClosureFrames$Computing", "fault", "I", false)
def tyX2 : Nat → FieldType := fun k => match k with
  | 0 => .object "ClosureFrames$ClassTree"
  | 1 => .object "ClosureFrames$Worker"
  | 2 => .object "ClosureFrames$Snapshot"
  | 3 => .object "ClosureFrames$Snapshot"
  | _ => .int
theorem nmX2 : ∀ a, a < 5 → ∀ b, b < 5 → a ≠ b → (TX2 a).2.1 ≠ (TX2 b).2.1 := by decide +kernel
theorem tyX2_ok : ∀ k, k < 5 → parseFieldDescriptor (TX2 k).2.2.1 = some (tyX2 k) := by decide +kernel
abbrev cX2_init : ByteArray := prog_4_method_1_code
def yX2_init : MethodName := ⟨RX2, "<init>", "(LClosureFrames$ClassTree;LClosureFrames$Worker;)V"⟩
abbrev cX2_run : ByteArray := prog_4_method_2_code
def yX2_run : MethodName := ⟨RX2, "run", "(LClosureFrames$Method;)I"⟩
abbrev cX2_workOn : ByteArray := prog_4_method_3_code
def yX2_workOn : MethodName := ⟨RX2, "workOn", "(LClosureFrames$Method;I)I"⟩
abbrev cX2_sendToGuards : ByteArray := prog_4_method_4_code
def yX2_sendToGuards : MethodName := ⟨RX2, "sendToGuards", "(LClosureFrames$Method;I)I"⟩
abbrev cX2_sendOn : ByteArray := prog_4_method_5_code
def yX2_sendOn : MethodName := ⟨RX2, "sendOn", "(LClosureFrames$Method;ILClosureFrames$Act;)I"⟩
abbrev cX2_arrive : ByteArray := prog_4_method_6_code
def yX2_arrive : MethodName := ⟨RX2, "arrive", "(LClosureFrames$Method;IILClosureFrames$Snapshot;)I"⟩
abbrev cX2_merge : ByteArray := prog_4_method_7_code
def yX2_merge : MethodName := ⟨RX2, "merge", "(LClosureFrames$Act;LClosureFrames$Snapshot;)I"⟩
def RX3 : String := "ClosureFrames$Guard"
def TX3 : u_T := fun k => match k with
  | 0 => ("ClosureFrames$Guard", "from", "I", false)
  | 1 => ("ClosureFrames$Guard", "to", "I", false)
  | 2 => ("ClosureFrames$Guard", "at", "I", false)
  | _ => ("ClosureFrames$Guard", "cls", "I", false)
def tyX3 : Nat → FieldType := fun k => match k with
  | 0 => .int
  | 1 => .int
  | 2 => .int
  | _ => .int
theorem nmX3 : ∀ a, a < 4 → ∀ b, b < 4 → a ≠ b → (TX3 a).2.1 ≠ (TX3 b).2.1 := by decide +kernel
theorem tyX3_ok : ∀ k, k < 4 → parseFieldDescriptor (TX3 k).2.2.1 = some (tyX3 k) := by decide +kernel
abbrev cX3_init : ByteArray := prog_5_method_1_code
def yX3_init : MethodName := ⟨RX3, "<init>", "()V"⟩
abbrev cX3_holds : ByteArray := prog_5_method_2_code
def yX3_holds : MethodName := ⟨RX3, "holds", "(I)Z"⟩
def RX4 : String := "ClosureFrames$Looking"
def TX4 : u_T := fun k => match k with
  | 0 => ("ClosureFrames$Looking", "tree", "LClosureFrames$ClassTree;", true)
  | 1 => ("ClosureFrames$Looking", "worker", "LClosureFrames$Worker;", true)
  | 2 => ("ClosureFrames$Looking", "current", "LClosureFrames$Snapshot;", true)
  | 3 => ("ClosureFrames$Looking", "caught", "LClosureFrames$Snapshot;", true)
  | 4 => ("ClosureFrames$Looking", "present", "Z", false)
  | _ => ("ClosureFrames$Looking", "fault", "I", false)
def tyX4 : Nat → FieldType := fun k => match k with
  | 0 => .object "ClosureFrames$ClassTree"
  | 1 => .object "ClosureFrames$Worker"
  | 2 => .object "ClosureFrames$Snapshot"
  | 3 => .object "ClosureFrames$Snapshot"
  | 4 => .boolean
  | _ => .int
theorem nmX4 : ∀ a, a < 6 → ∀ b, b < 6 → a ≠ b → (TX4 a).2.1 ≠ (TX4 b).2.1 := by decide +kernel
theorem tyX4_ok : ∀ k, k < 6 → parseFieldDescriptor (TX4 k).2.2.1 = some (tyX4 k) := by decide +kernel
abbrev cX4_init : ByteArray := prog_6_method_1_code
def yX4_init : MethodName := ⟨RX4, "<init>", "(LClosureFrames$ClassTree;LClosureFrames$Worker;)V"⟩
abbrev cX4_run : ByteArray := prog_6_method_2_code
def yX4_run : MethodName := ⟨RX4, "run", "(LClosureFrames$Method;)I"⟩
abbrev cX4_lookAt : ByteArray := prog_6_method_3_code
def yX4_lookAt : MethodName := ⟨RX4, "lookAt", "(LClosureFrames$Method;I)I"⟩
abbrev cX4_takeFrame : ByteArray := prog_6_method_4_code
def yX4_takeFrame : MethodName := ⟨RX4, "takeFrame", "(LClosureFrames$Act;)I"⟩
abbrev cX4_lookAtGuards : ByteArray := prog_6_method_5_code
def yX4_lookAtGuards : MethodName := ⟨RX4, "lookAtGuards", "(LClosureFrames$Method;I)I"⟩
abbrev cX4_lookAtTargets : ByteArray := prog_6_method_6_code
def yX4_lookAtTargets : MethodName := ⟨RX4, "lookAtTargets", "(LClosureFrames$Method;ILClosureFrames$Act;)I"⟩
abbrev cX4_meet : ByteArray := prog_6_method_7_code
def yX4_meet : MethodName := ⟨RX4, "meet", "(LClosureFrames$Act;LClosureFrames$Snapshot;)I"⟩
def RX5 : String := "ClosureFrames$Method"
def TX5 : u_T := fun k => match k with
  | 0 => ("ClosureFrames$Method", "acts", "[LClosureFrames$Act;", true)
  | 1 => ("ClosureFrames$Method", "guards", "[LClosureFrames$Guard;", true)
  | 2 => ("ClosureFrames$Method", "beginning", "LClosureFrames$Snapshot;", true)
  | 3 => ("ClosureFrames$Method", "actCount", "I", false)
  | 4 => ("ClosureFrames$Method", "guardCount", "I", false)
  | 5 => ("ClosureFrames$Method", "placeCount", "I", false)
  | 6 => ("ClosureFrames$Method", "argumentPlaces", "I", false)
  | 7 => ("ClosureFrames$Method", "computed", "Z", false)
  | 8 => ("ClosureFrames$Method", "mostStack", "I", false)
  | _ => ("ClosureFrames$Method", "mostPlaces", "I", false)
def tyX5 : Nat → FieldType := fun k => match k with
  | 0 => .array (.object "ClosureFrames$Act")
  | 1 => .array (.object "ClosureFrames$Guard")
  | 2 => .object "ClosureFrames$Snapshot"
  | 3 => .int
  | 4 => .int
  | 5 => .int
  | 6 => .int
  | 7 => .boolean
  | 8 => .int
  | _ => .int
theorem nmX5 : ∀ a, a < 10 → ∀ b, b < 10 → a ≠ b → (TX5 a).2.1 ≠ (TX5 b).2.1 := by decide +kernel
theorem tyX5_ok : ∀ k, k < 10 → parseFieldDescriptor (TX5 k).2.2.1 = some (tyX5 k) := by decide +kernel
abbrev cX5_init : ByteArray := prog_7_method_1_code
def yX5_init : MethodName := ⟨RX5, "<init>", "()V"⟩
abbrev cX5_empty : ByteArray := prog_7_method_2_code
def yX5_empty : MethodName := ⟨RX5, "empty", "(I)V"⟩
abbrev cX5_addArgument : ByteArray := prog_7_method_3_code
def yX5_addArgument : MethodName := ⟨RX5, "addArgument", "(I)I"⟩
abbrev cX5_addAct : ByteArray := prog_7_method_4_code
def yX5_addAct : MethodName := ⟨RX5, "addAct", "(III)I"⟩
abbrev cX5_addGuard : ByteArray := prog_7_method_5_code
def yX5_addGuard : MethodName := ⟨RX5, "addGuard", "(IIII)I"⟩
abbrev cX5_actAt : ByteArray := prog_7_method_6_code
def yX5_actAt : MethodName := ⟨RX5, "actAt", "(I)LClosureFrames$Act;"⟩
abbrev cX5_guardOver : ByteArray := prog_7_method_7_code
def yX5_guardOver : MethodName := ⟨RX5, "guardOver", "(II)LClosureFrames$Guard;"⟩
abbrev cX5_hasPlace : ByteArray := prog_7_method_8_code
def yX5_hasPlace : MethodName := ⟨RX5, "hasPlace", "(I)Z"⟩
abbrev cX5_isUnmadeOf : ByteArray := prog_7_method_9_code
def yX5_isUnmadeOf : MethodName := ⟨RX5, "isUnmadeOf", "(II)Z"⟩
abbrev cX5_forgetComputed : ByteArray := prog_7_method_10_code
def yX5_forgetComputed : MethodName := ⟨RX5, "forgetComputed", "()V"⟩
abbrev cX5_leastDue : ByteArray := prog_7_method_11_code
def yX5_leastDue : MethodName := ⟨RX5, "leastDue", "()I"⟩
abbrev cX5_noteStack : ByteArray := prog_7_method_12_code
def yX5_noteStack : MethodName := ⟨RX5, "noteStack", "(LClosureFrames$Snapshot;)V"⟩
abbrev cX5_notePlaces : ByteArray := prog_7_method_13_code
def yX5_notePlaces : MethodName := ⟨RX5, "notePlaces", "(LClosureFrames$Act;LClosureFrames$Snapshot;)V"⟩
abbrev cX5_leads : ByteArray := prog_7_method_14_code
def yX5_leads : MethodName := ⟨RX5, "leads", "(II)Z"⟩
abbrev cX5_countSources : ByteArray := prog_7_method_15_code
def yX5_countSources : MethodName := ⟨RX5, "countSources", "(I)I"⟩
abbrev cX5_setFrames : ByteArray := prog_7_method_16_code
def yX5_setFrames : MethodName := ⟨RX5, "setFrames", "()V"⟩
abbrev cX5_frameCount : ByteArray := prog_7_method_17_code
def yX5_frameCount : MethodName := ⟨RX5, "frameCount", "()I"⟩
abbrev cX5_actOfFrame : ByteArray := prog_7_method_18_code
def yX5_actOfFrame : MethodName := ⟨RX5, "actOfFrame", "(I)I"⟩
def RX6 : String := "ClosureFrames$Snapshot"
def TX6 : u_T := fun k => match k with
  | 0 => ("ClosureFrames$Snapshot", "places", "[I", true)
  | 1 => ("ClosureFrames$Snapshot", "stack", "[I", true)
  | _ => ("ClosureFrames$Snapshot", "height", "I", false)
def tyX6 : Nat → FieldType := fun k => match k with
  | 0 => .array .int
  | 1 => .array .int
  | _ => .int
theorem nmX6 : ∀ a, a < 3 → ∀ b, b < 3 → a ≠ b → (TX6 a).2.1 ≠ (TX6 b).2.1 := by decide +kernel
theorem tyX6_ok : ∀ k, k < 3 → parseFieldDescriptor (TX6 k).2.2.1 = some (tyX6 k) := by decide +kernel
abbrev cX6_init : ByteArray := prog_8_method_1_code
def yX6_init : MethodName := ⟨RX6, "<init>", "()V"⟩
abbrev cX6_empty : ByteArray := prog_8_method_2_code
def yX6_empty : MethodName := ⟨RX6, "empty", "()V"⟩
abbrev cX6_become : ByteArray := prog_8_method_3_code
def yX6_become : MethodName := ⟨RX6, "become", "(LClosureFrames$Snapshot;)V"⟩
abbrev cX6_inPlace : ByteArray := prog_8_method_4_code
def yX6_inPlace : MethodName := ⟨RX6, "inPlace", "(I)I"⟩
abbrev cX6_setPlace : ByteArray := prog_8_method_5_code
def yX6_setPlace : MethodName := ⟨RX6, "setPlace", "(II)V"⟩
abbrev cX6_onStack : ByteArray := prog_8_method_6_code
def yX6_onStack : MethodName := ⟨RX6, "onStack", "(I)I"⟩
abbrev cX6_setStack : ByteArray := prog_8_method_7_code
def yX6_setStack : MethodName := ⟨RX6, "setStack", "(II)V"⟩
abbrev cX6_weight : ByteArray := prog_8_method_8_code
def yX6_weight : MethodName := ⟨RX6, "weight", "()I"⟩
abbrev cX6_push : ByteArray := prog_8_method_9_code
def yX6_push : MethodName := ⟨RX6, "push", "(I)I"⟩
abbrev cX6_top : ByteArray := prog_8_method_10_code
def yX6_top : MethodName := ⟨RX6, "top", "()I"⟩
abbrev cX6_pop : ByteArray := prog_8_method_11_code
def yX6_pop : MethodName := ⟨RX6, "pop", "()I"⟩
abbrev cX6_store : ByteArray := prog_8_method_12_code
def yX6_store : MethodName := ⟨RX6, "store", "(II)V"⟩
abbrev cX6_breakWideAt : ByteArray := prog_8_method_13_code
def yX6_breakWideAt : MethodName := ⟨RX6, "breakWideAt", "(I)V"⟩
abbrev cX6_replace : ByteArray := prog_8_method_14_code
def yX6_replace : MethodName := ⟨RX6, "replace", "(II)V"⟩
abbrev cX6_hasUnmade : ByteArray := prog_8_method_15_code
def yX6_hasUnmade : MethodName := ⟨RX6, "hasUnmade", "()Z"⟩
abbrev cX6_becomeCaught : ByteArray := prog_8_method_16_code
def yX6_becomeCaught : MethodName := ⟨RX6, "becomeCaught", "(LClosureFrames$Snapshot;I)V"⟩
abbrev cX6_answer : ByteArray := prog_8_method_17_code
def yX6_answer : MethodName := ⟨RX6, "answer", "(I)I"⟩
abbrev cX6_end : ByteArray := prog_8_method_18_code
def yX6_end : MethodName := ⟨RX6, "end", "()I"⟩
abbrev cX6_isLikeUpTo : ByteArray := prog_8_method_19_code
def yX6_isLikeUpTo : MethodName := ⟨RX6, "isLikeUpTo", "(LClosureFrames$Snapshot;I)Z"⟩
abbrev cX6_countTold : ByteArray := prog_8_method_20_code
def yX6_countTold : MethodName := ⟨RX6, "countTold", "(II)I"⟩
abbrev cX6_formAgainst : ByteArray := prog_8_method_21_code
def yX6_formAgainst : MethodName := ⟨RX6, "formAgainst", "(LClosureFrames$Snapshot;)I"⟩
def RX7 : String := "ClosureFrames$Worker"
def TX7 : u_T := fun k => match k with
  | _ => ("ClosureFrames$Worker", "tree", "LClosureFrames$ClassTree;", true)
def tyX7 : Nat → FieldType := fun k => match k with
  | _ => .object "ClosureFrames$ClassTree"
theorem nmX7 : ∀ a, a < 1 → ∀ b, b < 1 → a ≠ b → (TX7 a).2.1 ≠ (TX7 b).2.1 := by decide +kernel
theorem tyX7_ok : ∀ k, k < 1 → parseFieldDescriptor (TX7 k).2.2.1 = some (tyX7 k) := by decide +kernel
abbrev cX7_init : ByteArray := prog_9_method_1_code
def yX7_init : MethodName := ⟨RX7, "<init>", "(LClosureFrames$ClassTree;)V"⟩
abbrev cX7_perform : ByteArray := prog_9_method_2_code
def yX7_perform : MethodName := ⟨RX7, "perform", "(LClosureFrames$Method;ILClosureFrames$Act;LClosureFrames$Snapshot;)I"⟩
abbrev cX7_load : ByteArray := prog_9_method_3_code
def yX7_load : MethodName := ⟨RX7, "load", "(LClosureFrames$Method;ILClosureFrames$Snapshot;)I"⟩
abbrev cX7_store : ByteArray := prog_9_method_4_code
def yX7_store : MethodName := ⟨RX7, "store", "(LClosureFrames$Method;ILClosureFrames$Snapshot;)I"⟩
abbrev cX7_take : ByteArray := prog_9_method_5_code
def yX7_take : MethodName := ⟨RX7, "take", "(LClosureFrames$Snapshot;I)I"⟩
abbrev cX7_takeObject : ByteArray := prog_9_method_6_code
def yX7_takeObject : MethodName := ⟨RX7, "takeObject", "(LClosureFrames$Snapshot;I)I"⟩
abbrev cX7_pushUnless : ByteArray := prog_9_method_7_code
def yX7_pushUnless : MethodName := ⟨RX7, "pushUnless", "(ILClosureFrames$Snapshot;I)I"⟩
abbrev cX7_add : ByteArray := prog_9_method_8_code
def yX7_add : MethodName := ⟨RX7, "add", "(LClosureFrames$Snapshot;I)I"⟩
abbrev cX7_callOn : ByteArray := prog_9_method_9_code
def yX7_callOn : MethodName := ⟨RX7, "callOn", "(LClosureFrames$Snapshot;I)I"⟩
abbrev cX7_make : ByteArray := prog_9_method_10_code
def yX7_make : MethodName := ⟨RX7, "make", "(LClosureFrames$Method;ILClosureFrames$Snapshot;)I"⟩
def RX8 : String := "ClosureFrames"
def TX8 : u_T := fun k => match k with
  | 0 => ("ClosureFrames", "tree", "LClosureFrames$ClassTree;", true)
  | 1 => ("ClosureFrames", "methods", "[LClosureFrames$Method;", true)
  | 2 => ("ClosureFrames", "computing", "LClosureFrames$Computing;", true)
  | 3 => ("ClosureFrames", "looking", "LClosureFrames$Looking;", true)
  | _ => ("ClosureFrames", "lastFault", "I", false)
def tyX8 : Nat → FieldType := fun k => match k with
  | 0 => .object "ClosureFrames$ClassTree"
  | 1 => .array (.object "ClosureFrames$Method")
  | 2 => .object "ClosureFrames$Computing"
  | 3 => .object "ClosureFrames$Looking"
  | _ => .int
theorem nmX8 : ∀ a, a < 5 → ∀ b, b < 5 → a ≠ b → (TX8 a).2.1 ≠ (TX8 b).2.1 := by decide +kernel
theorem tyX8_ok : ∀ k, k < 5 → parseFieldDescriptor (TX8 k).2.2.1 = some (tyX8 k) := by decide +kernel
abbrev cX8_init : ByteArray := prog_1_method_1_code
def yX8_init : MethodName := ⟨RX8, "<init>", "()V"⟩
abbrev cX8_cls : ByteArray := prog_1_method_2_code
def yX8_cls : MethodName := ⟨RX8, "cls", "(IZ)I"⟩
abbrev cX8_joined : ByteArray := prog_1_method_3_code
def yX8_joined : MethodName := ⟨RX8, "joined", "(II)I"⟩
abbrev cX8_is : ByteArray := prog_1_method_4_code
def yX8_is : MethodName := ⟨RX8, "is", "(II)I"⟩
abbrev cX8_clear : ByteArray := prog_1_method_5_code
def yX8_clear : MethodName := ⟨RX8, "clear", "(II)I"⟩
abbrev cX8_argument : ByteArray := prog_1_method_6_code
def yX8_argument : MethodName := ⟨RX8, "argument", "(II)I"⟩
abbrev cX8_act : ByteArray := prog_1_method_7_code
def yX8_act : MethodName := ⟨RX8, "act", "(IIII)I"⟩
abbrev cX8_guard : ByteArray := prog_1_method_8_code
def yX8_guard : MethodName := ⟨RX8, "guard", "(IIIII)I"⟩
abbrev cX8_compute : ByteArray := prog_1_method_9_code
def yX8_compute : MethodName := ⟨RX8, "compute", "(I)I"⟩
abbrev cX8_fault : ByteArray := prog_1_method_10_code
def yX8_fault : MethodName := ⟨RX8, "fault", "()I"⟩
abbrev cX8_state : ByteArray := prog_1_method_11_code
def yX8_state : MethodName := ⟨RX8, "state", "(III)I"⟩
abbrev cX8_frame : ByteArray := prog_1_method_12_code
def yX8_frame : MethodName := ⟨RX8, "frame", "(III)I"⟩
abbrev cX8_form : ByteArray := prog_1_method_13_code
def yX8_form : MethodName := ⟨RX8, "form", "(II)I"⟩
abbrev cX8_shared : ByteArray := prog_1_method_14_code
def yX8_shared : MethodName := ⟨RX8, "shared", "(II)I"⟩
abbrev cX8_maximum : ByteArray := prog_1_method_15_code
def yX8_maximum : MethodName := ⟨RX8, "maximum", "(II)I"⟩
abbrev cX8_plant : ByteArray := prog_1_method_16_code
def yX8_plant : MethodName := ⟨RX8, "plant", "(IIII)I"⟩
abbrev cX8_verify : ByteArray := prog_1_method_17_code
def yX8_verify : MethodName := ⟨RX8, "verify", "(I)I"⟩
abbrev cX8_told : ByteArray := prog_1_method_18_code
def yX8_told : MethodName := ⟨RX8, "told", "(I)I"⟩
abbrev cX8_isAskedFrom : ByteArray := prog_1_method_19_code
def yX8_isAskedFrom : MethodName := ⟨RX8, "isAskedFrom", "(II)Z"⟩
abbrev cX8_toldActs : ByteArray := prog_1_method_20_code
def yX8_toldActs : MethodName := ⟨RX8, "toldActs", "(I)I"⟩
abbrev cX8_toldGuards : ByteArray := prog_1_method_21_code
def yX8_toldGuards : MethodName := ⟨RX8, "toldGuards", "(I)I"⟩
abbrev cX8_toldPlaces : ByteArray := prog_1_method_22_code
def yX8_toldPlaces : MethodName := ⟨RX8, "toldPlaces", "(I)I"⟩
abbrev cX8_toldFrames : ByteArray := prog_1_method_23_code
def yX8_toldFrames : MethodName := ⟨RX8, "toldFrames", "(I)I"⟩
abbrev cX8_methodAt : ByteArray := prog_1_method_24_code
def yX8_methodAt : MethodName := ⟨RX8, "methodAt", "(I)LClosureFrames$Method;"⟩
abbrev cX8_isPlace : ByteArray := prog_1_method_25_code
def yX8_isPlace : MethodName := ⟨RX8, "isPlace", "(I)Z"⟩
abbrev cX8_isOnStack : ByteArray := prog_1_method_26_code
def yX8_isOnStack : MethodName := ⟨RX8, "isOnStack", "(I)Z"⟩
abbrev cX8_isActNumber : ByteArray := prog_1_method_27_code
def yX8_isActNumber : MethodName := ⟨RX8, "isActNumber", "(I)Z"⟩
abbrev cX8_isAct : ByteArray := prog_1_method_28_code
def yX8_isAct : MethodName := ⟨RX8, "isAct", "(III)Z"⟩
abbrev cX8_plantPlace : ByteArray := prog_1_method_29_code
def yX8_plantPlace : MethodName := ⟨RX8, "plantPlace", "(LClosureFrames$Method;LClosureFrames$Snapshot;II)I"⟩
abbrev cX8_plantStack : ByteArray := prog_1_method_30_code
def yX8_plantStack : MethodName := ⟨RX8, "plantStack", "(LClosureFrames$Snapshot;II)I"⟩
def RX9 : String := "ClosureFramesModel"
def TX9 : u_T := fun k => match k with
  | 0 => ("ClosureFramesModel", "classes", "I", false)
  | 1 => ("ClosureFramesModel", "above", "[I", true)
  | 2 => ("ClosureFramesModel", "isFace", "[Z", true)
  | 3 => ("ClosureFramesModel", "places", "[I", true)
  | 4 => ("ClosureFramesModel", "used", "[I", true)
  | 5 => ("ClosureFramesModel", "arguments", "[I", true)
  | 6 => ("ClosureFramesModel", "acts", "[I", true)
  | 7 => ("ClosureFramesModel", "kinds", "[I", true)
  | 8 => ("ClosureFramesModel", "as", "[I", true)
  | 9 => ("ClosureFramesModel", "bs", "[I", true)
  | 10 => ("ClosureFramesModel", "guards", "[I", true)
  | 11 => ("ClosureFramesModel", "from", "[I", true)
  | 12 => ("ClosureFramesModel", "to", "[I", true)
  | 13 => ("ClosureFramesModel", "handler", "[I", true)
  | 14 => ("ClosureFramesModel", "caught", "[I", true)
  | 15 => ("ClosureFramesModel", "known", "[Z", true)
  | 16 => ("ClosureFramesModel", "has", "[Z", true)
  | 17 => ("ClosureFramesModel", "states", "[I", true)
  | 18 => ("ClosureFramesModel", "isFrame", "[Z", true)
  | 19 => ("ClosureFramesModel", "frames", "[I", true)
  | 20 => ("ClosureFramesModel", "fault", "I", false)
  | 21 => ("ClosureFramesModel", "method", "I", false)
  | 22 => ("ClosureFramesModel", "now", "[I", true)
  | 23 => ("ClosureFramesModel", "then", "[I", true)
  | 24 => ("ClosureFramesModel", "wrong", "I", false)
  | 25 => ("ClosureFramesModel", "due", "[Z", true)
  | 26 => ("ClosureFramesModel", "joinRow", "[I", true)
  | 27 => ("ClosureFramesModel", "one", "[I", true)
  | _ => ("ClosureFramesModel", "other", "[I", true)
def tyX9 : Nat → FieldType := fun k => match k with
  | 0 => .int
  | 1 => .array .int
  | 2 => .array .boolean
  | 3 => .array .int
  | 4 => .array .int
  | 5 => .array .int
  | 6 => .array .int
  | 7 => .array .int
  | 8 => .array .int
  | 9 => .array .int
  | 10 => .array .int
  | 11 => .array .int
  | 12 => .array .int
  | 13 => .array .int
  | 14 => .array .int
  | 15 => .array .boolean
  | 16 => .array .boolean
  | 17 => .array .int
  | 18 => .array .boolean
  | 19 => .array .int
  | 20 => .int
  | 21 => .int
  | 22 => .array .int
  | 23 => .array .int
  | 24 => .int
  | 25 => .array .boolean
  | 26 => .array .int
  | 27 => .array .int
  | _ => .array .int
theorem nmX9 : ∀ a, a < 29 → ∀ b, b < 29 → a ≠ b → (TX9 a).2.1 ≠ (TX9 b).2.1 := by decide +kernel
theorem tyX9_ok : ∀ k, k < 29 → parseFieldDescriptor (TX9 k).2.2.1 = some (tyX9 k) := by decide +kernel
abbrev cX9_init : ByteArray := prog_11_method_1_code
def yX9_init : MethodName := ⟨RX9, "<init>", "()V"⟩
abbrev cX9_in : ByteArray := prog_11_method_2_code
def yX9_in : MethodName := ⟨RX9, "in", "(III)Z"⟩
abbrev cX9_isClass : ByteArray := prog_11_method_3_code
def yX9_isClass : MethodName := ⟨RX9, "isClass", "(I)Z"⟩
abbrev cX9_isMethod : ByteArray := prog_11_method_4_code
def yX9_isMethod : MethodName := ⟨RX9, "isMethod", "(I)Z"⟩
abbrev cX9_cls : ByteArray := prog_11_method_5_code
def yX9_cls : MethodName := ⟨RX9, "cls", "(IZ)I"⟩
abbrev cX9_isBelow : ByteArray := prog_11_method_6_code
def yX9_isBelow : MethodName := ⟨RX9, "isBelow", "(II)Z"⟩
abbrev cX9_joinOf : ByteArray := prog_11_method_7_code
def yX9_joinOf : MethodName := ⟨RX9, "joinOf", "(II)I"⟩
abbrev cX9_isOne : ByteArray := prog_11_method_8_code
def yX9_isOne : MethodName := ⟨RX9, "isOne", "(II)Z"⟩
abbrev cX9_joined : ByteArray := prog_11_method_9_code
def yX9_joined : MethodName := ⟨RX9, "joined", "(II)I"⟩
abbrev cX9_is : ByteArray := prog_11_method_10_code
def yX9_is : MethodName := ⟨RX9, "is", "(II)I"⟩
abbrev cX9_isObject : ByteArray := prog_11_method_11_code
def yX9_isObject : MethodName := ⟨RX9, "isObject", "(I)Z"⟩
abbrev cX9_isUnmade : ByteArray := prog_11_method_12_code
def yX9_isUnmade : MethodName := ⟨RX9, "isUnmade", "(I)Z"⟩
abbrev cX9_joinTypes : ByteArray := prog_11_method_13_code
def yX9_joinTypes : MethodName := ⟨RX9, "joinTypes", "(II)I"⟩
abbrev cX9_fits : ByteArray := prog_11_method_14_code
def yX9_fits : MethodName := ⟨RX9, "fits", "(II)Z"⟩
abbrev cX9_clear : ByteArray := prog_11_method_15_code
def yX9_clear : MethodName := ⟨RX9, "clear", "(II)I"⟩
abbrev cX9_argument : ByteArray := prog_11_method_16_code
def yX9_argument : MethodName := ⟨RX9, "argument", "(II)I"⟩
abbrev cX9_act : ByteArray := prog_11_method_17_code
def yX9_act : MethodName := ⟨RX9, "act", "(IIII)I"⟩
abbrev cX9_guard : ByteArray := prog_11_method_18_code
def yX9_guard : MethodName := ⟨RX9, "guard", "(IIIII)I"⟩
abbrev cX9_fails : ByteArray := prog_11_method_19_code
def yX9_fails : MethodName := ⟨RX9, "fails", "(I)V"⟩
abbrev cX9_top : ByteArray := prog_11_method_20_code
def yX9_top : MethodName := ⟨RX9, "top", "()I"⟩
abbrev cX9_pop : ByteArray := prog_11_method_21_code
def yX9_pop : MethodName := ⟨RX9, "pop", "()I"⟩
abbrev cX9_push : ByteArray := prog_11_method_22_code
def yX9_push : MethodName := ⟨RX9, "push", "(I)V"⟩
abbrev cX9_wants : ByteArray := prog_11_method_23_code
def yX9_wants : MethodName := ⟨RX9, "wants", "(I)V"⟩
abbrev cX9_wantsObject : ByteArray := prog_11_method_24_code
def yX9_wantsObject : MethodName := ⟨RX9, "wantsObject", "(I)V"⟩
abbrev cX9_counted : ByteArray := prog_11_method_25_code
def yX9_counted : MethodName := ⟨RX9, "counted", "([I)I"⟩
abbrev cX9_put : ByteArray := prog_11_method_26_code
def yX9_put : MethodName := ⟨RX9, "put", "(II)V"⟩
abbrev cX9_placeActs : ByteArray := prog_11_method_27_code
def yX9_placeActs : MethodName := ⟨RX9, "placeActs", "(II)V"⟩
abbrev cX9_make : ByteArray := prog_11_method_28_code
def yX9_make : MethodName := ⟨RX9, "make", "(I)V"⟩
abbrev cX9_does : ByteArray := prog_11_method_29_code
def yX9_does : MethodName := ⟨RX9, "does", "(I)V"⟩
abbrev cX9_doesMore : ByteArray := prog_11_method_30_code
def yX9_doesMore : MethodName := ⟨RX9, "doesMore", "(III)V"⟩
abbrev cX9_goesOn : ByteArray := prog_11_method_31_code
def yX9_goesOn : MethodName := ⟨RX9, "goesOn", "(I)Z"⟩
abbrev cX9_jumps : ByteArray := prog_11_method_32_code
def yX9_jumps : MethodName := ⟨RX9, "jumps", "(I)Z"⟩
abbrev cX9_copy : ByteArray := prog_11_method_33_code
def yX9_copy : MethodName := ⟨RX9, "copy", "([II[II)V"⟩
abbrev cX9_caughtState : ByteArray := prog_11_method_34_code
def yX9_caughtState : MethodName := ⟨RX9, "caughtState", "(I)V"⟩
abbrev cX9_hasUnmade : ByteArray := prog_11_method_35_code
def yX9_hasUnmade : MethodName := ⟨RX9, "hasUnmade", "([I)Z"⟩
abbrev cX9_beginning : ByteArray := prog_11_method_36_code
def yX9_beginning : MethodName := ⟨RX9, "beginning", "([I)V"⟩
abbrev cX9_comes : ByteArray := prog_11_method_37_code
def yX9_comes : MethodName := ⟨RX9, "comes", "(IIZ)V"⟩
abbrev cX9_leastDue : ByteArray := prog_11_method_38_code
def yX9_leastDue : MethodName := ⟨RX9, "leastDue", "()I"⟩
abbrev cX9_holds : ByteArray := prog_11_method_39_code
def yX9_holds : MethodName := ⟨RX9, "holds", "(II)Z"⟩
abbrev cX9_works : ByteArray := prog_11_method_40_code
def yX9_works : MethodName := ⟨RX9, "works", "(I)V"⟩
abbrev cX9_compute : ByteArray := prog_11_method_41_code
def yX9_compute : MethodName := ⟨RX9, "compute", "(I)I"⟩
abbrev cX9_layFrames : ByteArray := prog_11_method_42_code
def yX9_layFrames : MethodName := ⟨RX9, "layFrames", "(I)I"⟩
abbrev cX9_fault : ByteArray := prog_11_method_43_code
def yX9_fault : MethodName := ⟨RX9, "fault", "()I"⟩
abbrev cX9_part : ByteArray := prog_11_method_44_code
def yX9_part : MethodName := ⟨RX9, "part", "([III)I"⟩
abbrev cX9_isAsked : ByteArray := prog_11_method_45_code
def yX9_isAsked : MethodName := ⟨RX9, "isAsked", "(I)Z"⟩
abbrev cX9_state : ByteArray := prog_11_method_46_code
def yX9_state : MethodName := ⟨RX9, "state", "(III)I"⟩
abbrev cX9_frameCount : ByteArray := prog_11_method_47_code
def yX9_frameCount : MethodName := ⟨RX9, "frameCount", "(I)I"⟩
abbrev cX9_actOf : ByteArray := prog_11_method_48_code
def yX9_actOf : MethodName := ⟨RX9, "actOf", "(II)I"⟩
abbrev cX9_frame : ByteArray := prog_11_method_49_code
def yX9_frame : MethodName := ⟨RX9, "frame", "(III)I"⟩
abbrev cX9_toldPlaces : ByteArray := prog_11_method_50_code
def yX9_toldPlaces : MethodName := ⟨RX9, "toldPlaces", "([II[I)I"⟩
abbrev cX9_form : ByteArray := prog_11_method_51_code
def yX9_form : MethodName := ⟨RX9, "form", "(II)I"⟩
abbrev cX9_shared : ByteArray := prog_11_method_52_code
def yX9_shared : MethodName := ⟨RX9, "shared", "(II)I"⟩
abbrev cX9_maximum : ByteArray := prog_11_method_53_code
def yX9_maximum : MethodName := ⟨RX9, "maximum", "(II)I"⟩
abbrev cX9_plant : ByteArray := prog_11_method_54_code
def yX9_plant : MethodName := ⟨RX9, "plant", "(IIII)I"⟩
abbrev cX9_allFit : ByteArray := prog_11_method_55_code
def yX9_allFit : MethodName := ⟨RX9, "allFit", "([II)Z"⟩
abbrev cX9_looks : ByteArray := prog_11_method_56_code
def yX9_looks : MethodName := ⟨RX9, "looks", "([IIIZ)V"⟩
abbrev cX9_looksAt : ByteArray := prog_11_method_57_code
def yX9_looksAt : MethodName := ⟨RX9, "looksAt", "(IZ)V"⟩
abbrev cX9_verify : ByteArray := prog_11_method_58_code
def yX9_verify : MethodName := ⟨RX9, "verify", "(I)I"⟩
abbrev cX9_told : ByteArray := prog_11_method_59_code
def yX9_told : MethodName := ⟨RX9, "told", "(I)I"⟩
def RL : String := "ClosureFramesLaw"
abbrev cL_law : ByteArray := code
def yL_law : MethodName := ⟨RL, "law", "([I)Z"⟩
abbrev vwCl : List vw_C := [(RX0, TX0, 8), (RX1, TX1, 3), (RX2, TX2, 5), (RX3, TX3, 4), (RX4, TX4, 6), (RX5, TX5, 10), (RX6, TX6, 3), (RX7, TX7, 1), (RX8, TX8, 5), (RX9, TX9, 29)]
end
section
theorem dX0_init_0 : decode cX0_init 0 = .ok (.aload_n 0, 1) := by decide +kernel
theorem dX0_init_1 : decode cX0_init 1 = .ok (.invokespecial 3, 3) := by decide +kernel
theorem dX0_init_4 : decode cX0_init 4 = .ok (.aload_n 0, 1) := by decide +kernel
theorem dX0_init_5 : decode cX0_init 5 = .ok (.new 9, 3) := by decide +kernel
theorem dX0_init_8 : decode cX0_init 8 = .ok (.dup, 1) := by decide +kernel
theorem dX0_init_9 : decode cX0_init 9 = .ok (.invokespecial 11, 3) := by decide +kernel
theorem dX0_init_12 : decode cX0_init 12 = .ok (.putfield 12, 3) := by decide +kernel
theorem dX0_init_15 : decode cX0_init 15 = .ok (.aload_n 0, 1) := by decide +kernel
theorem dX0_init_16 : decode cX0_init 16 = .ok (.new 9, 3) := by decide +kernel
theorem dX0_init_19 : decode cX0_init 19 = .ok (.dup, 1) := by decide +kernel
theorem dX0_init_20 : decode cX0_init 20 = .ok (.invokespecial 11, 3) := by decide +kernel
theorem dX0_init_23 : decode cX0_init 23 = .ok (.putfield 18, 3) := by decide +kernel
theorem dX0_init_26 : decode cX0_init 26 = .ok (.return_, 1) := by decide +kernel
theorem dX0_tell_0 : decode cX0_tell 0 = .ok (.aload_n 0, 1) := by decide +kernel
theorem dX0_tell_1 : decode cX0_tell 1 = .ok (.iload_n 1, 1) := by decide +kernel
theorem dX0_tell_2 : decode cX0_tell 2 = .ok (.putfield 21, 3) := by decide +kernel
theorem dX0_tell_5 : decode cX0_tell 5 = .ok (.aload_n 0, 1) := by decide +kernel
theorem dX0_tell_6 : decode cX0_tell 6 = .ok (.iload_n 2, 1) := by decide +kernel
theorem dX0_tell_7 : decode cX0_tell 7 = .ok (.putfield 25, 3) := by decide +kernel
theorem dX0_tell_10 : decode cX0_tell 10 = .ok (.aload_n 0, 1) := by decide +kernel
theorem dX0_tell_11 : decode cX0_tell 11 = .ok (.iload_n 3, 1) := by decide +kernel
theorem dX0_tell_12 : decode cX0_tell 12 = .ok (.putfield 28, 3) := by decide +kernel
theorem dX0_tell_15 : decode cX0_tell 15 = .ok (.return_, 1) := by decide +kernel
theorem dX0_forget_0 : decode cX0_forget 0 = .ok (.aload_n 0, 1) := by decide +kernel
theorem dX0_forget_1 : decode cX0_forget 1 = .ok (.iconst 0, 1) := by decide +kernel
theorem dX0_forget_2 : decode cX0_forget 2 = .ok (.putfield 31, 3) := by decide +kernel
theorem dX0_forget_5 : decode cX0_forget 5 = .ok (.aload_n 0, 1) := by decide +kernel
theorem dX0_forget_6 : decode cX0_forget 6 = .ok (.iconst 0, 1) := by decide +kernel
theorem dX0_forget_7 : decode cX0_forget 7 = .ok (.putfield 35, 3) := by decide +kernel
theorem dX0_forget_10 : decode cX0_forget 10 = .ok (.aload_n 0, 1) := by decide +kernel
theorem dX0_forget_11 : decode cX0_forget 11 = .ok (.iconst 0, 1) := by decide +kernel
theorem dX0_forget_12 : decode cX0_forget 12 = .ok (.putfield 38, 3) := by decide +kernel
theorem dX0_forget_15 : decode cX0_forget 15 = .ok (.return_, 1) := by decide +kernel
theorem dX0_jumps_0 : decode cX0_jumps 0 = .ok (.aload_n 0, 1) := by decide +kernel
theorem dX0_jumps_1 : decode cX0_jumps 1 = .ok (.getfield 21, 3) := by decide +kernel
theorem dX0_jumps_4 : decode cX0_jumps 4 = .ok (.bipush 14, 2) := by decide +kernel
theorem dX0_jumps_6 : decode cX0_jumps 6 = .ok (.if_icmp .eq 21, 3) := by decide +kernel
theorem dX0_jumps_9 : decode cX0_jumps 9 = .ok (.aload_n 0, 1) := by decide +kernel
theorem dX0_jumps_10 : decode cX0_jumps 10 = .ok (.getfield 21, 3) := by decide +kernel
theorem dX0_jumps_13 : decode cX0_jumps 13 = .ok (.bipush 15, 2) := by decide +kernel
theorem dX0_jumps_15 : decode cX0_jumps 15 = .ok (.if_icmp .eq 12, 3) := by decide +kernel
theorem dX0_jumps_18 : decode cX0_jumps 18 = .ok (.aload_n 0, 1) := by decide +kernel
theorem dX0_jumps_19 : decode cX0_jumps 19 = .ok (.getfield 21, 3) := by decide +kernel
theorem dX0_jumps_22 : decode cX0_jumps 22 = .ok (.bipush 16, 2) := by decide +kernel
theorem dX0_jumps_24 : decode cX0_jumps 24 = .ok (.if_icmp .ne 7, 3) := by decide +kernel
theorem dX0_jumps_27 : decode cX0_jumps 27 = .ok (.iconst 1, 1) := by decide +kernel
theorem dX0_jumps_28 : decode cX0_jumps 28 = .ok (.goto 4, 3) := by decide +kernel
theorem dX0_jumps_31 : decode cX0_jumps 31 = .ok (.iconst 0, 1) := by decide +kernel
theorem dX0_jumps_32 : decode cX0_jumps 32 = .ok (.ireturn, 1) := by decide +kernel
theorem dX0_firstTarget_0 : decode cX0_firstTarget 0 = .ok (.aload_n 0, 1) := by decide +kernel
theorem dX0_firstTarget_1 : decode cX0_firstTarget 1 = .ok (.invokevirtual 41, 3) := by decide +kernel
theorem dX0_firstTarget_4 : decode cX0_firstTarget 4 = .ok (.ifCond .eq 10, 3) := by decide +kernel
theorem dX0_firstTarget_7 : decode cX0_firstTarget 7 = .ok (.aload_n 0, 1) := by decide +kernel
theorem dX0_firstTarget_8 : decode cX0_firstTarget 8 = .ok (.getfield 25, 3) := by decide +kernel
theorem dX0_firstTarget_11 : decode cX0_firstTarget 11 = .ok (.goto 4, 3) := by decide +kernel
theorem dX0_firstTarget_14 : decode cX0_firstTarget 14 = .ok (.iconst 0, 1) := by decide +kernel
theorem dX0_firstTarget_15 : decode cX0_firstTarget 15 = .ok (.ireturn, 1) := by decide +kernel
theorem dX0_lastTarget_0 : decode cX0_lastTarget 0 = .ok (.aload_n 0, 1) := by decide +kernel
theorem dX0_lastTarget_1 : decode cX0_lastTarget 1 = .ok (.invokevirtual 41, 3) := by decide +kernel
theorem dX0_lastTarget_4 : decode cX0_lastTarget 4 = .ok (.ifCond .ne 5, 3) := by decide +kernel
theorem dX0_lastTarget_7 : decode cX0_lastTarget 7 = .ok (.iconst (-1), 1) := by decide +kernel
theorem dX0_lastTarget_8 : decode cX0_lastTarget 8 = .ok (.ireturn, 1) := by decide +kernel
theorem dX0_lastTarget_9 : decode cX0_lastTarget 9 = .ok (.aload_n 0, 1) := by decide +kernel
theorem dX0_lastTarget_10 : decode cX0_lastTarget 10 = .ok (.getfield 21, 3) := by decide +kernel
theorem dX0_lastTarget_13 : decode cX0_lastTarget 13 = .ok (.bipush 16, 2) := by decide +kernel
theorem dX0_lastTarget_15 : decode cX0_lastTarget 15 = .ok (.if_icmp .ne 10, 3) := by decide +kernel
theorem dX0_lastTarget_18 : decode cX0_lastTarget 18 = .ok (.aload_n 0, 1) := by decide +kernel
theorem dX0_lastTarget_19 : decode cX0_lastTarget 19 = .ok (.getfield 28, 3) := by decide +kernel
theorem dX0_lastTarget_22 : decode cX0_lastTarget 22 = .ok (.goto 7, 3) := by decide +kernel
theorem dX0_lastTarget_25 : decode cX0_lastTarget 25 = .ok (.aload_n 0, 1) := by decide +kernel
theorem dX0_lastTarget_26 : decode cX0_lastTarget 26 = .ok (.getfield 25, 3) := by decide +kernel
theorem dX0_lastTarget_29 : decode cX0_lastTarget 29 = .ok (.ireturn, 1) := by decide +kernel
theorem dX0_goesOnAt_0 : decode cX0_goesOnAt 0 = .ok (.iload_n 1, 1) := by decide +kernel
theorem dX0_goesOnAt_1 : decode cX0_goesOnAt 1 = .ok (.aload_n 0, 1) := by decide +kernel
theorem dX0_goesOnAt_2 : decode cX0_goesOnAt 2 = .ok (.invokevirtual 45, 3) := by decide +kernel
theorem dX0_goesOnAt_5 : decode cX0_goesOnAt 5 = .ok (.if_icmp .lt 15, 3) := by decide +kernel
theorem dX0_goesOnAt_8 : decode cX0_goesOnAt 8 = .ok (.iload_n 1, 1) := by decide +kernel
theorem dX0_goesOnAt_9 : decode cX0_goesOnAt 9 = .ok (.aload_n 0, 1) := by decide +kernel
theorem dX0_goesOnAt_10 : decode cX0_goesOnAt 10 = .ok (.invokevirtual 49, 3) := by decide +kernel
theorem dX0_goesOnAt_13 : decode cX0_goesOnAt 13 = .ok (.if_icmp .gt 7, 3) := by decide +kernel
theorem dX0_goesOnAt_16 : decode cX0_goesOnAt 16 = .ok (.iconst 1, 1) := by decide +kernel
theorem dX0_goesOnAt_17 : decode cX0_goesOnAt 17 = .ok (.goto 4, 3) := by decide +kernel
theorem dX0_goesOnAt_20 : decode cX0_goesOnAt 20 = .ok (.iconst 0, 1) := by decide +kernel
theorem dX0_goesOnAt_21 : decode cX0_goesOnAt 21 = .ok (.ireturn, 1) := by decide +kernel
theorem dX0_goesToNext_0 : decode cX0_goesToNext 0 = .ok (.aload_n 0, 1) := by decide +kernel
theorem dX0_goesToNext_1 : decode cX0_goesToNext 1 = .ok (.getfield 21, 3) := by decide +kernel
theorem dX0_goesToNext_4 : decode cX0_goesToNext 4 = .ok (.bipush 14, 2) := by decide +kernel
theorem dX0_goesToNext_6 : decode cX0_goesToNext 6 = .ok (.if_icmp .eq 43, 3) := by decide +kernel
theorem dX0_goesToNext_9 : decode cX0_goesToNext 9 = .ok (.aload_n 0, 1) := by decide +kernel
theorem dX0_goesToNext_10 : decode cX0_goesToNext 10 = .ok (.getfield 21, 3) := by decide +kernel
theorem dX0_goesToNext_13 : decode cX0_goesToNext 13 = .ok (.bipush 16, 2) := by decide +kernel
theorem dX0_goesToNext_15 : decode cX0_goesToNext 15 = .ok (.if_icmp .eq 34, 3) := by decide +kernel
theorem dX0_goesToNext_18 : decode cX0_goesToNext 18 = .ok (.aload_n 0, 1) := by decide +kernel
theorem dX0_goesToNext_19 : decode cX0_goesToNext 19 = .ok (.getfield 21, 3) := by decide +kernel
theorem dX0_goesToNext_22 : decode cX0_goesToNext 22 = .ok (.bipush 17, 2) := by decide +kernel
theorem dX0_goesToNext_24 : decode cX0_goesToNext 24 = .ok (.if_icmp .eq 25, 3) := by decide +kernel
theorem dX0_goesToNext_27 : decode cX0_goesToNext 27 = .ok (.aload_n 0, 1) := by decide +kernel
theorem dX0_goesToNext_28 : decode cX0_goesToNext 28 = .ok (.getfield 21, 3) := by decide +kernel
theorem dX0_goesToNext_31 : decode cX0_goesToNext 31 = .ok (.bipush 18, 2) := by decide +kernel
theorem dX0_goesToNext_33 : decode cX0_goesToNext 33 = .ok (.if_icmp .eq 16, 3) := by decide +kernel
theorem dX0_goesToNext_36 : decode cX0_goesToNext 36 = .ok (.aload_n 0, 1) := by decide +kernel
theorem dX0_goesToNext_37 : decode cX0_goesToNext 37 = .ok (.getfield 21, 3) := by decide +kernel
theorem dX0_goesToNext_40 : decode cX0_goesToNext 40 = .ok (.bipush 19, 2) := by decide +kernel
theorem dX0_goesToNext_42 : decode cX0_goesToNext 42 = .ok (.if_icmp .eq 7, 3) := by decide +kernel
theorem dX0_goesToNext_45 : decode cX0_goesToNext 45 = .ok (.iconst 1, 1) := by decide +kernel
theorem dX0_goesToNext_46 : decode cX0_goesToNext 46 = .ok (.goto 4, 3) := by decide +kernel
theorem dX0_goesToNext_49 : decode cX0_goesToNext 49 = .ok (.iconst 0, 1) := by decide +kernel
theorem dX0_goesToNext_50 : decode cX0_goesToNext 50 = .ok (.ireturn, 1) := by decide +kernel
theorem dX0_usesPlace_0 : decode cX0_usesPlace 0 = .ok (.aload_n 0, 1) := by decide +kernel
theorem dX0_usesPlace_1 : decode cX0_usesPlace 1 = .ok (.getfield 21, 3) := by decide +kernel
theorem dX0_usesPlace_4 : decode cX0_usesPlace 4 = .ok (.iconst 3, 1) := by decide +kernel
theorem dX0_usesPlace_5 : decode cX0_usesPlace 5 = .ok (.if_icmp .eq 20, 3) := by decide +kernel
theorem dX0_usesPlace_8 : decode cX0_usesPlace 8 = .ok (.aload_n 0, 1) := by decide +kernel
theorem dX0_usesPlace_9 : decode cX0_usesPlace 9 = .ok (.getfield 21, 3) := by decide +kernel
theorem dX0_usesPlace_12 : decode cX0_usesPlace 12 = .ok (.iconst 4, 1) := by decide +kernel
theorem dX0_usesPlace_13 : decode cX0_usesPlace 13 = .ok (.if_icmp .eq 12, 3) := by decide +kernel
theorem dX0_usesPlace_16 : decode cX0_usesPlace 16 = .ok (.aload_n 0, 1) := by decide +kernel
theorem dX0_usesPlace_17 : decode cX0_usesPlace 17 = .ok (.getfield 21, 3) := by decide +kernel
theorem dX0_usesPlace_20 : decode cX0_usesPlace 20 = .ok (.bipush 20, 2) := by decide +kernel
theorem dX0_usesPlace_22 : decode cX0_usesPlace 22 = .ok (.if_icmp .ne 7, 3) := by decide +kernel
theorem dX0_usesPlace_25 : decode cX0_usesPlace 25 = .ok (.iconst 1, 1) := by decide +kernel
theorem dX0_usesPlace_26 : decode cX0_usesPlace 26 = .ok (.goto 4, 3) := by decide +kernel
theorem dX0_usesPlace_29 : decode cX0_usesPlace 29 = .ok (.iconst 0, 1) := by decide +kernel
theorem dX0_usesPlace_30 : decode cX0_usesPlace 30 = .ok (.ireturn, 1) := by decide +kernel
theorem dX1_init_0 : decode cX1_init 0 = .ok (.aload_n 0, 1) := by decide +kernel
theorem dX1_init_1 : decode cX1_init 1 = .ok (.invokespecial 3, 3) := by decide +kernel
theorem dX1_init_4 : decode cX1_init 4 = .ok (.aload_n 0, 1) := by decide +kernel
theorem dX1_init_5 : decode cX1_init 5 = .ok (.bipush 16, 2) := by decide +kernel
theorem dX1_init_7 : decode cX1_init 7 = .ok (.newarray .int, 2) := by decide +kernel
theorem dX1_init_9 : decode cX1_init 9 = .ok (.putfield 9, 3) := by decide +kernel
theorem dX1_init_12 : decode cX1_init 12 = .ok (.aload_n 0, 1) := by decide +kernel
theorem dX1_init_13 : decode cX1_init 13 = .ok (.bipush 16, 2) := by decide +kernel
theorem dX1_init_15 : decode cX1_init 15 = .ok (.newarray .boolean, 2) := by decide +kernel
theorem dX1_init_17 : decode cX1_init 17 = .ok (.putfield 15, 3) := by decide +kernel
theorem dX1_init_20 : decode cX1_init 20 = .ok (.aload_n 0, 1) := by decide +kernel
theorem dX1_init_21 : decode cX1_init 21 = .ok (.iconst 0, 1) := by decide +kernel
theorem dX1_init_22 : decode cX1_init 22 = .ok (.putfield 19, 3) := by decide +kernel
theorem dX1_init_25 : decode cX1_init 25 = .ok (.aload_n 0, 1) := by decide +kernel
theorem dX1_init_26 : decode cX1_init 26 = .ok (.getfield 9, 3) := by decide +kernel
theorem dX1_init_29 : decode cX1_init 29 = .ok (.iconst 0, 1) := by decide +kernel
theorem dX1_init_30 : decode cX1_init 30 = .ok (.iconst 1, 1) := by decide +kernel
theorem dX1_init_31 : decode cX1_init 31 = .ok (.iastore, 1) := by decide +kernel
theorem dX1_init_32 : decode cX1_init 32 = .ok (.aload_n 0, 1) := by decide +kernel
theorem dX1_init_33 : decode cX1_init 33 = .ok (.iconst 1, 1) := by decide +kernel
theorem dX1_init_34 : decode cX1_init 34 = .ok (.putfield 19, 3) := by decide +kernel
theorem dX1_init_37 : decode cX1_init 37 = .ok (.return_, 1) := by decide +kernel
theorem dX1_has_0 : decode cX1_has 0 = .ok (.iload_n 1, 1) := by decide +kernel
theorem dX1_has_1 : decode cX1_has 1 = .ok (.ifCond .lt 15, 3) := by decide +kernel
theorem dX1_has_4 : decode cX1_has 4 = .ok (.iload_n 1, 1) := by decide +kernel
theorem dX1_has_5 : decode cX1_has 5 = .ok (.aload_n 0, 1) := by decide +kernel
theorem dX1_has_6 : decode cX1_has 6 = .ok (.getfield 19, 3) := by decide +kernel
theorem dX1_has_9 : decode cX1_has 9 = .ok (.if_icmp .ge 7, 3) := by decide +kernel
theorem dX1_has_12 : decode cX1_has 12 = .ok (.iconst 1, 1) := by decide +kernel
theorem dX1_has_13 : decode cX1_has 13 = .ok (.goto 4, 3) := by decide +kernel
theorem dX1_has_16 : decode cX1_has 16 = .ok (.iconst 0, 1) := by decide +kernel
theorem dX1_has_17 : decode cX1_has 17 = .ok (.ireturn, 1) := by decide +kernel
theorem dX1_isFace_0 : decode cX1_isFace 0 = .ok (.aload_n 0, 1) := by decide +kernel
theorem dX1_isFace_1 : decode cX1_isFace 1 = .ok (.iload_n 1, 1) := by decide +kernel
theorem dX1_isFace_2 : decode cX1_isFace 2 = .ok (.invokevirtual 23, 3) := by decide +kernel
theorem dX1_isFace_5 : decode cX1_isFace 5 = .ok (.ifCond .eq 16, 3) := by decide +kernel
theorem dX1_isFace_8 : decode cX1_isFace 8 = .ok (.aload_n 0, 1) := by decide +kernel
theorem dX1_isFace_9 : decode cX1_isFace 9 = .ok (.getfield 15, 3) := by decide +kernel
theorem dX1_isFace_12 : decode cX1_isFace 12 = .ok (.iload_n 1, 1) := by decide +kernel
theorem dX1_isFace_13 : decode cX1_isFace 13 = .ok (.baload, 1) := by decide +kernel
theorem dX1_isFace_14 : decode cX1_isFace 14 = .ok (.ifCond .eq 7, 3) := by decide +kernel
theorem dX1_isFace_17 : decode cX1_isFace 17 = .ok (.iconst 1, 1) := by decide +kernel
theorem dX1_isFace_18 : decode cX1_isFace 18 = .ok (.goto 4, 3) := by decide +kernel
theorem dX1_isFace_21 : decode cX1_isFace 21 = .ok (.iconst 0, 1) := by decide +kernel
theorem dX1_isFace_22 : decode cX1_isFace 22 = .ok (.ireturn, 1) := by decide +kernel
theorem dX1_add_0 : decode cX1_add 0 = .ok (.aload_n 0, 1) := by decide +kernel
theorem dX1_add_1 : decode cX1_add 1 = .ok (.iload_n 1, 1) := by decide +kernel
theorem dX1_add_2 : decode cX1_add 2 = .ok (.invokevirtual 23, 3) := by decide +kernel
theorem dX1_add_5 : decode cX1_add 5 = .ok (.ifCond .ne 5, 3) := by decide +kernel
theorem dX1_add_8 : decode cX1_add 8 = .ok (.iconst (-1), 1) := by decide +kernel
theorem dX1_add_9 : decode cX1_add 9 = .ok (.ireturn, 1) := by decide +kernel
theorem dX1_add_10 : decode cX1_add 10 = .ok (.aload_n 0, 1) := by decide +kernel
theorem dX1_add_11 : decode cX1_add 11 = .ok (.getfield 19, 3) := by decide +kernel
theorem dX1_add_14 : decode cX1_add 14 = .ok (.bipush 16, 2) := by decide +kernel
theorem dX1_add_16 : decode cX1_add 16 = .ok (.if_icmp .lt 6, 3) := by decide +kernel
theorem dX1_add_19 : decode cX1_add 19 = .ok (.bipush (-2), 2) := by decide +kernel
theorem dX1_add_21 : decode cX1_add 21 = .ok (.ireturn, 1) := by decide +kernel
theorem dX1_add_22 : decode cX1_add 22 = .ok (.aload_n 0, 1) := by decide +kernel
theorem dX1_add_23 : decode cX1_add 23 = .ok (.getfield 9, 3) := by decide +kernel
theorem dX1_add_26 : decode cX1_add 26 = .ok (.aload_n 0, 1) := by decide +kernel
theorem dX1_add_27 : decode cX1_add 27 = .ok (.getfield 19, 3) := by decide +kernel
theorem dX1_add_30 : decode cX1_add 30 = .ok (.aload_n 0, 1) := by decide +kernel
theorem dX1_add_31 : decode cX1_add 31 = .ok (.getfield 9, 3) := by decide +kernel
theorem dX1_add_34 : decode cX1_add 34 = .ok (.iload_n 1, 1) := by decide +kernel
theorem dX1_add_35 : decode cX1_add 35 = .ok (.iaload, 1) := by decide +kernel
theorem dX1_add_36 : decode cX1_add 36 = .ok (.iconst 1, 1) := by decide +kernel
theorem dX1_add_37 : decode cX1_add 37 = .ok (.aload_n 0, 1) := by decide +kernel
theorem dX1_add_38 : decode cX1_add 38 = .ok (.getfield 19, 3) := by decide +kernel
theorem dX1_add_41 : decode cX1_add 41 = .ok (.ishl, 1) := by decide +kernel
theorem dX1_add_42 : decode cX1_add 42 = .ok (.ior, 1) := by decide +kernel
theorem dX1_add_43 : decode cX1_add 43 = .ok (.iastore, 1) := by decide +kernel
theorem dX1_add_44 : decode cX1_add 44 = .ok (.aload_n 0, 1) := by decide +kernel
theorem dX1_add_45 : decode cX1_add 45 = .ok (.getfield 15, 3) := by decide +kernel
theorem dX1_add_48 : decode cX1_add 48 = .ok (.aload_n 0, 1) := by decide +kernel
theorem dX1_add_49 : decode cX1_add 49 = .ok (.getfield 19, 3) := by decide +kernel
theorem dX1_add_52 : decode cX1_add 52 = .ok (.iload_n 2, 1) := by decide +kernel
theorem dX1_add_53 : decode cX1_add 53 = .ok (.bastore, 1) := by decide +kernel
theorem dX1_add_54 : decode cX1_add 54 = .ok (.aload_n 0, 1) := by decide +kernel
theorem dX1_add_55 : decode cX1_add 55 = .ok (.dup, 1) := by decide +kernel
theorem dX1_add_56 : decode cX1_add 56 = .ok (.getfield 19, 3) := by decide +kernel
theorem dX1_add_59 : decode cX1_add 59 = .ok (.iconst 1, 1) := by decide +kernel
theorem dX1_add_60 : decode cX1_add 60 = .ok (.iadd, 1) := by decide +kernel
theorem dX1_add_61 : decode cX1_add 61 = .ok (.putfield 19, 3) := by decide +kernel
theorem dX1_add_64 : decode cX1_add 64 = .ok (.aload_n 0, 1) := by decide +kernel
theorem dX1_add_65 : decode cX1_add 65 = .ok (.getfield 19, 3) := by decide +kernel
theorem dX1_add_68 : decode cX1_add 68 = .ok (.iconst 1, 1) := by decide +kernel
theorem dX1_add_69 : decode cX1_add 69 = .ok (.isub, 1) := by decide +kernel
theorem dX1_add_70 : decode cX1_add 70 = .ok (.ireturn, 1) := by decide +kernel
theorem dX1_nearest_0 : decode cX1_nearest 0 = .ok (.iload_n 1, 1) := by decide +kernel
theorem dX1_nearest_1 : decode cX1_nearest 1 = .ok (.iload_n 2, 1) := by decide +kernel
theorem dX1_nearest_2 : decode cX1_nearest 2 = .ok (.if_icmp .ne 5, 3) := by decide +kernel
theorem dX1_nearest_5 : decode cX1_nearest 5 = .ok (.iload_n 1, 1) := by decide +kernel
theorem dX1_nearest_6 : decode cX1_nearest 6 = .ok (.ireturn, 1) := by decide +kernel
theorem dX1_nearest_7 : decode cX1_nearest 7 = .ok (.iload_n 1, 1) := by decide +kernel
theorem dX1_nearest_8 : decode cX1_nearest 8 = .ok (.ifCond .lt 41, 3) := by decide +kernel
theorem dX1_nearest_11 : decode cX1_nearest 11 = .ok (.iload_n 1, 1) := by decide +kernel
theorem dX1_nearest_12 : decode cX1_nearest 12 = .ok (.aload_n 0, 1) := by decide +kernel
theorem dX1_nearest_13 : decode cX1_nearest 13 = .ok (.getfield 19, 3) := by decide +kernel
theorem dX1_nearest_16 : decode cX1_nearest 16 = .ok (.if_icmp .ge 33, 3) := by decide +kernel
theorem dX1_nearest_19 : decode cX1_nearest 19 = .ok (.iload_n 2, 1) := by decide +kernel
theorem dX1_nearest_20 : decode cX1_nearest 20 = .ok (.ifCond .lt 29, 3) := by decide +kernel
theorem dX1_nearest_23 : decode cX1_nearest 23 = .ok (.iload_n 2, 1) := by decide +kernel
theorem dX1_nearest_24 : decode cX1_nearest 24 = .ok (.aload_n 0, 1) := by decide +kernel
theorem dX1_nearest_25 : decode cX1_nearest 25 = .ok (.getfield 19, 3) := by decide +kernel
theorem dX1_nearest_28 : decode cX1_nearest 28 = .ok (.if_icmp .ge 21, 3) := by decide +kernel
theorem dX1_nearest_31 : decode cX1_nearest 31 = .ok (.aload_n 0, 1) := by decide +kernel
theorem dX1_nearest_32 : decode cX1_nearest 32 = .ok (.getfield 15, 3) := by decide +kernel
theorem dX1_nearest_35 : decode cX1_nearest 35 = .ok (.iload_n 1, 1) := by decide +kernel
theorem dX1_nearest_36 : decode cX1_nearest 36 = .ok (.baload, 1) := by decide +kernel
theorem dX1_nearest_37 : decode cX1_nearest 37 = .ok (.ifCond .ne 12, 3) := by decide +kernel
theorem dX1_nearest_40 : decode cX1_nearest 40 = .ok (.aload_n 0, 1) := by decide +kernel
theorem dX1_nearest_41 : decode cX1_nearest 41 = .ok (.getfield 15, 3) := by decide +kernel
theorem dX1_nearest_44 : decode cX1_nearest 44 = .ok (.iload_n 2, 1) := by decide +kernel
theorem dX1_nearest_45 : decode cX1_nearest 45 = .ok (.baload, 1) := by decide +kernel
theorem dX1_nearest_46 : decode cX1_nearest 46 = .ok (.ifCond .eq 5, 3) := by decide +kernel
theorem dX1_nearest_49 : decode cX1_nearest 49 = .ok (.iconst 0, 1) := by decide +kernel
theorem dX1_nearest_50 : decode cX1_nearest 50 = .ok (.ireturn, 1) := by decide +kernel
theorem dX1_nearest_51 : decode cX1_nearest 51 = .ok (.aload_n 0, 1) := by decide +kernel
theorem dX1_nearest_52 : decode cX1_nearest 52 = .ok (.getfield 9, 3) := by decide +kernel
theorem dX1_nearest_55 : decode cX1_nearest 55 = .ok (.iload_n 1, 1) := by decide +kernel
theorem dX1_nearest_56 : decode cX1_nearest 56 = .ok (.iaload, 1) := by decide +kernel
theorem dX1_nearest_57 : decode cX1_nearest 57 = .ok (.aload_n 0, 1) := by decide +kernel
theorem dX1_nearest_58 : decode cX1_nearest 58 = .ok (.getfield 9, 3) := by decide +kernel
theorem dX1_nearest_61 : decode cX1_nearest 61 = .ok (.iload_n 2, 1) := by decide +kernel
theorem dX1_nearest_62 : decode cX1_nearest 62 = .ok (.iaload, 1) := by decide +kernel
theorem dX1_nearest_63 : decode cX1_nearest 63 = .ok (.iand, 1) := by decide +kernel
theorem dX1_nearest_64 : decode cX1_nearest 64 = .ok (.istore_n 3, 1) := by decide +kernel
theorem dX1_nearest_65 : decode cX1_nearest 65 = .ok (.aload_n 0, 1) := by decide +kernel
theorem dX1_nearest_66 : decode cX1_nearest 66 = .ok (.getfield 19, 3) := by decide +kernel
theorem dX1_nearest_69 : decode cX1_nearest 69 = .ok (.iconst 1, 1) := by decide +kernel
theorem dX1_nearest_70 : decode cX1_nearest 70 = .ok (.isub, 1) := by decide +kernel
theorem dX1_nearest_71 : decode cX1_nearest 71 = .ok (.istore 4, 2) := by decide +kernel
theorem dX1_nearest_73 : decode cX1_nearest 73 = .ok (.iload 4, 2) := by decide +kernel
theorem dX1_nearest_75 : decode cX1_nearest 75 = .ok (.ifCond .le 21, 3) := by decide +kernel
theorem dX1_nearest_78 : decode cX1_nearest 78 = .ok (.iload_n 3, 1) := by decide +kernel
theorem dX1_nearest_79 : decode cX1_nearest 79 = .ok (.iconst 1, 1) := by decide +kernel
theorem dX1_nearest_80 : decode cX1_nearest 80 = .ok (.iload 4, 2) := by decide +kernel
theorem dX1_nearest_82 : decode cX1_nearest 82 = .ok (.ishl, 1) := by decide +kernel
theorem dX1_nearest_83 : decode cX1_nearest 83 = .ok (.iand, 1) := by decide +kernel
theorem dX1_nearest_84 : decode cX1_nearest 84 = .ok (.ifCond .eq 6, 3) := by decide +kernel
theorem dX1_nearest_87 : decode cX1_nearest 87 = .ok (.iload 4, 2) := by decide +kernel
theorem dX1_nearest_89 : decode cX1_nearest 89 = .ok (.ireturn, 1) := by decide +kernel
theorem dX1_nearest_90 : decode cX1_nearest 90 = .ok (.iinc 4 (-1), 3) := by decide +kernel
theorem dX1_nearest_93 : decode cX1_nearest 93 = .ok (.goto (-20), 3) := by decide +kernel
theorem dX1_nearest_96 : decode cX1_nearest 96 = .ok (.iconst 0, 1) := by decide +kernel
theorem dX1_nearest_97 : decode cX1_nearest 97 = .ok (.ireturn, 1) := by decide +kernel
theorem dX1_isKindOf_0 : decode cX1_isKindOf 0 = .ok (.iload_n 1, 1) := by decide +kernel
theorem dX1_isKindOf_1 : decode cX1_isKindOf 1 = .ok (.ifCond .lt 23, 3) := by decide +kernel
theorem dX1_isKindOf_4 : decode cX1_isKindOf 4 = .ok (.iload_n 1, 1) := by decide +kernel
theorem dX1_isKindOf_5 : decode cX1_isKindOf 5 = .ok (.aload_n 0, 1) := by decide +kernel
theorem dX1_isKindOf_6 : decode cX1_isKindOf 6 = .ok (.getfield 19, 3) := by decide +kernel
theorem dX1_isKindOf_9 : decode cX1_isKindOf 9 = .ok (.if_icmp .ge 15, 3) := by decide +kernel
theorem dX1_isKindOf_12 : decode cX1_isKindOf 12 = .ok (.iload_n 2, 1) := by decide +kernel
theorem dX1_isKindOf_13 : decode cX1_isKindOf 13 = .ok (.ifCond .lt 11, 3) := by decide +kernel
theorem dX1_isKindOf_16 : decode cX1_isKindOf 16 = .ok (.iload_n 2, 1) := by decide +kernel
theorem dX1_isKindOf_17 : decode cX1_isKindOf 17 = .ok (.aload_n 0, 1) := by decide +kernel
theorem dX1_isKindOf_18 : decode cX1_isKindOf 18 = .ok (.getfield 19, 3) := by decide +kernel
theorem dX1_isKindOf_21 : decode cX1_isKindOf 21 = .ok (.if_icmp .lt 5, 3) := by decide +kernel
theorem dX1_isKindOf_24 : decode cX1_isKindOf 24 = .ok (.iconst 0, 1) := by decide +kernel
theorem dX1_isKindOf_25 : decode cX1_isKindOf 25 = .ok (.ireturn, 1) := by decide +kernel
theorem dX1_isKindOf_26 : decode cX1_isKindOf 26 = .ok (.aload_n 0, 1) := by decide +kernel
theorem dX1_isKindOf_27 : decode cX1_isKindOf 27 = .ok (.getfield 15, 3) := by decide +kernel
theorem dX1_isKindOf_30 : decode cX1_isKindOf 30 = .ok (.iload_n 2, 1) := by decide +kernel
theorem dX1_isKindOf_31 : decode cX1_isKindOf 31 = .ok (.baload, 1) := by decide +kernel
theorem dX1_isKindOf_32 : decode cX1_isKindOf 32 = .ok (.ifCond .ne 16, 3) := by decide +kernel
theorem dX1_isKindOf_35 : decode cX1_isKindOf 35 = .ok (.aload_n 0, 1) := by decide +kernel
theorem dX1_isKindOf_36 : decode cX1_isKindOf 36 = .ok (.getfield 9, 3) := by decide +kernel
theorem dX1_isKindOf_39 : decode cX1_isKindOf 39 = .ok (.iload_n 1, 1) := by decide +kernel
theorem dX1_isKindOf_40 : decode cX1_isKindOf 40 = .ok (.iaload, 1) := by decide +kernel
theorem dX1_isKindOf_41 : decode cX1_isKindOf 41 = .ok (.iconst 1, 1) := by decide +kernel
theorem dX1_isKindOf_42 : decode cX1_isKindOf 42 = .ok (.iload_n 2, 1) := by decide +kernel
theorem dX1_isKindOf_43 : decode cX1_isKindOf 43 = .ok (.ishl, 1) := by decide +kernel
theorem dX1_isKindOf_44 : decode cX1_isKindOf 44 = .ok (.iand, 1) := by decide +kernel
theorem dX1_isKindOf_45 : decode cX1_isKindOf 45 = .ok (.ifCond .eq 7, 3) := by decide +kernel
theorem dX1_isKindOf_48 : decode cX1_isKindOf 48 = .ok (.iconst 1, 1) := by decide +kernel
theorem dX1_isKindOf_49 : decode cX1_isKindOf 49 = .ok (.goto 4, 3) := by decide +kernel
theorem dX1_isKindOf_52 : decode cX1_isKindOf 52 = .ok (.iconst 0, 1) := by decide +kernel
theorem dX1_isKindOf_53 : decode cX1_isKindOf 53 = .ok (.ireturn, 1) := by decide +kernel
theorem dX1_isKnownObject_0 : decode cX1_isKnownObject 0 = .ok (.iload_n 1, 1) := by decide +kernel
theorem dX1_isKnownObject_1 : decode cX1_isKnownObject 1 = .ok (.bipush 10, 2) := by decide +kernel
theorem dX1_isKnownObject_3 : decode cX1_isKnownObject 3 = .ok (.if_icmp .lt 18, 3) := by decide +kernel
theorem dX1_isKnownObject_6 : decode cX1_isKnownObject 6 = .ok (.iload_n 1, 1) := by decide +kernel
theorem dX1_isKnownObject_7 : decode cX1_isKnownObject 7 = .ok (.bipush 10, 2) := by decide +kernel
theorem dX1_isKnownObject_9 : decode cX1_isKnownObject 9 = .ok (.aload_n 0, 1) := by decide +kernel
theorem dX1_isKnownObject_10 : decode cX1_isKnownObject 10 = .ok (.getfield 19, 3) := by decide +kernel
theorem dX1_isKnownObject_13 : decode cX1_isKnownObject 13 = .ok (.iadd, 1) := by decide +kernel
theorem dX1_isKnownObject_14 : decode cX1_isKnownObject 14 = .ok (.if_icmp .ge 7, 3) := by decide +kernel
theorem dX1_isKnownObject_17 : decode cX1_isKnownObject 17 = .ok (.iconst 1, 1) := by decide +kernel
theorem dX1_isKnownObject_18 : decode cX1_isKnownObject 18 = .ok (.goto 4, 3) := by decide +kernel
theorem dX1_isKnownObject_21 : decode cX1_isKnownObject 21 = .ok (.iconst 0, 1) := by decide +kernel
theorem dX1_isKnownObject_22 : decode cX1_isKnownObject 22 = .ok (.ireturn, 1) := by decide +kernel
theorem dX1_joinTypes_0 : decode cX1_joinTypes 0 = .ok (.iload_n 1, 1) := by decide +kernel
theorem dX1_joinTypes_1 : decode cX1_joinTypes 1 = .ok (.iload_n 2, 1) := by decide +kernel
theorem dX1_joinTypes_2 : decode cX1_joinTypes 2 = .ok (.if_icmp .ne 5, 3) := by decide +kernel
theorem dX1_joinTypes_5 : decode cX1_joinTypes 5 = .ok (.iload_n 1, 1) := by decide +kernel
theorem dX1_joinTypes_6 : decode cX1_joinTypes 6 = .ok (.ireturn, 1) := by decide +kernel
theorem dX1_joinTypes_7 : decode cX1_joinTypes 7 = .ok (.aload_n 0, 1) := by decide +kernel
theorem dX1_joinTypes_8 : decode cX1_joinTypes 8 = .ok (.iload_n 1, 1) := by decide +kernel
theorem dX1_joinTypes_9 : decode cX1_joinTypes 9 = .ok (.invokevirtual 27, 3) := by decide +kernel
theorem dX1_joinTypes_12 : decode cX1_joinTypes 12 = .ok (.istore_n 3, 1) := by decide +kernel
theorem dX1_joinTypes_13 : decode cX1_joinTypes 13 = .ok (.aload_n 0, 1) := by decide +kernel
theorem dX1_joinTypes_14 : decode cX1_joinTypes 14 = .ok (.iload_n 2, 1) := by decide +kernel
theorem dX1_joinTypes_15 : decode cX1_joinTypes 15 = .ok (.invokevirtual 27, 3) := by decide +kernel
theorem dX1_joinTypes_18 : decode cX1_joinTypes 18 = .ok (.istore 4, 2) := by decide +kernel
theorem dX1_joinTypes_20 : decode cX1_joinTypes 20 = .ok (.iload_n 3, 1) := by decide +kernel
theorem dX1_joinTypes_21 : decode cX1_joinTypes 21 = .ok (.ifCond .eq 24, 3) := by decide +kernel
theorem dX1_joinTypes_24 : decode cX1_joinTypes 24 = .ok (.iload 4, 2) := by decide +kernel
theorem dX1_joinTypes_26 : decode cX1_joinTypes 26 = .ok (.ifCond .eq 19, 3) := by decide +kernel
theorem dX1_joinTypes_29 : decode cX1_joinTypes 29 = .ok (.bipush 10, 2) := by decide +kernel
theorem dX1_joinTypes_31 : decode cX1_joinTypes 31 = .ok (.aload_n 0, 1) := by decide +kernel
theorem dX1_joinTypes_32 : decode cX1_joinTypes 32 = .ok (.iload_n 1, 1) := by decide +kernel
theorem dX1_joinTypes_33 : decode cX1_joinTypes 33 = .ok (.bipush 10, 2) := by decide +kernel
theorem dX1_joinTypes_35 : decode cX1_joinTypes 35 = .ok (.isub, 1) := by decide +kernel
theorem dX1_joinTypes_36 : decode cX1_joinTypes 36 = .ok (.iload_n 2, 1) := by decide +kernel
theorem dX1_joinTypes_37 : decode cX1_joinTypes 37 = .ok (.bipush 10, 2) := by decide +kernel
theorem dX1_joinTypes_39 : decode cX1_joinTypes 39 = .ok (.isub, 1) := by decide +kernel
theorem dX1_joinTypes_40 : decode cX1_joinTypes 40 = .ok (.invokevirtual 30, 3) := by decide +kernel
theorem dX1_joinTypes_43 : decode cX1_joinTypes 43 = .ok (.iadd, 1) := by decide +kernel
theorem dX1_joinTypes_44 : decode cX1_joinTypes 44 = .ok (.ireturn, 1) := by decide +kernel
theorem dX1_joinTypes_45 : decode cX1_joinTypes 45 = .ok (.iload_n 1, 1) := by decide +kernel
theorem dX1_joinTypes_46 : decode cX1_joinTypes 46 = .ok (.iconst 4, 1) := by decide +kernel
theorem dX1_joinTypes_47 : decode cX1_joinTypes 47 = .ok (.if_icmp .ne 10, 3) := by decide +kernel
theorem dX1_joinTypes_50 : decode cX1_joinTypes 50 = .ok (.iload 4, 2) := by decide +kernel
theorem dX1_joinTypes_52 : decode cX1_joinTypes 52 = .ok (.ifCond .eq 5, 3) := by decide +kernel
theorem dX1_joinTypes_55 : decode cX1_joinTypes 55 = .ok (.iload_n 2, 1) := by decide +kernel
theorem dX1_joinTypes_56 : decode cX1_joinTypes 56 = .ok (.ireturn, 1) := by decide +kernel
theorem dX1_joinTypes_57 : decode cX1_joinTypes 57 = .ok (.iload_n 2, 1) := by decide +kernel
theorem dX1_joinTypes_58 : decode cX1_joinTypes 58 = .ok (.iconst 4, 1) := by decide +kernel
theorem dX1_joinTypes_59 : decode cX1_joinTypes 59 = .ok (.if_icmp .ne 11, 3) := by decide +kernel
theorem dX1_joinTypes_62 : decode cX1_joinTypes 62 = .ok (.iload_n 3, 1) := by decide +kernel
theorem dX1_joinTypes_63 : decode cX1_joinTypes 63 = .ok (.ifCond .eq 7, 3) := by decide +kernel
theorem dX1_joinTypes_66 : decode cX1_joinTypes 66 = .ok (.iload_n 1, 1) := by decide +kernel
theorem dX1_joinTypes_67 : decode cX1_joinTypes 67 = .ok (.goto 4, 3) := by decide +kernel
theorem dX1_joinTypes_70 : decode cX1_joinTypes 70 = .ok (.iconst 0, 1) := by decide +kernel
theorem dX1_joinTypes_71 : decode cX1_joinTypes 71 = .ok (.ireturn, 1) := by decide +kernel
theorem dX1_isObjectFor_0 : decode cX1_isObjectFor 0 = .ok (.iload_n 1, 1) := by decide +kernel
theorem dX1_isObjectFor_1 : decode cX1_isObjectFor 1 = .ok (.iconst 4, 1) := by decide +kernel
theorem dX1_isObjectFor_2 : decode cX1_isObjectFor 2 = .ok (.if_icmp .eq 15, 3) := by decide +kernel
theorem dX1_isObjectFor_5 : decode cX1_isObjectFor 5 = .ok (.aload_n 0, 1) := by decide +kernel
theorem dX1_isObjectFor_6 : decode cX1_isObjectFor 6 = .ok (.iload_n 1, 1) := by decide +kernel
theorem dX1_isObjectFor_7 : decode cX1_isObjectFor 7 = .ok (.bipush 10, 2) := by decide +kernel
theorem dX1_isObjectFor_9 : decode cX1_isObjectFor 9 = .ok (.isub, 1) := by decide +kernel
theorem dX1_isObjectFor_10 : decode cX1_isObjectFor 10 = .ok (.iload_n 2, 1) := by decide +kernel
theorem dX1_isObjectFor_11 : decode cX1_isObjectFor 11 = .ok (.invokevirtual 34, 3) := by decide +kernel
theorem dX1_isObjectFor_14 : decode cX1_isObjectFor 14 = .ok (.ifCond .eq 7, 3) := by decide +kernel
theorem dX1_isObjectFor_17 : decode cX1_isObjectFor 17 = .ok (.iconst 1, 1) := by decide +kernel
theorem dX1_isObjectFor_18 : decode cX1_isObjectFor 18 = .ok (.goto 4, 3) := by decide +kernel
theorem dX1_isObjectFor_21 : decode cX1_isObjectFor 21 = .ok (.iconst 0, 1) := by decide +kernel
theorem dX1_isObjectFor_22 : decode cX1_isObjectFor 22 = .ok (.ireturn, 1) := by decide +kernel
theorem dX1_fitsType_0 : decode cX1_fitsType 0 = .ok (.iload_n 1, 1) := by decide +kernel
theorem dX1_fitsType_1 : decode cX1_fitsType 1 = .ok (.iload_n 2, 1) := by decide +kernel
theorem dX1_fitsType_2 : decode cX1_fitsType 2 = .ok (.if_icmp .eq 7, 3) := by decide +kernel
theorem dX1_fitsType_5 : decode cX1_fitsType 5 = .ok (.iload_n 2, 1) := by decide +kernel
theorem dX1_fitsType_6 : decode cX1_fitsType 6 = .ok (.ifCond .ne 5, 3) := by decide +kernel
theorem dX1_fitsType_9 : decode cX1_fitsType 9 = .ok (.iconst 1, 1) := by decide +kernel
theorem dX1_fitsType_10 : decode cX1_fitsType 10 = .ok (.ireturn, 1) := by decide +kernel
theorem dX1_fitsType_11 : decode cX1_fitsType 11 = .ok (.iload_n 1, 1) := by decide +kernel
theorem dX1_fitsType_12 : decode cX1_fitsType 12 = .ok (.iconst 4, 1) := by decide +kernel
theorem dX1_fitsType_13 : decode cX1_fitsType 13 = .ok (.if_icmp .ne 11, 3) := by decide +kernel
theorem dX1_fitsType_16 : decode cX1_fitsType 16 = .ok (.aload_n 0, 1) := by decide +kernel
theorem dX1_fitsType_17 : decode cX1_fitsType 17 = .ok (.iload_n 2, 1) := by decide +kernel
theorem dX1_fitsType_18 : decode cX1_fitsType 18 = .ok (.invokevirtual 27, 3) := by decide +kernel
theorem dX1_fitsType_21 : decode cX1_fitsType 21 = .ok (.goto 15, 3) := by decide +kernel
theorem dX1_fitsType_24 : decode cX1_fitsType 24 = .ok (.aload_n 0, 1) := by decide +kernel
theorem dX1_fitsType_25 : decode cX1_fitsType 25 = .ok (.iload_n 1, 1) := by decide +kernel
theorem dX1_fitsType_26 : decode cX1_fitsType 26 = .ok (.bipush 10, 2) := by decide +kernel
theorem dX1_fitsType_28 : decode cX1_fitsType 28 = .ok (.isub, 1) := by decide +kernel
theorem dX1_fitsType_29 : decode cX1_fitsType 29 = .ok (.iload_n 2, 1) := by decide +kernel
theorem dX1_fitsType_30 : decode cX1_fitsType 30 = .ok (.bipush 10, 2) := by decide +kernel
theorem dX1_fitsType_32 : decode cX1_fitsType 32 = .ok (.isub, 1) := by decide +kernel
theorem dX1_fitsType_33 : decode cX1_fitsType 33 = .ok (.invokevirtual 34, 3) := by decide +kernel
theorem dX1_fitsType_36 : decode cX1_fitsType 36 = .ok (.ireturn, 1) := by decide +kernel
theorem dX1_fitsAll_0 : decode cX1_fitsAll 0 = .ok (.aload_n 1, 1) := by decide +kernel
theorem dX1_fitsAll_1 : decode cX1_fitsAll 1 = .ok (.getfield 38, 3) := by decide +kernel
theorem dX1_fitsAll_4 : decode cX1_fitsAll 4 = .ok (.aload_n 2, 1) := by decide +kernel
theorem dX1_fitsAll_5 : decode cX1_fitsAll 5 = .ok (.getfield 38, 3) := by decide +kernel
theorem dX1_fitsAll_8 : decode cX1_fitsAll 8 = .ok (.if_icmp .eq 5, 3) := by decide +kernel
theorem dX1_fitsAll_11 : decode cX1_fitsAll 11 = .ok (.iconst 0, 1) := by decide +kernel
theorem dX1_fitsAll_12 : decode cX1_fitsAll 12 = .ok (.ireturn, 1) := by decide +kernel
theorem dX1_fitsAll_13 : decode cX1_fitsAll 13 = .ok (.iconst 0, 1) := by decide +kernel
theorem dX1_fitsAll_14 : decode cX1_fitsAll 14 = .ok (.istore_n 3, 1) := by decide +kernel
theorem dX1_fitsAll_15 : decode cX1_fitsAll 15 = .ok (.iload_n 3, 1) := by decide +kernel
theorem dX1_fitsAll_16 : decode cX1_fitsAll 16 = .ok (.bipush 8, 2) := by decide +kernel
theorem dX1_fitsAll_18 : decode cX1_fitsAll 18 = .ok (.if_icmp .ge 28, 3) := by decide +kernel
theorem dX1_fitsAll_21 : decode cX1_fitsAll 21 = .ok (.aload_n 0, 1) := by decide +kernel
theorem dX1_fitsAll_22 : decode cX1_fitsAll 22 = .ok (.aload_n 1, 1) := by decide +kernel
theorem dX1_fitsAll_23 : decode cX1_fitsAll 23 = .ok (.iload_n 3, 1) := by decide +kernel
theorem dX1_fitsAll_24 : decode cX1_fitsAll 24 = .ok (.invokevirtual 43, 3) := by decide +kernel
theorem dX1_fitsAll_27 : decode cX1_fitsAll 27 = .ok (.aload_n 2, 1) := by decide +kernel
theorem dX1_fitsAll_28 : decode cX1_fitsAll 28 = .ok (.iload_n 3, 1) := by decide +kernel
theorem dX1_fitsAll_29 : decode cX1_fitsAll 29 = .ok (.invokevirtual 43, 3) := by decide +kernel
theorem dX1_fitsAll_32 : decode cX1_fitsAll 32 = .ok (.invokevirtual 47, 3) := by decide +kernel
theorem dX1_fitsAll_35 : decode cX1_fitsAll 35 = .ok (.ifCond .ne 5, 3) := by decide +kernel
theorem dX1_fitsAll_38 : decode cX1_fitsAll 38 = .ok (.iconst 0, 1) := by decide +kernel
theorem dX1_fitsAll_39 : decode cX1_fitsAll 39 = .ok (.ireturn, 1) := by decide +kernel
theorem dX1_fitsAll_40 : decode cX1_fitsAll 40 = .ok (.iinc 3 1, 3) := by decide +kernel
theorem dX1_fitsAll_43 : decode cX1_fitsAll 43 = .ok (.goto (-28), 3) := by decide +kernel
theorem dX1_fitsAll_46 : decode cX1_fitsAll 46 = .ok (.iconst 0, 1) := by decide +kernel
theorem dX1_fitsAll_47 : decode cX1_fitsAll 47 = .ok (.istore_n 3, 1) := by decide +kernel
theorem dX1_fitsAll_48 : decode cX1_fitsAll 48 = .ok (.iload_n 3, 1) := by decide +kernel
theorem dX1_fitsAll_49 : decode cX1_fitsAll 49 = .ok (.aload_n 1, 1) := by decide +kernel
theorem dX1_fitsAll_50 : decode cX1_fitsAll 50 = .ok (.getfield 38, 3) := by decide +kernel
theorem dX1_fitsAll_53 : decode cX1_fitsAll 53 = .ok (.if_icmp .ge 28, 3) := by decide +kernel
theorem dX1_fitsAll_56 : decode cX1_fitsAll 56 = .ok (.aload_n 0, 1) := by decide +kernel
theorem dX1_fitsAll_57 : decode cX1_fitsAll 57 = .ok (.aload_n 1, 1) := by decide +kernel
theorem dX1_fitsAll_58 : decode cX1_fitsAll 58 = .ok (.iload_n 3, 1) := by decide +kernel
theorem dX1_fitsAll_59 : decode cX1_fitsAll 59 = .ok (.invokevirtual 50, 3) := by decide +kernel
theorem dX1_fitsAll_62 : decode cX1_fitsAll 62 = .ok (.aload_n 2, 1) := by decide +kernel
theorem dX1_fitsAll_63 : decode cX1_fitsAll 63 = .ok (.iload_n 3, 1) := by decide +kernel
theorem dX1_fitsAll_64 : decode cX1_fitsAll 64 = .ok (.invokevirtual 50, 3) := by decide +kernel
theorem dX1_fitsAll_67 : decode cX1_fitsAll 67 = .ok (.invokevirtual 47, 3) := by decide +kernel
theorem dX1_fitsAll_70 : decode cX1_fitsAll 70 = .ok (.ifCond .ne 5, 3) := by decide +kernel
theorem dX1_fitsAll_73 : decode cX1_fitsAll 73 = .ok (.iconst 0, 1) := by decide +kernel
theorem dX1_fitsAll_74 : decode cX1_fitsAll 74 = .ok (.ireturn, 1) := by decide +kernel
theorem dX1_fitsAll_75 : decode cX1_fitsAll 75 = .ok (.iinc 3 1, 3) := by decide +kernel
theorem dX1_fitsAll_78 : decode cX1_fitsAll 78 = .ok (.goto (-30), 3) := by decide +kernel
theorem dX1_fitsAll_81 : decode cX1_fitsAll 81 = .ok (.iconst 1, 1) := by decide +kernel
theorem dX1_fitsAll_82 : decode cX1_fitsAll 82 = .ok (.ireturn, 1) := by decide +kernel
theorem dX2_init_0 : decode cX2_init 0 = .ok (.aload_n 0, 1) := by decide +kernel
theorem dX2_init_1 : decode cX2_init 1 = .ok (.invokespecial 3, 3) := by decide +kernel
theorem dX2_init_4 : decode cX2_init 4 = .ok (.aload_n 0, 1) := by decide +kernel
theorem dX2_init_5 : decode cX2_init 5 = .ok (.new 9, 3) := by decide +kernel
theorem dX2_init_8 : decode cX2_init 8 = .ok (.dup, 1) := by decide +kernel
theorem dX2_init_9 : decode cX2_init 9 = .ok (.invokespecial 11, 3) := by decide +kernel
theorem dX2_init_12 : decode cX2_init 12 = .ok (.putfield 12, 3) := by decide +kernel
theorem dX2_init_15 : decode cX2_init 15 = .ok (.aload_n 0, 1) := by decide +kernel
theorem dX2_init_16 : decode cX2_init 16 = .ok (.new 9, 3) := by decide +kernel
theorem dX2_init_19 : decode cX2_init 19 = .ok (.dup, 1) := by decide +kernel
theorem dX2_init_20 : decode cX2_init 20 = .ok (.invokespecial 11, 3) := by decide +kernel
theorem dX2_init_23 : decode cX2_init 23 = .ok (.putfield 18, 3) := by decide +kernel
theorem dX2_init_26 : decode cX2_init 26 = .ok (.aload_n 0, 1) := by decide +kernel
theorem dX2_init_27 : decode cX2_init 27 = .ok (.iconst 0, 1) := by decide +kernel
theorem dX2_init_28 : decode cX2_init 28 = .ok (.putfield 21, 3) := by decide +kernel
theorem dX2_init_31 : decode cX2_init 31 = .ok (.aload_n 0, 1) := by decide +kernel
theorem dX2_init_32 : decode cX2_init 32 = .ok (.aload_n 1, 1) := by decide +kernel
theorem dX2_init_33 : decode cX2_init 33 = .ok (.putfield 25, 3) := by decide +kernel
theorem dX2_init_36 : decode cX2_init 36 = .ok (.aload_n 0, 1) := by decide +kernel
theorem dX2_init_37 : decode cX2_init 37 = .ok (.aload_n 2, 1) := by decide +kernel
theorem dX2_init_38 : decode cX2_init 38 = .ok (.putfield 29, 3) := by decide +kernel
theorem dX2_init_41 : decode cX2_init 41 = .ok (.return_, 1) := by decide +kernel
theorem dX2_run_0 : decode cX2_run 0 = .ok (.aload_n 1, 1) := by decide +kernel
theorem dX2_run_1 : decode cX2_run 1 = .ok (.invokevirtual 33, 3) := by decide +kernel
theorem dX2_run_4 : decode cX2_run 4 = .ok (.aload_n 0, 1) := by decide +kernel
theorem dX2_run_5 : decode cX2_run 5 = .ok (.aload_n 0, 1) := by decide +kernel
theorem dX2_run_6 : decode cX2_run 6 = .ok (.aload_n 1, 1) := by decide +kernel
theorem dX2_run_7 : decode cX2_run 7 = .ok (.iconst (-1), 1) := by decide +kernel
theorem dX2_run_8 : decode cX2_run 8 = .ok (.iconst 0, 1) := by decide +kernel
theorem dX2_run_9 : decode cX2_run 9 = .ok (.aload_n 1, 1) := by decide +kernel
theorem dX2_run_10 : decode cX2_run 10 = .ok (.getfield 38, 3) := by decide +kernel
theorem dX2_run_13 : decode cX2_run 13 = .ok (.invokevirtual 41, 3) := by decide +kernel
theorem dX2_run_16 : decode cX2_run 16 = .ok (.putfield 21, 3) := by decide +kernel
theorem dX2_run_19 : decode cX2_run 19 = .ok (.aload_n 1, 1) := by decide +kernel
theorem dX2_run_20 : decode cX2_run 20 = .ok (.invokevirtual 45, 3) := by decide +kernel
theorem dX2_run_23 : decode cX2_run 23 = .ok (.istore_n 2, 1) := by decide +kernel
theorem dX2_run_24 : decode cX2_run 24 = .ok (.iconst 0, 1) := by decide +kernel
theorem dX2_run_25 : decode cX2_run 25 = .ok (.istore_n 3, 1) := by decide +kernel
theorem dX2_run_26 : decode cX2_run 26 = .ok (.iload_n 3, 1) := by decide +kernel
theorem dX2_run_27 : decode cX2_run 27 = .ok (.ldc 49, 2) := by decide +kernel
theorem dX2_run_29 : decode cX2_run 29 = .ok (.if_icmp .ge 38, 3) := by decide +kernel
theorem dX2_run_32 : decode cX2_run 32 = .ok (.iload_n 2, 1) := by decide +kernel
theorem dX2_run_33 : decode cX2_run 33 = .ok (.iconst (-1), 1) := by decide +kernel
theorem dX2_run_34 : decode cX2_run 34 = .ok (.if_icmp .eq 33, 3) := by decide +kernel
theorem dX2_run_37 : decode cX2_run 37 = .ok (.aload_n 0, 1) := by decide +kernel
theorem dX2_run_38 : decode cX2_run 38 = .ok (.aload_n 0, 1) := by decide +kernel
theorem dX2_run_39 : decode cX2_run 39 = .ok (.aload_n 1, 1) := by decide +kernel
theorem dX2_run_40 : decode cX2_run 40 = .ok (.iload_n 2, 1) := by decide +kernel
theorem dX2_run_41 : decode cX2_run 41 = .ok (.invokevirtual 50, 3) := by decide +kernel
theorem dX2_run_44 : decode cX2_run 44 = .ok (.putfield 21, 3) := by decide +kernel
theorem dX2_run_47 : decode cX2_run 47 = .ok (.aload_n 0, 1) := by decide +kernel
theorem dX2_run_48 : decode cX2_run 48 = .ok (.getfield 21, 3) := by decide +kernel
theorem dX2_run_51 : decode cX2_run 51 = .ok (.ifCond .eq 5, 3) := by decide +kernel
theorem dX2_run_54 : decode cX2_run 54 = .ok (.iload_n 2, 1) := by decide +kernel
theorem dX2_run_55 : decode cX2_run 55 = .ok (.ireturn, 1) := by decide +kernel
theorem dX2_run_56 : decode cX2_run 56 = .ok (.aload_n 1, 1) := by decide +kernel
theorem dX2_run_57 : decode cX2_run 57 = .ok (.invokevirtual 45, 3) := by decide +kernel
theorem dX2_run_60 : decode cX2_run 60 = .ok (.istore_n 2, 1) := by decide +kernel
theorem dX2_run_61 : decode cX2_run 61 = .ok (.iinc 3 1, 3) := by decide +kernel
theorem dX2_run_64 : decode cX2_run 64 = .ok (.goto (-38), 3) := by decide +kernel
theorem dX2_run_67 : decode cX2_run 67 = .ok (.aload_n 1, 1) := by decide +kernel
theorem dX2_run_68 : decode cX2_run 68 = .ok (.invokevirtual 54, 3) := by decide +kernel
theorem dX2_run_71 : decode cX2_run 71 = .ok (.aload_n 1, 1) := by decide +kernel
theorem dX2_run_72 : decode cX2_run 72 = .ok (.iconst 1, 1) := by decide +kernel
theorem dX2_run_73 : decode cX2_run 73 = .ok (.putfield 57, 3) := by decide +kernel
theorem dX2_run_76 : decode cX2_run 76 = .ok (.iconst (-1), 1) := by decide +kernel
theorem dX2_run_77 : decode cX2_run 77 = .ok (.ireturn, 1) := by decide +kernel
theorem dX2_workOn_0 : decode cX2_workOn 0 = .ok (.aload_n 1, 1) := by decide +kernel
theorem dX2_workOn_1 : decode cX2_workOn 1 = .ok (.iload_n 2, 1) := by decide +kernel
theorem dX2_workOn_2 : decode cX2_workOn 2 = .ok (.invokevirtual 61, 3) := by decide +kernel
theorem dX2_workOn_5 : decode cX2_workOn 5 = .ok (.astore_n 3, 1) := by decide +kernel
theorem dX2_workOn_6 : decode cX2_workOn 6 = .ok (.aload_n 3, 1) := by decide +kernel
theorem dX2_workOn_7 : decode cX2_workOn 7 = .ok (.ifnonnull 5, 3) := by decide +kernel
theorem dX2_workOn_10 : decode cX2_workOn 10 = .ok (.iconst 5, 1) := by decide +kernel
theorem dX2_workOn_11 : decode cX2_workOn 11 = .ok (.ireturn, 1) := by decide +kernel
theorem dX2_workOn_12 : decode cX2_workOn 12 = .ok (.aload_n 3, 1) := by decide +kernel
theorem dX2_workOn_13 : decode cX2_workOn 13 = .ok (.iconst 0, 1) := by decide +kernel
theorem dX2_workOn_14 : decode cX2_workOn 14 = .ok (.putfield 65, 3) := by decide +kernel
theorem dX2_workOn_17 : decode cX2_workOn 17 = .ok (.aload_n 0, 1) := by decide +kernel
theorem dX2_workOn_18 : decode cX2_workOn 18 = .ok (.getfield 12, 3) := by decide +kernel
theorem dX2_workOn_21 : decode cX2_workOn 21 = .ok (.aload_n 3, 1) := by decide +kernel
theorem dX2_workOn_22 : decode cX2_workOn 22 = .ok (.getfield 70, 3) := by decide +kernel
theorem dX2_workOn_25 : decode cX2_workOn 25 = .ok (.invokevirtual 73, 3) := by decide +kernel
theorem dX2_workOn_28 : decode cX2_workOn 28 = .ok (.aload_n 1, 1) := by decide +kernel
theorem dX2_workOn_29 : decode cX2_workOn 29 = .ok (.aload_n 0, 1) := by decide +kernel
theorem dX2_workOn_30 : decode cX2_workOn 30 = .ok (.getfield 12, 3) := by decide +kernel
theorem dX2_workOn_33 : decode cX2_workOn 33 = .ok (.invokevirtual 77, 3) := by decide +kernel
theorem dX2_workOn_36 : decode cX2_workOn 36 = .ok (.aload_n 0, 1) := by decide +kernel
theorem dX2_workOn_37 : decode cX2_workOn 37 = .ok (.aload_n 1, 1) := by decide +kernel
theorem dX2_workOn_38 : decode cX2_workOn 38 = .ok (.iload_n 2, 1) := by decide +kernel
theorem dX2_workOn_39 : decode cX2_workOn 39 = .ok (.invokevirtual 80, 3) := by decide +kernel
theorem dX2_workOn_42 : decode cX2_workOn 42 = .ok (.istore 4, 2) := by decide +kernel
theorem dX2_workOn_44 : decode cX2_workOn 44 = .ok (.iload 4, 2) := by decide +kernel
theorem dX2_workOn_46 : decode cX2_workOn 46 = .ok (.ifCond .ne 19, 3) := by decide +kernel
theorem dX2_workOn_49 : decode cX2_workOn 49 = .ok (.aload_n 0, 1) := by decide +kernel
theorem dX2_workOn_50 : decode cX2_workOn 50 = .ok (.getfield 29, 3) := by decide +kernel
theorem dX2_workOn_53 : decode cX2_workOn 53 = .ok (.aload_n 1, 1) := by decide +kernel
theorem dX2_workOn_54 : decode cX2_workOn 54 = .ok (.iload_n 2, 1) := by decide +kernel
theorem dX2_workOn_55 : decode cX2_workOn 55 = .ok (.aload_n 3, 1) := by decide +kernel
theorem dX2_workOn_56 : decode cX2_workOn 56 = .ok (.aload_n 0, 1) := by decide +kernel
theorem dX2_workOn_57 : decode cX2_workOn 57 = .ok (.getfield 12, 3) := by decide +kernel
theorem dX2_workOn_60 : decode cX2_workOn 60 = .ok (.invokevirtual 83, 3) := by decide +kernel
theorem dX2_workOn_63 : decode cX2_workOn 63 = .ok (.istore 4, 2) := by decide +kernel
theorem dX2_workOn_65 : decode cX2_workOn 65 = .ok (.iload 4, 2) := by decide +kernel
theorem dX2_workOn_67 : decode cX2_workOn 67 = .ok (.ifCond .eq 6, 3) := by decide +kernel
theorem dX2_workOn_70 : decode cX2_workOn 70 = .ok (.iload 4, 2) := by decide +kernel
theorem dX2_workOn_72 : decode cX2_workOn 72 = .ok (.ireturn, 1) := by decide +kernel
theorem dX2_workOn_73 : decode cX2_workOn 73 = .ok (.aload_n 1, 1) := by decide +kernel
theorem dX2_workOn_74 : decode cX2_workOn 74 = .ok (.aload_n 0, 1) := by decide +kernel
theorem dX2_workOn_75 : decode cX2_workOn 75 = .ok (.getfield 12, 3) := by decide +kernel
theorem dX2_workOn_78 : decode cX2_workOn 78 = .ok (.invokevirtual 77, 3) := by decide +kernel
theorem dX2_workOn_81 : decode cX2_workOn 81 = .ok (.aload_n 1, 1) := by decide +kernel
theorem dX2_workOn_82 : decode cX2_workOn 82 = .ok (.aload_n 3, 1) := by decide +kernel
theorem dX2_workOn_83 : decode cX2_workOn 83 = .ok (.aload_n 0, 1) := by decide +kernel
theorem dX2_workOn_84 : decode cX2_workOn 84 = .ok (.getfield 12, 3) := by decide +kernel
theorem dX2_workOn_87 : decode cX2_workOn 87 = .ok (.invokevirtual 89, 3) := by decide +kernel
theorem dX2_workOn_90 : decode cX2_workOn 90 = .ok (.aload_n 0, 1) := by decide +kernel
theorem dX2_workOn_91 : decode cX2_workOn 91 = .ok (.aload_n 1, 1) := by decide +kernel
theorem dX2_workOn_92 : decode cX2_workOn 92 = .ok (.iload_n 2, 1) := by decide +kernel
theorem dX2_workOn_93 : decode cX2_workOn 93 = .ok (.aload_n 3, 1) := by decide +kernel
theorem dX2_workOn_94 : decode cX2_workOn 94 = .ok (.invokevirtual 93, 3) := by decide +kernel
theorem dX2_workOn_97 : decode cX2_workOn 97 = .ok (.ireturn, 1) := by decide +kernel
theorem dX2_sendToGuards_0 : decode cX2_sendToGuards 0 = .ok (.iconst 0, 1) := by decide +kernel
theorem dX2_sendToGuards_1 : decode cX2_sendToGuards 1 = .ok (.istore_n 3, 1) := by decide +kernel
theorem dX2_sendToGuards_2 : decode cX2_sendToGuards 2 = .ok (.iload_n 3, 1) := by decide +kernel
theorem dX2_sendToGuards_3 : decode cX2_sendToGuards 3 = .ok (.aload_n 1, 1) := by decide +kernel
theorem dX2_sendToGuards_4 : decode cX2_sendToGuards 4 = .ok (.getfield 97, 3) := by decide +kernel
theorem dX2_sendToGuards_7 : decode cX2_sendToGuards 7 = .ok (.if_icmp .ge 63, 3) := by decide +kernel
theorem dX2_sendToGuards_10 : decode cX2_sendToGuards 10 = .ok (.aload_n 1, 1) := by decide +kernel
theorem dX2_sendToGuards_11 : decode cX2_sendToGuards 11 = .ok (.iload_n 3, 1) := by decide +kernel
theorem dX2_sendToGuards_12 : decode cX2_sendToGuards 12 = .ok (.iload_n 2, 1) := by decide +kernel
theorem dX2_sendToGuards_13 : decode cX2_sendToGuards 13 = .ok (.invokevirtual 100, 3) := by decide +kernel
theorem dX2_sendToGuards_16 : decode cX2_sendToGuards 16 = .ok (.astore 4, 2) := by decide +kernel
theorem dX2_sendToGuards_18 : decode cX2_sendToGuards 18 = .ok (.aload 4, 2) := by decide +kernel
theorem dX2_sendToGuards_20 : decode cX2_sendToGuards 20 = .ok (.ifnull 44, 3) := by decide +kernel
theorem dX2_sendToGuards_23 : decode cX2_sendToGuards 23 = .ok (.aload_n 0, 1) := by decide +kernel
theorem dX2_sendToGuards_24 : decode cX2_sendToGuards 24 = .ok (.getfield 18, 3) := by decide +kernel
theorem dX2_sendToGuards_27 : decode cX2_sendToGuards 27 = .ok (.aload_n 0, 1) := by decide +kernel
theorem dX2_sendToGuards_28 : decode cX2_sendToGuards 28 = .ok (.getfield 12, 3) := by decide +kernel
theorem dX2_sendToGuards_31 : decode cX2_sendToGuards 31 = .ok (.aload 4, 2) := by decide +kernel
theorem dX2_sendToGuards_33 : decode cX2_sendToGuards 33 = .ok (.getfield 104, 3) := by decide +kernel
theorem dX2_sendToGuards_36 : decode cX2_sendToGuards 36 = .ok (.invokevirtual 109, 3) := by decide +kernel
theorem dX2_sendToGuards_39 : decode cX2_sendToGuards 39 = .ok (.aload_n 0, 1) := by decide +kernel
theorem dX2_sendToGuards_40 : decode cX2_sendToGuards 40 = .ok (.aload_n 1, 1) := by decide +kernel
theorem dX2_sendToGuards_41 : decode cX2_sendToGuards 41 = .ok (.iload_n 2, 1) := by decide +kernel
theorem dX2_sendToGuards_42 : decode cX2_sendToGuards 42 = .ok (.aload 4, 2) := by decide +kernel
theorem dX2_sendToGuards_44 : decode cX2_sendToGuards 44 = .ok (.getfield 113, 3) := by decide +kernel
theorem dX2_sendToGuards_47 : decode cX2_sendToGuards 47 = .ok (.aload_n 0, 1) := by decide +kernel
theorem dX2_sendToGuards_48 : decode cX2_sendToGuards 48 = .ok (.getfield 18, 3) := by decide +kernel
theorem dX2_sendToGuards_51 : decode cX2_sendToGuards 51 = .ok (.invokevirtual 41, 3) := by decide +kernel
theorem dX2_sendToGuards_54 : decode cX2_sendToGuards 54 = .ok (.istore 5, 2) := by decide +kernel
theorem dX2_sendToGuards_56 : decode cX2_sendToGuards 56 = .ok (.iload 5, 2) := by decide +kernel
theorem dX2_sendToGuards_58 : decode cX2_sendToGuards 58 = .ok (.ifCond .eq 6, 3) := by decide +kernel
theorem dX2_sendToGuards_61 : decode cX2_sendToGuards 61 = .ok (.iload 5, 2) := by decide +kernel
theorem dX2_sendToGuards_63 : decode cX2_sendToGuards 63 = .ok (.ireturn, 1) := by decide +kernel
theorem dX2_sendToGuards_64 : decode cX2_sendToGuards 64 = .ok (.iinc 3 1, 3) := by decide +kernel
theorem dX2_sendToGuards_67 : decode cX2_sendToGuards 67 = .ok (.goto (-65), 3) := by decide +kernel
theorem dX2_sendToGuards_70 : decode cX2_sendToGuards 70 = .ok (.iconst 0, 1) := by decide +kernel
theorem dX2_sendToGuards_71 : decode cX2_sendToGuards 71 = .ok (.ireturn, 1) := by decide +kernel
theorem dX2_sendOn_0 : decode cX2_sendOn 0 = .ok (.aload_n 3, 1) := by decide +kernel
theorem dX2_sendOn_1 : decode cX2_sendOn 1 = .ok (.invokevirtual 116, 3) := by decide +kernel
theorem dX2_sendOn_4 : decode cX2_sendOn 4 = .ok (.ifCond .eq 19, 3) := by decide +kernel
theorem dX2_sendOn_7 : decode cX2_sendOn 7 = .ok (.aload_n 0, 1) := by decide +kernel
theorem dX2_sendOn_8 : decode cX2_sendOn 8 = .ok (.aload_n 1, 1) := by decide +kernel
theorem dX2_sendOn_9 : decode cX2_sendOn 9 = .ok (.iload_n 2, 1) := by decide +kernel
theorem dX2_sendOn_10 : decode cX2_sendOn 10 = .ok (.iload_n 2, 1) := by decide +kernel
theorem dX2_sendOn_11 : decode cX2_sendOn 11 = .ok (.iconst 1, 1) := by decide +kernel
theorem dX2_sendOn_12 : decode cX2_sendOn 12 = .ok (.iadd, 1) := by decide +kernel
theorem dX2_sendOn_13 : decode cX2_sendOn 13 = .ok (.aload_n 0, 1) := by decide +kernel
theorem dX2_sendOn_14 : decode cX2_sendOn 14 = .ok (.getfield 12, 3) := by decide +kernel
theorem dX2_sendOn_17 : decode cX2_sendOn 17 = .ok (.invokevirtual 41, 3) := by decide +kernel
theorem dX2_sendOn_20 : decode cX2_sendOn 20 = .ok (.goto 4, 3) := by decide +kernel
theorem dX2_sendOn_23 : decode cX2_sendOn 23 = .ok (.iconst 0, 1) := by decide +kernel
theorem dX2_sendOn_24 : decode cX2_sendOn 24 = .ok (.istore 4, 2) := by decide +kernel
theorem dX2_sendOn_26 : decode cX2_sendOn 26 = .ok (.aload_n 3, 1) := by decide +kernel
theorem dX2_sendOn_27 : decode cX2_sendOn 27 = .ok (.invokevirtual 120, 3) := by decide +kernel
theorem dX2_sendOn_30 : decode cX2_sendOn 30 = .ok (.istore 5, 2) := by decide +kernel
theorem dX2_sendOn_32 : decode cX2_sendOn 32 = .ok (.aload_n 3, 1) := by decide +kernel
theorem dX2_sendOn_33 : decode cX2_sendOn 33 = .ok (.invokevirtual 123, 3) := by decide +kernel
theorem dX2_sendOn_36 : decode cX2_sendOn 36 = .ok (.istore 6, 2) := by decide +kernel
theorem dX2_sendOn_38 : decode cX2_sendOn 38 = .ok (.iload 6, 2) := by decide +kernel
theorem dX2_sendOn_40 : decode cX2_sendOn 40 = .ok (.iload 5, 2) := by decide +kernel
theorem dX2_sendOn_42 : decode cX2_sendOn 42 = .ok (.if_icmp .gt 28, 3) := by decide +kernel
theorem dX2_sendOn_45 : decode cX2_sendOn 45 = .ok (.iload 4, 2) := by decide +kernel
theorem dX2_sendOn_47 : decode cX2_sendOn 47 = .ok (.ifCond .ne 23, 3) := by decide +kernel
theorem dX2_sendOn_50 : decode cX2_sendOn 50 = .ok (.aload_n 0, 1) := by decide +kernel
theorem dX2_sendOn_51 : decode cX2_sendOn 51 = .ok (.aload_n 1, 1) := by decide +kernel
theorem dX2_sendOn_52 : decode cX2_sendOn 52 = .ok (.iload_n 2, 1) := by decide +kernel
theorem dX2_sendOn_53 : decode cX2_sendOn 53 = .ok (.iload 6, 2) := by decide +kernel
theorem dX2_sendOn_55 : decode cX2_sendOn 55 = .ok (.aload_n 0, 1) := by decide +kernel
theorem dX2_sendOn_56 : decode cX2_sendOn 56 = .ok (.getfield 12, 3) := by decide +kernel
theorem dX2_sendOn_59 : decode cX2_sendOn 59 = .ok (.invokevirtual 41, 3) := by decide +kernel
theorem dX2_sendOn_62 : decode cX2_sendOn 62 = .ok (.istore 4, 2) := by decide +kernel
theorem dX2_sendOn_64 : decode cX2_sendOn 64 = .ok (.iinc 6 1, 3) := by decide +kernel
theorem dX2_sendOn_67 : decode cX2_sendOn 67 = .ok (.goto (-29), 3) := by decide +kernel
theorem dX2_sendOn_70 : decode cX2_sendOn 70 = .ok (.iload 4, 2) := by decide +kernel
theorem dX2_sendOn_72 : decode cX2_sendOn 72 = .ok (.ireturn, 1) := by decide +kernel
theorem dX2_arrive_0 : decode cX2_arrive 0 = .ok (.aload_n 1, 1) := by decide +kernel
theorem dX2_arrive_1 : decode cX2_arrive 1 = .ok (.iload_n 3, 1) := by decide +kernel
theorem dX2_arrive_2 : decode cX2_arrive 2 = .ok (.invokevirtual 61, 3) := by decide +kernel
theorem dX2_arrive_5 : decode cX2_arrive 5 = .ok (.astore 5, 2) := by decide +kernel
theorem dX2_arrive_7 : decode cX2_arrive 7 = .ok (.aload 5, 2) := by decide +kernel
theorem dX2_arrive_9 : decode cX2_arrive 9 = .ok (.ifnonnull 5, 3) := by decide +kernel
theorem dX2_arrive_12 : decode cX2_arrive 12 = .ok (.iconst 5, 1) := by decide +kernel
theorem dX2_arrive_13 : decode cX2_arrive 13 = .ok (.ireturn, 1) := by decide +kernel
theorem dX2_arrive_14 : decode cX2_arrive 14 = .ok (.iload_n 3, 1) := by decide +kernel
theorem dX2_arrive_15 : decode cX2_arrive 15 = .ok (.iload_n 2, 1) := by decide +kernel
theorem dX2_arrive_16 : decode cX2_arrive 16 = .ok (.if_icmp .gt 14, 3) := by decide +kernel
theorem dX2_arrive_19 : decode cX2_arrive 19 = .ok (.aload 4, 2) := by decide +kernel
theorem dX2_arrive_21 : decode cX2_arrive 21 = .ok (.invokevirtual 126, 3) := by decide +kernel
theorem dX2_arrive_24 : decode cX2_arrive 24 = .ok (.ifCond .eq 6, 3) := by decide +kernel
theorem dX2_arrive_27 : decode cX2_arrive 27 = .ok (.bipush 6, 2) := by decide +kernel
theorem dX2_arrive_29 : decode cX2_arrive 29 = .ok (.ireturn, 1) := by decide +kernel
theorem dX2_arrive_30 : decode cX2_arrive 30 = .ok (.aload 5, 2) := by decide +kernel
theorem dX2_arrive_32 : decode cX2_arrive 32 = .ok (.getfield 129, 3) := by decide +kernel
theorem dX2_arrive_35 : decode cX2_arrive 35 = .ok (.ifCond .ne 27, 3) := by decide +kernel
theorem dX2_arrive_38 : decode cX2_arrive 38 = .ok (.aload 5, 2) := by decide +kernel
theorem dX2_arrive_40 : decode cX2_arrive 40 = .ok (.getfield 70, 3) := by decide +kernel
theorem dX2_arrive_43 : decode cX2_arrive 43 = .ok (.aload 4, 2) := by decide +kernel
theorem dX2_arrive_45 : decode cX2_arrive 45 = .ok (.invokevirtual 73, 3) := by decide +kernel
theorem dX2_arrive_48 : decode cX2_arrive 48 = .ok (.aload 5, 2) := by decide +kernel
theorem dX2_arrive_50 : decode cX2_arrive 50 = .ok (.iconst 1, 1) := by decide +kernel
theorem dX2_arrive_51 : decode cX2_arrive 51 = .ok (.putfield 129, 3) := by decide +kernel
theorem dX2_arrive_54 : decode cX2_arrive 54 = .ok (.aload 5, 2) := by decide +kernel
theorem dX2_arrive_56 : decode cX2_arrive 56 = .ok (.iconst 1, 1) := by decide +kernel
theorem dX2_arrive_57 : decode cX2_arrive 57 = .ok (.putfield 65, 3) := by decide +kernel
theorem dX2_arrive_60 : decode cX2_arrive 60 = .ok (.iconst 0, 1) := by decide +kernel
theorem dX2_arrive_61 : decode cX2_arrive 61 = .ok (.ireturn, 1) := by decide +kernel
theorem dX2_arrive_62 : decode cX2_arrive 62 = .ok (.aload_n 0, 1) := by decide +kernel
theorem dX2_arrive_63 : decode cX2_arrive 63 = .ok (.aload 5, 2) := by decide +kernel
theorem dX2_arrive_65 : decode cX2_arrive 65 = .ok (.aload 4, 2) := by decide +kernel
theorem dX2_arrive_67 : decode cX2_arrive 67 = .ok (.invokevirtual 132, 3) := by decide +kernel
theorem dX2_arrive_70 : decode cX2_arrive 70 = .ok (.ireturn, 1) := by decide +kernel
theorem dX2_merge_0 : decode cX2_merge 0 = .ok (.aload_n 1, 1) := by decide +kernel
theorem dX2_merge_1 : decode cX2_merge 1 = .ok (.getfield 70, 3) := by decide +kernel
theorem dX2_merge_4 : decode cX2_merge 4 = .ok (.astore_n 3, 1) := by decide +kernel
theorem dX2_merge_5 : decode cX2_merge 5 = .ok (.aload_n 3, 1) := by decide +kernel
theorem dX2_merge_6 : decode cX2_merge 6 = .ok (.getfield 136, 3) := by decide +kernel
theorem dX2_merge_9 : decode cX2_merge 9 = .ok (.aload_n 2, 1) := by decide +kernel
theorem dX2_merge_10 : decode cX2_merge 10 = .ok (.getfield 136, 3) := by decide +kernel
theorem dX2_merge_13 : decode cX2_merge 13 = .ok (.if_icmp .eq 5, 3) := by decide +kernel
theorem dX2_merge_16 : decode cX2_merge 16 = .ok (.iconst 4, 1) := by decide +kernel
theorem dX2_merge_17 : decode cX2_merge 17 = .ok (.ireturn, 1) := by decide +kernel
theorem dX2_merge_18 : decode cX2_merge 18 = .ok (.iconst 0, 1) := by decide +kernel
theorem dX2_merge_19 : decode cX2_merge 19 = .ok (.istore 4, 2) := by decide +kernel
theorem dX2_merge_21 : decode cX2_merge 21 = .ok (.iload 4, 2) := by decide +kernel
theorem dX2_merge_23 : decode cX2_merge 23 = .ok (.aload_n 2, 1) := by decide +kernel
theorem dX2_merge_24 : decode cX2_merge 24 = .ok (.getfield 136, 3) := by decide +kernel
theorem dX2_merge_27 : decode cX2_merge 27 = .ok (.if_icmp .ge 72, 3) := by decide +kernel
theorem dX2_merge_30 : decode cX2_merge 30 = .ok (.aload_n 3, 1) := by decide +kernel
theorem dX2_merge_31 : decode cX2_merge 31 = .ok (.iload 4, 2) := by decide +kernel
theorem dX2_merge_33 : decode cX2_merge 33 = .ok (.invokevirtual 139, 3) := by decide +kernel
theorem dX2_merge_36 : decode cX2_merge 36 = .ok (.istore 5, 2) := by decide +kernel
theorem dX2_merge_38 : decode cX2_merge 38 = .ok (.aload_n 0, 1) := by decide +kernel
theorem dX2_merge_39 : decode cX2_merge 39 = .ok (.getfield 25, 3) := by decide +kernel
theorem dX2_merge_42 : decode cX2_merge 42 = .ok (.iload 5, 2) := by decide +kernel
theorem dX2_merge_44 : decode cX2_merge 44 = .ok (.aload_n 2, 1) := by decide +kernel
theorem dX2_merge_45 : decode cX2_merge 45 = .ok (.iload 4, 2) := by decide +kernel
theorem dX2_merge_47 : decode cX2_merge 47 = .ok (.invokevirtual 139, 3) := by decide +kernel
theorem dX2_merge_50 : decode cX2_merge 50 = .ok (.invokevirtual 143, 3) := by decide +kernel
theorem dX2_merge_53 : decode cX2_merge 53 = .ok (.istore 6, 2) := by decide +kernel
theorem dX2_merge_55 : decode cX2_merge 55 = .ok (.iload 6, 2) := by decide +kernel
theorem dX2_merge_57 : decode cX2_merge 57 = .ok (.ifCond .ne 5, 3) := by decide +kernel
theorem dX2_merge_60 : decode cX2_merge 60 = .ok (.iconst 2, 1) := by decide +kernel
theorem dX2_merge_61 : decode cX2_merge 61 = .ok (.ireturn, 1) := by decide +kernel
theorem dX2_merge_62 : decode cX2_merge 62 = .ok (.aload_n 1, 1) := by decide +kernel
theorem dX2_merge_63 : decode cX2_merge 63 = .ok (.aload_n 1, 1) := by decide +kernel
theorem dX2_merge_64 : decode cX2_merge 64 = .ok (.getfield 65, 3) := by decide +kernel
theorem dX2_merge_67 : decode cX2_merge 67 = .ok (.ifCond .ne 10, 3) := by decide +kernel
theorem dX2_merge_70 : decode cX2_merge 70 = .ok (.iload 6, 2) := by decide +kernel
theorem dX2_merge_72 : decode cX2_merge 72 = .ok (.iload 5, 2) := by decide +kernel
theorem dX2_merge_74 : decode cX2_merge 74 = .ok (.if_icmp .eq 7, 3) := by decide +kernel
theorem dX2_merge_77 : decode cX2_merge 77 = .ok (.iconst 1, 1) := by decide +kernel
theorem dX2_merge_78 : decode cX2_merge 78 = .ok (.goto 4, 3) := by decide +kernel
theorem dX2_merge_81 : decode cX2_merge 81 = .ok (.iconst 0, 1) := by decide +kernel
theorem dX2_merge_82 : decode cX2_merge 82 = .ok (.putfield 65, 3) := by decide +kernel
theorem dX2_merge_85 : decode cX2_merge 85 = .ok (.aload_n 3, 1) := by decide +kernel
theorem dX2_merge_86 : decode cX2_merge 86 = .ok (.iload 4, 2) := by decide +kernel
theorem dX2_merge_88 : decode cX2_merge 88 = .ok (.iload 6, 2) := by decide +kernel
theorem dX2_merge_90 : decode cX2_merge 90 = .ok (.invokevirtual 149, 3) := by decide +kernel
theorem dX2_merge_93 : decode cX2_merge 93 = .ok (.iinc 4 1, 3) := by decide +kernel
theorem dX2_merge_96 : decode cX2_merge 96 = .ok (.goto (-75), 3) := by decide +kernel
theorem dX2_merge_99 : decode cX2_merge 99 = .ok (.iconst 0, 1) := by decide +kernel
theorem dX2_merge_100 : decode cX2_merge 100 = .ok (.istore 4, 2) := by decide +kernel
theorem dX2_merge_102 : decode cX2_merge 102 = .ok (.iload 4, 2) := by decide +kernel
theorem dX2_merge_104 : decode cX2_merge 104 = .ok (.bipush 8, 2) := by decide +kernel
theorem dX2_merge_106 : decode cX2_merge 106 = .ok (.if_icmp .ge 65, 3) := by decide +kernel
theorem dX2_merge_109 : decode cX2_merge 109 = .ok (.aload_n 3, 1) := by decide +kernel
theorem dX2_merge_110 : decode cX2_merge 110 = .ok (.iload 4, 2) := by decide +kernel
theorem dX2_merge_112 : decode cX2_merge 112 = .ok (.invokevirtual 153, 3) := by decide +kernel
theorem dX2_merge_115 : decode cX2_merge 115 = .ok (.istore 5, 2) := by decide +kernel
theorem dX2_merge_117 : decode cX2_merge 117 = .ok (.aload_n 0, 1) := by decide +kernel
theorem dX2_merge_118 : decode cX2_merge 118 = .ok (.getfield 25, 3) := by decide +kernel
theorem dX2_merge_121 : decode cX2_merge 121 = .ok (.iload 5, 2) := by decide +kernel
theorem dX2_merge_123 : decode cX2_merge 123 = .ok (.aload_n 2, 1) := by decide +kernel
theorem dX2_merge_124 : decode cX2_merge 124 = .ok (.iload 4, 2) := by decide +kernel
theorem dX2_merge_126 : decode cX2_merge 126 = .ok (.invokevirtual 153, 3) := by decide +kernel
theorem dX2_merge_129 : decode cX2_merge 129 = .ok (.invokevirtual 143, 3) := by decide +kernel
theorem dX2_merge_132 : decode cX2_merge 132 = .ok (.istore 6, 2) := by decide +kernel
theorem dX2_merge_134 : decode cX2_merge 134 = .ok (.aload_n 1, 1) := by decide +kernel
theorem dX2_merge_135 : decode cX2_merge 135 = .ok (.aload_n 1, 1) := by decide +kernel
theorem dX2_merge_136 : decode cX2_merge 136 = .ok (.getfield 65, 3) := by decide +kernel
theorem dX2_merge_139 : decode cX2_merge 139 = .ok (.ifCond .ne 10, 3) := by decide +kernel
theorem dX2_merge_142 : decode cX2_merge 142 = .ok (.iload 6, 2) := by decide +kernel
theorem dX2_merge_144 : decode cX2_merge 144 = .ok (.iload 5, 2) := by decide +kernel
theorem dX2_merge_146 : decode cX2_merge 146 = .ok (.if_icmp .eq 7, 3) := by decide +kernel
theorem dX2_merge_149 : decode cX2_merge 149 = .ok (.iconst 1, 1) := by decide +kernel
theorem dX2_merge_150 : decode cX2_merge 150 = .ok (.goto 4, 3) := by decide +kernel
theorem dX2_merge_153 : decode cX2_merge 153 = .ok (.iconst 0, 1) := by decide +kernel
theorem dX2_merge_154 : decode cX2_merge 154 = .ok (.putfield 65, 3) := by decide +kernel
theorem dX2_merge_157 : decode cX2_merge 157 = .ok (.aload_n 3, 1) := by decide +kernel
theorem dX2_merge_158 : decode cX2_merge 158 = .ok (.iload 4, 2) := by decide +kernel
theorem dX2_merge_160 : decode cX2_merge 160 = .ok (.iload 6, 2) := by decide +kernel
theorem dX2_merge_162 : decode cX2_merge 162 = .ok (.invokevirtual 156, 3) := by decide +kernel
theorem dX2_merge_165 : decode cX2_merge 165 = .ok (.iinc 4 1, 3) := by decide +kernel
theorem dX2_merge_168 : decode cX2_merge 168 = .ok (.goto (-66), 3) := by decide +kernel
theorem dX2_merge_171 : decode cX2_merge 171 = .ok (.iconst 0, 1) := by decide +kernel
theorem dX2_merge_172 : decode cX2_merge 172 = .ok (.ireturn, 1) := by decide +kernel
theorem dX3_init_0 : decode cX3_init 0 = .ok (.aload_n 0, 1) := by decide +kernel
theorem dX3_init_1 : decode cX3_init 1 = .ok (.invokespecial 1, 3) := by decide +kernel
theorem dX3_init_4 : decode cX3_init 4 = .ok (.return_, 1) := by decide +kernel
theorem dX3_holds_0 : decode cX3_holds 0 = .ok (.iload_n 1, 1) := by decide +kernel
theorem dX3_holds_1 : decode cX3_holds 1 = .ok (.aload_n 0, 1) := by decide +kernel
theorem dX3_holds_2 : decode cX3_holds 2 = .ok (.getfield 7, 3) := by decide +kernel
theorem dX3_holds_5 : decode cX3_holds 5 = .ok (.if_icmp .lt 15, 3) := by decide +kernel
theorem dX3_holds_8 : decode cX3_holds 8 = .ok (.iload_n 1, 1) := by decide +kernel
theorem dX3_holds_9 : decode cX3_holds 9 = .ok (.aload_n 0, 1) := by decide +kernel
theorem dX3_holds_10 : decode cX3_holds 10 = .ok (.getfield 13, 3) := by decide +kernel
theorem dX3_holds_13 : decode cX3_holds 13 = .ok (.if_icmp .ge 7, 3) := by decide +kernel
theorem dX3_holds_16 : decode cX3_holds 16 = .ok (.iconst 1, 1) := by decide +kernel
theorem dX3_holds_17 : decode cX3_holds 17 = .ok (.goto 4, 3) := by decide +kernel
theorem dX3_holds_20 : decode cX3_holds 20 = .ok (.iconst 0, 1) := by decide +kernel
theorem dX3_holds_21 : decode cX3_holds 21 = .ok (.ireturn, 1) := by decide +kernel
theorem dX4_init_0 : decode cX4_init 0 = .ok (.aload_n 0, 1) := by decide +kernel
theorem dX4_init_1 : decode cX4_init 1 = .ok (.invokespecial 3, 3) := by decide +kernel
theorem dX4_init_4 : decode cX4_init 4 = .ok (.aload_n 0, 1) := by decide +kernel
theorem dX4_init_5 : decode cX4_init 5 = .ok (.new 9, 3) := by decide +kernel
theorem dX4_init_8 : decode cX4_init 8 = .ok (.dup, 1) := by decide +kernel
theorem dX4_init_9 : decode cX4_init 9 = .ok (.invokespecial 11, 3) := by decide +kernel
theorem dX4_init_12 : decode cX4_init 12 = .ok (.putfield 12, 3) := by decide +kernel
theorem dX4_init_15 : decode cX4_init 15 = .ok (.aload_n 0, 1) := by decide +kernel
theorem dX4_init_16 : decode cX4_init 16 = .ok (.new 9, 3) := by decide +kernel
theorem dX4_init_19 : decode cX4_init 19 = .ok (.dup, 1) := by decide +kernel
theorem dX4_init_20 : decode cX4_init 20 = .ok (.invokespecial 11, 3) := by decide +kernel
theorem dX4_init_23 : decode cX4_init 23 = .ok (.putfield 18, 3) := by decide +kernel
theorem dX4_init_26 : decode cX4_init 26 = .ok (.aload_n 0, 1) := by decide +kernel
theorem dX4_init_27 : decode cX4_init 27 = .ok (.iconst 0, 1) := by decide +kernel
theorem dX4_init_28 : decode cX4_init 28 = .ok (.putfield 21, 3) := by decide +kernel
theorem dX4_init_31 : decode cX4_init 31 = .ok (.aload_n 0, 1) := by decide +kernel
theorem dX4_init_32 : decode cX4_init 32 = .ok (.iconst 0, 1) := by decide +kernel
theorem dX4_init_33 : decode cX4_init 33 = .ok (.putfield 25, 3) := by decide +kernel
theorem dX4_init_36 : decode cX4_init 36 = .ok (.aload_n 0, 1) := by decide +kernel
theorem dX4_init_37 : decode cX4_init 37 = .ok (.aload_n 1, 1) := by decide +kernel
theorem dX4_init_38 : decode cX4_init 38 = .ok (.putfield 29, 3) := by decide +kernel
theorem dX4_init_41 : decode cX4_init 41 = .ok (.aload_n 0, 1) := by decide +kernel
theorem dX4_init_42 : decode cX4_init 42 = .ok (.aload_n 2, 1) := by decide +kernel
theorem dX4_init_43 : decode cX4_init 43 = .ok (.putfield 33, 3) := by decide +kernel
theorem dX4_init_46 : decode cX4_init 46 = .ok (.return_, 1) := by decide +kernel
theorem dX4_run_0 : decode cX4_run 0 = .ok (.aload_n 0, 1) := by decide +kernel
theorem dX4_run_1 : decode cX4_run 1 = .ok (.getfield 12, 3) := by decide +kernel
theorem dX4_run_4 : decode cX4_run 4 = .ok (.aload_n 1, 1) := by decide +kernel
theorem dX4_run_5 : decode cX4_run 5 = .ok (.getfield 37, 3) := by decide +kernel
theorem dX4_run_8 : decode cX4_run 8 = .ok (.invokevirtual 42, 3) := by decide +kernel
theorem dX4_run_11 : decode cX4_run 11 = .ok (.aload_n 0, 1) := by decide +kernel
theorem dX4_run_12 : decode cX4_run 12 = .ok (.iconst 1, 1) := by decide +kernel
theorem dX4_run_13 : decode cX4_run 13 = .ok (.putfield 21, 3) := by decide +kernel
theorem dX4_run_16 : decode cX4_run 16 = .ok (.iconst 0, 1) := by decide +kernel
theorem dX4_run_17 : decode cX4_run 17 = .ok (.istore_n 2, 1) := by decide +kernel
theorem dX4_run_18 : decode cX4_run 18 = .ok (.iload_n 2, 1) := by decide +kernel
theorem dX4_run_19 : decode cX4_run 19 = .ok (.aload_n 1, 1) := by decide +kernel
theorem dX4_run_20 : decode cX4_run 20 = .ok (.getfield 46, 3) := by decide +kernel
theorem dX4_run_23 : decode cX4_run 23 = .ok (.if_icmp .ge 28, 3) := by decide +kernel
theorem dX4_run_26 : decode cX4_run 26 = .ok (.aload_n 0, 1) := by decide +kernel
theorem dX4_run_27 : decode cX4_run 27 = .ok (.aload_n 0, 1) := by decide +kernel
theorem dX4_run_28 : decode cX4_run 28 = .ok (.aload_n 1, 1) := by decide +kernel
theorem dX4_run_29 : decode cX4_run 29 = .ok (.iload_n 2, 1) := by decide +kernel
theorem dX4_run_30 : decode cX4_run 30 = .ok (.invokevirtual 49, 3) := by decide +kernel
theorem dX4_run_33 : decode cX4_run 33 = .ok (.putfield 25, 3) := by decide +kernel
theorem dX4_run_36 : decode cX4_run 36 = .ok (.aload_n 0, 1) := by decide +kernel
theorem dX4_run_37 : decode cX4_run 37 = .ok (.getfield 25, 3) := by decide +kernel
theorem dX4_run_40 : decode cX4_run 40 = .ok (.ifCond .eq 5, 3) := by decide +kernel
theorem dX4_run_43 : decode cX4_run 43 = .ok (.iload_n 2, 1) := by decide +kernel
theorem dX4_run_44 : decode cX4_run 44 = .ok (.ireturn, 1) := by decide +kernel
theorem dX4_run_45 : decode cX4_run 45 = .ok (.iinc 2 1, 3) := by decide +kernel
theorem dX4_run_48 : decode cX4_run 48 = .ok (.goto (-30), 3) := by decide +kernel
theorem dX4_run_51 : decode cX4_run 51 = .ok (.aload_n 0, 1) := by decide +kernel
theorem dX4_run_52 : decode cX4_run 52 = .ok (.aload_n 0, 1) := by decide +kernel
theorem dX4_run_53 : decode cX4_run 53 = .ok (.getfield 21, 3) := by decide +kernel
theorem dX4_run_56 : decode cX4_run 56 = .ok (.ifCond .eq 7, 3) := by decide +kernel
theorem dX4_run_59 : decode cX4_run 59 = .ok (.iconst 5, 1) := by decide +kernel
theorem dX4_run_60 : decode cX4_run 60 = .ok (.goto 4, 3) := by decide +kernel
theorem dX4_run_63 : decode cX4_run 63 = .ok (.iconst 0, 1) := by decide +kernel
theorem dX4_run_64 : decode cX4_run 64 = .ok (.putfield 25, 3) := by decide +kernel
theorem dX4_run_67 : decode cX4_run 67 = .ok (.aload_n 0, 1) := by decide +kernel
theorem dX4_run_68 : decode cX4_run 68 = .ok (.getfield 21, 3) := by decide +kernel
theorem dX4_run_71 : decode cX4_run 71 = .ok (.ifCond .eq 12, 3) := by decide +kernel
theorem dX4_run_74 : decode cX4_run 74 = .ok (.aload_n 1, 1) := by decide +kernel
theorem dX4_run_75 : decode cX4_run 75 = .ok (.getfield 46, 3) := by decide +kernel
theorem dX4_run_78 : decode cX4_run 78 = .ok (.iconst 1, 1) := by decide +kernel
theorem dX4_run_79 : decode cX4_run 79 = .ok (.isub, 1) := by decide +kernel
theorem dX4_run_80 : decode cX4_run 80 = .ok (.goto 4, 3) := by decide +kernel
theorem dX4_run_83 : decode cX4_run 83 = .ok (.iconst (-1), 1) := by decide +kernel
theorem dX4_run_84 : decode cX4_run 84 = .ok (.ireturn, 1) := by decide +kernel
theorem dX4_lookAt_0 : decode cX4_lookAt 0 = .ok (.aload_n 1, 1) := by decide +kernel
theorem dX4_lookAt_1 : decode cX4_lookAt 1 = .ok (.iload_n 2, 1) := by decide +kernel
theorem dX4_lookAt_2 : decode cX4_lookAt 2 = .ok (.invokevirtual 53, 3) := by decide +kernel
theorem dX4_lookAt_5 : decode cX4_lookAt 5 = .ok (.astore_n 3, 1) := by decide +kernel
theorem dX4_lookAt_6 : decode cX4_lookAt 6 = .ok (.aload_n 3, 1) := by decide +kernel
theorem dX4_lookAt_7 : decode cX4_lookAt 7 = .ok (.ifnonnull 5, 3) := by decide +kernel
theorem dX4_lookAt_10 : decode cX4_lookAt 10 = .ok (.iconst 5, 1) := by decide +kernel
theorem dX4_lookAt_11 : decode cX4_lookAt 11 = .ok (.ireturn, 1) := by decide +kernel
theorem dX4_lookAt_12 : decode cX4_lookAt 12 = .ok (.aload_n 0, 1) := by decide +kernel
theorem dX4_lookAt_13 : decode cX4_lookAt 13 = .ok (.aload_n 3, 1) := by decide +kernel
theorem dX4_lookAt_14 : decode cX4_lookAt 14 = .ok (.invokevirtual 57, 3) := by decide +kernel
theorem dX4_lookAt_17 : decode cX4_lookAt 17 = .ok (.istore 4, 2) := by decide +kernel
theorem dX4_lookAt_19 : decode cX4_lookAt 19 = .ok (.iload 4, 2) := by decide +kernel
theorem dX4_lookAt_21 : decode cX4_lookAt 21 = .ok (.ifCond .ne 11, 3) := by decide +kernel
theorem dX4_lookAt_24 : decode cX4_lookAt 24 = .ok (.aload_n 0, 1) := by decide +kernel
theorem dX4_lookAt_25 : decode cX4_lookAt 25 = .ok (.aload_n 1, 1) := by decide +kernel
theorem dX4_lookAt_26 : decode cX4_lookAt 26 = .ok (.iload_n 2, 1) := by decide +kernel
theorem dX4_lookAt_27 : decode cX4_lookAt 27 = .ok (.invokevirtual 61, 3) := by decide +kernel
theorem dX4_lookAt_30 : decode cX4_lookAt 30 = .ok (.istore 4, 2) := by decide +kernel
theorem dX4_lookAt_32 : decode cX4_lookAt 32 = .ok (.iload 4, 2) := by decide +kernel
theorem dX4_lookAt_34 : decode cX4_lookAt 34 = .ok (.ifCond .ne 19, 3) := by decide +kernel
theorem dX4_lookAt_37 : decode cX4_lookAt 37 = .ok (.aload_n 0, 1) := by decide +kernel
theorem dX4_lookAt_38 : decode cX4_lookAt 38 = .ok (.getfield 33, 3) := by decide +kernel
theorem dX4_lookAt_41 : decode cX4_lookAt 41 = .ok (.aload_n 1, 1) := by decide +kernel
theorem dX4_lookAt_42 : decode cX4_lookAt 42 = .ok (.iload_n 2, 1) := by decide +kernel
theorem dX4_lookAt_43 : decode cX4_lookAt 43 = .ok (.aload_n 3, 1) := by decide +kernel
theorem dX4_lookAt_44 : decode cX4_lookAt 44 = .ok (.aload_n 0, 1) := by decide +kernel
theorem dX4_lookAt_45 : decode cX4_lookAt 45 = .ok (.getfield 12, 3) := by decide +kernel
theorem dX4_lookAt_48 : decode cX4_lookAt 48 = .ok (.invokevirtual 64, 3) := by decide +kernel
theorem dX4_lookAt_51 : decode cX4_lookAt 51 = .ok (.istore 4, 2) := by decide +kernel
theorem dX4_lookAt_53 : decode cX4_lookAt 53 = .ok (.iload 4, 2) := by decide +kernel
theorem dX4_lookAt_55 : decode cX4_lookAt 55 = .ok (.ifCond .ne 12, 3) := by decide +kernel
theorem dX4_lookAt_58 : decode cX4_lookAt 58 = .ok (.aload_n 0, 1) := by decide +kernel
theorem dX4_lookAt_59 : decode cX4_lookAt 59 = .ok (.aload_n 1, 1) := by decide +kernel
theorem dX4_lookAt_60 : decode cX4_lookAt 60 = .ok (.iload_n 2, 1) := by decide +kernel
theorem dX4_lookAt_61 : decode cX4_lookAt 61 = .ok (.aload_n 3, 1) := by decide +kernel
theorem dX4_lookAt_62 : decode cX4_lookAt 62 = .ok (.invokevirtual 70, 3) := by decide +kernel
theorem dX4_lookAt_65 : decode cX4_lookAt 65 = .ok (.istore 4, 2) := by decide +kernel
theorem dX4_lookAt_67 : decode cX4_lookAt 67 = .ok (.aload_n 0, 1) := by decide +kernel
theorem dX4_lookAt_68 : decode cX4_lookAt 68 = .ok (.aload_n 3, 1) := by decide +kernel
theorem dX4_lookAt_69 : decode cX4_lookAt 69 = .ok (.invokevirtual 74, 3) := by decide +kernel
theorem dX4_lookAt_72 : decode cX4_lookAt 72 = .ok (.putfield 21, 3) := by decide +kernel
theorem dX4_lookAt_75 : decode cX4_lookAt 75 = .ok (.iload 4, 2) := by decide +kernel
theorem dX4_lookAt_77 : decode cX4_lookAt 77 = .ok (.ireturn, 1) := by decide +kernel
theorem dX4_takeFrame_0 : decode cX4_takeFrame 0 = .ok (.aload_n 1, 1) := by decide +kernel
theorem dX4_takeFrame_1 : decode cX4_takeFrame 1 = .ok (.getfield 80, 3) := by decide +kernel
theorem dX4_takeFrame_4 : decode cX4_takeFrame 4 = .ok (.ifCond .ne 17, 3) := by decide +kernel
theorem dX4_takeFrame_7 : decode cX4_takeFrame 7 = .ok (.aload_n 0, 1) := by decide +kernel
theorem dX4_takeFrame_8 : decode cX4_takeFrame 8 = .ok (.getfield 21, 3) := by decide +kernel
theorem dX4_takeFrame_11 : decode cX4_takeFrame 11 = .ok (.ifCond .eq 7, 3) := by decide +kernel
theorem dX4_takeFrame_14 : decode cX4_takeFrame 14 = .ok (.iconst 0, 1) := by decide +kernel
theorem dX4_takeFrame_15 : decode cX4_takeFrame 15 = .ok (.goto 5, 3) := by decide +kernel
theorem dX4_takeFrame_18 : decode cX4_takeFrame 18 = .ok (.bipush 8, 2) := by decide +kernel
theorem dX4_takeFrame_20 : decode cX4_takeFrame 20 = .ok (.ireturn, 1) := by decide +kernel
theorem dX4_takeFrame_21 : decode cX4_takeFrame 21 = .ok (.aload_n 0, 1) := by decide +kernel
theorem dX4_takeFrame_22 : decode cX4_takeFrame 22 = .ok (.getfield 21, 3) := by decide +kernel
theorem dX4_takeFrame_25 : decode cX4_takeFrame 25 = .ok (.ifCond .eq 24, 3) := by decide +kernel
theorem dX4_takeFrame_28 : decode cX4_takeFrame 28 = .ok (.aload_n 0, 1) := by decide +kernel
theorem dX4_takeFrame_29 : decode cX4_takeFrame 29 = .ok (.getfield 29, 3) := by decide +kernel
theorem dX4_takeFrame_32 : decode cX4_takeFrame 32 = .ok (.aload_n 0, 1) := by decide +kernel
theorem dX4_takeFrame_33 : decode cX4_takeFrame 33 = .ok (.getfield 12, 3) := by decide +kernel
theorem dX4_takeFrame_36 : decode cX4_takeFrame 36 = .ok (.aload_n 1, 1) := by decide +kernel
theorem dX4_takeFrame_37 : decode cX4_takeFrame 37 = .ok (.getfield 83, 3) := by decide +kernel
theorem dX4_takeFrame_40 : decode cX4_takeFrame 40 = .ok (.invokevirtual 86, 3) := by decide +kernel
theorem dX4_takeFrame_43 : decode cX4_takeFrame 43 = .ok (.ifCond .ne 6, 3) := by decide +kernel
theorem dX4_takeFrame_46 : decode cX4_takeFrame 46 = .ok (.bipush 9, 2) := by decide +kernel
theorem dX4_takeFrame_48 : decode cX4_takeFrame 48 = .ok (.ireturn, 1) := by decide +kernel
theorem dX4_takeFrame_49 : decode cX4_takeFrame 49 = .ok (.aload_n 0, 1) := by decide +kernel
theorem dX4_takeFrame_50 : decode cX4_takeFrame 50 = .ok (.getfield 12, 3) := by decide +kernel
theorem dX4_takeFrame_53 : decode cX4_takeFrame 53 = .ok (.aload_n 1, 1) := by decide +kernel
theorem dX4_takeFrame_54 : decode cX4_takeFrame 54 = .ok (.getfield 83, 3) := by decide +kernel
theorem dX4_takeFrame_57 : decode cX4_takeFrame 57 = .ok (.invokevirtual 42, 3) := by decide +kernel
theorem dX4_takeFrame_60 : decode cX4_takeFrame 60 = .ok (.iconst 0, 1) := by decide +kernel
theorem dX4_takeFrame_61 : decode cX4_takeFrame 61 = .ok (.ireturn, 1) := by decide +kernel
theorem dX4_lookAtGuards_0 : decode cX4_lookAtGuards 0 = .ok (.iconst 0, 1) := by decide +kernel
theorem dX4_lookAtGuards_1 : decode cX4_lookAtGuards 1 = .ok (.istore_n 3, 1) := by decide +kernel
theorem dX4_lookAtGuards_2 : decode cX4_lookAtGuards 2 = .ok (.iload_n 3, 1) := by decide +kernel
theorem dX4_lookAtGuards_3 : decode cX4_lookAtGuards 3 = .ok (.aload_n 1, 1) := by decide +kernel
theorem dX4_lookAtGuards_4 : decode cX4_lookAtGuards 4 = .ok (.getfield 92, 3) := by decide +kernel
theorem dX4_lookAtGuards_7 : decode cX4_lookAtGuards 7 = .ok (.if_icmp .ge 65, 3) := by decide +kernel
theorem dX4_lookAtGuards_10 : decode cX4_lookAtGuards 10 = .ok (.aload_n 1, 1) := by decide +kernel
theorem dX4_lookAtGuards_11 : decode cX4_lookAtGuards 11 = .ok (.iload_n 3, 1) := by decide +kernel
theorem dX4_lookAtGuards_12 : decode cX4_lookAtGuards 12 = .ok (.iload_n 2, 1) := by decide +kernel
theorem dX4_lookAtGuards_13 : decode cX4_lookAtGuards 13 = .ok (.invokevirtual 95, 3) := by decide +kernel
theorem dX4_lookAtGuards_16 : decode cX4_lookAtGuards 16 = .ok (.astore 4, 2) := by decide +kernel
theorem dX4_lookAtGuards_18 : decode cX4_lookAtGuards 18 = .ok (.aload 4, 2) := by decide +kernel
theorem dX4_lookAtGuards_20 : decode cX4_lookAtGuards 20 = .ok (.ifnull 46, 3) := by decide +kernel
theorem dX4_lookAtGuards_23 : decode cX4_lookAtGuards 23 = .ok (.aload_n 0, 1) := by decide +kernel
theorem dX4_lookAtGuards_24 : decode cX4_lookAtGuards 24 = .ok (.getfield 18, 3) := by decide +kernel
theorem dX4_lookAtGuards_27 : decode cX4_lookAtGuards 27 = .ok (.aload_n 0, 1) := by decide +kernel
theorem dX4_lookAtGuards_28 : decode cX4_lookAtGuards 28 = .ok (.getfield 12, 3) := by decide +kernel
theorem dX4_lookAtGuards_31 : decode cX4_lookAtGuards 31 = .ok (.aload 4, 2) := by decide +kernel
theorem dX4_lookAtGuards_33 : decode cX4_lookAtGuards 33 = .ok (.getfield 99, 3) := by decide +kernel
theorem dX4_lookAtGuards_36 : decode cX4_lookAtGuards 36 = .ok (.invokevirtual 104, 3) := by decide +kernel
theorem dX4_lookAtGuards_39 : decode cX4_lookAtGuards 39 = .ok (.aload_n 0, 1) := by decide +kernel
theorem dX4_lookAtGuards_40 : decode cX4_lookAtGuards 40 = .ok (.aload_n 1, 1) := by decide +kernel
theorem dX4_lookAtGuards_41 : decode cX4_lookAtGuards 41 = .ok (.aload 4, 2) := by decide +kernel
theorem dX4_lookAtGuards_43 : decode cX4_lookAtGuards 43 = .ok (.getfield 108, 3) := by decide +kernel
theorem dX4_lookAtGuards_46 : decode cX4_lookAtGuards 46 = .ok (.invokevirtual 53, 3) := by decide +kernel
theorem dX4_lookAtGuards_49 : decode cX4_lookAtGuards 49 = .ok (.aload_n 0, 1) := by decide +kernel
theorem dX4_lookAtGuards_50 : decode cX4_lookAtGuards 50 = .ok (.getfield 18, 3) := by decide +kernel
theorem dX4_lookAtGuards_53 : decode cX4_lookAtGuards 53 = .ok (.invokevirtual 111, 3) := by decide +kernel
theorem dX4_lookAtGuards_56 : decode cX4_lookAtGuards 56 = .ok (.istore 5, 2) := by decide +kernel
theorem dX4_lookAtGuards_58 : decode cX4_lookAtGuards 58 = .ok (.iload 5, 2) := by decide +kernel
theorem dX4_lookAtGuards_60 : decode cX4_lookAtGuards 60 = .ok (.ifCond .eq 6, 3) := by decide +kernel
theorem dX4_lookAtGuards_63 : decode cX4_lookAtGuards 63 = .ok (.iload 5, 2) := by decide +kernel
theorem dX4_lookAtGuards_65 : decode cX4_lookAtGuards 65 = .ok (.ireturn, 1) := by decide +kernel
theorem dX4_lookAtGuards_66 : decode cX4_lookAtGuards 66 = .ok (.iinc 3 1, 3) := by decide +kernel
theorem dX4_lookAtGuards_69 : decode cX4_lookAtGuards 69 = .ok (.goto (-67), 3) := by decide +kernel
theorem dX4_lookAtGuards_72 : decode cX4_lookAtGuards 72 = .ok (.iconst 0, 1) := by decide +kernel
theorem dX4_lookAtGuards_73 : decode cX4_lookAtGuards 73 = .ok (.ireturn, 1) := by decide +kernel
theorem dX4_lookAtTargets_0 : decode cX4_lookAtTargets 0 = .ok (.aload_n 3, 1) := by decide +kernel
theorem dX4_lookAtTargets_1 : decode cX4_lookAtTargets 1 = .ok (.invokevirtual 115, 3) := by decide +kernel
theorem dX4_lookAtTargets_4 : decode cX4_lookAtTargets 4 = .ok (.istore 4, 2) := by decide +kernel
theorem dX4_lookAtTargets_6 : decode cX4_lookAtTargets 6 = .ok (.aload_n 3, 1) := by decide +kernel
theorem dX4_lookAtTargets_7 : decode cX4_lookAtTargets 7 = .ok (.invokevirtual 119, 3) := by decide +kernel
theorem dX4_lookAtTargets_10 : decode cX4_lookAtTargets 10 = .ok (.istore 5, 2) := by decide +kernel
theorem dX4_lookAtTargets_12 : decode cX4_lookAtTargets 12 = .ok (.iload 5, 2) := by decide +kernel
theorem dX4_lookAtTargets_14 : decode cX4_lookAtTargets 14 = .ok (.iload 4, 2) := by decide +kernel
theorem dX4_lookAtTargets_16 : decode cX4_lookAtTargets 16 = .ok (.if_icmp .gt 63, 3) := by decide +kernel
theorem dX4_lookAtTargets_19 : decode cX4_lookAtTargets 19 = .ok (.aload_n 1, 1) := by decide +kernel
theorem dX4_lookAtTargets_20 : decode cX4_lookAtTargets 20 = .ok (.iload 5, 2) := by decide +kernel
theorem dX4_lookAtTargets_22 : decode cX4_lookAtTargets 22 = .ok (.invokevirtual 53, 3) := by decide +kernel
theorem dX4_lookAtTargets_25 : decode cX4_lookAtTargets 25 = .ok (.astore 6, 2) := by decide +kernel
theorem dX4_lookAtTargets_27 : decode cX4_lookAtTargets 27 = .ok (.aload 6, 2) := by decide +kernel
theorem dX4_lookAtTargets_29 : decode cX4_lookAtTargets 29 = .ok (.ifnonnull 5, 3) := by decide +kernel
theorem dX4_lookAtTargets_32 : decode cX4_lookAtTargets 32 = .ok (.iconst 5, 1) := by decide +kernel
theorem dX4_lookAtTargets_33 : decode cX4_lookAtTargets 33 = .ok (.ireturn, 1) := by decide +kernel
theorem dX4_lookAtTargets_34 : decode cX4_lookAtTargets 34 = .ok (.iload 5, 2) := by decide +kernel
theorem dX4_lookAtTargets_36 : decode cX4_lookAtTargets 36 = .ok (.iload_n 2, 1) := by decide +kernel
theorem dX4_lookAtTargets_37 : decode cX4_lookAtTargets 37 = .ok (.if_icmp .gt 16, 3) := by decide +kernel
theorem dX4_lookAtTargets_40 : decode cX4_lookAtTargets 40 = .ok (.aload_n 0, 1) := by decide +kernel
theorem dX4_lookAtTargets_41 : decode cX4_lookAtTargets 41 = .ok (.getfield 12, 3) := by decide +kernel
theorem dX4_lookAtTargets_44 : decode cX4_lookAtTargets 44 = .ok (.invokevirtual 122, 3) := by decide +kernel
theorem dX4_lookAtTargets_47 : decode cX4_lookAtTargets 47 = .ok (.ifCond .eq 6, 3) := by decide +kernel
theorem dX4_lookAtTargets_50 : decode cX4_lookAtTargets 50 = .ok (.bipush 6, 2) := by decide +kernel
theorem dX4_lookAtTargets_52 : decode cX4_lookAtTargets 52 = .ok (.ireturn, 1) := by decide +kernel
theorem dX4_lookAtTargets_53 : decode cX4_lookAtTargets 53 = .ok (.aload_n 0, 1) := by decide +kernel
theorem dX4_lookAtTargets_54 : decode cX4_lookAtTargets 54 = .ok (.aload 6, 2) := by decide +kernel
theorem dX4_lookAtTargets_56 : decode cX4_lookAtTargets 56 = .ok (.aload_n 0, 1) := by decide +kernel
theorem dX4_lookAtTargets_57 : decode cX4_lookAtTargets 57 = .ok (.getfield 12, 3) := by decide +kernel
theorem dX4_lookAtTargets_60 : decode cX4_lookAtTargets 60 = .ok (.invokevirtual 111, 3) := by decide +kernel
theorem dX4_lookAtTargets_63 : decode cX4_lookAtTargets 63 = .ok (.istore 7, 2) := by decide +kernel
theorem dX4_lookAtTargets_65 : decode cX4_lookAtTargets 65 = .ok (.iload 7, 2) := by decide +kernel
theorem dX4_lookAtTargets_67 : decode cX4_lookAtTargets 67 = .ok (.ifCond .eq 6, 3) := by decide +kernel
theorem dX4_lookAtTargets_70 : decode cX4_lookAtTargets 70 = .ok (.iload 7, 2) := by decide +kernel
theorem dX4_lookAtTargets_72 : decode cX4_lookAtTargets 72 = .ok (.ireturn, 1) := by decide +kernel
theorem dX4_lookAtTargets_73 : decode cX4_lookAtTargets 73 = .ok (.iinc 5 1, 3) := by decide +kernel
theorem dX4_lookAtTargets_76 : decode cX4_lookAtTargets 76 = .ok (.goto (-64), 3) := by decide +kernel
theorem dX4_lookAtTargets_79 : decode cX4_lookAtTargets 79 = .ok (.iconst 0, 1) := by decide +kernel
theorem dX4_lookAtTargets_80 : decode cX4_lookAtTargets 80 = .ok (.ireturn, 1) := by decide +kernel
theorem dX4_meet_0 : decode cX4_meet 0 = .ok (.aload_n 1, 1) := by decide +kernel
theorem dX4_meet_1 : decode cX4_meet 1 = .ok (.ifnull 10, 3) := by decide +kernel
theorem dX4_meet_4 : decode cX4_meet 4 = .ok (.aload_n 1, 1) := by decide +kernel
theorem dX4_meet_5 : decode cX4_meet 5 = .ok (.getfield 80, 3) := by decide +kernel
theorem dX4_meet_8 : decode cX4_meet 8 = .ok (.ifCond .ne 6, 3) := by decide +kernel
theorem dX4_meet_11 : decode cX4_meet 11 = .ok (.bipush 8, 2) := by decide +kernel
theorem dX4_meet_13 : decode cX4_meet 13 = .ok (.ireturn, 1) := by decide +kernel
theorem dX4_meet_14 : decode cX4_meet 14 = .ok (.aload_n 0, 1) := by decide +kernel
theorem dX4_meet_15 : decode cX4_meet 15 = .ok (.getfield 29, 3) := by decide +kernel
theorem dX4_meet_18 : decode cX4_meet 18 = .ok (.aload_n 2, 1) := by decide +kernel
theorem dX4_meet_19 : decode cX4_meet 19 = .ok (.aload_n 1, 1) := by decide +kernel
theorem dX4_meet_20 : decode cX4_meet 20 = .ok (.getfield 83, 3) := by decide +kernel
theorem dX4_meet_23 : decode cX4_meet 23 = .ok (.invokevirtual 86, 3) := by decide +kernel
theorem dX4_meet_26 : decode cX4_meet 26 = .ok (.ifCond .eq 7, 3) := by decide +kernel
theorem dX4_meet_29 : decode cX4_meet 29 = .ok (.iconst 0, 1) := by decide +kernel
theorem dX4_meet_30 : decode cX4_meet 30 = .ok (.goto 5, 3) := by decide +kernel
theorem dX4_meet_33 : decode cX4_meet 33 = .ok (.bipush 9, 2) := by decide +kernel
theorem dX4_meet_35 : decode cX4_meet 35 = .ok (.ireturn, 1) := by decide +kernel
theorem dX5_init_0 : decode cX5_init 0 = .ok (.aload_n 0, 1) := by decide +kernel
theorem dX5_init_1 : decode cX5_init 1 = .ok (.invokespecial 3, 3) := by decide +kernel
theorem dX5_init_4 : decode cX5_init 4 = .ok (.aload_n 0, 1) := by decide +kernel
theorem dX5_init_5 : decode cX5_init 5 = .ok (.bipush 40, 2) := by decide +kernel
theorem dX5_init_7 : decode cX5_init 7 = .ok (.anewarray 9, 3) := by decide +kernel
theorem dX5_init_10 : decode cX5_init 10 = .ok (.putfield 11, 3) := by decide +kernel
theorem dX5_init_13 : decode cX5_init 13 = .ok (.aload_n 0, 1) := by decide +kernel
theorem dX5_init_14 : decode cX5_init 14 = .ok (.iconst 4, 1) := by decide +kernel
theorem dX5_init_15 : decode cX5_init 15 = .ok (.anewarray 17, 3) := by decide +kernel
theorem dX5_init_18 : decode cX5_init 18 = .ok (.putfield 19, 3) := by decide +kernel
theorem dX5_init_21 : decode cX5_init 21 = .ok (.aload_n 0, 1) := by decide +kernel
theorem dX5_init_22 : decode cX5_init 22 = .ok (.new 23, 3) := by decide +kernel
theorem dX5_init_25 : decode cX5_init 25 = .ok (.dup, 1) := by decide +kernel
theorem dX5_init_26 : decode cX5_init 26 = .ok (.invokespecial 25, 3) := by decide +kernel
theorem dX5_init_29 : decode cX5_init 29 = .ok (.putfield 26, 3) := by decide +kernel
theorem dX5_init_32 : decode cX5_init 32 = .ok (.aload_n 0, 1) := by decide +kernel
theorem dX5_init_33 : decode cX5_init 33 = .ok (.iconst 0, 1) := by decide +kernel
theorem dX5_init_34 : decode cX5_init 34 = .ok (.putfield 30, 3) := by decide +kernel
theorem dX5_init_37 : decode cX5_init 37 = .ok (.aload_n 0, 1) := by decide +kernel
theorem dX5_init_38 : decode cX5_init 38 = .ok (.iconst 0, 1) := by decide +kernel
theorem dX5_init_39 : decode cX5_init 39 = .ok (.putfield 34, 3) := by decide +kernel
theorem dX5_init_42 : decode cX5_init 42 = .ok (.aload_n 0, 1) := by decide +kernel
theorem dX5_init_43 : decode cX5_init 43 = .ok (.iconst 4, 1) := by decide +kernel
theorem dX5_init_44 : decode cX5_init 44 = .ok (.putfield 37, 3) := by decide +kernel
theorem dX5_init_47 : decode cX5_init 47 = .ok (.aload_n 0, 1) := by decide +kernel
theorem dX5_init_48 : decode cX5_init 48 = .ok (.iconst 0, 1) := by decide +kernel
theorem dX5_init_49 : decode cX5_init 49 = .ok (.putfield 40, 3) := by decide +kernel
theorem dX5_init_52 : decode cX5_init 52 = .ok (.aload_n 0, 1) := by decide +kernel
theorem dX5_init_53 : decode cX5_init 53 = .ok (.iconst 0, 1) := by decide +kernel
theorem dX5_init_54 : decode cX5_init 54 = .ok (.putfield 43, 3) := by decide +kernel
theorem dX5_init_57 : decode cX5_init 57 = .ok (.aload_n 0, 1) := by decide +kernel
theorem dX5_init_58 : decode cX5_init 58 = .ok (.iconst 0, 1) := by decide +kernel
theorem dX5_init_59 : decode cX5_init 59 = .ok (.putfield 47, 3) := by decide +kernel
theorem dX5_init_62 : decode cX5_init 62 = .ok (.aload_n 0, 1) := by decide +kernel
theorem dX5_init_63 : decode cX5_init 63 = .ok (.iconst 0, 1) := by decide +kernel
theorem dX5_init_64 : decode cX5_init 64 = .ok (.putfield 50, 3) := by decide +kernel
theorem dX5_init_67 : decode cX5_init 67 = .ok (.return_, 1) := by decide +kernel
theorem dX5_empty_0 : decode cX5_empty 0 = .ok (.aload_n 0, 1) := by decide +kernel
theorem dX5_empty_1 : decode cX5_empty 1 = .ok (.getfield 26, 3) := by decide +kernel
theorem dX5_empty_4 : decode cX5_empty 4 = .ok (.invokevirtual 53, 3) := by decide +kernel
theorem dX5_empty_7 : decode cX5_empty 7 = .ok (.aload_n 0, 1) := by decide +kernel
theorem dX5_empty_8 : decode cX5_empty 8 = .ok (.iconst 0, 1) := by decide +kernel
theorem dX5_empty_9 : decode cX5_empty 9 = .ok (.putfield 30, 3) := by decide +kernel
theorem dX5_empty_12 : decode cX5_empty 12 = .ok (.aload_n 0, 1) := by decide +kernel
theorem dX5_empty_13 : decode cX5_empty 13 = .ok (.iconst 0, 1) := by decide +kernel
theorem dX5_empty_14 : decode cX5_empty 14 = .ok (.putfield 34, 3) := by decide +kernel
theorem dX5_empty_17 : decode cX5_empty 17 = .ok (.aload_n 0, 1) := by decide +kernel
theorem dX5_empty_18 : decode cX5_empty 18 = .ok (.iload_n 1, 1) := by decide +kernel
theorem dX5_empty_19 : decode cX5_empty 19 = .ok (.putfield 37, 3) := by decide +kernel
theorem dX5_empty_22 : decode cX5_empty 22 = .ok (.aload_n 0, 1) := by decide +kernel
theorem dX5_empty_23 : decode cX5_empty 23 = .ok (.iconst 0, 1) := by decide +kernel
theorem dX5_empty_24 : decode cX5_empty 24 = .ok (.putfield 40, 3) := by decide +kernel
theorem dX5_empty_27 : decode cX5_empty 27 = .ok (.aload_n 0, 1) := by decide +kernel
theorem dX5_empty_28 : decode cX5_empty 28 = .ok (.iconst 0, 1) := by decide +kernel
theorem dX5_empty_29 : decode cX5_empty 29 = .ok (.putfield 43, 3) := by decide +kernel
theorem dX5_empty_32 : decode cX5_empty 32 = .ok (.return_, 1) := by decide +kernel
theorem dX5_addArgument_0 : decode cX5_addArgument 0 = .ok (.iload_n 1, 1) := by decide +kernel
theorem dX5_addArgument_1 : decode cX5_addArgument 1 = .ok (.iconst 2, 1) := by decide +kernel
theorem dX5_addArgument_2 : decode cX5_addArgument 2 = .ok (.if_icmp .ne 7, 3) := by decide +kernel
theorem dX5_addArgument_5 : decode cX5_addArgument 5 = .ok (.iconst 2, 1) := by decide +kernel
theorem dX5_addArgument_6 : decode cX5_addArgument 6 = .ok (.goto 4, 3) := by decide +kernel
theorem dX5_addArgument_9 : decode cX5_addArgument 9 = .ok (.iconst 1, 1) := by decide +kernel
theorem dX5_addArgument_10 : decode cX5_addArgument 10 = .ok (.istore_n 2, 1) := by decide +kernel
theorem dX5_addArgument_11 : decode cX5_addArgument 11 = .ok (.aload_n 0, 1) := by decide +kernel
theorem dX5_addArgument_12 : decode cX5_addArgument 12 = .ok (.getfield 40, 3) := by decide +kernel
theorem dX5_addArgument_15 : decode cX5_addArgument 15 = .ok (.iload_n 2, 1) := by decide +kernel
theorem dX5_addArgument_16 : decode cX5_addArgument 16 = .ok (.iadd, 1) := by decide +kernel
theorem dX5_addArgument_17 : decode cX5_addArgument 17 = .ok (.aload_n 0, 1) := by decide +kernel
theorem dX5_addArgument_18 : decode cX5_addArgument 18 = .ok (.getfield 37, 3) := by decide +kernel
theorem dX5_addArgument_21 : decode cX5_addArgument 21 = .ok (.if_icmp .le 6, 3) := by decide +kernel
theorem dX5_addArgument_24 : decode cX5_addArgument 24 = .ok (.bipush (-2), 2) := by decide +kernel
theorem dX5_addArgument_26 : decode cX5_addArgument 26 = .ok (.ireturn, 1) := by decide +kernel
theorem dX5_addArgument_27 : decode cX5_addArgument 27 = .ok (.aload_n 0, 1) := by decide +kernel
theorem dX5_addArgument_28 : decode cX5_addArgument 28 = .ok (.getfield 40, 3) := by decide +kernel
theorem dX5_addArgument_31 : decode cX5_addArgument 31 = .ok (.istore_n 3, 1) := by decide +kernel
theorem dX5_addArgument_32 : decode cX5_addArgument 32 = .ok (.aload_n 0, 1) := by decide +kernel
theorem dX5_addArgument_33 : decode cX5_addArgument 33 = .ok (.getfield 26, 3) := by decide +kernel
theorem dX5_addArgument_36 : decode cX5_addArgument 36 = .ok (.iload_n 3, 1) := by decide +kernel
theorem dX5_addArgument_37 : decode cX5_addArgument 37 = .ok (.iload_n 1, 1) := by decide +kernel
theorem dX5_addArgument_38 : decode cX5_addArgument 38 = .ok (.invokevirtual 56, 3) := by decide +kernel
theorem dX5_addArgument_41 : decode cX5_addArgument 41 = .ok (.aload_n 0, 1) := by decide +kernel
theorem dX5_addArgument_42 : decode cX5_addArgument 42 = .ok (.dup, 1) := by decide +kernel
theorem dX5_addArgument_43 : decode cX5_addArgument 43 = .ok (.getfield 40, 3) := by decide +kernel
theorem dX5_addArgument_46 : decode cX5_addArgument 46 = .ok (.iload_n 2, 1) := by decide +kernel
theorem dX5_addArgument_47 : decode cX5_addArgument 47 = .ok (.iadd, 1) := by decide +kernel
theorem dX5_addArgument_48 : decode cX5_addArgument 48 = .ok (.putfield 40, 3) := by decide +kernel
theorem dX5_addArgument_51 : decode cX5_addArgument 51 = .ok (.aload_n 0, 1) := by decide +kernel
theorem dX5_addArgument_52 : decode cX5_addArgument 52 = .ok (.iconst 0, 1) := by decide +kernel
theorem dX5_addArgument_53 : decode cX5_addArgument 53 = .ok (.putfield 43, 3) := by decide +kernel
theorem dX5_addArgument_56 : decode cX5_addArgument 56 = .ok (.iload_n 3, 1) := by decide +kernel
theorem dX5_addArgument_57 : decode cX5_addArgument 57 = .ok (.ireturn, 1) := by decide +kernel
theorem dX5_addAct_0 : decode cX5_addAct 0 = .ok (.aload_n 0, 1) := by decide +kernel
theorem dX5_addAct_1 : decode cX5_addAct 1 = .ok (.getfield 30, 3) := by decide +kernel
theorem dX5_addAct_4 : decode cX5_addAct 4 = .ok (.bipush 40, 2) := by decide +kernel
theorem dX5_addAct_6 : decode cX5_addAct 6 = .ok (.if_icmp .lt 6, 3) := by decide +kernel
theorem dX5_addAct_9 : decode cX5_addAct 9 = .ok (.bipush (-2), 2) := by decide +kernel
theorem dX5_addAct_11 : decode cX5_addAct 11 = .ok (.ireturn, 1) := by decide +kernel
theorem dX5_addAct_12 : decode cX5_addAct 12 = .ok (.aload_n 0, 1) := by decide +kernel
theorem dX5_addAct_13 : decode cX5_addAct 13 = .ok (.getfield 11, 3) := by decide +kernel
theorem dX5_addAct_16 : decode cX5_addAct 16 = .ok (.aload_n 0, 1) := by decide +kernel
theorem dX5_addAct_17 : decode cX5_addAct 17 = .ok (.getfield 30, 3) := by decide +kernel
theorem dX5_addAct_20 : decode cX5_addAct 20 = .ok (.aaload, 1) := by decide +kernel
theorem dX5_addAct_21 : decode cX5_addAct 21 = .ok (.astore 4, 2) := by decide +kernel
theorem dX5_addAct_23 : decode cX5_addAct 23 = .ok (.aload 4, 2) := by decide +kernel
theorem dX5_addAct_25 : decode cX5_addAct 25 = .ok (.ifnonnull 23, 3) := by decide +kernel
theorem dX5_addAct_28 : decode cX5_addAct 28 = .ok (.new 9, 3) := by decide +kernel
theorem dX5_addAct_31 : decode cX5_addAct 31 = .ok (.dup, 1) := by decide +kernel
theorem dX5_addAct_32 : decode cX5_addAct 32 = .ok (.invokespecial 60, 3) := by decide +kernel
theorem dX5_addAct_35 : decode cX5_addAct 35 = .ok (.astore 4, 2) := by decide +kernel
theorem dX5_addAct_37 : decode cX5_addAct 37 = .ok (.aload_n 0, 1) := by decide +kernel
theorem dX5_addAct_38 : decode cX5_addAct 38 = .ok (.getfield 11, 3) := by decide +kernel
theorem dX5_addAct_41 : decode cX5_addAct 41 = .ok (.aload_n 0, 1) := by decide +kernel
theorem dX5_addAct_42 : decode cX5_addAct 42 = .ok (.getfield 30, 3) := by decide +kernel
theorem dX5_addAct_45 : decode cX5_addAct 45 = .ok (.aload 4, 2) := by decide +kernel
theorem dX5_addAct_47 : decode cX5_addAct 47 = .ok (.aastore, 1) := by decide +kernel
theorem dX5_addAct_48 : decode cX5_addAct 48 = .ok (.aload 4, 2) := by decide +kernel
theorem dX5_addAct_50 : decode cX5_addAct 50 = .ok (.iload_n 1, 1) := by decide +kernel
theorem dX5_addAct_51 : decode cX5_addAct 51 = .ok (.iload_n 2, 1) := by decide +kernel
theorem dX5_addAct_52 : decode cX5_addAct 52 = .ok (.iload_n 3, 1) := by decide +kernel
theorem dX5_addAct_53 : decode cX5_addAct 53 = .ok (.invokevirtual 61, 3) := by decide +kernel
theorem dX5_addAct_56 : decode cX5_addAct 56 = .ok (.aload_n 0, 1) := by decide +kernel
theorem dX5_addAct_57 : decode cX5_addAct 57 = .ok (.dup, 1) := by decide +kernel
theorem dX5_addAct_58 : decode cX5_addAct 58 = .ok (.getfield 30, 3) := by decide +kernel
theorem dX5_addAct_61 : decode cX5_addAct 61 = .ok (.iconst 1, 1) := by decide +kernel
theorem dX5_addAct_62 : decode cX5_addAct 62 = .ok (.iadd, 1) := by decide +kernel
theorem dX5_addAct_63 : decode cX5_addAct 63 = .ok (.putfield 30, 3) := by decide +kernel
theorem dX5_addAct_66 : decode cX5_addAct 66 = .ok (.aload_n 0, 1) := by decide +kernel
theorem dX5_addAct_67 : decode cX5_addAct 67 = .ok (.iconst 0, 1) := by decide +kernel
theorem dX5_addAct_68 : decode cX5_addAct 68 = .ok (.putfield 43, 3) := by decide +kernel
theorem dX5_addAct_71 : decode cX5_addAct 71 = .ok (.aload_n 0, 1) := by decide +kernel
theorem dX5_addAct_72 : decode cX5_addAct 72 = .ok (.getfield 30, 3) := by decide +kernel
theorem dX5_addAct_75 : decode cX5_addAct 75 = .ok (.iconst 1, 1) := by decide +kernel
theorem dX5_addAct_76 : decode cX5_addAct 76 = .ok (.isub, 1) := by decide +kernel
theorem dX5_addAct_77 : decode cX5_addAct 77 = .ok (.ireturn, 1) := by decide +kernel
theorem dX5_addGuard_0 : decode cX5_addGuard 0 = .ok (.aload_n 0, 1) := by decide +kernel
theorem dX5_addGuard_1 : decode cX5_addGuard 1 = .ok (.getfield 34, 3) := by decide +kernel
theorem dX5_addGuard_4 : decode cX5_addGuard 4 = .ok (.iconst 4, 1) := by decide +kernel
theorem dX5_addGuard_5 : decode cX5_addGuard 5 = .ok (.if_icmp .lt 6, 3) := by decide +kernel
theorem dX5_addGuard_8 : decode cX5_addGuard 8 = .ok (.bipush (-2), 2) := by decide +kernel
theorem dX5_addGuard_10 : decode cX5_addGuard 10 = .ok (.ireturn, 1) := by decide +kernel
theorem dX5_addGuard_11 : decode cX5_addGuard 11 = .ok (.aload_n 0, 1) := by decide +kernel
theorem dX5_addGuard_12 : decode cX5_addGuard 12 = .ok (.getfield 19, 3) := by decide +kernel
theorem dX5_addGuard_15 : decode cX5_addGuard 15 = .ok (.aload_n 0, 1) := by decide +kernel
theorem dX5_addGuard_16 : decode cX5_addGuard 16 = .ok (.getfield 34, 3) := by decide +kernel
theorem dX5_addGuard_19 : decode cX5_addGuard 19 = .ok (.aaload, 1) := by decide +kernel
theorem dX5_addGuard_20 : decode cX5_addGuard 20 = .ok (.astore 5, 2) := by decide +kernel
theorem dX5_addGuard_22 : decode cX5_addGuard 22 = .ok (.aload 5, 2) := by decide +kernel
theorem dX5_addGuard_24 : decode cX5_addGuard 24 = .ok (.ifnonnull 23, 3) := by decide +kernel
theorem dX5_addGuard_27 : decode cX5_addGuard 27 = .ok (.new 17, 3) := by decide +kernel
theorem dX5_addGuard_30 : decode cX5_addGuard 30 = .ok (.dup, 1) := by decide +kernel
theorem dX5_addGuard_31 : decode cX5_addGuard 31 = .ok (.invokespecial 65, 3) := by decide +kernel
theorem dX5_addGuard_34 : decode cX5_addGuard 34 = .ok (.astore 5, 2) := by decide +kernel
theorem dX5_addGuard_36 : decode cX5_addGuard 36 = .ok (.aload_n 0, 1) := by decide +kernel
theorem dX5_addGuard_37 : decode cX5_addGuard 37 = .ok (.getfield 19, 3) := by decide +kernel
theorem dX5_addGuard_40 : decode cX5_addGuard 40 = .ok (.aload_n 0, 1) := by decide +kernel
theorem dX5_addGuard_41 : decode cX5_addGuard 41 = .ok (.getfield 34, 3) := by decide +kernel
theorem dX5_addGuard_44 : decode cX5_addGuard 44 = .ok (.aload 5, 2) := by decide +kernel
theorem dX5_addGuard_46 : decode cX5_addGuard 46 = .ok (.aastore, 1) := by decide +kernel
theorem dX5_addGuard_47 : decode cX5_addGuard 47 = .ok (.aload 5, 2) := by decide +kernel
theorem dX5_addGuard_49 : decode cX5_addGuard 49 = .ok (.iload_n 1, 1) := by decide +kernel
theorem dX5_addGuard_50 : decode cX5_addGuard 50 = .ok (.putfield 66, 3) := by decide +kernel
theorem dX5_addGuard_53 : decode cX5_addGuard 53 = .ok (.aload 5, 2) := by decide +kernel
theorem dX5_addGuard_55 : decode cX5_addGuard 55 = .ok (.iload_n 2, 1) := by decide +kernel
theorem dX5_addGuard_56 : decode cX5_addGuard 56 = .ok (.putfield 69, 3) := by decide +kernel
theorem dX5_addGuard_59 : decode cX5_addGuard 59 = .ok (.aload 5, 2) := by decide +kernel
theorem dX5_addGuard_61 : decode cX5_addGuard 61 = .ok (.iload_n 3, 1) := by decide +kernel
theorem dX5_addGuard_62 : decode cX5_addGuard 62 = .ok (.putfield 72, 3) := by decide +kernel
theorem dX5_addGuard_65 : decode cX5_addGuard 65 = .ok (.aload 5, 2) := by decide +kernel
theorem dX5_addGuard_67 : decode cX5_addGuard 67 = .ok (.iload 4, 2) := by decide +kernel
theorem dX5_addGuard_69 : decode cX5_addGuard 69 = .ok (.putfield 75, 3) := by decide +kernel
theorem dX5_addGuard_72 : decode cX5_addGuard 72 = .ok (.aload_n 0, 1) := by decide +kernel
theorem dX5_addGuard_73 : decode cX5_addGuard 73 = .ok (.dup, 1) := by decide +kernel
theorem dX5_addGuard_74 : decode cX5_addGuard 74 = .ok (.getfield 34, 3) := by decide +kernel
theorem dX5_addGuard_77 : decode cX5_addGuard 77 = .ok (.iconst 1, 1) := by decide +kernel
theorem dX5_addGuard_78 : decode cX5_addGuard 78 = .ok (.iadd, 1) := by decide +kernel
theorem dX5_addGuard_79 : decode cX5_addGuard 79 = .ok (.putfield 34, 3) := by decide +kernel
theorem dX5_addGuard_82 : decode cX5_addGuard 82 = .ok (.aload_n 0, 1) := by decide +kernel
theorem dX5_addGuard_83 : decode cX5_addGuard 83 = .ok (.iconst 0, 1) := by decide +kernel
theorem dX5_addGuard_84 : decode cX5_addGuard 84 = .ok (.putfield 43, 3) := by decide +kernel
theorem dX5_addGuard_87 : decode cX5_addGuard 87 = .ok (.aload_n 0, 1) := by decide +kernel
theorem dX5_addGuard_88 : decode cX5_addGuard 88 = .ok (.getfield 34, 3) := by decide +kernel
theorem dX5_addGuard_91 : decode cX5_addGuard 91 = .ok (.iconst 1, 1) := by decide +kernel
theorem dX5_addGuard_92 : decode cX5_addGuard 92 = .ok (.isub, 1) := by decide +kernel
theorem dX5_addGuard_93 : decode cX5_addGuard 93 = .ok (.ireturn, 1) := by decide +kernel
theorem dX5_actAt_0 : decode cX5_actAt 0 = .ok (.iload_n 1, 1) := by decide +kernel
theorem dX5_actAt_1 : decode cX5_actAt 1 = .ok (.ifCond .lt 20, 3) := by decide +kernel
theorem dX5_actAt_4 : decode cX5_actAt 4 = .ok (.iload_n 1, 1) := by decide +kernel
theorem dX5_actAt_5 : decode cX5_actAt 5 = .ok (.aload_n 0, 1) := by decide +kernel
theorem dX5_actAt_6 : decode cX5_actAt 6 = .ok (.getfield 30, 3) := by decide +kernel
theorem dX5_actAt_9 : decode cX5_actAt 9 = .ok (.if_icmp .ge 12, 3) := by decide +kernel
theorem dX5_actAt_12 : decode cX5_actAt 12 = .ok (.aload_n 0, 1) := by decide +kernel
theorem dX5_actAt_13 : decode cX5_actAt 13 = .ok (.getfield 11, 3) := by decide +kernel
theorem dX5_actAt_16 : decode cX5_actAt 16 = .ok (.iload_n 1, 1) := by decide +kernel
theorem dX5_actAt_17 : decode cX5_actAt 17 = .ok (.aaload, 1) := by decide +kernel
theorem dX5_actAt_18 : decode cX5_actAt 18 = .ok (.goto 4, 3) := by decide +kernel
theorem dX5_actAt_21 : decode cX5_actAt 21 = .ok (.aconst_null, 1) := by decide +kernel
theorem dX5_actAt_22 : decode cX5_actAt 22 = .ok (.areturn, 1) := by decide +kernel
theorem dX5_guardOver_0 : decode cX5_guardOver 0 = .ok (.iload_n 1, 1) := by decide +kernel
theorem dX5_guardOver_1 : decode cX5_guardOver 1 = .ok (.ifCond .lt 20, 3) := by decide +kernel
theorem dX5_guardOver_4 : decode cX5_guardOver 4 = .ok (.iload_n 1, 1) := by decide +kernel
theorem dX5_guardOver_5 : decode cX5_guardOver 5 = .ok (.aload_n 0, 1) := by decide +kernel
theorem dX5_guardOver_6 : decode cX5_guardOver 6 = .ok (.getfield 34, 3) := by decide +kernel
theorem dX5_guardOver_9 : decode cX5_guardOver 9 = .ok (.if_icmp .ge 12, 3) := by decide +kernel
theorem dX5_guardOver_12 : decode cX5_guardOver 12 = .ok (.aload_n 0, 1) := by decide +kernel
theorem dX5_guardOver_13 : decode cX5_guardOver 13 = .ok (.getfield 19, 3) := by decide +kernel
theorem dX5_guardOver_16 : decode cX5_guardOver 16 = .ok (.iload_n 1, 1) := by decide +kernel
theorem dX5_guardOver_17 : decode cX5_guardOver 17 = .ok (.aaload, 1) := by decide +kernel
theorem dX5_guardOver_18 : decode cX5_guardOver 18 = .ok (.goto 4, 3) := by decide +kernel
theorem dX5_guardOver_21 : decode cX5_guardOver 21 = .ok (.aconst_null, 1) := by decide +kernel
theorem dX5_guardOver_22 : decode cX5_guardOver 22 = .ok (.astore_n 3, 1) := by decide +kernel
theorem dX5_guardOver_23 : decode cX5_guardOver 23 = .ok (.aload_n 3, 1) := by decide +kernel
theorem dX5_guardOver_24 : decode cX5_guardOver 24 = .ok (.ifnull 15, 3) := by decide +kernel
theorem dX5_guardOver_27 : decode cX5_guardOver 27 = .ok (.aload_n 3, 1) := by decide +kernel
theorem dX5_guardOver_28 : decode cX5_guardOver 28 = .ok (.iload_n 2, 1) := by decide +kernel
theorem dX5_guardOver_29 : decode cX5_guardOver 29 = .ok (.invokevirtual 78, 3) := by decide +kernel
theorem dX5_guardOver_32 : decode cX5_guardOver 32 = .ok (.ifCond .eq 7, 3) := by decide +kernel
theorem dX5_guardOver_35 : decode cX5_guardOver 35 = .ok (.aload_n 3, 1) := by decide +kernel
theorem dX5_guardOver_36 : decode cX5_guardOver 36 = .ok (.goto 4, 3) := by decide +kernel
theorem dX5_guardOver_39 : decode cX5_guardOver 39 = .ok (.aconst_null, 1) := by decide +kernel
theorem dX5_guardOver_40 : decode cX5_guardOver 40 = .ok (.areturn, 1) := by decide +kernel
theorem dX5_hasPlace_0 : decode cX5_hasPlace 0 = .ok (.iload_n 1, 1) := by decide +kernel
theorem dX5_hasPlace_1 : decode cX5_hasPlace 1 = .ok (.ifCond .lt 15, 3) := by decide +kernel
theorem dX5_hasPlace_4 : decode cX5_hasPlace 4 = .ok (.iload_n 1, 1) := by decide +kernel
theorem dX5_hasPlace_5 : decode cX5_hasPlace 5 = .ok (.aload_n 0, 1) := by decide +kernel
theorem dX5_hasPlace_6 : decode cX5_hasPlace 6 = .ok (.getfield 37, 3) := by decide +kernel
theorem dX5_hasPlace_9 : decode cX5_hasPlace 9 = .ok (.if_icmp .ge 7, 3) := by decide +kernel
theorem dX5_hasPlace_12 : decode cX5_hasPlace 12 = .ok (.iconst 1, 1) := by decide +kernel
theorem dX5_hasPlace_13 : decode cX5_hasPlace 13 = .ok (.goto 4, 3) := by decide +kernel
theorem dX5_hasPlace_16 : decode cX5_hasPlace 16 = .ok (.iconst 0, 1) := by decide +kernel
theorem dX5_hasPlace_17 : decode cX5_hasPlace 17 = .ok (.ireturn, 1) := by decide +kernel
theorem dX5_isUnmadeOf_0 : decode cX5_isUnmadeOf 0 = .ok (.aload_n 0, 1) := by decide +kernel
theorem dX5_isUnmadeOf_1 : decode cX5_isUnmadeOf 1 = .ok (.iload_n 1, 1) := by decide +kernel
theorem dX5_isUnmadeOf_2 : decode cX5_isUnmadeOf 2 = .ok (.bipush 100, 2) := by decide +kernel
theorem dX5_isUnmadeOf_4 : decode cX5_isUnmadeOf 4 = .ok (.isub, 1) := by decide +kernel
theorem dX5_isUnmadeOf_5 : decode cX5_isUnmadeOf 5 = .ok (.invokevirtual 82, 3) := by decide +kernel
theorem dX5_isUnmadeOf_8 : decode cX5_isUnmadeOf 8 = .ok (.astore_n 3, 1) := by decide +kernel
theorem dX5_isUnmadeOf_9 : decode cX5_isUnmadeOf 9 = .ok (.aload_n 3, 1) := by decide +kernel
theorem dX5_isUnmadeOf_10 : decode cX5_isUnmadeOf 10 = .ok (.ifnull 24, 3) := by decide +kernel
theorem dX5_isUnmadeOf_13 : decode cX5_isUnmadeOf 13 = .ok (.aload_n 3, 1) := by decide +kernel
theorem dX5_isUnmadeOf_14 : decode cX5_isUnmadeOf 14 = .ok (.getfield 86, 3) := by decide +kernel
theorem dX5_isUnmadeOf_17 : decode cX5_isUnmadeOf 17 = .ok (.bipush 9, 2) := by decide +kernel
theorem dX5_isUnmadeOf_19 : decode cX5_isUnmadeOf 19 = .ok (.if_icmp .ne 15, 3) := by decide +kernel
theorem dX5_isUnmadeOf_22 : decode cX5_isUnmadeOf 22 = .ok (.aload_n 3, 1) := by decide +kernel
theorem dX5_isUnmadeOf_23 : decode cX5_isUnmadeOf 23 = .ok (.getfield 89, 3) := by decide +kernel
theorem dX5_isUnmadeOf_26 : decode cX5_isUnmadeOf 26 = .ok (.iload_n 2, 1) := by decide +kernel
theorem dX5_isUnmadeOf_27 : decode cX5_isUnmadeOf 27 = .ok (.if_icmp .ne 7, 3) := by decide +kernel
theorem dX5_isUnmadeOf_30 : decode cX5_isUnmadeOf 30 = .ok (.iconst 1, 1) := by decide +kernel
theorem dX5_isUnmadeOf_31 : decode cX5_isUnmadeOf 31 = .ok (.goto 4, 3) := by decide +kernel
theorem dX5_isUnmadeOf_34 : decode cX5_isUnmadeOf 34 = .ok (.iconst 0, 1) := by decide +kernel
theorem dX5_isUnmadeOf_35 : decode cX5_isUnmadeOf 35 = .ok (.ireturn, 1) := by decide +kernel
theorem dX5_forgetComputed_0 : decode cX5_forgetComputed 0 = .ok (.aload_n 0, 1) := by decide +kernel
theorem dX5_forgetComputed_1 : decode cX5_forgetComputed 1 = .ok (.iconst 0, 1) := by decide +kernel
theorem dX5_forgetComputed_2 : decode cX5_forgetComputed 2 = .ok (.putfield 43, 3) := by decide +kernel
theorem dX5_forgetComputed_5 : decode cX5_forgetComputed 5 = .ok (.aload_n 0, 1) := by decide +kernel
theorem dX5_forgetComputed_6 : decode cX5_forgetComputed 6 = .ok (.iconst 0, 1) := by decide +kernel
theorem dX5_forgetComputed_7 : decode cX5_forgetComputed 7 = .ok (.putfield 47, 3) := by decide +kernel
theorem dX5_forgetComputed_10 : decode cX5_forgetComputed 10 = .ok (.aload_n 0, 1) := by decide +kernel
theorem dX5_forgetComputed_11 : decode cX5_forgetComputed 11 = .ok (.aload_n 0, 1) := by decide +kernel
theorem dX5_forgetComputed_12 : decode cX5_forgetComputed 12 = .ok (.getfield 40, 3) := by decide +kernel
theorem dX5_forgetComputed_15 : decode cX5_forgetComputed 15 = .ok (.putfield 50, 3) := by decide +kernel
theorem dX5_forgetComputed_18 : decode cX5_forgetComputed 18 = .ok (.iconst 0, 1) := by decide +kernel
theorem dX5_forgetComputed_19 : decode cX5_forgetComputed 19 = .ok (.istore_n 1, 1) := by decide +kernel
theorem dX5_forgetComputed_20 : decode cX5_forgetComputed 20 = .ok (.iload_n 1, 1) := by decide +kernel
theorem dX5_forgetComputed_21 : decode cX5_forgetComputed 21 = .ok (.aload_n 0, 1) := by decide +kernel
theorem dX5_forgetComputed_22 : decode cX5_forgetComputed 22 = .ok (.getfield 30, 3) := by decide +kernel
theorem dX5_forgetComputed_25 : decode cX5_forgetComputed 25 = .ok (.if_icmp .ge 23, 3) := by decide +kernel
theorem dX5_forgetComputed_28 : decode cX5_forgetComputed 28 = .ok (.aload_n 0, 1) := by decide +kernel
theorem dX5_forgetComputed_29 : decode cX5_forgetComputed 29 = .ok (.iload_n 1, 1) := by decide +kernel
theorem dX5_forgetComputed_30 : decode cX5_forgetComputed 30 = .ok (.invokevirtual 82, 3) := by decide +kernel
theorem dX5_forgetComputed_33 : decode cX5_forgetComputed 33 = .ok (.astore_n 2, 1) := by decide +kernel
theorem dX5_forgetComputed_34 : decode cX5_forgetComputed 34 = .ok (.aload_n 2, 1) := by decide +kernel
theorem dX5_forgetComputed_35 : decode cX5_forgetComputed 35 = .ok (.ifnull 7, 3) := by decide +kernel
theorem dX5_forgetComputed_38 : decode cX5_forgetComputed 38 = .ok (.aload_n 2, 1) := by decide +kernel
theorem dX5_forgetComputed_39 : decode cX5_forgetComputed 39 = .ok (.invokevirtual 92, 3) := by decide +kernel
theorem dX5_forgetComputed_42 : decode cX5_forgetComputed 42 = .ok (.iinc 1 1, 3) := by decide +kernel
theorem dX5_forgetComputed_45 : decode cX5_forgetComputed 45 = .ok (.goto (-25), 3) := by decide +kernel
theorem dX5_forgetComputed_48 : decode cX5_forgetComputed 48 = .ok (.return_, 1) := by decide +kernel
theorem dX5_leastDue_0 : decode cX5_leastDue 0 = .ok (.iconst 0, 1) := by decide +kernel
theorem dX5_leastDue_1 : decode cX5_leastDue 1 = .ok (.istore_n 1, 1) := by decide +kernel
theorem dX5_leastDue_2 : decode cX5_leastDue 2 = .ok (.iload_n 1, 1) := by decide +kernel
theorem dX5_leastDue_3 : decode cX5_leastDue 3 = .ok (.aload_n 0, 1) := by decide +kernel
theorem dX5_leastDue_4 : decode cX5_leastDue 4 = .ok (.getfield 30, 3) := by decide +kernel
theorem dX5_leastDue_7 : decode cX5_leastDue 7 = .ok (.if_icmp .ge 28, 3) := by decide +kernel
theorem dX5_leastDue_10 : decode cX5_leastDue 10 = .ok (.aload_n 0, 1) := by decide +kernel
theorem dX5_leastDue_11 : decode cX5_leastDue 11 = .ok (.iload_n 1, 1) := by decide +kernel
theorem dX5_leastDue_12 : decode cX5_leastDue 12 = .ok (.invokevirtual 82, 3) := by decide +kernel
theorem dX5_leastDue_15 : decode cX5_leastDue 15 = .ok (.astore_n 2, 1) := by decide +kernel
theorem dX5_leastDue_16 : decode cX5_leastDue 16 = .ok (.aload_n 2, 1) := by decide +kernel
theorem dX5_leastDue_17 : decode cX5_leastDue 17 = .ok (.ifnull 12, 3) := by decide +kernel
theorem dX5_leastDue_20 : decode cX5_leastDue 20 = .ok (.aload_n 2, 1) := by decide +kernel
theorem dX5_leastDue_21 : decode cX5_leastDue 21 = .ok (.getfield 95, 3) := by decide +kernel
theorem dX5_leastDue_24 : decode cX5_leastDue 24 = .ok (.ifCond .eq 5, 3) := by decide +kernel
theorem dX5_leastDue_27 : decode cX5_leastDue 27 = .ok (.iload_n 1, 1) := by decide +kernel
theorem dX5_leastDue_28 : decode cX5_leastDue 28 = .ok (.ireturn, 1) := by decide +kernel
theorem dX5_leastDue_29 : decode cX5_leastDue 29 = .ok (.iinc 1 1, 3) := by decide +kernel
theorem dX5_leastDue_32 : decode cX5_leastDue 32 = .ok (.goto (-30), 3) := by decide +kernel
theorem dX5_leastDue_35 : decode cX5_leastDue 35 = .ok (.iconst (-1), 1) := by decide +kernel
theorem dX5_leastDue_36 : decode cX5_leastDue 36 = .ok (.ireturn, 1) := by decide +kernel
theorem dX5_noteStack_0 : decode cX5_noteStack 0 = .ok (.aload_n 0, 1) := by decide +kernel
theorem dX5_noteStack_1 : decode cX5_noteStack 1 = .ok (.aload_n 0, 1) := by decide +kernel
theorem dX5_noteStack_2 : decode cX5_noteStack 2 = .ok (.getfield 47, 3) := by decide +kernel
theorem dX5_noteStack_5 : decode cX5_noteStack 5 = .ok (.aload_n 1, 1) := by decide +kernel
theorem dX5_noteStack_6 : decode cX5_noteStack 6 = .ok (.invokevirtual 98, 3) := by decide +kernel
theorem dX5_noteStack_9 : decode cX5_noteStack 9 = .ok (.invokestatic 102, 3) := by decide +kernel
theorem dX5_noteStack_12 : decode cX5_noteStack 12 = .ok (.putfield 47, 3) := by decide +kernel
theorem dX5_noteStack_15 : decode cX5_noteStack 15 = .ok (.return_, 1) := by decide +kernel
theorem dX5_notePlaces_0 : decode cX5_notePlaces 0 = .ok (.aload_n 1, 1) := by decide +kernel
theorem dX5_notePlaces_1 : decode cX5_notePlaces 1 = .ok (.invokevirtual 108, 3) := by decide +kernel
theorem dX5_notePlaces_4 : decode cX5_notePlaces 4 = .ok (.ifCond .eq 40, 3) := by decide +kernel
theorem dX5_notePlaces_7 : decode cX5_notePlaces 7 = .ok (.aload_n 2, 1) := by decide +kernel
theorem dX5_notePlaces_8 : decode cX5_notePlaces 8 = .ok (.aload_n 1, 1) := by decide +kernel
theorem dX5_notePlaces_9 : decode cX5_notePlaces 9 = .ok (.getfield 89, 3) := by decide +kernel
theorem dX5_notePlaces_12 : decode cX5_notePlaces 12 = .ok (.invokevirtual 112, 3) := by decide +kernel
theorem dX5_notePlaces_15 : decode cX5_notePlaces 15 = .ok (.iconst 2, 1) := by decide +kernel
theorem dX5_notePlaces_16 : decode cX5_notePlaces 16 = .ok (.if_icmp .ne 7, 3) := by decide +kernel
theorem dX5_notePlaces_19 : decode cX5_notePlaces 19 = .ok (.iconst 1, 1) := by decide +kernel
theorem dX5_notePlaces_20 : decode cX5_notePlaces 20 = .ok (.goto 4, 3) := by decide +kernel
theorem dX5_notePlaces_23 : decode cX5_notePlaces 23 = .ok (.iconst 0, 1) := by decide +kernel
theorem dX5_notePlaces_24 : decode cX5_notePlaces 24 = .ok (.istore_n 3, 1) := by decide +kernel
theorem dX5_notePlaces_25 : decode cX5_notePlaces 25 = .ok (.aload_n 0, 1) := by decide +kernel
theorem dX5_notePlaces_26 : decode cX5_notePlaces 26 = .ok (.aload_n 0, 1) := by decide +kernel
theorem dX5_notePlaces_27 : decode cX5_notePlaces 27 = .ok (.getfield 50, 3) := by decide +kernel
theorem dX5_notePlaces_30 : decode cX5_notePlaces 30 = .ok (.aload_n 1, 1) := by decide +kernel
theorem dX5_notePlaces_31 : decode cX5_notePlaces 31 = .ok (.getfield 89, 3) := by decide +kernel
theorem dX5_notePlaces_34 : decode cX5_notePlaces 34 = .ok (.iconst 1, 1) := by decide +kernel
theorem dX5_notePlaces_35 : decode cX5_notePlaces 35 = .ok (.iadd, 1) := by decide +kernel
theorem dX5_notePlaces_36 : decode cX5_notePlaces 36 = .ok (.iload_n 3, 1) := by decide +kernel
theorem dX5_notePlaces_37 : decode cX5_notePlaces 37 = .ok (.iadd, 1) := by decide +kernel
theorem dX5_notePlaces_38 : decode cX5_notePlaces 38 = .ok (.invokestatic 102, 3) := by decide +kernel
theorem dX5_notePlaces_41 : decode cX5_notePlaces 41 = .ok (.putfield 50, 3) := by decide +kernel
theorem dX5_notePlaces_44 : decode cX5_notePlaces 44 = .ok (.return_, 1) := by decide +kernel
theorem dX5_leads_0 : decode cX5_leads 0 = .ok (.aload_n 0, 1) := by decide +kernel
theorem dX5_leads_1 : decode cX5_leads 1 = .ok (.iload_n 1, 1) := by decide +kernel
theorem dX5_leads_2 : decode cX5_leads 2 = .ok (.invokevirtual 82, 3) := by decide +kernel
theorem dX5_leads_5 : decode cX5_leads 5 = .ok (.astore_n 3, 1) := by decide +kernel
theorem dX5_leads_6 : decode cX5_leads 6 = .ok (.aload_n 3, 1) := by decide +kernel
theorem dX5_leads_7 : decode cX5_leads 7 = .ok (.ifnull 10, 3) := by decide +kernel
theorem dX5_leads_10 : decode cX5_leads 10 = .ok (.aload_n 3, 1) := by decide +kernel
theorem dX5_leads_11 : decode cX5_leads 11 = .ok (.getfield 116, 3) := by decide +kernel
theorem dX5_leads_14 : decode cX5_leads 14 = .ok (.ifCond .ne 5, 3) := by decide +kernel
theorem dX5_leads_17 : decode cX5_leads 17 = .ok (.iconst 0, 1) := by decide +kernel
theorem dX5_leads_18 : decode cX5_leads 18 = .ok (.ireturn, 1) := by decide +kernel
theorem dX5_leads_19 : decode cX5_leads 19 = .ok (.aload_n 3, 1) := by decide +kernel
theorem dX5_leads_20 : decode cX5_leads 20 = .ok (.iload_n 2, 1) := by decide +kernel
theorem dX5_leads_21 : decode cX5_leads 21 = .ok (.invokevirtual 119, 3) := by decide +kernel
theorem dX5_leads_24 : decode cX5_leads 24 = .ok (.ifCond .eq 5, 3) := by decide +kernel
theorem dX5_leads_27 : decode cX5_leads 27 = .ok (.iconst 1, 1) := by decide +kernel
theorem dX5_leads_28 : decode cX5_leads 28 = .ok (.ireturn, 1) := by decide +kernel
theorem dX5_leads_29 : decode cX5_leads 29 = .ok (.iconst 0, 1) := by decide +kernel
theorem dX5_leads_30 : decode cX5_leads 30 = .ok (.istore 4, 2) := by decide +kernel
theorem dX5_leads_32 : decode cX5_leads 32 = .ok (.iload 4, 2) := by decide +kernel
theorem dX5_leads_34 : decode cX5_leads 34 = .ok (.aload_n 0, 1) := by decide +kernel
theorem dX5_leads_35 : decode cX5_leads 35 = .ok (.getfield 34, 3) := by decide +kernel
theorem dX5_leads_38 : decode cX5_leads 38 = .ok (.if_icmp .ge 34, 3) := by decide +kernel
theorem dX5_leads_41 : decode cX5_leads 41 = .ok (.aload_n 0, 1) := by decide +kernel
theorem dX5_leads_42 : decode cX5_leads 42 = .ok (.iload 4, 2) := by decide +kernel
theorem dX5_leads_44 : decode cX5_leads 44 = .ok (.iload_n 1, 1) := by decide +kernel
theorem dX5_leads_45 : decode cX5_leads 45 = .ok (.invokevirtual 122, 3) := by decide +kernel
theorem dX5_leads_48 : decode cX5_leads 48 = .ok (.astore 5, 2) := by decide +kernel
theorem dX5_leads_50 : decode cX5_leads 50 = .ok (.aload 5, 2) := by decide +kernel
theorem dX5_leads_52 : decode cX5_leads 52 = .ok (.ifnull 14, 3) := by decide +kernel
theorem dX5_leads_55 : decode cX5_leads 55 = .ok (.aload 5, 2) := by decide +kernel
theorem dX5_leads_57 : decode cX5_leads 57 = .ok (.getfield 72, 3) := by decide +kernel
theorem dX5_leads_60 : decode cX5_leads 60 = .ok (.iload_n 2, 1) := by decide +kernel
theorem dX5_leads_61 : decode cX5_leads 61 = .ok (.if_icmp .ne 5, 3) := by decide +kernel
theorem dX5_leads_64 : decode cX5_leads 64 = .ok (.iconst 1, 1) := by decide +kernel
theorem dX5_leads_65 : decode cX5_leads 65 = .ok (.ireturn, 1) := by decide +kernel
theorem dX5_leads_66 : decode cX5_leads 66 = .ok (.iinc 4 1, 3) := by decide +kernel
theorem dX5_leads_69 : decode cX5_leads 69 = .ok (.goto (-37), 3) := by decide +kernel
theorem dX5_leads_72 : decode cX5_leads 72 = .ok (.iconst 0, 1) := by decide +kernel
theorem dX5_leads_73 : decode cX5_leads 73 = .ok (.ireturn, 1) := by decide +kernel
theorem dX5_countSources_0 : decode cX5_countSources 0 = .ok (.iconst 0, 1) := by decide +kernel
theorem dX5_countSources_1 : decode cX5_countSources 1 = .ok (.istore_n 2, 1) := by decide +kernel
theorem dX5_countSources_2 : decode cX5_countSources 2 = .ok (.iconst 0, 1) := by decide +kernel
theorem dX5_countSources_3 : decode cX5_countSources 3 = .ok (.istore_n 3, 1) := by decide +kernel
theorem dX5_countSources_4 : decode cX5_countSources 4 = .ok (.iload_n 3, 1) := by decide +kernel
theorem dX5_countSources_5 : decode cX5_countSources 5 = .ok (.aload_n 0, 1) := by decide +kernel
theorem dX5_countSources_6 : decode cX5_countSources 6 = .ok (.getfield 30, 3) := by decide +kernel
theorem dX5_countSources_9 : decode cX5_countSources 9 = .ok (.if_icmp .ge 21, 3) := by decide +kernel
theorem dX5_countSources_12 : decode cX5_countSources 12 = .ok (.aload_n 0, 1) := by decide +kernel
theorem dX5_countSources_13 : decode cX5_countSources 13 = .ok (.iload_n 3, 1) := by decide +kernel
theorem dX5_countSources_14 : decode cX5_countSources 14 = .ok (.iload_n 1, 1) := by decide +kernel
theorem dX5_countSources_15 : decode cX5_countSources 15 = .ok (.invokevirtual 126, 3) := by decide +kernel
theorem dX5_countSources_18 : decode cX5_countSources 18 = .ok (.ifCond .eq 6, 3) := by decide +kernel
theorem dX5_countSources_21 : decode cX5_countSources 21 = .ok (.iinc 2 1, 3) := by decide +kernel
theorem dX5_countSources_24 : decode cX5_countSources 24 = .ok (.iinc 3 1, 3) := by decide +kernel
theorem dX5_countSources_27 : decode cX5_countSources 27 = .ok (.goto (-23), 3) := by decide +kernel
theorem dX5_countSources_30 : decode cX5_countSources 30 = .ok (.iload_n 2, 1) := by decide +kernel
theorem dX5_countSources_31 : decode cX5_countSources 31 = .ok (.ireturn, 1) := by decide +kernel
theorem dX5_setFrames_0 : decode cX5_setFrames 0 = .ok (.iconst 0, 1) := by decide +kernel
theorem dX5_setFrames_1 : decode cX5_setFrames 1 = .ok (.istore_n 1, 1) := by decide +kernel
theorem dX5_setFrames_2 : decode cX5_setFrames 2 = .ok (.iload_n 1, 1) := by decide +kernel
theorem dX5_setFrames_3 : decode cX5_setFrames 3 = .ok (.aload_n 0, 1) := by decide +kernel
theorem dX5_setFrames_4 : decode cX5_setFrames 4 = .ok (.getfield 30, 3) := by decide +kernel
theorem dX5_setFrames_7 : decode cX5_setFrames 7 = .ok (.if_icmp .ge 50, 3) := by decide +kernel
theorem dX5_setFrames_10 : decode cX5_setFrames 10 = .ok (.aload_n 0, 1) := by decide +kernel
theorem dX5_setFrames_11 : decode cX5_setFrames 11 = .ok (.iload_n 1, 1) := by decide +kernel
theorem dX5_setFrames_12 : decode cX5_setFrames 12 = .ok (.invokevirtual 82, 3) := by decide +kernel
theorem dX5_setFrames_15 : decode cX5_setFrames 15 = .ok (.astore_n 2, 1) := by decide +kernel
theorem dX5_setFrames_16 : decode cX5_setFrames 16 = .ok (.aload_n 2, 1) := by decide +kernel
theorem dX5_setFrames_17 : decode cX5_setFrames 17 = .ok (.ifnull 34, 3) := by decide +kernel
theorem dX5_setFrames_20 : decode cX5_setFrames 20 = .ok (.aload_n 2, 1) := by decide +kernel
theorem dX5_setFrames_21 : decode cX5_setFrames 21 = .ok (.getfield 116, 3) := by decide +kernel
theorem dX5_setFrames_24 : decode cX5_setFrames 24 = .ok (.ifCond .eq 27, 3) := by decide +kernel
theorem dX5_setFrames_27 : decode cX5_setFrames 27 = .ok (.aload_n 0, 1) := by decide +kernel
theorem dX5_setFrames_28 : decode cX5_setFrames 28 = .ok (.iload_n 1, 1) := by decide +kernel
theorem dX5_setFrames_29 : decode cX5_setFrames 29 = .ok (.invokevirtual 130, 3) := by decide +kernel
theorem dX5_setFrames_32 : decode cX5_setFrames 32 = .ok (.ifCond .le 19, 3) := by decide +kernel
theorem dX5_setFrames_35 : decode cX5_setFrames 35 = .ok (.aload_n 2, 1) := by decide +kernel
theorem dX5_setFrames_36 : decode cX5_setFrames 36 = .ok (.iconst 1, 1) := by decide +kernel
theorem dX5_setFrames_37 : decode cX5_setFrames 37 = .ok (.putfield 133, 3) := by decide +kernel
theorem dX5_setFrames_40 : decode cX5_setFrames 40 = .ok (.aload_n 2, 1) := by decide +kernel
theorem dX5_setFrames_41 : decode cX5_setFrames 41 = .ok (.getfield 136, 3) := by decide +kernel
theorem dX5_setFrames_44 : decode cX5_setFrames 44 = .ok (.aload_n 2, 1) := by decide +kernel
theorem dX5_setFrames_45 : decode cX5_setFrames 45 = .ok (.getfield 139, 3) := by decide +kernel
theorem dX5_setFrames_48 : decode cX5_setFrames 48 = .ok (.invokevirtual 142, 3) := by decide +kernel
theorem dX5_setFrames_51 : decode cX5_setFrames 51 = .ok (.iinc 1 1, 3) := by decide +kernel
theorem dX5_setFrames_54 : decode cX5_setFrames 54 = .ok (.goto (-52), 3) := by decide +kernel
theorem dX5_setFrames_57 : decode cX5_setFrames 57 = .ok (.return_, 1) := by decide +kernel
theorem dX5_frameCount_0 : decode cX5_frameCount 0 = .ok (.iconst 0, 1) := by decide +kernel
theorem dX5_frameCount_1 : decode cX5_frameCount 1 = .ok (.istore_n 1, 1) := by decide +kernel
theorem dX5_frameCount_2 : decode cX5_frameCount 2 = .ok (.iconst 0, 1) := by decide +kernel
theorem dX5_frameCount_3 : decode cX5_frameCount 3 = .ok (.istore_n 2, 1) := by decide +kernel
theorem dX5_frameCount_4 : decode cX5_frameCount 4 = .ok (.iload_n 2, 1) := by decide +kernel
theorem dX5_frameCount_5 : decode cX5_frameCount 5 = .ok (.aload_n 0, 1) := by decide +kernel
theorem dX5_frameCount_6 : decode cX5_frameCount 6 = .ok (.getfield 30, 3) := by decide +kernel
theorem dX5_frameCount_9 : decode cX5_frameCount 9 = .ok (.if_icmp .ge 29, 3) := by decide +kernel
theorem dX5_frameCount_12 : decode cX5_frameCount 12 = .ok (.aload_n 0, 1) := by decide +kernel
theorem dX5_frameCount_13 : decode cX5_frameCount 13 = .ok (.iload_n 2, 1) := by decide +kernel
theorem dX5_frameCount_14 : decode cX5_frameCount 14 = .ok (.invokevirtual 82, 3) := by decide +kernel
theorem dX5_frameCount_17 : decode cX5_frameCount 17 = .ok (.astore_n 3, 1) := by decide +kernel
theorem dX5_frameCount_18 : decode cX5_frameCount 18 = .ok (.aload_n 3, 1) := by decide +kernel
theorem dX5_frameCount_19 : decode cX5_frameCount 19 = .ok (.ifnull 13, 3) := by decide +kernel
theorem dX5_frameCount_22 : decode cX5_frameCount 22 = .ok (.aload_n 3, 1) := by decide +kernel
theorem dX5_frameCount_23 : decode cX5_frameCount 23 = .ok (.getfield 133, 3) := by decide +kernel
theorem dX5_frameCount_26 : decode cX5_frameCount 26 = .ok (.ifCond .eq 6, 3) := by decide +kernel
theorem dX5_frameCount_29 : decode cX5_frameCount 29 = .ok (.iinc 1 1, 3) := by decide +kernel
theorem dX5_frameCount_32 : decode cX5_frameCount 32 = .ok (.iinc 2 1, 3) := by decide +kernel
theorem dX5_frameCount_35 : decode cX5_frameCount 35 = .ok (.goto (-31), 3) := by decide +kernel
theorem dX5_frameCount_38 : decode cX5_frameCount 38 = .ok (.iload_n 1, 1) := by decide +kernel
theorem dX5_frameCount_39 : decode cX5_frameCount 39 = .ok (.ireturn, 1) := by decide +kernel
theorem dX5_actOfFrame_0 : decode cX5_actOfFrame 0 = .ok (.iconst 0, 1) := by decide +kernel
theorem dX5_actOfFrame_1 : decode cX5_actOfFrame 1 = .ok (.istore_n 2, 1) := by decide +kernel
theorem dX5_actOfFrame_2 : decode cX5_actOfFrame 2 = .ok (.iconst 0, 1) := by decide +kernel
theorem dX5_actOfFrame_3 : decode cX5_actOfFrame 3 = .ok (.istore_n 3, 1) := by decide +kernel
theorem dX5_actOfFrame_4 : decode cX5_actOfFrame 4 = .ok (.iload_n 3, 1) := by decide +kernel
theorem dX5_actOfFrame_5 : decode cX5_actOfFrame 5 = .ok (.aload_n 0, 1) := by decide +kernel
theorem dX5_actOfFrame_6 : decode cX5_actOfFrame 6 = .ok (.getfield 30, 3) := by decide +kernel
theorem dX5_actOfFrame_9 : decode cX5_actOfFrame 9 = .ok (.if_icmp .ge 39, 3) := by decide +kernel
theorem dX5_actOfFrame_12 : decode cX5_actOfFrame 12 = .ok (.aload_n 0, 1) := by decide +kernel
theorem dX5_actOfFrame_13 : decode cX5_actOfFrame 13 = .ok (.iload_n 3, 1) := by decide +kernel
theorem dX5_actOfFrame_14 : decode cX5_actOfFrame 14 = .ok (.invokevirtual 82, 3) := by decide +kernel
theorem dX5_actOfFrame_17 : decode cX5_actOfFrame 17 = .ok (.astore 4, 2) := by decide +kernel
theorem dX5_actOfFrame_19 : decode cX5_actOfFrame 19 = .ok (.aload 4, 2) := by decide +kernel
theorem dX5_actOfFrame_21 : decode cX5_actOfFrame 21 = .ok (.ifnull 21, 3) := by decide +kernel
theorem dX5_actOfFrame_24 : decode cX5_actOfFrame 24 = .ok (.aload 4, 2) := by decide +kernel
theorem dX5_actOfFrame_26 : decode cX5_actOfFrame 26 = .ok (.getfield 133, 3) := by decide +kernel
theorem dX5_actOfFrame_29 : decode cX5_actOfFrame 29 = .ok (.ifCond .eq 13, 3) := by decide +kernel
theorem dX5_actOfFrame_32 : decode cX5_actOfFrame 32 = .ok (.iload_n 2, 1) := by decide +kernel
theorem dX5_actOfFrame_33 : decode cX5_actOfFrame 33 = .ok (.iload_n 1, 1) := by decide +kernel
theorem dX5_actOfFrame_34 : decode cX5_actOfFrame 34 = .ok (.if_icmp .ne 5, 3) := by decide +kernel
theorem dX5_actOfFrame_37 : decode cX5_actOfFrame 37 = .ok (.iload_n 3, 1) := by decide +kernel
theorem dX5_actOfFrame_38 : decode cX5_actOfFrame 38 = .ok (.ireturn, 1) := by decide +kernel
theorem dX5_actOfFrame_39 : decode cX5_actOfFrame 39 = .ok (.iinc 2 1, 3) := by decide +kernel
theorem dX5_actOfFrame_42 : decode cX5_actOfFrame 42 = .ok (.iinc 3 1, 3) := by decide +kernel
theorem dX5_actOfFrame_45 : decode cX5_actOfFrame 45 = .ok (.goto (-41), 3) := by decide +kernel
theorem dX5_actOfFrame_48 : decode cX5_actOfFrame 48 = .ok (.iconst (-1), 1) := by decide +kernel
theorem dX5_actOfFrame_49 : decode cX5_actOfFrame 49 = .ok (.ireturn, 1) := by decide +kernel
theorem dX6_init_0 : decode cX6_init 0 = .ok (.aload_n 0, 1) := by decide +kernel
theorem dX6_init_1 : decode cX6_init 1 = .ok (.invokespecial 3, 3) := by decide +kernel
theorem dX6_init_4 : decode cX6_init 4 = .ok (.aload_n 0, 1) := by decide +kernel
theorem dX6_init_5 : decode cX6_init 5 = .ok (.bipush 8, 2) := by decide +kernel
theorem dX6_init_7 : decode cX6_init 7 = .ok (.newarray .int, 2) := by decide +kernel
theorem dX6_init_9 : decode cX6_init 9 = .ok (.putfield 9, 3) := by decide +kernel
theorem dX6_init_12 : decode cX6_init 12 = .ok (.aload_n 0, 1) := by decide +kernel
theorem dX6_init_13 : decode cX6_init 13 = .ok (.bipush 10, 2) := by decide +kernel
theorem dX6_init_15 : decode cX6_init 15 = .ok (.newarray .int, 2) := by decide +kernel
theorem dX6_init_17 : decode cX6_init 17 = .ok (.putfield 15, 3) := by decide +kernel
theorem dX6_init_20 : decode cX6_init 20 = .ok (.aload_n 0, 1) := by decide +kernel
theorem dX6_init_21 : decode cX6_init 21 = .ok (.iconst 0, 1) := by decide +kernel
theorem dX6_init_22 : decode cX6_init 22 = .ok (.putfield 18, 3) := by decide +kernel
theorem dX6_init_25 : decode cX6_init 25 = .ok (.return_, 1) := by decide +kernel
theorem dX6_empty_0 : decode cX6_empty 0 = .ok (.iconst 0, 1) := by decide +kernel
theorem dX6_empty_1 : decode cX6_empty 1 = .ok (.istore_n 1, 1) := by decide +kernel
theorem dX6_empty_2 : decode cX6_empty 2 = .ok (.iload_n 1, 1) := by decide +kernel
theorem dX6_empty_3 : decode cX6_empty 3 = .ok (.bipush 8, 2) := by decide +kernel
end
section
theorem dX6_empty_5 : decode cX6_empty 5 = .ok (.if_icmp .ge 16, 3) := by decide +kernel
theorem dX6_empty_8 : decode cX6_empty 8 = .ok (.aload_n 0, 1) := by decide +kernel
theorem dX6_empty_9 : decode cX6_empty 9 = .ok (.getfield 9, 3) := by decide +kernel
theorem dX6_empty_12 : decode cX6_empty 12 = .ok (.iload_n 1, 1) := by decide +kernel
theorem dX6_empty_13 : decode cX6_empty 13 = .ok (.iconst 0, 1) := by decide +kernel
theorem dX6_empty_14 : decode cX6_empty 14 = .ok (.iastore, 1) := by decide +kernel
theorem dX6_empty_15 : decode cX6_empty 15 = .ok (.iinc 1 1, 3) := by decide +kernel
theorem dX6_empty_18 : decode cX6_empty 18 = .ok (.goto (-16), 3) := by decide +kernel
theorem dX6_empty_21 : decode cX6_empty 21 = .ok (.aload_n 0, 1) := by decide +kernel
theorem dX6_empty_22 : decode cX6_empty 22 = .ok (.iconst 0, 1) := by decide +kernel
theorem dX6_empty_23 : decode cX6_empty 23 = .ok (.putfield 18, 3) := by decide +kernel
theorem dX6_empty_26 : decode cX6_empty 26 = .ok (.return_, 1) := by decide +kernel
theorem dX6_become_0 : decode cX6_become 0 = .ok (.aload_n 1, 1) := by decide +kernel
theorem dX6_become_1 : decode cX6_become 1 = .ok (.getfield 9, 3) := by decide +kernel
theorem dX6_become_4 : decode cX6_become 4 = .ok (.iconst 0, 1) := by decide +kernel
theorem dX6_become_5 : decode cX6_become 5 = .ok (.aload_n 0, 1) := by decide +kernel
theorem dX6_become_6 : decode cX6_become 6 = .ok (.getfield 9, 3) := by decide +kernel
theorem dX6_become_9 : decode cX6_become 9 = .ok (.iconst 0, 1) := by decide +kernel
theorem dX6_become_10 : decode cX6_become 10 = .ok (.bipush 8, 2) := by decide +kernel
theorem dX6_become_12 : decode cX6_become 12 = .ok (.invokestatic 22, 3) := by decide +kernel
theorem dX6_become_15 : decode cX6_become 15 = .ok (.aload_n 1, 1) := by decide +kernel
theorem dX6_become_16 : decode cX6_become 16 = .ok (.getfield 15, 3) := by decide +kernel
theorem dX6_become_19 : decode cX6_become 19 = .ok (.iconst 0, 1) := by decide +kernel
theorem dX6_become_20 : decode cX6_become 20 = .ok (.aload_n 0, 1) := by decide +kernel
theorem dX6_become_21 : decode cX6_become 21 = .ok (.getfield 15, 3) := by decide +kernel
theorem dX6_become_24 : decode cX6_become 24 = .ok (.iconst 0, 1) := by decide +kernel
theorem dX6_become_25 : decode cX6_become 25 = .ok (.bipush 10, 2) := by decide +kernel
theorem dX6_become_27 : decode cX6_become 27 = .ok (.invokestatic 22, 3) := by decide +kernel
theorem dX6_become_30 : decode cX6_become 30 = .ok (.aload_n 0, 1) := by decide +kernel
theorem dX6_become_31 : decode cX6_become 31 = .ok (.aload_n 1, 1) := by decide +kernel
theorem dX6_become_32 : decode cX6_become 32 = .ok (.getfield 18, 3) := by decide +kernel
theorem dX6_become_35 : decode cX6_become 35 = .ok (.putfield 18, 3) := by decide +kernel
theorem dX6_become_38 : decode cX6_become 38 = .ok (.return_, 1) := by decide +kernel
theorem dX6_inPlace_0 : decode cX6_inPlace 0 = .ok (.iload_n 1, 1) := by decide +kernel
theorem dX6_inPlace_1 : decode cX6_inPlace 1 = .ok (.ifCond .lt 18, 3) := by decide +kernel
theorem dX6_inPlace_4 : decode cX6_inPlace 4 = .ok (.iload_n 1, 1) := by decide +kernel
theorem dX6_inPlace_5 : decode cX6_inPlace 5 = .ok (.bipush 8, 2) := by decide +kernel
theorem dX6_inPlace_7 : decode cX6_inPlace 7 = .ok (.if_icmp .ge 12, 3) := by decide +kernel
theorem dX6_inPlace_10 : decode cX6_inPlace 10 = .ok (.aload_n 0, 1) := by decide +kernel
theorem dX6_inPlace_11 : decode cX6_inPlace 11 = .ok (.getfield 9, 3) := by decide +kernel
theorem dX6_inPlace_14 : decode cX6_inPlace 14 = .ok (.iload_n 1, 1) := by decide +kernel
theorem dX6_inPlace_15 : decode cX6_inPlace 15 = .ok (.iaload, 1) := by decide +kernel
theorem dX6_inPlace_16 : decode cX6_inPlace 16 = .ok (.goto 4, 3) := by decide +kernel
theorem dX6_inPlace_19 : decode cX6_inPlace 19 = .ok (.iconst 0, 1) := by decide +kernel
theorem dX6_inPlace_20 : decode cX6_inPlace 20 = .ok (.ireturn, 1) := by decide +kernel
theorem dX6_setPlace_0 : decode cX6_setPlace 0 = .ok (.iload_n 1, 1) := by decide +kernel
theorem dX6_setPlace_1 : decode cX6_setPlace 1 = .ok (.ifCond .lt 16, 3) := by decide +kernel
theorem dX6_setPlace_4 : decode cX6_setPlace 4 = .ok (.iload_n 1, 1) := by decide +kernel
theorem dX6_setPlace_5 : decode cX6_setPlace 5 = .ok (.bipush 8, 2) := by decide +kernel
theorem dX6_setPlace_7 : decode cX6_setPlace 7 = .ok (.if_icmp .ge 10, 3) := by decide +kernel
theorem dX6_setPlace_10 : decode cX6_setPlace 10 = .ok (.aload_n 0, 1) := by decide +kernel
theorem dX6_setPlace_11 : decode cX6_setPlace 11 = .ok (.getfield 9, 3) := by decide +kernel
theorem dX6_setPlace_14 : decode cX6_setPlace 14 = .ok (.iload_n 1, 1) := by decide +kernel
theorem dX6_setPlace_15 : decode cX6_setPlace 15 = .ok (.iload_n 2, 1) := by decide +kernel
theorem dX6_setPlace_16 : decode cX6_setPlace 16 = .ok (.iastore, 1) := by decide +kernel
theorem dX6_setPlace_17 : decode cX6_setPlace 17 = .ok (.return_, 1) := by decide +kernel
theorem dX6_onStack_0 : decode cX6_onStack 0 = .ok (.iload_n 1, 1) := by decide +kernel
theorem dX6_onStack_1 : decode cX6_onStack 1 = .ok (.ifCond .lt 26, 3) := by decide +kernel
theorem dX6_onStack_4 : decode cX6_onStack 4 = .ok (.iload_n 1, 1) := by decide +kernel
theorem dX6_onStack_5 : decode cX6_onStack 5 = .ok (.aload_n 0, 1) := by decide +kernel
theorem dX6_onStack_6 : decode cX6_onStack 6 = .ok (.getfield 18, 3) := by decide +kernel
theorem dX6_onStack_9 : decode cX6_onStack 9 = .ok (.if_icmp .ge 18, 3) := by decide +kernel
theorem dX6_onStack_12 : decode cX6_onStack 12 = .ok (.iload_n 1, 1) := by decide +kernel
theorem dX6_onStack_13 : decode cX6_onStack 13 = .ok (.bipush 10, 2) := by decide +kernel
theorem dX6_onStack_15 : decode cX6_onStack 15 = .ok (.if_icmp .ge 12, 3) := by decide +kernel
theorem dX6_onStack_18 : decode cX6_onStack 18 = .ok (.aload_n 0, 1) := by decide +kernel
theorem dX6_onStack_19 : decode cX6_onStack 19 = .ok (.getfield 15, 3) := by decide +kernel
theorem dX6_onStack_22 : decode cX6_onStack 22 = .ok (.iload_n 1, 1) := by decide +kernel
theorem dX6_onStack_23 : decode cX6_onStack 23 = .ok (.iaload, 1) := by decide +kernel
theorem dX6_onStack_24 : decode cX6_onStack 24 = .ok (.goto 4, 3) := by decide +kernel
theorem dX6_onStack_27 : decode cX6_onStack 27 = .ok (.iconst (-1), 1) := by decide +kernel
theorem dX6_onStack_28 : decode cX6_onStack 28 = .ok (.ireturn, 1) := by decide +kernel
theorem dX6_setStack_0 : decode cX6_setStack 0 = .ok (.iload_n 1, 1) := by decide +kernel
theorem dX6_setStack_1 : decode cX6_setStack 1 = .ok (.ifCond .lt 24, 3) := by decide +kernel
theorem dX6_setStack_4 : decode cX6_setStack 4 = .ok (.iload_n 1, 1) := by decide +kernel
theorem dX6_setStack_5 : decode cX6_setStack 5 = .ok (.aload_n 0, 1) := by decide +kernel
theorem dX6_setStack_6 : decode cX6_setStack 6 = .ok (.getfield 18, 3) := by decide +kernel
theorem dX6_setStack_9 : decode cX6_setStack 9 = .ok (.if_icmp .ge 16, 3) := by decide +kernel
theorem dX6_setStack_12 : decode cX6_setStack 12 = .ok (.iload_n 1, 1) := by decide +kernel
theorem dX6_setStack_13 : decode cX6_setStack 13 = .ok (.bipush 10, 2) := by decide +kernel
theorem dX6_setStack_15 : decode cX6_setStack 15 = .ok (.if_icmp .ge 10, 3) := by decide +kernel
theorem dX6_setStack_18 : decode cX6_setStack 18 = .ok (.aload_n 0, 1) := by decide +kernel
theorem dX6_setStack_19 : decode cX6_setStack 19 = .ok (.getfield 15, 3) := by decide +kernel
theorem dX6_setStack_22 : decode cX6_setStack 22 = .ok (.iload_n 1, 1) := by decide +kernel
theorem dX6_setStack_23 : decode cX6_setStack 23 = .ok (.iload_n 2, 1) := by decide +kernel
theorem dX6_setStack_24 : decode cX6_setStack 24 = .ok (.iastore, 1) := by decide +kernel
theorem dX6_setStack_25 : decode cX6_setStack 25 = .ok (.return_, 1) := by decide +kernel
theorem dX6_weight_0 : decode cX6_weight 0 = .ok (.iconst 0, 1) := by decide +kernel
theorem dX6_weight_1 : decode cX6_weight 1 = .ok (.istore_n 1, 1) := by decide +kernel
theorem dX6_weight_2 : decode cX6_weight 2 = .ok (.iconst 0, 1) := by decide +kernel
theorem dX6_weight_3 : decode cX6_weight 3 = .ok (.istore_n 2, 1) := by decide +kernel
theorem dX6_weight_4 : decode cX6_weight 4 = .ok (.iload_n 2, 1) := by decide +kernel
theorem dX6_weight_5 : decode cX6_weight 5 = .ok (.aload_n 0, 1) := by decide +kernel
theorem dX6_weight_6 : decode cX6_weight 6 = .ok (.getfield 18, 3) := by decide +kernel
theorem dX6_weight_9 : decode cX6_weight 9 = .ok (.if_icmp .ge 33, 3) := by decide +kernel
theorem dX6_weight_12 : decode cX6_weight 12 = .ok (.iload_n 2, 1) := by decide +kernel
theorem dX6_weight_13 : decode cX6_weight 13 = .ok (.bipush 10, 2) := by decide +kernel
theorem dX6_weight_15 : decode cX6_weight 15 = .ok (.if_icmp .ge 27, 3) := by decide +kernel
theorem dX6_weight_18 : decode cX6_weight 18 = .ok (.iload_n 1, 1) := by decide +kernel
theorem dX6_weight_19 : decode cX6_weight 19 = .ok (.aload_n 0, 1) := by decide +kernel
theorem dX6_weight_20 : decode cX6_weight 20 = .ok (.getfield 15, 3) := by decide +kernel
theorem dX6_weight_23 : decode cX6_weight 23 = .ok (.iload_n 2, 1) := by decide +kernel
theorem dX6_weight_24 : decode cX6_weight 24 = .ok (.iaload, 1) := by decide +kernel
theorem dX6_weight_25 : decode cX6_weight 25 = .ok (.iconst 2, 1) := by decide +kernel
theorem dX6_weight_26 : decode cX6_weight 26 = .ok (.if_icmp .ne 7, 3) := by decide +kernel
theorem dX6_weight_29 : decode cX6_weight 29 = .ok (.iconst 2, 1) := by decide +kernel
theorem dX6_weight_30 : decode cX6_weight 30 = .ok (.goto 4, 3) := by decide +kernel
theorem dX6_weight_33 : decode cX6_weight 33 = .ok (.iconst 1, 1) := by decide +kernel
theorem dX6_weight_34 : decode cX6_weight 34 = .ok (.iadd, 1) := by decide +kernel
theorem dX6_weight_35 : decode cX6_weight 35 = .ok (.istore_n 1, 1) := by decide +kernel
theorem dX6_weight_36 : decode cX6_weight 36 = .ok (.iinc 2 1, 3) := by decide +kernel
theorem dX6_weight_39 : decode cX6_weight 39 = .ok (.goto (-35), 3) := by decide +kernel
theorem dX6_weight_42 : decode cX6_weight 42 = .ok (.iload_n 1, 1) := by decide +kernel
theorem dX6_weight_43 : decode cX6_weight 43 = .ok (.ireturn, 1) := by decide +kernel
theorem dX6_push_0 : decode cX6_push 0 = .ok (.iload_n 1, 1) := by decide +kernel
theorem dX6_push_1 : decode cX6_push 1 = .ok (.iconst 2, 1) := by decide +kernel
theorem dX6_push_2 : decode cX6_push 2 = .ok (.if_icmp .ne 7, 3) := by decide +kernel
theorem dX6_push_5 : decode cX6_push 5 = .ok (.iconst 2, 1) := by decide +kernel
theorem dX6_push_6 : decode cX6_push 6 = .ok (.goto 4, 3) := by decide +kernel
theorem dX6_push_9 : decode cX6_push 9 = .ok (.iconst 1, 1) := by decide +kernel
theorem dX6_push_10 : decode cX6_push 10 = .ok (.istore_n 2, 1) := by decide +kernel
theorem dX6_push_11 : decode cX6_push 11 = .ok (.aload_n 0, 1) := by decide +kernel
theorem dX6_push_12 : decode cX6_push 12 = .ok (.invokevirtual 28, 3) := by decide +kernel
theorem dX6_push_15 : decode cX6_push 15 = .ok (.iload_n 2, 1) := by decide +kernel
theorem dX6_push_16 : decode cX6_push 16 = .ok (.iadd, 1) := by decide +kernel
theorem dX6_push_17 : decode cX6_push 17 = .ok (.bipush 10, 2) := by decide +kernel
theorem dX6_push_19 : decode cX6_push 19 = .ok (.if_icmp .le 5, 3) := by decide +kernel
theorem dX6_push_22 : decode cX6_push 22 = .ok (.iconst 3, 1) := by decide +kernel
theorem dX6_push_23 : decode cX6_push 23 = .ok (.ireturn, 1) := by decide +kernel
theorem dX6_push_24 : decode cX6_push 24 = .ok (.aload_n 0, 1) := by decide +kernel
theorem dX6_push_25 : decode cX6_push 25 = .ok (.dup, 1) := by decide +kernel
theorem dX6_push_26 : decode cX6_push 26 = .ok (.getfield 18, 3) := by decide +kernel
theorem dX6_push_29 : decode cX6_push 29 = .ok (.iconst 1, 1) := by decide +kernel
theorem dX6_push_30 : decode cX6_push 30 = .ok (.iadd, 1) := by decide +kernel
theorem dX6_push_31 : decode cX6_push 31 = .ok (.putfield 18, 3) := by decide +kernel
theorem dX6_push_34 : decode cX6_push 34 = .ok (.aload_n 0, 1) := by decide +kernel
theorem dX6_push_35 : decode cX6_push 35 = .ok (.aload_n 0, 1) := by decide +kernel
theorem dX6_push_36 : decode cX6_push 36 = .ok (.getfield 18, 3) := by decide +kernel
theorem dX6_push_39 : decode cX6_push 39 = .ok (.iconst 1, 1) := by decide +kernel
theorem dX6_push_40 : decode cX6_push 40 = .ok (.isub, 1) := by decide +kernel
theorem dX6_push_41 : decode cX6_push 41 = .ok (.iload_n 1, 1) := by decide +kernel
theorem dX6_push_42 : decode cX6_push 42 = .ok (.invokevirtual 32, 3) := by decide +kernel
theorem dX6_push_45 : decode cX6_push 45 = .ok (.iconst 0, 1) := by decide +kernel
theorem dX6_push_46 : decode cX6_push 46 = .ok (.ireturn, 1) := by decide +kernel
theorem dX6_top_0 : decode cX6_top 0 = .ok (.aload_n 0, 1) := by decide +kernel
theorem dX6_top_1 : decode cX6_top 1 = .ok (.aload_n 0, 1) := by decide +kernel
theorem dX6_top_2 : decode cX6_top 2 = .ok (.getfield 18, 3) := by decide +kernel
theorem dX6_top_5 : decode cX6_top 5 = .ok (.iconst 1, 1) := by decide +kernel
theorem dX6_top_6 : decode cX6_top 6 = .ok (.isub, 1) := by decide +kernel
theorem dX6_top_7 : decode cX6_top 7 = .ok (.invokevirtual 36, 3) := by decide +kernel
theorem dX6_top_10 : decode cX6_top 10 = .ok (.ireturn, 1) := by decide +kernel
theorem dX6_pop_0 : decode cX6_pop 0 = .ok (.aload_n 0, 1) := by decide +kernel
theorem dX6_pop_1 : decode cX6_pop 1 = .ok (.aload_n 0, 1) := by decide +kernel
theorem dX6_pop_2 : decode cX6_pop 2 = .ok (.getfield 18, 3) := by decide +kernel
theorem dX6_pop_5 : decode cX6_pop 5 = .ok (.iconst 1, 1) := by decide +kernel
theorem dX6_pop_6 : decode cX6_pop 6 = .ok (.isub, 1) := by decide +kernel
theorem dX6_pop_7 : decode cX6_pop 7 = .ok (.invokevirtual 36, 3) := by decide +kernel
theorem dX6_pop_10 : decode cX6_pop 10 = .ok (.istore_n 1, 1) := by decide +kernel
theorem dX6_pop_11 : decode cX6_pop 11 = .ok (.iload_n 1, 1) := by decide +kernel
theorem dX6_pop_12 : decode cX6_pop 12 = .ok (.iconst (-1), 1) := by decide +kernel
theorem dX6_pop_13 : decode cX6_pop 13 = .ok (.if_icmp .eq 13, 3) := by decide +kernel
theorem dX6_pop_16 : decode cX6_pop 16 = .ok (.aload_n 0, 1) := by decide +kernel
theorem dX6_pop_17 : decode cX6_pop 17 = .ok (.dup, 1) := by decide +kernel
theorem dX6_pop_18 : decode cX6_pop 18 = .ok (.getfield 18, 3) := by decide +kernel
theorem dX6_pop_21 : decode cX6_pop 21 = .ok (.iconst 1, 1) := by decide +kernel
theorem dX6_pop_22 : decode cX6_pop 22 = .ok (.isub, 1) := by decide +kernel
theorem dX6_pop_23 : decode cX6_pop 23 = .ok (.putfield 18, 3) := by decide +kernel
theorem dX6_pop_26 : decode cX6_pop 26 = .ok (.iload_n 1, 1) := by decide +kernel
theorem dX6_pop_27 : decode cX6_pop 27 = .ok (.ireturn, 1) := by decide +kernel
theorem dX6_store_0 : decode cX6_store 0 = .ok (.aload_n 0, 1) := by decide +kernel
theorem dX6_store_1 : decode cX6_store 1 = .ok (.iload_n 1, 1) := by decide +kernel
theorem dX6_store_2 : decode cX6_store 2 = .ok (.invokevirtual 40, 3) := by decide +kernel
theorem dX6_store_5 : decode cX6_store 5 = .ok (.iload_n 2, 1) := by decide +kernel
theorem dX6_store_6 : decode cX6_store 6 = .ok (.iconst 2, 1) := by decide +kernel
theorem dX6_store_7 : decode cX6_store 7 = .ok (.if_icmp .ne 18, 3) := by decide +kernel
theorem dX6_store_10 : decode cX6_store 10 = .ok (.aload_n 0, 1) := by decide +kernel
theorem dX6_store_11 : decode cX6_store 11 = .ok (.iload_n 1, 1) := by decide +kernel
theorem dX6_store_12 : decode cX6_store 12 = .ok (.iconst 1, 1) := by decide +kernel
theorem dX6_store_13 : decode cX6_store 13 = .ok (.iadd, 1) := by decide +kernel
theorem dX6_store_14 : decode cX6_store 14 = .ok (.invokevirtual 40, 3) := by decide +kernel
theorem dX6_store_17 : decode cX6_store 17 = .ok (.aload_n 0, 1) := by decide +kernel
theorem dX6_store_18 : decode cX6_store 18 = .ok (.iload_n 1, 1) := by decide +kernel
theorem dX6_store_19 : decode cX6_store 19 = .ok (.iconst 1, 1) := by decide +kernel
theorem dX6_store_20 : decode cX6_store 20 = .ok (.iadd, 1) := by decide +kernel
theorem dX6_store_21 : decode cX6_store 21 = .ok (.iconst 3, 1) := by decide +kernel
theorem dX6_store_22 : decode cX6_store 22 = .ok (.invokevirtual 44, 3) := by decide +kernel
theorem dX6_store_25 : decode cX6_store 25 = .ok (.aload_n 0, 1) := by decide +kernel
theorem dX6_store_26 : decode cX6_store 26 = .ok (.iload_n 1, 1) := by decide +kernel
theorem dX6_store_27 : decode cX6_store 27 = .ok (.iload_n 2, 1) := by decide +kernel
theorem dX6_store_28 : decode cX6_store 28 = .ok (.invokevirtual 44, 3) := by decide +kernel
theorem dX6_store_31 : decode cX6_store 31 = .ok (.return_, 1) := by decide +kernel
theorem dX6_breakWideAt_0 : decode cX6_breakWideAt 0 = .ok (.aload_n 0, 1) := by decide +kernel
theorem dX6_breakWideAt_1 : decode cX6_breakWideAt 1 = .ok (.iload_n 1, 1) := by decide +kernel
theorem dX6_breakWideAt_2 : decode cX6_breakWideAt 2 = .ok (.invokevirtual 47, 3) := by decide +kernel
theorem dX6_breakWideAt_5 : decode cX6_breakWideAt 5 = .ok (.iconst 3, 1) := by decide +kernel
theorem dX6_breakWideAt_6 : decode cX6_breakWideAt 6 = .ok (.if_icmp .ne 11, 3) := by decide +kernel
theorem dX6_breakWideAt_9 : decode cX6_breakWideAt 9 = .ok (.aload_n 0, 1) := by decide +kernel
theorem dX6_breakWideAt_10 : decode cX6_breakWideAt 10 = .ok (.iload_n 1, 1) := by decide +kernel
theorem dX6_breakWideAt_11 : decode cX6_breakWideAt 11 = .ok (.iconst 1, 1) := by decide +kernel
theorem dX6_breakWideAt_12 : decode cX6_breakWideAt 12 = .ok (.isub, 1) := by decide +kernel
theorem dX6_breakWideAt_13 : decode cX6_breakWideAt 13 = .ok (.iconst 0, 1) := by decide +kernel
theorem dX6_breakWideAt_14 : decode cX6_breakWideAt 14 = .ok (.invokevirtual 44, 3) := by decide +kernel
theorem dX6_breakWideAt_17 : decode cX6_breakWideAt 17 = .ok (.aload_n 0, 1) := by decide +kernel
theorem dX6_breakWideAt_18 : decode cX6_breakWideAt 18 = .ok (.iload_n 1, 1) := by decide +kernel
theorem dX6_breakWideAt_19 : decode cX6_breakWideAt 19 = .ok (.invokevirtual 47, 3) := by decide +kernel
theorem dX6_breakWideAt_22 : decode cX6_breakWideAt 22 = .ok (.iconst 2, 1) := by decide +kernel
theorem dX6_breakWideAt_23 : decode cX6_breakWideAt 23 = .ok (.if_icmp .ne 11, 3) := by decide +kernel
theorem dX6_breakWideAt_26 : decode cX6_breakWideAt 26 = .ok (.aload_n 0, 1) := by decide +kernel
theorem dX6_breakWideAt_27 : decode cX6_breakWideAt 27 = .ok (.iload_n 1, 1) := by decide +kernel
theorem dX6_breakWideAt_28 : decode cX6_breakWideAt 28 = .ok (.iconst 1, 1) := by decide +kernel
theorem dX6_breakWideAt_29 : decode cX6_breakWideAt 29 = .ok (.iadd, 1) := by decide +kernel
theorem dX6_breakWideAt_30 : decode cX6_breakWideAt 30 = .ok (.iconst 0, 1) := by decide +kernel
theorem dX6_breakWideAt_31 : decode cX6_breakWideAt 31 = .ok (.invokevirtual 44, 3) := by decide +kernel
theorem dX6_breakWideAt_34 : decode cX6_breakWideAt 34 = .ok (.return_, 1) := by decide +kernel
theorem dX6_replace_0 : decode cX6_replace 0 = .ok (.iconst 0, 1) := by decide +kernel
theorem dX6_replace_1 : decode cX6_replace 1 = .ok (.istore_n 3, 1) := by decide +kernel
theorem dX6_replace_2 : decode cX6_replace 2 = .ok (.iload_n 3, 1) := by decide +kernel
theorem dX6_replace_3 : decode cX6_replace 3 = .ok (.bipush 8, 2) := by decide +kernel
theorem dX6_replace_5 : decode cX6_replace 5 = .ok (.if_icmp .ge 24, 3) := by decide +kernel
theorem dX6_replace_8 : decode cX6_replace 8 = .ok (.aload_n 0, 1) := by decide +kernel
theorem dX6_replace_9 : decode cX6_replace 9 = .ok (.iload_n 3, 1) := by decide +kernel
theorem dX6_replace_10 : decode cX6_replace 10 = .ok (.invokevirtual 47, 3) := by decide +kernel
theorem dX6_replace_13 : decode cX6_replace 13 = .ok (.iload_n 1, 1) := by decide +kernel
theorem dX6_replace_14 : decode cX6_replace 14 = .ok (.if_icmp .ne 9, 3) := by decide +kernel
theorem dX6_replace_17 : decode cX6_replace 17 = .ok (.aload_n 0, 1) := by decide +kernel
theorem dX6_replace_18 : decode cX6_replace 18 = .ok (.iload_n 3, 1) := by decide +kernel
theorem dX6_replace_19 : decode cX6_replace 19 = .ok (.iload_n 2, 1) := by decide +kernel
theorem dX6_replace_20 : decode cX6_replace 20 = .ok (.invokevirtual 44, 3) := by decide +kernel
theorem dX6_replace_23 : decode cX6_replace 23 = .ok (.iinc 3 1, 3) := by decide +kernel
theorem dX6_replace_26 : decode cX6_replace 26 = .ok (.goto (-24), 3) := by decide +kernel
theorem dX6_replace_29 : decode cX6_replace 29 = .ok (.iconst 0, 1) := by decide +kernel
theorem dX6_replace_30 : decode cX6_replace 30 = .ok (.istore_n 3, 1) := by decide +kernel
theorem dX6_replace_31 : decode cX6_replace 31 = .ok (.iload_n 3, 1) := by decide +kernel
theorem dX6_replace_32 : decode cX6_replace 32 = .ok (.aload_n 0, 1) := by decide +kernel
theorem dX6_replace_33 : decode cX6_replace 33 = .ok (.getfield 18, 3) := by decide +kernel
theorem dX6_replace_36 : decode cX6_replace 36 = .ok (.if_icmp .ge 24, 3) := by decide +kernel
theorem dX6_replace_39 : decode cX6_replace 39 = .ok (.aload_n 0, 1) := by decide +kernel
theorem dX6_replace_40 : decode cX6_replace 40 = .ok (.iload_n 3, 1) := by decide +kernel
theorem dX6_replace_41 : decode cX6_replace 41 = .ok (.invokevirtual 36, 3) := by decide +kernel
theorem dX6_replace_44 : decode cX6_replace 44 = .ok (.iload_n 1, 1) := by decide +kernel
theorem dX6_replace_45 : decode cX6_replace 45 = .ok (.if_icmp .ne 9, 3) := by decide +kernel
theorem dX6_replace_48 : decode cX6_replace 48 = .ok (.aload_n 0, 1) := by decide +kernel
theorem dX6_replace_49 : decode cX6_replace 49 = .ok (.iload_n 3, 1) := by decide +kernel
theorem dX6_replace_50 : decode cX6_replace 50 = .ok (.iload_n 2, 1) := by decide +kernel
theorem dX6_replace_51 : decode cX6_replace 51 = .ok (.invokevirtual 32, 3) := by decide +kernel
theorem dX6_replace_54 : decode cX6_replace 54 = .ok (.iinc 3 1, 3) := by decide +kernel
theorem dX6_replace_57 : decode cX6_replace 57 = .ok (.goto (-26), 3) := by decide +kernel
theorem dX6_replace_60 : decode cX6_replace 60 = .ok (.return_, 1) := by decide +kernel
theorem dX6_hasUnmade_0 : decode cX6_hasUnmade 0 = .ok (.iconst 0, 1) := by decide +kernel
theorem dX6_hasUnmade_1 : decode cX6_hasUnmade 1 = .ok (.istore_n 1, 1) := by decide +kernel
theorem dX6_hasUnmade_2 : decode cX6_hasUnmade 2 = .ok (.iload_n 1, 1) := by decide +kernel
theorem dX6_hasUnmade_3 : decode cX6_hasUnmade 3 = .ok (.bipush 8, 2) := by decide +kernel
theorem dX6_hasUnmade_5 : decode cX6_hasUnmade 5 = .ok (.if_icmp .ge 21, 3) := by decide +kernel
theorem dX6_hasUnmade_8 : decode cX6_hasUnmade 8 = .ok (.aload_n 0, 1) := by decide +kernel
theorem dX6_hasUnmade_9 : decode cX6_hasUnmade 9 = .ok (.iload_n 1, 1) := by decide +kernel
theorem dX6_hasUnmade_10 : decode cX6_hasUnmade 10 = .ok (.invokevirtual 47, 3) := by decide +kernel
theorem dX6_hasUnmade_13 : decode cX6_hasUnmade 13 = .ok (.bipush 100, 2) := by decide +kernel
theorem dX6_hasUnmade_15 : decode cX6_hasUnmade 15 = .ok (.if_icmp .lt 5, 3) := by decide +kernel
theorem dX6_hasUnmade_18 : decode cX6_hasUnmade 18 = .ok (.iconst 1, 1) := by decide +kernel
theorem dX6_hasUnmade_19 : decode cX6_hasUnmade 19 = .ok (.ireturn, 1) := by decide +kernel
theorem dX6_hasUnmade_20 : decode cX6_hasUnmade 20 = .ok (.iinc 1 1, 3) := by decide +kernel
theorem dX6_hasUnmade_23 : decode cX6_hasUnmade 23 = .ok (.goto (-21), 3) := by decide +kernel
theorem dX6_hasUnmade_26 : decode cX6_hasUnmade 26 = .ok (.iconst 0, 1) := by decide +kernel
theorem dX6_hasUnmade_27 : decode cX6_hasUnmade 27 = .ok (.istore_n 1, 1) := by decide +kernel
theorem dX6_hasUnmade_28 : decode cX6_hasUnmade 28 = .ok (.iload_n 1, 1) := by decide +kernel
theorem dX6_hasUnmade_29 : decode cX6_hasUnmade 29 = .ok (.aload_n 0, 1) := by decide +kernel
theorem dX6_hasUnmade_30 : decode cX6_hasUnmade 30 = .ok (.getfield 18, 3) := by decide +kernel
theorem dX6_hasUnmade_33 : decode cX6_hasUnmade 33 = .ok (.if_icmp .ge 21, 3) := by decide +kernel
theorem dX6_hasUnmade_36 : decode cX6_hasUnmade 36 = .ok (.aload_n 0, 1) := by decide +kernel
theorem dX6_hasUnmade_37 : decode cX6_hasUnmade 37 = .ok (.iload_n 1, 1) := by decide +kernel
theorem dX6_hasUnmade_38 : decode cX6_hasUnmade 38 = .ok (.invokevirtual 36, 3) := by decide +kernel
theorem dX6_hasUnmade_41 : decode cX6_hasUnmade 41 = .ok (.bipush 100, 2) := by decide +kernel
theorem dX6_hasUnmade_43 : decode cX6_hasUnmade 43 = .ok (.if_icmp .lt 5, 3) := by decide +kernel
theorem dX6_hasUnmade_46 : decode cX6_hasUnmade 46 = .ok (.iconst 1, 1) := by decide +kernel
theorem dX6_hasUnmade_47 : decode cX6_hasUnmade 47 = .ok (.ireturn, 1) := by decide +kernel
theorem dX6_hasUnmade_48 : decode cX6_hasUnmade 48 = .ok (.iinc 1 1, 3) := by decide +kernel
theorem dX6_hasUnmade_51 : decode cX6_hasUnmade 51 = .ok (.goto (-23), 3) := by decide +kernel
theorem dX6_hasUnmade_54 : decode cX6_hasUnmade 54 = .ok (.iconst 0, 1) := by decide +kernel
theorem dX6_hasUnmade_55 : decode cX6_hasUnmade 55 = .ok (.ireturn, 1) := by decide +kernel
theorem dX6_becomeCaught_0 : decode cX6_becomeCaught 0 = .ok (.aload_n 0, 1) := by decide +kernel
theorem dX6_becomeCaught_1 : decode cX6_becomeCaught 1 = .ok (.aload_n 1, 1) := by decide +kernel
theorem dX6_becomeCaught_2 : decode cX6_becomeCaught 2 = .ok (.invokevirtual 50, 3) := by decide +kernel
theorem dX6_becomeCaught_5 : decode cX6_becomeCaught 5 = .ok (.iconst 0, 1) := by decide +kernel
theorem dX6_becomeCaught_6 : decode cX6_becomeCaught 6 = .ok (.istore_n 3, 1) := by decide +kernel
theorem dX6_becomeCaught_7 : decode cX6_becomeCaught 7 = .ok (.iload_n 3, 1) := by decide +kernel
theorem dX6_becomeCaught_8 : decode cX6_becomeCaught 8 = .ok (.bipush 8, 2) := by decide +kernel
theorem dX6_becomeCaught_10 : decode cX6_becomeCaught 10 = .ok (.if_icmp .ge 25, 3) := by decide +kernel
theorem dX6_becomeCaught_13 : decode cX6_becomeCaught 13 = .ok (.aload_n 0, 1) := by decide +kernel
theorem dX6_becomeCaught_14 : decode cX6_becomeCaught 14 = .ok (.iload_n 3, 1) := by decide +kernel
theorem dX6_becomeCaught_15 : decode cX6_becomeCaught 15 = .ok (.invokevirtual 47, 3) := by decide +kernel
theorem dX6_becomeCaught_18 : decode cX6_becomeCaught 18 = .ok (.bipush 100, 2) := by decide +kernel
theorem dX6_becomeCaught_20 : decode cX6_becomeCaught 20 = .ok (.if_icmp .lt 9, 3) := by decide +kernel
theorem dX6_becomeCaught_23 : decode cX6_becomeCaught 23 = .ok (.aload_n 0, 1) := by decide +kernel
theorem dX6_becomeCaught_24 : decode cX6_becomeCaught 24 = .ok (.iload_n 3, 1) := by decide +kernel
theorem dX6_becomeCaught_25 : decode cX6_becomeCaught 25 = .ok (.iconst 0, 1) := by decide +kernel
theorem dX6_becomeCaught_26 : decode cX6_becomeCaught 26 = .ok (.invokevirtual 44, 3) := by decide +kernel
theorem dX6_becomeCaught_29 : decode cX6_becomeCaught 29 = .ok (.iinc 3 1, 3) := by decide +kernel
theorem dX6_becomeCaught_32 : decode cX6_becomeCaught 32 = .ok (.goto (-25), 3) := by decide +kernel
theorem dX6_becomeCaught_35 : decode cX6_becomeCaught 35 = .ok (.aload_n 0, 1) := by decide +kernel
theorem dX6_becomeCaught_36 : decode cX6_becomeCaught 36 = .ok (.iconst 0, 1) := by decide +kernel
theorem dX6_becomeCaught_37 : decode cX6_becomeCaught 37 = .ok (.putfield 18, 3) := by decide +kernel
theorem dX6_becomeCaught_40 : decode cX6_becomeCaught 40 = .ok (.aload_n 0, 1) := by decide +kernel
theorem dX6_becomeCaught_41 : decode cX6_becomeCaught 41 = .ok (.bipush 10, 2) := by decide +kernel
theorem dX6_becomeCaught_43 : decode cX6_becomeCaught 43 = .ok (.iload_n 2, 1) := by decide +kernel
theorem dX6_becomeCaught_44 : decode cX6_becomeCaught 44 = .ok (.iadd, 1) := by decide +kernel
theorem dX6_becomeCaught_45 : decode cX6_becomeCaught 45 = .ok (.invokevirtual 54, 3) := by decide +kernel
theorem dX6_becomeCaught_48 : decode cX6_becomeCaught 48 = .ok (.pop, 1) := by decide +kernel
theorem dX6_becomeCaught_49 : decode cX6_becomeCaught 49 = .ok (.return_, 1) := by decide +kernel
theorem dX6_answer_0 : decode cX6_answer 0 = .ok (.iload_n 1, 1) := by decide +kernel
theorem dX6_answer_1 : decode cX6_answer 1 = .ok (.invokestatic 57, 3) := by decide +kernel
theorem dX6_answer_4 : decode cX6_answer 4 = .ok (.ifCond .eq 9, 3) := by decide +kernel
theorem dX6_answer_7 : decode cX6_answer 7 = .ok (.aload_n 0, 1) := by decide +kernel
theorem dX6_answer_8 : decode cX6_answer 8 = .ok (.iload_n 1, 1) := by decide +kernel
theorem dX6_answer_9 : decode cX6_answer 9 = .ok (.invokevirtual 47, 3) := by decide +kernel
theorem dX6_answer_12 : decode cX6_answer 12 = .ok (.ireturn, 1) := by decide +kernel
theorem dX6_answer_13 : decode cX6_answer 13 = .ok (.iload_n 1, 1) := by decide +kernel
theorem dX6_answer_14 : decode cX6_answer 14 = .ok (.bipush 99, 2) := by decide +kernel
theorem dX6_answer_16 : decode cX6_answer 16 = .ok (.if_icmp .ne 8, 3) := by decide +kernel
theorem dX6_answer_19 : decode cX6_answer 19 = .ok (.aload_n 0, 1) := by decide +kernel
theorem dX6_answer_20 : decode cX6_answer 20 = .ok (.getfield 18, 3) := by decide +kernel
theorem dX6_answer_23 : decode cX6_answer 23 = .ok (.ireturn, 1) := by decide +kernel
theorem dX6_answer_24 : decode cX6_answer 24 = .ok (.iload_n 1, 1) := by decide +kernel
theorem dX6_answer_25 : decode cX6_answer 25 = .ok (.invokestatic 61, 3) := by decide +kernel
theorem dX6_answer_28 : decode cX6_answer 28 = .ok (.ifCond .eq 14, 3) := by decide +kernel
theorem dX6_answer_31 : decode cX6_answer 31 = .ok (.aload_n 0, 1) := by decide +kernel
theorem dX6_answer_32 : decode cX6_answer 32 = .ok (.iload_n 1, 1) := by decide +kernel
theorem dX6_answer_33 : decode cX6_answer 33 = .ok (.bipush 100, 2) := by decide +kernel
theorem dX6_answer_35 : decode cX6_answer 35 = .ok (.isub, 1) := by decide +kernel
theorem dX6_answer_36 : decode cX6_answer 36 = .ok (.invokevirtual 36, 3) := by decide +kernel
theorem dX6_answer_39 : decode cX6_answer 39 = .ok (.goto 4, 3) := by decide +kernel
theorem dX6_answer_42 : decode cX6_answer 42 = .ok (.iconst (-1), 1) := by decide +kernel
theorem dX6_answer_43 : decode cX6_answer 43 = .ok (.istore_n 2, 1) := by decide +kernel
theorem dX6_answer_44 : decode cX6_answer 44 = .ok (.iload_n 2, 1) := by decide +kernel
theorem dX6_answer_45 : decode cX6_answer 45 = .ok (.iconst (-1), 1) := by decide +kernel
theorem dX6_answer_46 : decode cX6_answer 46 = .ok (.if_icmp .ne 7, 3) := by decide +kernel
theorem dX6_answer_49 : decode cX6_answer 49 = .ok (.iconst (-1), 1) := by decide +kernel
theorem dX6_answer_50 : decode cX6_answer 50 = .ok (.goto 4, 3) := by decide +kernel
theorem dX6_answer_53 : decode cX6_answer 53 = .ok (.iload_n 2, 1) := by decide +kernel
theorem dX6_answer_54 : decode cX6_answer 54 = .ok (.ireturn, 1) := by decide +kernel
theorem dX6_end_0 : decode cX6_end 0 = .ok (.iconst 0, 1) := by decide +kernel
theorem dX6_end_1 : decode cX6_end 1 = .ok (.istore_n 1, 1) := by decide +kernel
theorem dX6_end_2 : decode cX6_end 2 = .ok (.iconst 0, 1) := by decide +kernel
theorem dX6_end_3 : decode cX6_end 3 = .ok (.istore_n 2, 1) := by decide +kernel
theorem dX6_end_4 : decode cX6_end 4 = .ok (.iload_n 2, 1) := by decide +kernel
theorem dX6_end_5 : decode cX6_end 5 = .ok (.bipush 8, 2) := by decide +kernel
theorem dX6_end_7 : decode cX6_end 7 = .ok (.if_icmp .ge 21, 3) := by decide +kernel
theorem dX6_end_10 : decode cX6_end 10 = .ok (.aload_n 0, 1) := by decide +kernel
theorem dX6_end_11 : decode cX6_end 11 = .ok (.iload_n 2, 1) := by decide +kernel
theorem dX6_end_12 : decode cX6_end 12 = .ok (.invokevirtual 47, 3) := by decide +kernel
theorem dX6_end_15 : decode cX6_end 15 = .ok (.ifCond .eq 7, 3) := by decide +kernel
theorem dX6_end_18 : decode cX6_end 18 = .ok (.iload_n 2, 1) := by decide +kernel
theorem dX6_end_19 : decode cX6_end 19 = .ok (.iconst 1, 1) := by decide +kernel
theorem dX6_end_20 : decode cX6_end 20 = .ok (.iadd, 1) := by decide +kernel
theorem dX6_end_21 : decode cX6_end 21 = .ok (.istore_n 1, 1) := by decide +kernel
theorem dX6_end_22 : decode cX6_end 22 = .ok (.iinc 2 1, 3) := by decide +kernel
theorem dX6_end_25 : decode cX6_end 25 = .ok (.goto (-21), 3) := by decide +kernel
theorem dX6_end_28 : decode cX6_end 28 = .ok (.iload_n 1, 1) := by decide +kernel
theorem dX6_end_29 : decode cX6_end 29 = .ok (.ireturn, 1) := by decide +kernel
theorem dX6_isLikeUpTo_0 : decode cX6_isLikeUpTo 0 = .ok (.iconst 0, 1) := by decide +kernel
theorem dX6_isLikeUpTo_1 : decode cX6_isLikeUpTo 1 = .ok (.istore_n 3, 1) := by decide +kernel
theorem dX6_isLikeUpTo_2 : decode cX6_isLikeUpTo 2 = .ok (.iload_n 3, 1) := by decide +kernel
theorem dX6_isLikeUpTo_3 : decode cX6_isLikeUpTo 3 = .ok (.iload_n 2, 1) := by decide +kernel
theorem dX6_isLikeUpTo_4 : decode cX6_isLikeUpTo 4 = .ok (.if_icmp .ge 24, 3) := by decide +kernel
theorem dX6_isLikeUpTo_7 : decode cX6_isLikeUpTo 7 = .ok (.aload_n 0, 1) := by decide +kernel
theorem dX6_isLikeUpTo_8 : decode cX6_isLikeUpTo 8 = .ok (.iload_n 3, 1) := by decide +kernel
theorem dX6_isLikeUpTo_9 : decode cX6_isLikeUpTo 9 = .ok (.invokevirtual 47, 3) := by decide +kernel
theorem dX6_isLikeUpTo_12 : decode cX6_isLikeUpTo 12 = .ok (.aload_n 1, 1) := by decide +kernel
theorem dX6_isLikeUpTo_13 : decode cX6_isLikeUpTo 13 = .ok (.iload_n 3, 1) := by decide +kernel
theorem dX6_isLikeUpTo_14 : decode cX6_isLikeUpTo 14 = .ok (.invokevirtual 47, 3) := by decide +kernel
theorem dX6_isLikeUpTo_17 : decode cX6_isLikeUpTo 17 = .ok (.if_icmp .eq 5, 3) := by decide +kernel
theorem dX6_isLikeUpTo_20 : decode cX6_isLikeUpTo 20 = .ok (.iconst 0, 1) := by decide +kernel
theorem dX6_isLikeUpTo_21 : decode cX6_isLikeUpTo 21 = .ok (.ireturn, 1) := by decide +kernel
theorem dX6_isLikeUpTo_22 : decode cX6_isLikeUpTo 22 = .ok (.iinc 3 1, 3) := by decide +kernel
theorem dX6_isLikeUpTo_25 : decode cX6_isLikeUpTo 25 = .ok (.goto (-23), 3) := by decide +kernel
theorem dX6_isLikeUpTo_28 : decode cX6_isLikeUpTo 28 = .ok (.iconst 1, 1) := by decide +kernel
theorem dX6_isLikeUpTo_29 : decode cX6_isLikeUpTo 29 = .ok (.ireturn, 1) := by decide +kernel
theorem dX6_countTold_0 : decode cX6_countTold 0 = .ok (.iconst 0, 1) := by decide +kernel
theorem dX6_countTold_1 : decode cX6_countTold 1 = .ok (.istore_n 3, 1) := by decide +kernel
theorem dX6_countTold_2 : decode cX6_countTold 2 = .ok (.iload_n 1, 1) := by decide +kernel
theorem dX6_countTold_3 : decode cX6_countTold 3 = .ok (.istore 4, 2) := by decide +kernel
theorem dX6_countTold_5 : decode cX6_countTold 5 = .ok (.iload 4, 2) := by decide +kernel
theorem dX6_countTold_7 : decode cX6_countTold 7 = .ok (.iload_n 2, 1) := by decide +kernel
theorem dX6_countTold_8 : decode cX6_countTold 8 = .ok (.if_icmp .ge 22, 3) := by decide +kernel
theorem dX6_countTold_11 : decode cX6_countTold 11 = .ok (.aload_n 0, 1) := by decide +kernel
theorem dX6_countTold_12 : decode cX6_countTold 12 = .ok (.iload 4, 2) := by decide +kernel
theorem dX6_countTold_14 : decode cX6_countTold 14 = .ok (.invokevirtual 47, 3) := by decide +kernel
theorem dX6_countTold_17 : decode cX6_countTold 17 = .ok (.iconst 3, 1) := by decide +kernel
theorem dX6_countTold_18 : decode cX6_countTold 18 = .ok (.if_icmp .eq 6, 3) := by decide +kernel
theorem dX6_countTold_21 : decode cX6_countTold 21 = .ok (.iinc 3 1, 3) := by decide +kernel
theorem dX6_countTold_24 : decode cX6_countTold 24 = .ok (.iinc 4 1, 3) := by decide +kernel
theorem dX6_countTold_27 : decode cX6_countTold 27 = .ok (.goto (-22), 3) := by decide +kernel
theorem dX6_countTold_30 : decode cX6_countTold 30 = .ok (.iload_n 3, 1) := by decide +kernel
theorem dX6_countTold_31 : decode cX6_countTold 31 = .ok (.ireturn, 1) := by decide +kernel
theorem dX6_formAgainst_0 : decode cX6_formAgainst 0 = .ok (.aload_n 0, 1) := by decide +kernel
theorem dX6_formAgainst_1 : decode cX6_formAgainst 1 = .ok (.invokevirtual 64, 3) := by decide +kernel
theorem dX6_formAgainst_4 : decode cX6_formAgainst 4 = .ok (.istore_n 2, 1) := by decide +kernel
theorem dX6_formAgainst_5 : decode cX6_formAgainst 5 = .ok (.aload_n 1, 1) := by decide +kernel
theorem dX6_formAgainst_6 : decode cX6_formAgainst 6 = .ok (.invokevirtual 64, 3) := by decide +kernel
theorem dX6_formAgainst_9 : decode cX6_formAgainst 9 = .ok (.istore_n 3, 1) := by decide +kernel
theorem dX6_formAgainst_10 : decode cX6_formAgainst 10 = .ok (.aload_n 0, 1) := by decide +kernel
theorem dX6_formAgainst_11 : decode cX6_formAgainst 11 = .ok (.aload_n 1, 1) := by decide +kernel
theorem dX6_formAgainst_12 : decode cX6_formAgainst 12 = .ok (.iload_n 2, 1) := by decide +kernel
theorem dX6_formAgainst_13 : decode cX6_formAgainst 13 = .ok (.iload_n 3, 1) := by decide +kernel
theorem dX6_formAgainst_14 : decode cX6_formAgainst 14 = .ok (.invokestatic 67, 3) := by decide +kernel
theorem dX6_formAgainst_17 : decode cX6_formAgainst 17 = .ok (.invokevirtual 73, 3) := by decide +kernel
theorem dX6_formAgainst_20 : decode cX6_formAgainst 20 = .ok (.ifCond .ne 6, 3) := by decide +kernel
theorem dX6_formAgainst_23 : decode cX6_formAgainst 23 = .ok (.bipush 40, 2) := by decide +kernel
theorem dX6_formAgainst_25 : decode cX6_formAgainst 25 = .ok (.ireturn, 1) := by decide +kernel
theorem dX6_formAgainst_26 : decode cX6_formAgainst 26 = .ok (.iload_n 2, 1) := by decide +kernel
theorem dX6_formAgainst_27 : decode cX6_formAgainst 27 = .ok (.iload_n 3, 1) := by decide +kernel
theorem dX6_formAgainst_28 : decode cX6_formAgainst 28 = .ok (.if_icmp .ne 13, 3) := by decide +kernel
theorem dX6_formAgainst_31 : decode cX6_formAgainst 31 = .ok (.aload_n 0, 1) := by decide +kernel
theorem dX6_formAgainst_32 : decode cX6_formAgainst 32 = .ok (.getfield 18, 3) := by decide +kernel
theorem dX6_formAgainst_35 : decode cX6_formAgainst 35 = .ok (.iconst 1, 1) := by decide +kernel
theorem dX6_formAgainst_36 : decode cX6_formAgainst 36 = .ok (.if_icmp .ne 5, 3) := by decide +kernel
theorem dX6_formAgainst_39 : decode cX6_formAgainst 39 = .ok (.iconst 1, 1) := by decide +kernel
theorem dX6_formAgainst_40 : decode cX6_formAgainst 40 = .ok (.ireturn, 1) := by decide +kernel
theorem dX6_formAgainst_41 : decode cX6_formAgainst 41 = .ok (.aload_n 0, 1) := by decide +kernel
theorem dX6_formAgainst_42 : decode cX6_formAgainst 42 = .ok (.getfield 18, 3) := by decide +kernel
theorem dX6_formAgainst_45 : decode cX6_formAgainst 45 = .ok (.ifCond .eq 6, 3) := by decide +kernel
theorem dX6_formAgainst_48 : decode cX6_formAgainst 48 = .ok (.bipush 40, 2) := by decide +kernel
theorem dX6_formAgainst_50 : decode cX6_formAgainst 50 = .ok (.ireturn, 1) := by decide +kernel
theorem dX6_formAgainst_51 : decode cX6_formAgainst 51 = .ok (.iload_n 2, 1) := by decide +kernel
theorem dX6_formAgainst_52 : decode cX6_formAgainst 52 = .ok (.iload_n 3, 1) := by decide +kernel
theorem dX6_formAgainst_53 : decode cX6_formAgainst 53 = .ok (.if_icmp .ne 5, 3) := by decide +kernel
theorem dX6_formAgainst_56 : decode cX6_formAgainst 56 = .ok (.iconst 0, 1) := by decide +kernel
theorem dX6_formAgainst_57 : decode cX6_formAgainst 57 = .ok (.ireturn, 1) := by decide +kernel
theorem dX6_formAgainst_58 : decode cX6_formAgainst 58 = .ok (.iload_n 2, 1) := by decide +kernel
theorem dX6_formAgainst_59 : decode cX6_formAgainst 59 = .ok (.iload_n 3, 1) := by decide +kernel
theorem dX6_formAgainst_60 : decode cX6_formAgainst 60 = .ok (.if_icmp .ge 7, 3) := by decide +kernel
theorem dX6_formAgainst_63 : decode cX6_formAgainst 63 = .ok (.iconst 1, 1) := by decide +kernel
theorem dX6_formAgainst_64 : decode cX6_formAgainst 64 = .ok (.goto 4, 3) := by decide +kernel
theorem dX6_formAgainst_67 : decode cX6_formAgainst 67 = .ok (.iconst 0, 1) := by decide +kernel
theorem dX6_formAgainst_68 : decode cX6_formAgainst 68 = .ok (.istore 4, 2) := by decide +kernel
theorem dX6_formAgainst_70 : decode cX6_formAgainst 70 = .ok (.iload 4, 2) := by decide +kernel
theorem dX6_formAgainst_72 : decode cX6_formAgainst 72 = .ok (.ifCond .eq 12, 3) := by decide +kernel
theorem dX6_formAgainst_75 : decode cX6_formAgainst 75 = .ok (.aload_n 1, 1) := by decide +kernel
theorem dX6_formAgainst_76 : decode cX6_formAgainst 76 = .ok (.iload_n 2, 1) := by decide +kernel
theorem dX6_formAgainst_77 : decode cX6_formAgainst 77 = .ok (.iload_n 3, 1) := by decide +kernel
theorem dX6_formAgainst_78 : decode cX6_formAgainst 78 = .ok (.invokevirtual 77, 3) := by decide +kernel
theorem dX6_formAgainst_81 : decode cX6_formAgainst 81 = .ok (.goto 9, 3) := by decide +kernel
theorem dX6_formAgainst_84 : decode cX6_formAgainst 84 = .ok (.aload_n 0, 1) := by decide +kernel
theorem dX6_formAgainst_85 : decode cX6_formAgainst 85 = .ok (.iload_n 3, 1) := by decide +kernel
theorem dX6_formAgainst_86 : decode cX6_formAgainst 86 = .ok (.iload_n 2, 1) := by decide +kernel
theorem dX6_formAgainst_87 : decode cX6_formAgainst 87 = .ok (.invokevirtual 77, 3) := by decide +kernel
theorem dX6_formAgainst_90 : decode cX6_formAgainst 90 = .ok (.istore 5, 2) := by decide +kernel
theorem dX6_formAgainst_92 : decode cX6_formAgainst 92 = .ok (.iload 5, 2) := by decide +kernel
theorem dX6_formAgainst_94 : decode cX6_formAgainst 94 = .ok (.iconst 3, 1) := by decide +kernel
theorem dX6_formAgainst_95 : decode cX6_formAgainst 95 = .ok (.if_icmp .le 6, 3) := by decide +kernel
theorem dX6_formAgainst_98 : decode cX6_formAgainst 98 = .ok (.bipush 40, 2) := by decide +kernel
theorem dX6_formAgainst_100 : decode cX6_formAgainst 100 = .ok (.ireturn, 1) := by decide +kernel
theorem dX6_formAgainst_101 : decode cX6_formAgainst 101 = .ok (.iload 4, 2) := by decide +kernel
theorem dX6_formAgainst_103 : decode cX6_formAgainst 103 = .ok (.ifCond .eq 8, 3) := by decide +kernel
theorem dX6_formAgainst_106 : decode cX6_formAgainst 106 = .ok (.bipush 20, 2) := by decide +kernel
theorem dX6_formAgainst_108 : decode cX6_formAgainst 108 = .ok (.goto 5, 3) := by decide +kernel
theorem dX6_formAgainst_111 : decode cX6_formAgainst 111 = .ok (.bipush 30, 2) := by decide +kernel
theorem dX6_formAgainst_113 : decode cX6_formAgainst 113 = .ok (.iload 5, 2) := by decide +kernel
theorem dX6_formAgainst_115 : decode cX6_formAgainst 115 = .ok (.iadd, 1) := by decide +kernel
theorem dX6_formAgainst_116 : decode cX6_formAgainst 116 = .ok (.ireturn, 1) := by decide +kernel
theorem dX7_init_0 : decode cX7_init 0 = .ok (.aload_n 0, 1) := by decide +kernel
theorem dX7_init_1 : decode cX7_init 1 = .ok (.invokespecial 3, 3) := by decide +kernel
theorem dX7_init_4 : decode cX7_init 4 = .ok (.aload_n 0, 1) := by decide +kernel
theorem dX7_init_5 : decode cX7_init 5 = .ok (.aload_n 1, 1) := by decide +kernel
theorem dX7_init_6 : decode cX7_init 6 = .ok (.putfield 9, 3) := by decide +kernel
theorem dX7_init_9 : decode cX7_init 9 = .ok (.return_, 1) := by decide +kernel
theorem dX7_perform_0 : decode cX7_perform 0 = .ok (.aload_n 3, 1) := by decide +kernel
theorem dX7_perform_1 : decode cX7_perform 1 = .ok (.getfield 15, 3) := by decide +kernel
theorem dX7_perform_4 : decode cX7_perform 4 = .ok (.tableswitch 322 0 20 #[100, 107, 114, 121, 133, 145, 160, 184, 192, 200, 210, 222, 240, 251, 322, 272, 272, 272, 280, 280, 291], 100) := by decide +kernel
theorem dX7_perform_104 : decode cX7_perform 104 = .ok (.aload 4, 2) := by decide +kernel
theorem dX7_perform_106 : decode cX7_perform 106 = .ok (.iconst 1, 1) := by decide +kernel
theorem dX7_perform_107 : decode cX7_perform 107 = .ok (.invokevirtual 21, 3) := by decide +kernel
theorem dX7_perform_110 : decode cX7_perform 110 = .ok (.ireturn, 1) := by decide +kernel
theorem dX7_perform_111 : decode cX7_perform 111 = .ok (.aload 4, 2) := by decide +kernel
theorem dX7_perform_113 : decode cX7_perform 113 = .ok (.iconst 2, 1) := by decide +kernel
theorem dX7_perform_114 : decode cX7_perform 114 = .ok (.invokevirtual 21, 3) := by decide +kernel
theorem dX7_perform_117 : decode cX7_perform 117 = .ok (.ireturn, 1) := by decide +kernel
theorem dX7_perform_118 : decode cX7_perform 118 = .ok (.aload 4, 2) := by decide +kernel
theorem dX7_perform_120 : decode cX7_perform 120 = .ok (.iconst 4, 1) := by decide +kernel
theorem dX7_perform_121 : decode cX7_perform 121 = .ok (.invokevirtual 21, 3) := by decide +kernel
theorem dX7_perform_124 : decode cX7_perform 124 = .ok (.ireturn, 1) := by decide +kernel
theorem dX7_perform_125 : decode cX7_perform 125 = .ok (.aload_n 0, 1) := by decide +kernel
theorem dX7_perform_126 : decode cX7_perform 126 = .ok (.aload_n 1, 1) := by decide +kernel
theorem dX7_perform_127 : decode cX7_perform 127 = .ok (.aload_n 3, 1) := by decide +kernel
theorem dX7_perform_128 : decode cX7_perform 128 = .ok (.getfield 27, 3) := by decide +kernel
theorem dX7_perform_131 : decode cX7_perform 131 = .ok (.aload 4, 2) := by decide +kernel
theorem dX7_perform_133 : decode cX7_perform 133 = .ok (.invokevirtual 30, 3) := by decide +kernel
theorem dX7_perform_136 : decode cX7_perform 136 = .ok (.ireturn, 1) := by decide +kernel
theorem dX7_perform_137 : decode cX7_perform 137 = .ok (.aload_n 0, 1) := by decide +kernel
theorem dX7_perform_138 : decode cX7_perform 138 = .ok (.aload_n 1, 1) := by decide +kernel
theorem dX7_perform_139 : decode cX7_perform 139 = .ok (.aload_n 3, 1) := by decide +kernel
theorem dX7_perform_140 : decode cX7_perform 140 = .ok (.getfield 27, 3) := by decide +kernel
theorem dX7_perform_143 : decode cX7_perform 143 = .ok (.aload 4, 2) := by decide +kernel
theorem dX7_perform_145 : decode cX7_perform 145 = .ok (.invokevirtual 34, 3) := by decide +kernel
theorem dX7_perform_148 : decode cX7_perform 148 = .ok (.ireturn, 1) := by decide +kernel
theorem dX7_perform_149 : decode cX7_perform 149 = .ok (.aload 4, 2) := by decide +kernel
theorem dX7_perform_151 : decode cX7_perform 151 = .ok (.invokevirtual 37, 3) := by decide +kernel
theorem dX7_perform_154 : decode cX7_perform 154 = .ok (.iconst (-1), 1) := by decide +kernel
theorem dX7_perform_155 : decode cX7_perform 155 = .ok (.if_icmp .ne 7, 3) := by decide +kernel
theorem dX7_perform_158 : decode cX7_perform 158 = .ok (.iconst 1, 1) := by decide +kernel
theorem dX7_perform_159 : decode cX7_perform 159 = .ok (.goto 4, 3) := by decide +kernel
theorem dX7_perform_162 : decode cX7_perform 162 = .ok (.iconst 0, 1) := by decide +kernel
theorem dX7_perform_163 : decode cX7_perform 163 = .ok (.ireturn, 1) := by decide +kernel
theorem dX7_perform_164 : decode cX7_perform 164 = .ok (.aload 4, 2) := by decide +kernel
theorem dX7_perform_166 : decode cX7_perform 166 = .ok (.invokevirtual 41, 3) := by decide +kernel
theorem dX7_perform_169 : decode cX7_perform 169 = .ok (.iconst (-1), 1) := by decide +kernel
theorem dX7_perform_170 : decode cX7_perform 170 = .ok (.if_icmp .ne 7, 3) := by decide +kernel
theorem dX7_perform_173 : decode cX7_perform 173 = .ok (.iconst 1, 1) := by decide +kernel
theorem dX7_perform_174 : decode cX7_perform 174 = .ok (.goto 13, 3) := by decide +kernel
theorem dX7_perform_177 : decode cX7_perform 177 = .ok (.aload 4, 2) := by decide +kernel
theorem dX7_perform_179 : decode cX7_perform 179 = .ok (.aload 4, 2) := by decide +kernel
theorem dX7_perform_181 : decode cX7_perform 181 = .ok (.invokevirtual 41, 3) := by decide +kernel
theorem dX7_perform_184 : decode cX7_perform 184 = .ok (.invokevirtual 21, 3) := by decide +kernel
theorem dX7_perform_187 : decode cX7_perform 187 = .ok (.ireturn, 1) := by decide +kernel
theorem dX7_perform_188 : decode cX7_perform 188 = .ok (.aload_n 0, 1) := by decide +kernel
theorem dX7_perform_189 : decode cX7_perform 189 = .ok (.aload 4, 2) := by decide +kernel
theorem dX7_perform_191 : decode cX7_perform 191 = .ok (.iconst 1, 1) := by decide +kernel
theorem dX7_perform_192 : decode cX7_perform 192 = .ok (.invokevirtual 44, 3) := by decide +kernel
theorem dX7_perform_195 : decode cX7_perform 195 = .ok (.ireturn, 1) := by decide +kernel
theorem dX7_perform_196 : decode cX7_perform 196 = .ok (.aload_n 0, 1) := by decide +kernel
theorem dX7_perform_197 : decode cX7_perform 197 = .ok (.aload 4, 2) := by decide +kernel
theorem dX7_perform_199 : decode cX7_perform 199 = .ok (.iconst 2, 1) := by decide +kernel
theorem dX7_perform_200 : decode cX7_perform 200 = .ok (.invokevirtual 44, 3) := by decide +kernel
theorem dX7_perform_203 : decode cX7_perform 203 = .ok (.ireturn, 1) := by decide +kernel
theorem dX7_perform_204 : decode cX7_perform 204 = .ok (.aload 4, 2) := by decide +kernel
theorem dX7_perform_206 : decode cX7_perform 206 = .ok (.bipush 100, 2) := by decide +kernel
theorem dX7_perform_208 : decode cX7_perform 208 = .ok (.iload_n 2, 1) := by decide +kernel
theorem dX7_perform_209 : decode cX7_perform 209 = .ok (.iadd, 1) := by decide +kernel
theorem dX7_perform_210 : decode cX7_perform 210 = .ok (.invokevirtual 21, 3) := by decide +kernel
theorem dX7_perform_213 : decode cX7_perform 213 = .ok (.ireturn, 1) := by decide +kernel
theorem dX7_perform_214 : decode cX7_perform 214 = .ok (.aload_n 0, 1) := by decide +kernel
theorem dX7_perform_215 : decode cX7_perform 215 = .ok (.aload_n 1, 1) := by decide +kernel
theorem dX7_perform_216 : decode cX7_perform 216 = .ok (.aload_n 3, 1) := by decide +kernel
theorem dX7_perform_217 : decode cX7_perform 217 = .ok (.getfield 27, 3) := by decide +kernel
theorem dX7_perform_220 : decode cX7_perform 220 = .ok (.aload 4, 2) := by decide +kernel
theorem dX7_perform_222 : decode cX7_perform 222 = .ok (.invokevirtual 48, 3) := by decide +kernel
theorem dX7_perform_225 : decode cX7_perform 225 = .ok (.ireturn, 1) := by decide +kernel
theorem dX7_perform_226 : decode cX7_perform 226 = .ok (.aload_n 0, 1) := by decide +kernel
theorem dX7_perform_227 : decode cX7_perform 227 = .ok (.aload_n 0, 1) := by decide +kernel
theorem dX7_perform_228 : decode cX7_perform 228 = .ok (.aload 4, 2) := by decide +kernel
theorem dX7_perform_230 : decode cX7_perform 230 = .ok (.aload_n 3, 1) := by decide +kernel
theorem dX7_perform_231 : decode cX7_perform 231 = .ok (.getfield 27, 3) := by decide +kernel
theorem dX7_perform_234 : decode cX7_perform 234 = .ok (.invokevirtual 51, 3) := by decide +kernel
theorem dX7_perform_237 : decode cX7_perform 237 = .ok (.aload 4, 2) := by decide +kernel
theorem dX7_perform_239 : decode cX7_perform 239 = .ok (.iconst 1, 1) := by decide +kernel
theorem dX7_perform_240 : decode cX7_perform 240 = .ok (.invokevirtual 54, 3) := by decide +kernel
theorem dX7_perform_243 : decode cX7_perform 243 = .ok (.ireturn, 1) := by decide +kernel
theorem dX7_perform_244 : decode cX7_perform 244 = .ok (.aload_n 0, 1) := by decide +kernel
theorem dX7_perform_245 : decode cX7_perform 245 = .ok (.aload 4, 2) := by decide +kernel
theorem dX7_perform_247 : decode cX7_perform 247 = .ok (.aload_n 3, 1) := by decide +kernel
theorem dX7_perform_248 : decode cX7_perform 248 = .ok (.getfield 27, 3) := by decide +kernel
theorem dX7_perform_251 : decode cX7_perform 251 = .ok (.invokevirtual 58, 3) := by decide +kernel
theorem dX7_perform_254 : decode cX7_perform 254 = .ok (.ireturn, 1) := by decide +kernel
theorem dX7_perform_255 : decode cX7_perform 255 = .ok (.aload_n 0, 1) := by decide +kernel
theorem dX7_perform_256 : decode cX7_perform 256 = .ok (.aload_n 0, 1) := by decide +kernel
theorem dX7_perform_257 : decode cX7_perform 257 = .ok (.aload 4, 2) := by decide +kernel
theorem dX7_perform_259 : decode cX7_perform 259 = .ok (.iconst 0, 1) := by decide +kernel
theorem dX7_perform_260 : decode cX7_perform 260 = .ok (.invokevirtual 51, 3) := by decide +kernel
theorem dX7_perform_263 : decode cX7_perform 263 = .ok (.aload 4, 2) := by decide +kernel
theorem dX7_perform_265 : decode cX7_perform 265 = .ok (.bipush 10, 2) := by decide +kernel
theorem dX7_perform_267 : decode cX7_perform 267 = .ok (.aload_n 3, 1) := by decide +kernel
theorem dX7_perform_268 : decode cX7_perform 268 = .ok (.getfield 27, 3) := by decide +kernel
theorem dX7_perform_271 : decode cX7_perform 271 = .ok (.iadd, 1) := by decide +kernel
theorem dX7_perform_272 : decode cX7_perform 272 = .ok (.invokevirtual 54, 3) := by decide +kernel
theorem dX7_perform_275 : decode cX7_perform 275 = .ok (.ireturn, 1) := by decide +kernel
theorem dX7_perform_276 : decode cX7_perform 276 = .ok (.aload_n 0, 1) := by decide +kernel
theorem dX7_perform_277 : decode cX7_perform 277 = .ok (.aload 4, 2) := by decide +kernel
theorem dX7_perform_279 : decode cX7_perform 279 = .ok (.iconst 1, 1) := by decide +kernel
theorem dX7_perform_280 : decode cX7_perform 280 = .ok (.invokevirtual 61, 3) := by decide +kernel
theorem dX7_perform_283 : decode cX7_perform 283 = .ok (.ireturn, 1) := by decide +kernel
theorem dX7_perform_284 : decode cX7_perform 284 = .ok (.aload_n 0, 1) := by decide +kernel
theorem dX7_perform_285 : decode cX7_perform 285 = .ok (.aload 4, 2) := by decide +kernel
theorem dX7_perform_287 : decode cX7_perform 287 = .ok (.aload_n 3, 1) := by decide +kernel
theorem dX7_perform_288 : decode cX7_perform 288 = .ok (.getfield 27, 3) := by decide +kernel
theorem dX7_perform_291 : decode cX7_perform 291 = .ok (.invokevirtual 51, 3) := by decide +kernel
theorem dX7_perform_294 : decode cX7_perform 294 = .ok (.ireturn, 1) := by decide +kernel
theorem dX7_perform_295 : decode cX7_perform 295 = .ok (.aload_n 1, 1) := by decide +kernel
theorem dX7_perform_296 : decode cX7_perform 296 = .ok (.aload_n 3, 1) := by decide +kernel
theorem dX7_perform_297 : decode cX7_perform 297 = .ok (.getfield 27, 3) := by decide +kernel
theorem dX7_perform_300 : decode cX7_perform 300 = .ok (.invokevirtual 64, 3) := by decide +kernel
theorem dX7_perform_303 : decode cX7_perform 303 = .ok (.ifCond .eq 20, 3) := by decide +kernel
theorem dX7_perform_306 : decode cX7_perform 306 = .ok (.aload 4, 2) := by decide +kernel
theorem dX7_perform_308 : decode cX7_perform 308 = .ok (.aload_n 3, 1) := by decide +kernel
theorem dX7_perform_309 : decode cX7_perform 309 = .ok (.getfield 27, 3) := by decide +kernel
theorem dX7_perform_312 : decode cX7_perform 312 = .ok (.invokevirtual 70, 3) := by decide +kernel
theorem dX7_perform_315 : decode cX7_perform 315 = .ok (.iconst 1, 1) := by decide +kernel
theorem dX7_perform_316 : decode cX7_perform 316 = .ok (.if_icmp .ne 7, 3) := by decide +kernel
theorem dX7_perform_319 : decode cX7_perform 319 = .ok (.iconst 0, 1) := by decide +kernel
theorem dX7_perform_320 : decode cX7_perform 320 = .ok (.goto 5, 3) := by decide +kernel
theorem dX7_perform_323 : decode cX7_perform 323 = .ok (.bipush 7, 2) := by decide +kernel
theorem dX7_perform_325 : decode cX7_perform 325 = .ok (.ireturn, 1) := by decide +kernel
theorem dX7_perform_326 : decode cX7_perform 326 = .ok (.iconst 0, 1) := by decide +kernel
theorem dX7_perform_327 : decode cX7_perform 327 = .ok (.ireturn, 1) := by decide +kernel
theorem dX7_load_0 : decode cX7_load 0 = .ok (.aload_n 3, 1) := by decide +kernel
theorem dX7_load_1 : decode cX7_load 1 = .ok (.iload_n 2, 1) := by decide +kernel
theorem dX7_load_2 : decode cX7_load 2 = .ok (.invokevirtual 70, 3) := by decide +kernel
theorem dX7_load_5 : decode cX7_load 5 = .ok (.istore 4, 2) := by decide +kernel
theorem dX7_load_7 : decode cX7_load 7 = .ok (.aload_n 1, 1) := by decide +kernel
theorem dX7_load_8 : decode cX7_load 8 = .ok (.iload_n 2, 1) := by decide +kernel
theorem dX7_load_9 : decode cX7_load 9 = .ok (.invokevirtual 64, 3) := by decide +kernel
theorem dX7_load_12 : decode cX7_load 12 = .ok (.ifCond .eq 14, 3) := by decide +kernel
theorem dX7_load_15 : decode cX7_load 15 = .ok (.iload 4, 2) := by decide +kernel
theorem dX7_load_17 : decode cX7_load 17 = .ok (.ifCond .eq 9, 3) := by decide +kernel
theorem dX7_load_20 : decode cX7_load 20 = .ok (.iload 4, 2) := by decide +kernel
theorem dX7_load_22 : decode cX7_load 22 = .ok (.iconst 3, 1) := by decide +kernel
theorem dX7_load_23 : decode cX7_load 23 = .ok (.if_icmp .ne 6, 3) := by decide +kernel
theorem dX7_load_26 : decode cX7_load 26 = .ok (.bipush 7, 2) := by decide +kernel
theorem dX7_load_28 : decode cX7_load 28 = .ok (.ireturn, 1) := by decide +kernel
theorem dX7_load_29 : decode cX7_load 29 = .ok (.aload_n 3, 1) := by decide +kernel
theorem dX7_load_30 : decode cX7_load 30 = .ok (.iload 4, 2) := by decide +kernel
theorem dX7_load_32 : decode cX7_load 32 = .ok (.invokevirtual 21, 3) := by decide +kernel
theorem dX7_load_35 : decode cX7_load 35 = .ok (.ireturn, 1) := by decide +kernel
theorem dX7_store_0 : decode cX7_store 0 = .ok (.aload_n 1, 1) := by decide +kernel
theorem dX7_store_1 : decode cX7_store 1 = .ok (.iload_n 2, 1) := by decide +kernel
theorem dX7_store_2 : decode cX7_store 2 = .ok (.invokevirtual 64, 3) := by decide +kernel
theorem dX7_store_5 : decode cX7_store 5 = .ok (.ifCond .ne 6, 3) := by decide +kernel
theorem dX7_store_8 : decode cX7_store 8 = .ok (.bipush 7, 2) := by decide +kernel
theorem dX7_store_10 : decode cX7_store 10 = .ok (.ireturn, 1) := by decide +kernel
theorem dX7_store_11 : decode cX7_store 11 = .ok (.aload_n 3, 1) := by decide +kernel
theorem dX7_store_12 : decode cX7_store 12 = .ok (.invokevirtual 37, 3) := by decide +kernel
theorem dX7_store_15 : decode cX7_store 15 = .ok (.istore 4, 2) := by decide +kernel
theorem dX7_store_17 : decode cX7_store 17 = .ok (.iload 4, 2) := by decide +kernel
theorem dX7_store_19 : decode cX7_store 19 = .ok (.iconst (-1), 1) := by decide +kernel
theorem dX7_store_20 : decode cX7_store 20 = .ok (.if_icmp .ne 5, 3) := by decide +kernel
theorem dX7_store_23 : decode cX7_store 23 = .ok (.iconst 1, 1) := by decide +kernel
theorem dX7_store_24 : decode cX7_store 24 = .ok (.ireturn, 1) := by decide +kernel
theorem dX7_store_25 : decode cX7_store 25 = .ok (.iload 4, 2) := by decide +kernel
theorem dX7_store_27 : decode cX7_store 27 = .ok (.iconst 2, 1) := by decide +kernel
theorem dX7_store_28 : decode cX7_store 28 = .ok (.if_icmp .ne 16, 3) := by decide +kernel
theorem dX7_store_31 : decode cX7_store 31 = .ok (.aload_n 1, 1) := by decide +kernel
theorem dX7_store_32 : decode cX7_store 32 = .ok (.iload_n 2, 1) := by decide +kernel
theorem dX7_store_33 : decode cX7_store 33 = .ok (.iconst 1, 1) := by decide +kernel
theorem dX7_store_34 : decode cX7_store 34 = .ok (.iadd, 1) := by decide +kernel
theorem dX7_store_35 : decode cX7_store 35 = .ok (.invokevirtual 64, 3) := by decide +kernel
theorem dX7_store_38 : decode cX7_store 38 = .ok (.ifCond .ne 6, 3) := by decide +kernel
theorem dX7_store_41 : decode cX7_store 41 = .ok (.bipush 7, 2) := by decide +kernel
theorem dX7_store_43 : decode cX7_store 43 = .ok (.ireturn, 1) := by decide +kernel
theorem dX7_store_44 : decode cX7_store 44 = .ok (.aload_n 3, 1) := by decide +kernel
theorem dX7_store_45 : decode cX7_store 45 = .ok (.iload_n 2, 1) := by decide +kernel
theorem dX7_store_46 : decode cX7_store 46 = .ok (.iload 4, 2) := by decide +kernel
theorem dX7_store_48 : decode cX7_store 48 = .ok (.invokevirtual 73, 3) := by decide +kernel
theorem dX7_store_51 : decode cX7_store 51 = .ok (.iconst 0, 1) := by decide +kernel
theorem dX7_store_52 : decode cX7_store 52 = .ok (.ireturn, 1) := by decide +kernel
theorem dX7_take_0 : decode cX7_take 0 = .ok (.aload_n 1, 1) := by decide +kernel
theorem dX7_take_1 : decode cX7_take 1 = .ok (.invokevirtual 37, 3) := by decide +kernel
theorem dX7_take_4 : decode cX7_take 4 = .ok (.istore_n 3, 1) := by decide +kernel
theorem dX7_take_5 : decode cX7_take 5 = .ok (.iload_n 3, 1) := by decide +kernel
theorem dX7_take_6 : decode cX7_take 6 = .ok (.iconst (-1), 1) := by decide +kernel
theorem dX7_take_7 : decode cX7_take 7 = .ok (.if_icmp .ne 5, 3) := by decide +kernel
theorem dX7_take_10 : decode cX7_take 10 = .ok (.iconst 1, 1) := by decide +kernel
theorem dX7_take_11 : decode cX7_take 11 = .ok (.ireturn, 1) := by decide +kernel
theorem dX7_take_12 : decode cX7_take 12 = .ok (.iload_n 3, 1) := by decide +kernel
theorem dX7_take_13 : decode cX7_take 13 = .ok (.iload_n 2, 1) := by decide +kernel
theorem dX7_take_14 : decode cX7_take 14 = .ok (.if_icmp .ne 7, 3) := by decide +kernel
theorem dX7_take_17 : decode cX7_take 17 = .ok (.iconst 0, 1) := by decide +kernel
theorem dX7_take_18 : decode cX7_take 18 = .ok (.goto 4, 3) := by decide +kernel
theorem dX7_take_21 : decode cX7_take 21 = .ok (.iconst 2, 1) := by decide +kernel
theorem dX7_take_22 : decode cX7_take 22 = .ok (.ireturn, 1) := by decide +kernel
theorem dX7_takeObject_0 : decode cX7_takeObject 0 = .ok (.aload_n 1, 1) := by decide +kernel
theorem dX7_takeObject_1 : decode cX7_takeObject 1 = .ok (.invokevirtual 37, 3) := by decide +kernel
theorem dX7_takeObject_4 : decode cX7_takeObject 4 = .ok (.istore_n 3, 1) := by decide +kernel
theorem dX7_takeObject_5 : decode cX7_takeObject 5 = .ok (.iload_n 3, 1) := by decide +kernel
theorem dX7_takeObject_6 : decode cX7_takeObject 6 = .ok (.iconst (-1), 1) := by decide +kernel
theorem dX7_takeObject_7 : decode cX7_takeObject 7 = .ok (.if_icmp .ne 5, 3) := by decide +kernel
theorem dX7_takeObject_10 : decode cX7_takeObject 10 = .ok (.iconst 1, 1) := by decide +kernel
theorem dX7_takeObject_11 : decode cX7_takeObject 11 = .ok (.ireturn, 1) := by decide +kernel
theorem dX7_takeObject_12 : decode cX7_takeObject 12 = .ok (.aload_n 0, 1) := by decide +kernel
theorem dX7_takeObject_13 : decode cX7_takeObject 13 = .ok (.getfield 9, 3) := by decide +kernel
theorem dX7_takeObject_16 : decode cX7_takeObject 16 = .ok (.iload_n 3, 1) := by decide +kernel
theorem dX7_takeObject_17 : decode cX7_takeObject 17 = .ok (.iload_n 2, 1) := by decide +kernel
theorem dX7_takeObject_18 : decode cX7_takeObject 18 = .ok (.invokevirtual 76, 3) := by decide +kernel
theorem dX7_takeObject_21 : decode cX7_takeObject 21 = .ok (.ifCond .eq 7, 3) := by decide +kernel
theorem dX7_takeObject_24 : decode cX7_takeObject 24 = .ok (.iconst 0, 1) := by decide +kernel
theorem dX7_takeObject_25 : decode cX7_takeObject 25 = .ok (.goto 4, 3) := by decide +kernel
theorem dX7_takeObject_28 : decode cX7_takeObject 28 = .ok (.iconst 2, 1) := by decide +kernel
theorem dX7_takeObject_29 : decode cX7_takeObject 29 = .ok (.ireturn, 1) := by decide +kernel
theorem dX7_pushUnless_0 : decode cX7_pushUnless 0 = .ok (.iload_n 1, 1) := by decide +kernel
theorem dX7_pushUnless_1 : decode cX7_pushUnless 1 = .ok (.ifCond .ne 11, 3) := by decide +kernel
theorem dX7_pushUnless_4 : decode cX7_pushUnless 4 = .ok (.aload_n 2, 1) := by decide +kernel
theorem dX7_pushUnless_5 : decode cX7_pushUnless 5 = .ok (.iload_n 3, 1) := by decide +kernel
theorem dX7_pushUnless_6 : decode cX7_pushUnless 6 = .ok (.invokevirtual 21, 3) := by decide +kernel
theorem dX7_pushUnless_9 : decode cX7_pushUnless 9 = .ok (.goto 4, 3) := by decide +kernel
theorem dX7_pushUnless_12 : decode cX7_pushUnless 12 = .ok (.iload_n 1, 1) := by decide +kernel
theorem dX7_pushUnless_13 : decode cX7_pushUnless 13 = .ok (.ireturn, 1) := by decide +kernel
theorem dX7_add_0 : decode cX7_add 0 = .ok (.aload_n 0, 1) := by decide +kernel
theorem dX7_add_1 : decode cX7_add 1 = .ok (.aload_n 1, 1) := by decide +kernel
theorem dX7_add_2 : decode cX7_add 2 = .ok (.iload_n 2, 1) := by decide +kernel
theorem dX7_add_3 : decode cX7_add 3 = .ok (.invokevirtual 61, 3) := by decide +kernel
theorem dX7_add_6 : decode cX7_add 6 = .ok (.istore_n 3, 1) := by decide +kernel
theorem dX7_add_7 : decode cX7_add 7 = .ok (.iload_n 3, 1) := by decide +kernel
theorem dX7_add_8 : decode cX7_add 8 = .ok (.ifCond .ne 10, 3) := by decide +kernel
theorem dX7_add_11 : decode cX7_add 11 = .ok (.aload_n 0, 1) := by decide +kernel
theorem dX7_add_12 : decode cX7_add 12 = .ok (.aload_n 1, 1) := by decide +kernel
theorem dX7_add_13 : decode cX7_add 13 = .ok (.iload_n 2, 1) := by decide +kernel
theorem dX7_add_14 : decode cX7_add 14 = .ok (.invokevirtual 61, 3) := by decide +kernel
theorem dX7_add_17 : decode cX7_add 17 = .ok (.istore_n 3, 1) := by decide +kernel
theorem dX7_add_18 : decode cX7_add 18 = .ok (.aload_n 0, 1) := by decide +kernel
theorem dX7_add_19 : decode cX7_add 19 = .ok (.iload_n 3, 1) := by decide +kernel
theorem dX7_add_20 : decode cX7_add 20 = .ok (.aload_n 1, 1) := by decide +kernel
theorem dX7_add_21 : decode cX7_add 21 = .ok (.iload_n 2, 1) := by decide +kernel
theorem dX7_add_22 : decode cX7_add 22 = .ok (.invokevirtual 54, 3) := by decide +kernel
theorem dX7_add_25 : decode cX7_add 25 = .ok (.ireturn, 1) := by decide +kernel
theorem dX7_callOn_0 : decode cX7_callOn 0 = .ok (.aload_n 0, 1) := by decide +kernel
theorem dX7_callOn_1 : decode cX7_callOn 1 = .ok (.aload_n 1, 1) := by decide +kernel
theorem dX7_callOn_2 : decode cX7_callOn 2 = .ok (.iconst 1, 1) := by decide +kernel
theorem dX7_callOn_3 : decode cX7_callOn 3 = .ok (.invokevirtual 61, 3) := by decide +kernel
theorem dX7_callOn_6 : decode cX7_callOn 6 = .ok (.istore_n 3, 1) := by decide +kernel
theorem dX7_callOn_7 : decode cX7_callOn 7 = .ok (.iload_n 3, 1) := by decide +kernel
theorem dX7_callOn_8 : decode cX7_callOn 8 = .ok (.ifCond .ne 10, 3) := by decide +kernel
theorem dX7_callOn_11 : decode cX7_callOn 11 = .ok (.aload_n 0, 1) := by decide +kernel
theorem dX7_callOn_12 : decode cX7_callOn 12 = .ok (.aload_n 1, 1) := by decide +kernel
theorem dX7_callOn_13 : decode cX7_callOn 13 = .ok (.iload_n 2, 1) := by decide +kernel
theorem dX7_callOn_14 : decode cX7_callOn 14 = .ok (.invokevirtual 51, 3) := by decide +kernel
theorem dX7_callOn_17 : decode cX7_callOn 17 = .ok (.istore_n 3, 1) := by decide +kernel
theorem dX7_callOn_18 : decode cX7_callOn 18 = .ok (.aload_n 0, 1) := by decide +kernel
theorem dX7_callOn_19 : decode cX7_callOn 19 = .ok (.iload_n 3, 1) := by decide +kernel
theorem dX7_callOn_20 : decode cX7_callOn 20 = .ok (.aload_n 1, 1) := by decide +kernel
theorem dX7_callOn_21 : decode cX7_callOn 21 = .ok (.bipush 10, 2) := by decide +kernel
theorem dX7_callOn_23 : decode cX7_callOn 23 = .ok (.iload_n 2, 1) := by decide +kernel
theorem dX7_callOn_24 : decode cX7_callOn 24 = .ok (.iadd, 1) := by decide +kernel
theorem dX7_callOn_25 : decode cX7_callOn 25 = .ok (.invokevirtual 54, 3) := by decide +kernel
theorem dX7_callOn_28 : decode cX7_callOn 28 = .ok (.ireturn, 1) := by decide +kernel
theorem dX7_make_0 : decode cX7_make 0 = .ok (.aload_n 3, 1) := by decide +kernel
theorem dX7_make_1 : decode cX7_make 1 = .ok (.invokevirtual 37, 3) := by decide +kernel
theorem dX7_make_4 : decode cX7_make 4 = .ok (.istore 4, 2) := by decide +kernel
theorem dX7_make_6 : decode cX7_make 6 = .ok (.iload 4, 2) := by decide +kernel
theorem dX7_make_8 : decode cX7_make 8 = .ok (.iconst (-1), 1) := by decide +kernel
theorem dX7_make_9 : decode cX7_make 9 = .ok (.if_icmp .ne 5, 3) := by decide +kernel
theorem dX7_make_12 : decode cX7_make 12 = .ok (.iconst 1, 1) := by decide +kernel
theorem dX7_make_13 : decode cX7_make 13 = .ok (.ireturn, 1) := by decide +kernel
theorem dX7_make_14 : decode cX7_make 14 = .ok (.aload_n 1, 1) := by decide +kernel
theorem dX7_make_15 : decode cX7_make 15 = .ok (.iload 4, 2) := by decide +kernel
theorem dX7_make_17 : decode cX7_make 17 = .ok (.iload_n 2, 1) := by decide +kernel
theorem dX7_make_18 : decode cX7_make 18 = .ok (.invokevirtual 82, 3) := by decide +kernel
theorem dX7_make_21 : decode cX7_make 21 = .ok (.ifCond .ne 5, 3) := by decide +kernel
theorem dX7_make_24 : decode cX7_make 24 = .ok (.iconst 2, 1) := by decide +kernel
theorem dX7_make_25 : decode cX7_make 25 = .ok (.ireturn, 1) := by decide +kernel
theorem dX7_make_26 : decode cX7_make 26 = .ok (.aload_n 3, 1) := by decide +kernel
theorem dX7_make_27 : decode cX7_make 27 = .ok (.iload 4, 2) := by decide +kernel
theorem dX7_make_29 : decode cX7_make 29 = .ok (.bipush 10, 2) := by decide +kernel
theorem dX7_make_31 : decode cX7_make 31 = .ok (.iload_n 2, 1) := by decide +kernel
theorem dX7_make_32 : decode cX7_make 32 = .ok (.iadd, 1) := by decide +kernel
theorem dX7_make_33 : decode cX7_make 33 = .ok (.invokevirtual 85, 3) := by decide +kernel
theorem dX7_make_36 : decode cX7_make 36 = .ok (.iconst 0, 1) := by decide +kernel
theorem dX7_make_37 : decode cX7_make 37 = .ok (.ireturn, 1) := by decide +kernel
theorem dX8_init_0 : decode cX8_init 0 = .ok (.aload_n 0, 1) := by decide +kernel
theorem dX8_init_1 : decode cX8_init 1 = .ok (.invokespecial 1, 3) := by decide +kernel
theorem dX8_init_4 : decode cX8_init 4 = .ok (.aload_n 0, 1) := by decide +kernel
theorem dX8_init_5 : decode cX8_init 5 = .ok (.new 7, 3) := by decide +kernel
theorem dX8_init_8 : decode cX8_init 8 = .ok (.dup, 1) := by decide +kernel
theorem dX8_init_9 : decode cX8_init 9 = .ok (.invokespecial 9, 3) := by decide +kernel
theorem dX8_init_12 : decode cX8_init 12 = .ok (.putfield 10, 3) := by decide +kernel
theorem dX8_init_15 : decode cX8_init 15 = .ok (.aload_n 0, 1) := by decide +kernel
theorem dX8_init_16 : decode cX8_init 16 = .ok (.bipush 8, 2) := by decide +kernel
theorem dX8_init_18 : decode cX8_init 18 = .ok (.anewarray 16, 3) := by decide +kernel
theorem dX8_init_21 : decode cX8_init 21 = .ok (.putfield 18, 3) := by decide +kernel
theorem dX8_init_24 : decode cX8_init 24 = .ok (.iconst 0, 1) := by decide +kernel
theorem dX8_init_25 : decode cX8_init 25 = .ok (.istore_n 1, 1) := by decide +kernel
theorem dX8_init_26 : decode cX8_init 26 = .ok (.iload_n 1, 1) := by decide +kernel
theorem dX8_init_27 : decode cX8_init 27 = .ok (.bipush 8, 2) := by decide +kernel
theorem dX8_init_29 : decode cX8_init 29 = .ok (.if_icmp .ge 22, 3) := by decide +kernel
theorem dX8_init_32 : decode cX8_init 32 = .ok (.aload_n 0, 1) := by decide +kernel
theorem dX8_init_33 : decode cX8_init 33 = .ok (.getfield 18, 3) := by decide +kernel
theorem dX8_init_36 : decode cX8_init 36 = .ok (.iload_n 1, 1) := by decide +kernel
theorem dX8_init_37 : decode cX8_init 37 = .ok (.new 16, 3) := by decide +kernel
theorem dX8_init_40 : decode cX8_init 40 = .ok (.dup, 1) := by decide +kernel
theorem dX8_init_41 : decode cX8_init 41 = .ok (.invokespecial 22, 3) := by decide +kernel
theorem dX8_init_44 : decode cX8_init 44 = .ok (.aastore, 1) := by decide +kernel
theorem dX8_init_45 : decode cX8_init 45 = .ok (.iinc 1 1, 3) := by decide +kernel
theorem dX8_init_48 : decode cX8_init 48 = .ok (.goto (-22), 3) := by decide +kernel
theorem dX8_init_51 : decode cX8_init 51 = .ok (.new 23, 3) := by decide +kernel
theorem dX8_init_54 : decode cX8_init 54 = .ok (.dup, 1) := by decide +kernel
theorem dX8_init_55 : decode cX8_init 55 = .ok (.aload_n 0, 1) := by decide +kernel
theorem dX8_init_56 : decode cX8_init 56 = .ok (.getfield 10, 3) := by decide +kernel
theorem dX8_init_59 : decode cX8_init 59 = .ok (.invokespecial 25, 3) := by decide +kernel
theorem dX8_init_62 : decode cX8_init 62 = .ok (.astore_n 1, 1) := by decide +kernel
theorem dX8_init_63 : decode cX8_init 63 = .ok (.aload_n 0, 1) := by decide +kernel
theorem dX8_init_64 : decode cX8_init 64 = .ok (.new 28, 3) := by decide +kernel
theorem dX8_init_67 : decode cX8_init 67 = .ok (.dup, 1) := by decide +kernel
theorem dX8_init_68 : decode cX8_init 68 = .ok (.aload_n 0, 1) := by decide +kernel
theorem dX8_init_69 : decode cX8_init 69 = .ok (.getfield 10, 3) := by decide +kernel
theorem dX8_init_72 : decode cX8_init 72 = .ok (.aload_n 1, 1) := by decide +kernel
theorem dX8_init_73 : decode cX8_init 73 = .ok (.invokespecial 30, 3) := by decide +kernel
theorem dX8_init_76 : decode cX8_init 76 = .ok (.putfield 33, 3) := by decide +kernel
theorem dX8_init_79 : decode cX8_init 79 = .ok (.aload_n 0, 1) := by decide +kernel
theorem dX8_init_80 : decode cX8_init 80 = .ok (.new 37, 3) := by decide +kernel
theorem dX8_init_83 : decode cX8_init 83 = .ok (.dup, 1) := by decide +kernel
theorem dX8_init_84 : decode cX8_init 84 = .ok (.aload_n 0, 1) := by decide +kernel
theorem dX8_init_85 : decode cX8_init 85 = .ok (.getfield 10, 3) := by decide +kernel
theorem dX8_init_88 : decode cX8_init 88 = .ok (.aload_n 1, 1) := by decide +kernel
theorem dX8_init_89 : decode cX8_init 89 = .ok (.invokespecial 39, 3) := by decide +kernel
theorem dX8_init_92 : decode cX8_init 92 = .ok (.putfield 40, 3) := by decide +kernel
theorem dX8_init_95 : decode cX8_init 95 = .ok (.aload_n 0, 1) := by decide +kernel
theorem dX8_init_96 : decode cX8_init 96 = .ok (.iconst 0, 1) := by decide +kernel
theorem dX8_init_97 : decode cX8_init 97 = .ok (.putfield 44, 3) := by decide +kernel
theorem dX8_init_100 : decode cX8_init 100 = .ok (.return_, 1) := by decide +kernel
theorem dX8_cls_0 : decode cX8_cls 0 = .ok (.aload_n 0, 1) := by decide +kernel
theorem dX8_cls_1 : decode cX8_cls 1 = .ok (.getfield 10, 3) := by decide +kernel
theorem dX8_cls_4 : decode cX8_cls 4 = .ok (.iload_n 1, 1) := by decide +kernel
theorem dX8_cls_5 : decode cX8_cls 5 = .ok (.invokevirtual 48, 3) := by decide +kernel
theorem dX8_cls_8 : decode cX8_cls 8 = .ok (.ifCond .eq 22, 3) := by decide +kernel
theorem dX8_cls_11 : decode cX8_cls 11 = .ok (.aload_n 0, 1) := by decide +kernel
theorem dX8_cls_12 : decode cX8_cls 12 = .ok (.getfield 10, 3) := by decide +kernel
theorem dX8_cls_15 : decode cX8_cls 15 = .ok (.iload_n 1, 1) := by decide +kernel
theorem dX8_cls_16 : decode cX8_cls 16 = .ok (.invokevirtual 52, 3) := by decide +kernel
theorem dX8_cls_19 : decode cX8_cls 19 = .ok (.ifCond .ne 11, 3) := by decide +kernel
theorem dX8_cls_22 : decode cX8_cls 22 = .ok (.iload_n 2, 1) := by decide +kernel
theorem dX8_cls_23 : decode cX8_cls 23 = .ok (.ifCond .eq 9, 3) := by decide +kernel
theorem dX8_cls_26 : decode cX8_cls 26 = .ok (.iload_n 1, 1) := by decide +kernel
theorem dX8_cls_27 : decode cX8_cls 27 = .ok (.ifCond .eq 5, 3) := by decide +kernel
theorem dX8_cls_30 : decode cX8_cls 30 = .ok (.iconst (-1), 1) := by decide +kernel
theorem dX8_cls_31 : decode cX8_cls 31 = .ok (.ireturn, 1) := by decide +kernel
theorem dX8_cls_32 : decode cX8_cls 32 = .ok (.aload_n 0, 1) := by decide +kernel
theorem dX8_cls_33 : decode cX8_cls 33 = .ok (.getfield 10, 3) := by decide +kernel
theorem dX8_cls_36 : decode cX8_cls 36 = .ok (.iload_n 1, 1) := by decide +kernel
theorem dX8_cls_37 : decode cX8_cls 37 = .ok (.iload_n 2, 1) := by decide +kernel
theorem dX8_cls_38 : decode cX8_cls 38 = .ok (.invokevirtual 55, 3) := by decide +kernel
theorem dX8_cls_41 : decode cX8_cls 41 = .ok (.ireturn, 1) := by decide +kernel
theorem dX8_joined_0 : decode cX8_joined 0 = .ok (.aload_n 0, 1) := by decide +kernel
theorem dX8_joined_1 : decode cX8_joined 1 = .ok (.getfield 10, 3) := by decide +kernel
theorem dX8_joined_4 : decode cX8_joined 4 = .ok (.iload_n 1, 1) := by decide +kernel
theorem dX8_joined_5 : decode cX8_joined 5 = .ok (.invokevirtual 48, 3) := by decide +kernel
theorem dX8_joined_8 : decode cX8_joined 8 = .ok (.ifCond .eq 26, 3) := by decide +kernel
theorem dX8_joined_11 : decode cX8_joined 11 = .ok (.aload_n 0, 1) := by decide +kernel
theorem dX8_joined_12 : decode cX8_joined 12 = .ok (.getfield 10, 3) := by decide +kernel
theorem dX8_joined_15 : decode cX8_joined 15 = .ok (.iload_n 2, 1) := by decide +kernel
theorem dX8_joined_16 : decode cX8_joined 16 = .ok (.invokevirtual 48, 3) := by decide +kernel
theorem dX8_joined_19 : decode cX8_joined 19 = .ok (.ifCond .eq 15, 3) := by decide +kernel
theorem dX8_joined_22 : decode cX8_joined 22 = .ok (.aload_n 0, 1) := by decide +kernel
theorem dX8_joined_23 : decode cX8_joined 23 = .ok (.getfield 10, 3) := by decide +kernel
theorem dX8_joined_26 : decode cX8_joined 26 = .ok (.iload_n 1, 1) := by decide +kernel
theorem dX8_joined_27 : decode cX8_joined 27 = .ok (.iload_n 2, 1) := by decide +kernel
theorem dX8_joined_28 : decode cX8_joined 28 = .ok (.invokevirtual 59, 3) := by decide +kernel
theorem dX8_joined_31 : decode cX8_joined 31 = .ok (.goto 4, 3) := by decide +kernel
theorem dX8_joined_34 : decode cX8_joined 34 = .ok (.iconst (-1), 1) := by decide +kernel
theorem dX8_joined_35 : decode cX8_joined 35 = .ok (.ireturn, 1) := by decide +kernel
theorem dX8_is_0 : decode cX8_is 0 = .ok (.aload_n 0, 1) := by decide +kernel
theorem dX8_is_1 : decode cX8_is 1 = .ok (.getfield 10, 3) := by decide +kernel
theorem dX8_is_4 : decode cX8_is 4 = .ok (.iload_n 1, 1) := by decide +kernel
theorem dX8_is_5 : decode cX8_is 5 = .ok (.invokevirtual 48, 3) := by decide +kernel
theorem dX8_is_8 : decode cX8_is 8 = .ok (.ifCond .eq 14, 3) := by decide +kernel
theorem dX8_is_11 : decode cX8_is 11 = .ok (.aload_n 0, 1) := by decide +kernel
theorem dX8_is_12 : decode cX8_is 12 = .ok (.getfield 10, 3) := by decide +kernel
theorem dX8_is_15 : decode cX8_is 15 = .ok (.iload_n 2, 1) := by decide +kernel
theorem dX8_is_16 : decode cX8_is 16 = .ok (.invokevirtual 48, 3) := by decide +kernel
theorem dX8_is_19 : decode cX8_is 19 = .ok (.ifCond .ne 5, 3) := by decide +kernel
theorem dX8_is_22 : decode cX8_is 22 = .ok (.iconst (-1), 1) := by decide +kernel
theorem dX8_is_23 : decode cX8_is 23 = .ok (.ireturn, 1) := by decide +kernel
theorem dX8_is_24 : decode cX8_is 24 = .ok (.aload_n 0, 1) := by decide +kernel
theorem dX8_is_25 : decode cX8_is 25 = .ok (.getfield 10, 3) := by decide +kernel
theorem dX8_is_28 : decode cX8_is 28 = .ok (.iload_n 1, 1) := by decide +kernel
theorem dX8_is_29 : decode cX8_is 29 = .ok (.iload_n 2, 1) := by decide +kernel
theorem dX8_is_30 : decode cX8_is 30 = .ok (.invokevirtual 63, 3) := by decide +kernel
theorem dX8_is_33 : decode cX8_is 33 = .ok (.ifCond .eq 7, 3) := by decide +kernel
theorem dX8_is_36 : decode cX8_is 36 = .ok (.iconst 1, 1) := by decide +kernel
theorem dX8_is_37 : decode cX8_is 37 = .ok (.goto 4, 3) := by decide +kernel
theorem dX8_is_40 : decode cX8_is 40 = .ok (.iconst 0, 1) := by decide +kernel
theorem dX8_is_41 : decode cX8_is 41 = .ok (.ireturn, 1) := by decide +kernel
theorem dX8_clear_0 : decode cX8_clear 0 = .ok (.aload_n 0, 1) := by decide +kernel
theorem dX8_clear_1 : decode cX8_clear 1 = .ok (.iload_n 1, 1) := by decide +kernel
theorem dX8_clear_2 : decode cX8_clear 2 = .ok (.invokevirtual 67, 3) := by decide +kernel
theorem dX8_clear_5 : decode cX8_clear 5 = .ok (.astore_n 3, 1) := by decide +kernel
theorem dX8_clear_6 : decode cX8_clear 6 = .ok (.aload_n 3, 1) := by decide +kernel
theorem dX8_clear_7 : decode cX8_clear 7 = .ok (.ifnull 14, 3) := by decide +kernel
theorem dX8_clear_10 : decode cX8_clear 10 = .ok (.iload_n 2, 1) := by decide +kernel
theorem dX8_clear_11 : decode cX8_clear 11 = .ok (.iconst 1, 1) := by decide +kernel
theorem dX8_clear_12 : decode cX8_clear 12 = .ok (.if_icmp .lt 9, 3) := by decide +kernel
theorem dX8_clear_15 : decode cX8_clear 15 = .ok (.iload_n 2, 1) := by decide +kernel
theorem dX8_clear_16 : decode cX8_clear 16 = .ok (.bipush 8, 2) := by decide +kernel
theorem dX8_clear_18 : decode cX8_clear 18 = .ok (.if_icmp .le 5, 3) := by decide +kernel
theorem dX8_clear_21 : decode cX8_clear 21 = .ok (.iconst (-1), 1) := by decide +kernel
theorem dX8_clear_22 : decode cX8_clear 22 = .ok (.ireturn, 1) := by decide +kernel
theorem dX8_clear_23 : decode cX8_clear 23 = .ok (.aload_n 3, 1) := by decide +kernel
theorem dX8_clear_24 : decode cX8_clear 24 = .ok (.getfield 71, 3) := by decide +kernel
theorem dX8_clear_27 : decode cX8_clear 27 = .ok (.istore 4, 2) := by decide +kernel
theorem dX8_clear_29 : decode cX8_clear 29 = .ok (.aload_n 3, 1) := by decide +kernel
theorem dX8_clear_30 : decode cX8_clear 30 = .ok (.iload_n 2, 1) := by decide +kernel
theorem dX8_clear_31 : decode cX8_clear 31 = .ok (.invokevirtual 74, 3) := by decide +kernel
theorem dX8_clear_34 : decode cX8_clear 34 = .ok (.iload 4, 2) := by decide +kernel
theorem dX8_clear_36 : decode cX8_clear 36 = .ok (.ireturn, 1) := by decide +kernel
theorem dX8_argument_0 : decode cX8_argument 0 = .ok (.aload_n 0, 1) := by decide +kernel
theorem dX8_argument_1 : decode cX8_argument 1 = .ok (.iload_n 1, 1) := by decide +kernel
theorem dX8_argument_2 : decode cX8_argument 2 = .ok (.invokevirtual 67, 3) := by decide +kernel
theorem dX8_argument_5 : decode cX8_argument 5 = .ok (.astore_n 3, 1) := by decide +kernel
theorem dX8_argument_6 : decode cX8_argument 6 = .ok (.aload_n 3, 1) := by decide +kernel
theorem dX8_argument_7 : decode cX8_argument 7 = .ok (.ifnull 24, 3) := by decide +kernel
theorem dX8_argument_10 : decode cX8_argument 10 = .ok (.iload_n 2, 1) := by decide +kernel
theorem dX8_argument_11 : decode cX8_argument 11 = .ok (.iconst 1, 1) := by decide +kernel
theorem dX8_argument_12 : decode cX8_argument 12 = .ok (.if_icmp .eq 21, 3) := by decide +kernel
theorem dX8_argument_15 : decode cX8_argument 15 = .ok (.iload_n 2, 1) := by decide +kernel
theorem dX8_argument_16 : decode cX8_argument 16 = .ok (.iconst 2, 1) := by decide +kernel
theorem dX8_argument_17 : decode cX8_argument 17 = .ok (.if_icmp .eq 16, 3) := by decide +kernel
theorem dX8_argument_20 : decode cX8_argument 20 = .ok (.aload_n 0, 1) := by decide +kernel
theorem dX8_argument_21 : decode cX8_argument 21 = .ok (.getfield 10, 3) := by decide +kernel
theorem dX8_argument_24 : decode cX8_argument 24 = .ok (.iload_n 2, 1) := by decide +kernel
theorem dX8_argument_25 : decode cX8_argument 25 = .ok (.invokevirtual 78, 3) := by decide +kernel
theorem dX8_argument_28 : decode cX8_argument 28 = .ok (.ifCond .ne 5, 3) := by decide +kernel
theorem dX8_argument_31 : decode cX8_argument 31 = .ok (.iconst (-1), 1) := by decide +kernel
theorem dX8_argument_32 : decode cX8_argument 32 = .ok (.ireturn, 1) := by decide +kernel
theorem dX8_argument_33 : decode cX8_argument 33 = .ok (.aload_n 3, 1) := by decide +kernel
theorem dX8_argument_34 : decode cX8_argument 34 = .ok (.iload_n 2, 1) := by decide +kernel
theorem dX8_argument_35 : decode cX8_argument 35 = .ok (.invokevirtual 81, 3) := by decide +kernel
theorem dX8_argument_38 : decode cX8_argument 38 = .ok (.ireturn, 1) := by decide +kernel
theorem dX8_act_0 : decode cX8_act 0 = .ok (.aload_n 0, 1) := by decide +kernel
theorem dX8_act_1 : decode cX8_act 1 = .ok (.iload_n 1, 1) := by decide +kernel
theorem dX8_act_2 : decode cX8_act 2 = .ok (.invokevirtual 67, 3) := by decide +kernel
theorem dX8_act_5 : decode cX8_act 5 = .ok (.astore 5, 2) := by decide +kernel
theorem dX8_act_7 : decode cX8_act 7 = .ok (.aload 5, 2) := by decide +kernel
theorem dX8_act_9 : decode cX8_act 9 = .ok (.ifnull 14, 3) := by decide +kernel
theorem dX8_act_12 : decode cX8_act 12 = .ok (.aload_n 0, 1) := by decide +kernel
theorem dX8_act_13 : decode cX8_act 13 = .ok (.iload_n 2, 1) := by decide +kernel
theorem dX8_act_14 : decode cX8_act 14 = .ok (.iload_n 3, 1) := by decide +kernel
theorem dX8_act_15 : decode cX8_act 15 = .ok (.iload 4, 2) := by decide +kernel
theorem dX8_act_17 : decode cX8_act 17 = .ok (.invokevirtual 85, 3) := by decide +kernel
theorem dX8_act_20 : decode cX8_act 20 = .ok (.ifCond .ne 5, 3) := by decide +kernel
theorem dX8_act_23 : decode cX8_act 23 = .ok (.iconst (-1), 1) := by decide +kernel
theorem dX8_act_24 : decode cX8_act 24 = .ok (.ireturn, 1) := by decide +kernel
theorem dX8_act_25 : decode cX8_act 25 = .ok (.aload 5, 2) := by decide +kernel
theorem dX8_act_27 : decode cX8_act 27 = .ok (.iload_n 2, 1) := by decide +kernel
theorem dX8_act_28 : decode cX8_act 28 = .ok (.iload_n 3, 1) := by decide +kernel
theorem dX8_act_29 : decode cX8_act 29 = .ok (.iload 4, 2) := by decide +kernel
theorem dX8_act_31 : decode cX8_act 31 = .ok (.invokevirtual 89, 3) := by decide +kernel
theorem dX8_act_34 : decode cX8_act 34 = .ok (.ireturn, 1) := by decide +kernel
theorem dX8_guard_0 : decode cX8_guard 0 = .ok (.aload_n 0, 1) := by decide +kernel
theorem dX8_guard_1 : decode cX8_guard 1 = .ok (.iload_n 1, 1) := by decide +kernel
theorem dX8_guard_2 : decode cX8_guard 2 = .ok (.invokevirtual 67, 3) := by decide +kernel
theorem dX8_guard_5 : decode cX8_guard 5 = .ok (.astore 6, 2) := by decide +kernel
theorem dX8_guard_7 : decode cX8_guard 7 = .ok (.aload 6, 2) := by decide +kernel
theorem dX8_guard_9 : decode cX8_guard 9 = .ok (.ifnull 38, 3) := by decide +kernel
theorem dX8_guard_12 : decode cX8_guard 12 = .ok (.iload_n 2, 1) := by decide +kernel
theorem dX8_guard_13 : decode cX8_guard 13 = .ok (.ifCond .lt 34, 3) := by decide +kernel
theorem dX8_guard_16 : decode cX8_guard 16 = .ok (.iload_n 2, 1) := by decide +kernel
theorem dX8_guard_17 : decode cX8_guard 17 = .ok (.iload_n 3, 1) := by decide +kernel
theorem dX8_guard_18 : decode cX8_guard 18 = .ok (.if_icmp .ge 29, 3) := by decide +kernel
theorem dX8_guard_21 : decode cX8_guard 21 = .ok (.iload_n 3, 1) := by decide +kernel
theorem dX8_guard_22 : decode cX8_guard 22 = .ok (.bipush 40, 2) := by decide +kernel
theorem dX8_guard_24 : decode cX8_guard 24 = .ok (.if_icmp .gt 23, 3) := by decide +kernel
theorem dX8_guard_27 : decode cX8_guard 27 = .ok (.iload 4, 2) := by decide +kernel
theorem dX8_guard_29 : decode cX8_guard 29 = .ok (.invokestatic 93, 3) := by decide +kernel
theorem dX8_guard_32 : decode cX8_guard 32 = .ok (.ifCond .eq 15, 3) := by decide +kernel
theorem dX8_guard_35 : decode cX8_guard 35 = .ok (.aload_n 0, 1) := by decide +kernel
theorem dX8_guard_36 : decode cX8_guard 36 = .ok (.getfield 10, 3) := by decide +kernel
theorem dX8_guard_39 : decode cX8_guard 39 = .ok (.iload 5, 2) := by decide +kernel
theorem dX8_guard_41 : decode cX8_guard 41 = .ok (.invokevirtual 48, 3) := by decide +kernel
theorem dX8_guard_44 : decode cX8_guard 44 = .ok (.ifCond .ne 5, 3) := by decide +kernel
theorem dX8_guard_47 : decode cX8_guard 47 = .ok (.iconst (-1), 1) := by decide +kernel
theorem dX8_guard_48 : decode cX8_guard 48 = .ok (.ireturn, 1) := by decide +kernel
theorem dX8_guard_49 : decode cX8_guard 49 = .ok (.aload 6, 2) := by decide +kernel
theorem dX8_guard_51 : decode cX8_guard 51 = .ok (.iload_n 2, 1) := by decide +kernel
theorem dX8_guard_52 : decode cX8_guard 52 = .ok (.iload_n 3, 1) := by decide +kernel
theorem dX8_guard_53 : decode cX8_guard 53 = .ok (.iload 4, 2) := by decide +kernel
theorem dX8_guard_55 : decode cX8_guard 55 = .ok (.iload 5, 2) := by decide +kernel
theorem dX8_guard_57 : decode cX8_guard 57 = .ok (.invokevirtual 96, 3) := by decide +kernel
theorem dX8_guard_60 : decode cX8_guard 60 = .ok (.ireturn, 1) := by decide +kernel
theorem dX8_compute_0 : decode cX8_compute 0 = .ok (.aload_n 0, 1) := by decide +kernel
theorem dX8_compute_1 : decode cX8_compute 1 = .ok (.iload_n 1, 1) := by decide +kernel
theorem dX8_compute_2 : decode cX8_compute 2 = .ok (.invokevirtual 67, 3) := by decide +kernel
theorem dX8_compute_5 : decode cX8_compute 5 = .ok (.astore_n 2, 1) := by decide +kernel
theorem dX8_compute_6 : decode cX8_compute 6 = .ok (.aload_n 2, 1) := by decide +kernel
theorem dX8_compute_7 : decode cX8_compute 7 = .ok (.ifnull 10, 3) := by decide +kernel
theorem dX8_compute_10 : decode cX8_compute 10 = .ok (.aload_n 2, 1) := by decide +kernel
theorem dX8_compute_11 : decode cX8_compute 11 = .ok (.getfield 71, 3) := by decide +kernel
theorem dX8_compute_14 : decode cX8_compute 14 = .ok (.ifCond .ne 5, 3) := by decide +kernel
theorem dX8_compute_17 : decode cX8_compute 17 = .ok (.iconst (-1), 1) := by decide +kernel
theorem dX8_compute_18 : decode cX8_compute 18 = .ok (.ireturn, 1) := by decide +kernel
theorem dX8_compute_19 : decode cX8_compute 19 = .ok (.aload_n 0, 1) := by decide +kernel
theorem dX8_compute_20 : decode cX8_compute 20 = .ok (.getfield 33, 3) := by decide +kernel
theorem dX8_compute_23 : decode cX8_compute 23 = .ok (.aload_n 2, 1) := by decide +kernel
theorem dX8_compute_24 : decode cX8_compute 24 = .ok (.invokevirtual 100, 3) := by decide +kernel
theorem dX8_compute_27 : decode cX8_compute 27 = .ok (.istore_n 3, 1) := by decide +kernel
theorem dX8_compute_28 : decode cX8_compute 28 = .ok (.aload_n 0, 1) := by decide +kernel
theorem dX8_compute_29 : decode cX8_compute 29 = .ok (.aload_n 0, 1) := by decide +kernel
theorem dX8_compute_30 : decode cX8_compute 30 = .ok (.getfield 33, 3) := by decide +kernel
theorem dX8_compute_33 : decode cX8_compute 33 = .ok (.getfield 104, 3) := by decide +kernel
theorem dX8_compute_36 : decode cX8_compute 36 = .ok (.putfield 44, 3) := by decide +kernel
theorem dX8_compute_39 : decode cX8_compute 39 = .ok (.iload_n 3, 1) := by decide +kernel
theorem dX8_compute_40 : decode cX8_compute 40 = .ok (.iconst (-1), 1) := by decide +kernel
theorem dX8_compute_41 : decode cX8_compute 41 = .ok (.if_icmp .ne 10, 3) := by decide +kernel
theorem dX8_compute_44 : decode cX8_compute 44 = .ok (.aload_n 2, 1) := by decide +kernel
theorem dX8_compute_45 : decode cX8_compute 45 = .ok (.invokevirtual 107, 3) := by decide +kernel
theorem dX8_compute_48 : decode cX8_compute 48 = .ok (.goto 7, 3) := by decide +kernel
theorem dX8_compute_51 : decode cX8_compute 51 = .ok (.bipush (-10), 2) := by decide +kernel
theorem dX8_compute_53 : decode cX8_compute 53 = .ok (.iload_n 3, 1) := by decide +kernel
theorem dX8_compute_54 : decode cX8_compute 54 = .ok (.isub, 1) := by decide +kernel
theorem dX8_compute_55 : decode cX8_compute 55 = .ok (.ireturn, 1) := by decide +kernel
theorem dX8_fault_0 : decode cX8_fault 0 = .ok (.aload_n 0, 1) := by decide +kernel
theorem dX8_fault_1 : decode cX8_fault 1 = .ok (.getfield 44, 3) := by decide +kernel
theorem dX8_fault_4 : decode cX8_fault 4 = .ok (.ireturn, 1) := by decide +kernel
theorem dX8_state_0 : decode cX8_state 0 = .ok (.aload_n 0, 1) := by decide +kernel
theorem dX8_state_1 : decode cX8_state 1 = .ok (.iload_n 1, 1) := by decide +kernel
theorem dX8_state_2 : decode cX8_state 2 = .ok (.invokevirtual 67, 3) := by decide +kernel
theorem dX8_state_5 : decode cX8_state 5 = .ok (.astore 4, 2) := by decide +kernel
theorem dX8_state_7 : decode cX8_state 7 = .ok (.aload 4, 2) := by decide +kernel
theorem dX8_state_9 : decode cX8_state 9 = .ok (.ifnonnull 5, 3) := by decide +kernel
theorem dX8_state_12 : decode cX8_state 12 = .ok (.iconst (-1), 1) := by decide +kernel
theorem dX8_state_13 : decode cX8_state 13 = .ok (.ireturn, 1) := by decide +kernel
theorem dX8_state_14 : decode cX8_state 14 = .ok (.aload 4, 2) := by decide +kernel
theorem dX8_state_16 : decode cX8_state 16 = .ok (.iload_n 2, 1) := by decide +kernel
theorem dX8_state_17 : decode cX8_state 17 = .ok (.invokevirtual 111, 3) := by decide +kernel
theorem dX8_state_20 : decode cX8_state 20 = .ok (.astore 5, 2) := by decide +kernel
theorem dX8_state_22 : decode cX8_state 22 = .ok (.aload 5, 2) := by decide +kernel
theorem dX8_state_24 : decode cX8_state 24 = .ok (.ifnull 23, 3) := by decide +kernel
theorem dX8_state_27 : decode cX8_state 27 = .ok (.iload_n 3, 1) := by decide +kernel
theorem dX8_state_28 : decode cX8_state 28 = .ok (.invokestatic 115, 3) := by decide +kernel
theorem dX8_state_31 : decode cX8_state 31 = .ok (.ifCond .ne 18, 3) := by decide +kernel
theorem dX8_state_34 : decode cX8_state 34 = .ok (.iload_n 3, 1) := by decide +kernel
theorem dX8_state_35 : decode cX8_state 35 = .ok (.invokestatic 118, 3) := by decide +kernel
theorem dX8_state_38 : decode cX8_state 38 = .ok (.ifCond .ne 11, 3) := by decide +kernel
theorem dX8_state_41 : decode cX8_state 41 = .ok (.iload_n 3, 1) := by decide +kernel
theorem dX8_state_42 : decode cX8_state 42 = .ok (.bipush 99, 2) := by decide +kernel
theorem dX8_state_44 : decode cX8_state 44 = .ok (.if_icmp .eq 5, 3) := by decide +kernel
theorem dX8_state_47 : decode cX8_state 47 = .ok (.iconst (-1), 1) := by decide +kernel
theorem dX8_state_48 : decode cX8_state 48 = .ok (.ireturn, 1) := by decide +kernel
theorem dX8_state_49 : decode cX8_state 49 = .ok (.aload 4, 2) := by decide +kernel
theorem dX8_state_51 : decode cX8_state 51 = .ok (.getfield 121, 3) := by decide +kernel
theorem dX8_state_54 : decode cX8_state 54 = .ok (.ifCond .ne 6, 3) := by decide +kernel
theorem dX8_state_57 : decode cX8_state 57 = .ok (.bipush (-3), 2) := by decide +kernel
theorem dX8_state_59 : decode cX8_state 59 = .ok (.ireturn, 1) := by decide +kernel
theorem dX8_state_60 : decode cX8_state 60 = .ok (.aload 5, 2) := by decide +kernel
theorem dX8_state_62 : decode cX8_state 62 = .ok (.getfield 125, 3) := by decide +kernel
theorem dX8_state_65 : decode cX8_state 65 = .ok (.ifCond .eq 15, 3) := by decide +kernel
theorem dX8_state_68 : decode cX8_state 68 = .ok (.aload 5, 2) := by decide +kernel
theorem dX8_state_70 : decode cX8_state 70 = .ok (.getfield 130, 3) := by decide +kernel
theorem dX8_state_73 : decode cX8_state 73 = .ok (.iload_n 3, 1) := by decide +kernel
theorem dX8_state_74 : decode cX8_state 74 = .ok (.invokevirtual 134, 3) := by decide +kernel
theorem dX8_state_77 : decode cX8_state 77 = .ok (.goto 5, 3) := by decide +kernel
theorem dX8_state_80 : decode cX8_state 80 = .ok (.bipush (-4), 2) := by decide +kernel
theorem dX8_state_82 : decode cX8_state 82 = .ok (.ireturn, 1) := by decide +kernel
theorem dX8_frame_0 : decode cX8_frame 0 = .ok (.aload_n 0, 1) := by decide +kernel
theorem dX8_frame_1 : decode cX8_frame 1 = .ok (.iload_n 1, 1) := by decide +kernel
theorem dX8_frame_2 : decode cX8_frame 2 = .ok (.invokevirtual 67, 3) := by decide +kernel
theorem dX8_frame_5 : decode cX8_frame 5 = .ok (.astore 4, 2) := by decide +kernel
theorem dX8_frame_7 : decode cX8_frame 7 = .ok (.aload 4, 2) := by decide +kernel
theorem dX8_frame_9 : decode cX8_frame 9 = .ok (.ifnonnull 5, 3) := by decide +kernel
theorem dX8_frame_12 : decode cX8_frame 12 = .ok (.iconst (-1), 1) := by decide +kernel
theorem dX8_frame_13 : decode cX8_frame 13 = .ok (.ireturn, 1) := by decide +kernel
theorem dX8_frame_14 : decode cX8_frame 14 = .ok (.aload 4, 2) := by decide +kernel
theorem dX8_frame_16 : decode cX8_frame 16 = .ok (.getfield 121, 3) := by decide +kernel
theorem dX8_frame_19 : decode cX8_frame 19 = .ok (.ifCond .ne 6, 3) := by decide +kernel
theorem dX8_frame_22 : decode cX8_frame 22 = .ok (.bipush (-3), 2) := by decide +kernel
theorem dX8_frame_24 : decode cX8_frame 24 = .ok (.ireturn, 1) := by decide +kernel
theorem dX8_frame_25 : decode cX8_frame 25 = .ok (.aload 4, 2) := by decide +kernel
theorem dX8_frame_27 : decode cX8_frame 27 = .ok (.iload_n 2, 1) := by decide +kernel
theorem dX8_frame_28 : decode cX8_frame 28 = .ok (.invokevirtual 139, 3) := by decide +kernel
theorem dX8_frame_31 : decode cX8_frame 31 = .ok (.istore 5, 2) := by decide +kernel
theorem dX8_frame_33 : decode cX8_frame 33 = .ok (.aload 4, 2) := by decide +kernel
theorem dX8_frame_35 : decode cX8_frame 35 = .ok (.iload 5, 2) := by decide +kernel
theorem dX8_frame_37 : decode cX8_frame 37 = .ok (.invokevirtual 111, 3) := by decide +kernel
theorem dX8_frame_40 : decode cX8_frame 40 = .ok (.astore 6, 2) := by decide +kernel
theorem dX8_frame_42 : decode cX8_frame 42 = .ok (.aload 6, 2) := by decide +kernel
theorem dX8_frame_44 : decode cX8_frame 44 = .ok (.ifnonnull 5, 3) := by decide +kernel
theorem dX8_frame_47 : decode cX8_frame 47 = .ok (.iconst (-1), 1) := by decide +kernel
theorem dX8_frame_48 : decode cX8_frame 48 = .ok (.ireturn, 1) := by decide +kernel
theorem dX8_frame_49 : decode cX8_frame 49 = .ok (.iload_n 3, 1) := by decide +kernel
theorem dX8_frame_50 : decode cX8_frame 50 = .ok (.bipush 98, 2) := by decide +kernel
theorem dX8_frame_52 : decode cX8_frame 52 = .ok (.if_icmp .ne 8, 3) := by decide +kernel
theorem dX8_frame_55 : decode cX8_frame 55 = .ok (.iload 5, 2) := by decide +kernel
theorem dX8_frame_57 : decode cX8_frame 57 = .ok (.goto 12, 3) := by decide +kernel
theorem dX8_frame_60 : decode cX8_frame 60 = .ok (.aload 6, 2) := by decide +kernel
theorem dX8_frame_62 : decode cX8_frame 62 = .ok (.getfield 142, 3) := by decide +kernel
theorem dX8_frame_65 : decode cX8_frame 65 = .ok (.iload_n 3, 1) := by decide +kernel
theorem dX8_frame_66 : decode cX8_frame 66 = .ok (.invokevirtual 134, 3) := by decide +kernel
theorem dX8_frame_69 : decode cX8_frame 69 = .ok (.ireturn, 1) := by decide +kernel
theorem dX8_form_0 : decode cX8_form 0 = .ok (.aload_n 0, 1) := by decide +kernel
theorem dX8_form_1 : decode cX8_form 1 = .ok (.iload_n 1, 1) := by decide +kernel
theorem dX8_form_2 : decode cX8_form 2 = .ok (.invokevirtual 67, 3) := by decide +kernel
theorem dX8_form_5 : decode cX8_form 5 = .ok (.astore_n 3, 1) := by decide +kernel
theorem dX8_form_6 : decode cX8_form 6 = .ok (.aload_n 3, 1) := by decide +kernel
theorem dX8_form_7 : decode cX8_form 7 = .ok (.ifnonnull 5, 3) := by decide +kernel
theorem dX8_form_10 : decode cX8_form 10 = .ok (.iconst (-1), 1) := by decide +kernel
theorem dX8_form_11 : decode cX8_form 11 = .ok (.ireturn, 1) := by decide +kernel
theorem dX8_form_12 : decode cX8_form 12 = .ok (.aload_n 3, 1) := by decide +kernel
theorem dX8_form_13 : decode cX8_form 13 = .ok (.getfield 121, 3) := by decide +kernel
theorem dX8_form_16 : decode cX8_form 16 = .ok (.ifCond .ne 6, 3) := by decide +kernel
theorem dX8_form_19 : decode cX8_form 19 = .ok (.bipush (-3), 2) := by decide +kernel
theorem dX8_form_21 : decode cX8_form 21 = .ok (.ireturn, 1) := by decide +kernel
theorem dX8_form_22 : decode cX8_form 22 = .ok (.aload_n 3, 1) := by decide +kernel
theorem dX8_form_23 : decode cX8_form 23 = .ok (.aload_n 3, 1) := by decide +kernel
theorem dX8_form_24 : decode cX8_form 24 = .ok (.iload_n 2, 1) := by decide +kernel
theorem dX8_form_25 : decode cX8_form 25 = .ok (.invokevirtual 139, 3) := by decide +kernel
theorem dX8_form_28 : decode cX8_form 28 = .ok (.invokevirtual 111, 3) := by decide +kernel
theorem dX8_form_31 : decode cX8_form 31 = .ok (.astore 4, 2) := by decide +kernel
theorem dX8_form_33 : decode cX8_form 33 = .ok (.aload 4, 2) := by decide +kernel
theorem dX8_form_35 : decode cX8_form 35 = .ok (.ifnonnull 5, 3) := by decide +kernel
theorem dX8_form_38 : decode cX8_form 38 = .ok (.iconst (-1), 1) := by decide +kernel
theorem dX8_form_39 : decode cX8_form 39 = .ok (.ireturn, 1) := by decide +kernel
theorem dX8_form_40 : decode cX8_form 40 = .ok (.aload_n 3, 1) := by decide +kernel
theorem dX8_form_41 : decode cX8_form 41 = .ok (.aload_n 3, 1) := by decide +kernel
theorem dX8_form_42 : decode cX8_form 42 = .ok (.iload_n 2, 1) := by decide +kernel
theorem dX8_form_43 : decode cX8_form 43 = .ok (.iconst 1, 1) := by decide +kernel
theorem dX8_form_44 : decode cX8_form 44 = .ok (.isub, 1) := by decide +kernel
theorem dX8_form_45 : decode cX8_form 45 = .ok (.invokevirtual 139, 3) := by decide +kernel
theorem dX8_form_48 : decode cX8_form 48 = .ok (.invokevirtual 111, 3) := by decide +kernel
theorem dX8_form_51 : decode cX8_form 51 = .ok (.astore 5, 2) := by decide +kernel
theorem dX8_form_53 : decode cX8_form 53 = .ok (.aload 4, 2) := by decide +kernel
theorem dX8_form_55 : decode cX8_form 55 = .ok (.getfield 142, 3) := by decide +kernel
theorem dX8_form_58 : decode cX8_form 58 = .ok (.aload 5, 2) := by decide +kernel
theorem dX8_form_60 : decode cX8_form 60 = .ok (.ifnonnull 10, 3) := by decide +kernel
theorem dX8_form_63 : decode cX8_form 63 = .ok (.aload_n 3, 1) := by decide +kernel
theorem dX8_form_64 : decode cX8_form 64 = .ok (.getfield 145, 3) := by decide +kernel
theorem dX8_form_67 : decode cX8_form 67 = .ok (.goto 8, 3) := by decide +kernel
theorem dX8_form_70 : decode cX8_form 70 = .ok (.aload 5, 2) := by decide +kernel
theorem dX8_form_72 : decode cX8_form 72 = .ok (.getfield 142, 3) := by decide +kernel
theorem dX8_form_75 : decode cX8_form 75 = .ok (.invokevirtual 148, 3) := by decide +kernel
theorem dX8_form_78 : decode cX8_form 78 = .ok (.ireturn, 1) := by decide +kernel
theorem dX8_shared_0 : decode cX8_shared 0 = .ok (.aload_n 0, 1) := by decide +kernel
theorem dX8_shared_1 : decode cX8_shared 1 = .ok (.iload_n 1, 1) := by decide +kernel
theorem dX8_shared_2 : decode cX8_shared 2 = .ok (.invokevirtual 67, 3) := by decide +kernel
theorem dX8_shared_5 : decode cX8_shared 5 = .ok (.astore_n 3, 1) := by decide +kernel
theorem dX8_shared_6 : decode cX8_shared 6 = .ok (.aload_n 3, 1) := by decide +kernel
theorem dX8_shared_7 : decode cX8_shared 7 = .ok (.ifnull 11, 3) := by decide +kernel
theorem dX8_shared_10 : decode cX8_shared 10 = .ok (.aload_n 3, 1) := by decide +kernel
theorem dX8_shared_11 : decode cX8_shared 11 = .ok (.iload_n 2, 1) := by decide +kernel
theorem dX8_shared_12 : decode cX8_shared 12 = .ok (.invokevirtual 111, 3) := by decide +kernel
theorem dX8_shared_15 : decode cX8_shared 15 = .ok (.ifnonnull 5, 3) := by decide +kernel
theorem dX8_shared_18 : decode cX8_shared 18 = .ok (.iconst (-1), 1) := by decide +kernel
theorem dX8_shared_19 : decode cX8_shared 19 = .ok (.ireturn, 1) := by decide +kernel
theorem dX8_shared_20 : decode cX8_shared 20 = .ok (.aload_n 3, 1) := by decide +kernel
theorem dX8_shared_21 : decode cX8_shared 21 = .ok (.getfield 121, 3) := by decide +kernel
theorem dX8_shared_24 : decode cX8_shared 24 = .ok (.ifCond .eq 11, 3) := by decide +kernel
theorem dX8_shared_27 : decode cX8_shared 27 = .ok (.aload_n 3, 1) := by decide +kernel
theorem dX8_shared_28 : decode cX8_shared 28 = .ok (.iload_n 2, 1) := by decide +kernel
theorem dX8_shared_29 : decode cX8_shared 29 = .ok (.invokevirtual 152, 3) := by decide +kernel
theorem dX8_shared_32 : decode cX8_shared 32 = .ok (.goto 5, 3) := by decide +kernel
theorem dX8_shared_35 : decode cX8_shared 35 = .ok (.bipush (-3), 2) := by decide +kernel
theorem dX8_shared_37 : decode cX8_shared 37 = .ok (.ireturn, 1) := by decide +kernel
theorem dX8_maximum_0 : decode cX8_maximum 0 = .ok (.aload_n 0, 1) := by decide +kernel
theorem dX8_maximum_1 : decode cX8_maximum 1 = .ok (.iload_n 1, 1) := by decide +kernel
theorem dX8_maximum_2 : decode cX8_maximum 2 = .ok (.invokevirtual 67, 3) := by decide +kernel
theorem dX8_maximum_5 : decode cX8_maximum 5 = .ok (.astore_n 3, 1) := by decide +kernel
theorem dX8_maximum_6 : decode cX8_maximum 6 = .ok (.aload_n 3, 1) := by decide +kernel
theorem dX8_maximum_7 : decode cX8_maximum 7 = .ok (.ifnull 12, 3) := by decide +kernel
theorem dX8_maximum_10 : decode cX8_maximum 10 = .ok (.iload_n 2, 1) := by decide +kernel
theorem dX8_maximum_11 : decode cX8_maximum 11 = .ok (.ifCond .lt 8, 3) := by decide +kernel
theorem dX8_maximum_14 : decode cX8_maximum 14 = .ok (.iload_n 2, 1) := by decide +kernel
theorem dX8_maximum_15 : decode cX8_maximum 15 = .ok (.iconst 1, 1) := by decide +kernel
theorem dX8_maximum_16 : decode cX8_maximum 16 = .ok (.if_icmp .le 5, 3) := by decide +kernel
theorem dX8_maximum_19 : decode cX8_maximum 19 = .ok (.iconst (-1), 1) := by decide +kernel
theorem dX8_maximum_20 : decode cX8_maximum 20 = .ok (.ireturn, 1) := by decide +kernel
theorem dX8_maximum_21 : decode cX8_maximum 21 = .ok (.aload_n 3, 1) := by decide +kernel
theorem dX8_maximum_22 : decode cX8_maximum 22 = .ok (.getfield 121, 3) := by decide +kernel
theorem dX8_maximum_25 : decode cX8_maximum 25 = .ok (.ifCond .ne 6, 3) := by decide +kernel
theorem dX8_maximum_28 : decode cX8_maximum 28 = .ok (.bipush (-3), 2) := by decide +kernel
theorem dX8_maximum_30 : decode cX8_maximum 30 = .ok (.ireturn, 1) := by decide +kernel
theorem dX8_maximum_31 : decode cX8_maximum 31 = .ok (.iload_n 2, 1) := by decide +kernel
theorem dX8_maximum_32 : decode cX8_maximum 32 = .ok (.ifCond .ne 10, 3) := by decide +kernel
theorem dX8_maximum_35 : decode cX8_maximum 35 = .ok (.aload_n 3, 1) := by decide +kernel
theorem dX8_maximum_36 : decode cX8_maximum 36 = .ok (.getfield 155, 3) := by decide +kernel
theorem dX8_maximum_39 : decode cX8_maximum 39 = .ok (.goto 7, 3) := by decide +kernel
theorem dX8_maximum_42 : decode cX8_maximum 42 = .ok (.aload_n 3, 1) := by decide +kernel
theorem dX8_maximum_43 : decode cX8_maximum 43 = .ok (.getfield 158, 3) := by decide +kernel
theorem dX8_maximum_46 : decode cX8_maximum 46 = .ok (.ireturn, 1) := by decide +kernel
theorem dX8_plant_0 : decode cX8_plant 0 = .ok (.aload_n 0, 1) := by decide +kernel
theorem dX8_plant_1 : decode cX8_plant 1 = .ok (.iload_n 1, 1) := by decide +kernel
theorem dX8_plant_2 : decode cX8_plant 2 = .ok (.invokevirtual 67, 3) := by decide +kernel
theorem dX8_plant_5 : decode cX8_plant 5 = .ok (.astore 5, 2) := by decide +kernel
theorem dX8_plant_7 : decode cX8_plant 7 = .ok (.iload 4, 2) := by decide +kernel
theorem dX8_plant_9 : decode cX8_plant 9 = .ok (.ifCond .eq 27, 3) := by decide +kernel
theorem dX8_plant_12 : decode cX8_plant 12 = .ok (.iload 4, 2) := by decide +kernel
theorem dX8_plant_14 : decode cX8_plant 14 = .ok (.iconst 1, 1) := by decide +kernel
theorem dX8_plant_15 : decode cX8_plant 15 = .ok (.if_icmp .eq 21, 3) := by decide +kernel
theorem dX8_plant_18 : decode cX8_plant 18 = .ok (.iload 4, 2) := by decide +kernel
theorem dX8_plant_20 : decode cX8_plant 20 = .ok (.iconst 4, 1) := by decide +kernel
theorem dX8_plant_21 : decode cX8_plant 21 = .ok (.if_icmp .eq 15, 3) := by decide +kernel
theorem dX8_plant_24 : decode cX8_plant 24 = .ok (.aload_n 0, 1) := by decide +kernel
theorem dX8_plant_25 : decode cX8_plant 25 = .ok (.getfield 10, 3) := by decide +kernel
theorem dX8_plant_28 : decode cX8_plant 28 = .ok (.iload 4, 2) := by decide +kernel
theorem dX8_plant_30 : decode cX8_plant 30 = .ok (.invokevirtual 78, 3) := by decide +kernel
theorem dX8_plant_33 : decode cX8_plant 33 = .ok (.ifCond .eq 7, 3) := by decide +kernel
theorem dX8_plant_36 : decode cX8_plant 36 = .ok (.iconst 1, 1) := by decide +kernel
theorem dX8_plant_37 : decode cX8_plant 37 = .ok (.goto 4, 3) := by decide +kernel
theorem dX8_plant_40 : decode cX8_plant 40 = .ok (.iconst 0, 1) := by decide +kernel
theorem dX8_plant_41 : decode cX8_plant 41 = .ok (.istore 6, 2) := by decide +kernel
theorem dX8_plant_43 : decode cX8_plant 43 = .ok (.aload 5, 2) := by decide +kernel
theorem dX8_plant_45 : decode cX8_plant 45 = .ok (.ifnull 22, 3) := by decide +kernel
theorem dX8_plant_48 : decode cX8_plant 48 = .ok (.iload 6, 2) := by decide +kernel
theorem dX8_plant_50 : decode cX8_plant 50 = .ok (.ifCond .eq 17, 3) := by decide +kernel
theorem dX8_plant_53 : decode cX8_plant 53 = .ok (.iload_n 3, 1) := by decide +kernel
theorem dX8_plant_54 : decode cX8_plant 54 = .ok (.invokestatic 115, 3) := by decide +kernel
theorem dX8_plant_57 : decode cX8_plant 57 = .ok (.ifCond .ne 12, 3) := by decide +kernel
theorem dX8_plant_60 : decode cX8_plant 60 = .ok (.iload_n 3, 1) := by decide +kernel
theorem dX8_plant_61 : decode cX8_plant 61 = .ok (.invokestatic 118, 3) := by decide +kernel
theorem dX8_plant_64 : decode cX8_plant 64 = .ok (.ifCond .ne 5, 3) := by decide +kernel
theorem dX8_plant_67 : decode cX8_plant 67 = .ok (.iconst (-1), 1) := by decide +kernel
theorem dX8_plant_68 : decode cX8_plant 68 = .ok (.ireturn, 1) := by decide +kernel
theorem dX8_plant_69 : decode cX8_plant 69 = .ok (.aload 5, 2) := by decide +kernel
theorem dX8_plant_71 : decode cX8_plant 71 = .ok (.getfield 121, 3) := by decide +kernel
theorem dX8_plant_74 : decode cX8_plant 74 = .ok (.ifCond .ne 6, 3) := by decide +kernel
theorem dX8_plant_77 : decode cX8_plant 77 = .ok (.bipush (-3), 2) := by decide +kernel
theorem dX8_plant_79 : decode cX8_plant 79 = .ok (.ireturn, 1) := by decide +kernel
theorem dX8_plant_80 : decode cX8_plant 80 = .ok (.aload 5, 2) := by decide +kernel
theorem dX8_plant_82 : decode cX8_plant 82 = .ok (.aload 5, 2) := by decide +kernel
theorem dX8_plant_84 : decode cX8_plant 84 = .ok (.iload_n 2, 1) := by decide +kernel
theorem dX8_plant_85 : decode cX8_plant 85 = .ok (.invokevirtual 139, 3) := by decide +kernel
theorem dX8_plant_88 : decode cX8_plant 88 = .ok (.invokevirtual 111, 3) := by decide +kernel
theorem dX8_plant_91 : decode cX8_plant 91 = .ok (.astore 7, 2) := by decide +kernel
theorem dX8_plant_93 : decode cX8_plant 93 = .ok (.aload 7, 2) := by decide +kernel
theorem dX8_plant_95 : decode cX8_plant 95 = .ok (.ifnonnull 5, 3) := by decide +kernel
theorem dX8_plant_98 : decode cX8_plant 98 = .ok (.iconst (-1), 1) := by decide +kernel
theorem dX8_plant_99 : decode cX8_plant 99 = .ok (.ireturn, 1) := by decide +kernel
theorem dX8_plant_100 : decode cX8_plant 100 = .ok (.iload_n 3, 1) := by decide +kernel
theorem dX8_plant_101 : decode cX8_plant 101 = .ok (.invokestatic 115, 3) := by decide +kernel
theorem dX8_plant_104 : decode cX8_plant 104 = .ok (.ifCond .eq 19, 3) := by decide +kernel
theorem dX8_plant_107 : decode cX8_plant 107 = .ok (.aload 5, 2) := by decide +kernel
theorem dX8_plant_109 : decode cX8_plant 109 = .ok (.aload 7, 2) := by decide +kernel
theorem dX8_plant_111 : decode cX8_plant 111 = .ok (.getfield 142, 3) := by decide +kernel
theorem dX8_plant_114 : decode cX8_plant 114 = .ok (.iload_n 3, 1) := by decide +kernel
theorem dX8_plant_115 : decode cX8_plant 115 = .ok (.iload 4, 2) := by decide +kernel
theorem dX8_plant_117 : decode cX8_plant 117 = .ok (.invokestatic 161, 3) := by decide +kernel
theorem dX8_plant_120 : decode cX8_plant 120 = .ok (.goto 17, 3) := by decide +kernel
theorem dX8_plant_123 : decode cX8_plant 123 = .ok (.aload 7, 2) := by decide +kernel
theorem dX8_plant_125 : decode cX8_plant 125 = .ok (.getfield 142, 3) := by decide +kernel
theorem dX8_plant_128 : decode cX8_plant 128 = .ok (.iload_n 3, 1) := by decide +kernel
theorem dX8_plant_129 : decode cX8_plant 129 = .ok (.bipush 100, 2) := by decide +kernel
theorem dX8_plant_131 : decode cX8_plant 131 = .ok (.isub, 1) := by decide +kernel
theorem dX8_plant_132 : decode cX8_plant 132 = .ok (.iload 4, 2) := by decide +kernel
theorem dX8_plant_134 : decode cX8_plant 134 = .ok (.invokestatic 165, 3) := by decide +kernel
theorem dX8_plant_137 : decode cX8_plant 137 = .ok (.ireturn, 1) := by decide +kernel
theorem dX8_verify_0 : decode cX8_verify 0 = .ok (.aload_n 0, 1) := by decide +kernel
theorem dX8_verify_1 : decode cX8_verify 1 = .ok (.iload_n 1, 1) := by decide +kernel
theorem dX8_verify_2 : decode cX8_verify 2 = .ok (.invokevirtual 67, 3) := by decide +kernel
theorem dX8_verify_5 : decode cX8_verify 5 = .ok (.astore_n 2, 1) := by decide +kernel
theorem dX8_verify_6 : decode cX8_verify 6 = .ok (.aload_n 2, 1) := by decide +kernel
theorem dX8_verify_7 : decode cX8_verify 7 = .ok (.ifnonnull 5, 3) := by decide +kernel
theorem dX8_verify_10 : decode cX8_verify 10 = .ok (.iconst (-1), 1) := by decide +kernel
theorem dX8_verify_11 : decode cX8_verify 11 = .ok (.ireturn, 1) := by decide +kernel
theorem dX8_verify_12 : decode cX8_verify 12 = .ok (.aload_n 2, 1) := by decide +kernel
theorem dX8_verify_13 : decode cX8_verify 13 = .ok (.getfield 121, 3) := by decide +kernel
theorem dX8_verify_16 : decode cX8_verify 16 = .ok (.ifCond .ne 6, 3) := by decide +kernel
theorem dX8_verify_19 : decode cX8_verify 19 = .ok (.bipush (-3), 2) := by decide +kernel
theorem dX8_verify_21 : decode cX8_verify 21 = .ok (.ireturn, 1) := by decide +kernel
theorem dX8_verify_22 : decode cX8_verify 22 = .ok (.aload_n 0, 1) := by decide +kernel
theorem dX8_verify_23 : decode cX8_verify 23 = .ok (.getfield 40, 3) := by decide +kernel
theorem dX8_verify_26 : decode cX8_verify 26 = .ok (.aload_n 2, 1) := by decide +kernel
theorem dX8_verify_27 : decode cX8_verify 27 = .ok (.invokevirtual 169, 3) := by decide +kernel
theorem dX8_verify_30 : decode cX8_verify 30 = .ok (.istore_n 3, 1) := by decide +kernel
theorem dX8_verify_31 : decode cX8_verify 31 = .ok (.aload_n 0, 1) := by decide +kernel
theorem dX8_verify_32 : decode cX8_verify 32 = .ok (.aload_n 0, 1) := by decide +kernel
theorem dX8_verify_33 : decode cX8_verify 33 = .ok (.getfield 40, 3) := by decide +kernel
theorem dX8_verify_36 : decode cX8_verify 36 = .ok (.getfield 170, 3) := by decide +kernel
theorem dX8_verify_39 : decode cX8_verify 39 = .ok (.putfield 44, 3) := by decide +kernel
theorem dX8_verify_42 : decode cX8_verify 42 = .ok (.iload_n 3, 1) := by decide +kernel
theorem dX8_verify_43 : decode cX8_verify 43 = .ok (.iconst (-1), 1) := by decide +kernel
theorem dX8_verify_44 : decode cX8_verify 44 = .ok (.if_icmp .ne 7, 3) := by decide +kernel
theorem dX8_verify_47 : decode cX8_verify 47 = .ok (.iconst 0, 1) := by decide +kernel
theorem dX8_verify_48 : decode cX8_verify 48 = .ok (.goto 7, 3) := by decide +kernel
theorem dX8_verify_51 : decode cX8_verify 51 = .ok (.bipush (-10), 2) := by decide +kernel
theorem dX8_verify_53 : decode cX8_verify 53 = .ok (.iload_n 3, 1) := by decide +kernel
theorem dX8_verify_54 : decode cX8_verify 54 = .ok (.isub, 1) := by decide +kernel
theorem dX8_verify_55 : decode cX8_verify 55 = .ok (.ireturn, 1) := by decide +kernel
theorem dX8_told_0 : decode cX8_told 0 = .ok (.iload_n 1, 1) := by decide +kernel
theorem dX8_told_1 : decode cX8_told 1 = .ok (.ifCond .ne 11, 3) := by decide +kernel
theorem dX8_told_4 : decode cX8_told 4 = .ok (.aload_n 0, 1) := by decide +kernel
theorem dX8_told_5 : decode cX8_told 5 = .ok (.getfield 10, 3) := by decide +kernel
theorem dX8_told_8 : decode cX8_told 8 = .ok (.getfield 171, 3) := by decide +kernel
theorem dX8_told_11 : decode cX8_told 11 = .ok (.ireturn, 1) := by decide +kernel
theorem dX8_told_12 : decode cX8_told 12 = .ok (.iconst 1, 1) := by decide +kernel
theorem dX8_told_13 : decode cX8_told 13 = .ok (.iload_n 1, 1) := by decide +kernel
theorem dX8_told_14 : decode cX8_told 14 = .ok (.invokestatic 174, 3) := by decide +kernel
theorem dX8_told_17 : decode cX8_told 17 = .ok (.ifCond .eq 11, 3) := by decide +kernel
theorem dX8_told_20 : decode cX8_told 20 = .ok (.aload_n 0, 1) := by decide +kernel
theorem dX8_told_21 : decode cX8_told 21 = .ok (.iload_n 1, 1) := by decide +kernel
theorem dX8_told_22 : decode cX8_told 22 = .ok (.iconst 1, 1) := by decide +kernel
theorem dX8_told_23 : decode cX8_told 23 = .ok (.isub, 1) := by decide +kernel
theorem dX8_told_24 : decode cX8_told 24 = .ok (.invokevirtual 177, 3) := by decide +kernel
theorem dX8_told_27 : decode cX8_told 27 = .ok (.ireturn, 1) := by decide +kernel
theorem dX8_told_28 : decode cX8_told 28 = .ok (.bipush 11, 2) := by decide +kernel
theorem dX8_told_30 : decode cX8_told 30 = .ok (.iload_n 1, 1) := by decide +kernel
theorem dX8_told_31 : decode cX8_told 31 = .ok (.invokestatic 174, 3) := by decide +kernel
theorem dX8_told_34 : decode cX8_told 34 = .ok (.ifCond .eq 12, 3) := by decide +kernel
theorem dX8_told_37 : decode cX8_told 37 = .ok (.aload_n 0, 1) := by decide +kernel
theorem dX8_told_38 : decode cX8_told 38 = .ok (.iload_n 1, 1) := by decide +kernel
theorem dX8_told_39 : decode cX8_told 39 = .ok (.bipush 11, 2) := by decide +kernel
theorem dX8_told_41 : decode cX8_told 41 = .ok (.isub, 1) := by decide +kernel
theorem dX8_told_42 : decode cX8_told 42 = .ok (.invokevirtual 180, 3) := by decide +kernel
theorem dX8_told_45 : decode cX8_told 45 = .ok (.ireturn, 1) := by decide +kernel
theorem dX8_told_46 : decode cX8_told 46 = .ok (.bipush 21, 2) := by decide +kernel
theorem dX8_told_48 : decode cX8_told 48 = .ok (.iload_n 1, 1) := by decide +kernel
theorem dX8_told_49 : decode cX8_told 49 = .ok (.invokestatic 174, 3) := by decide +kernel
theorem dX8_told_52 : decode cX8_told 52 = .ok (.ifCond .eq 12, 3) := by decide +kernel
theorem dX8_told_55 : decode cX8_told 55 = .ok (.aload_n 0, 1) := by decide +kernel
theorem dX8_told_56 : decode cX8_told 56 = .ok (.iload_n 1, 1) := by decide +kernel
theorem dX8_told_57 : decode cX8_told 57 = .ok (.bipush 21, 2) := by decide +kernel
theorem dX8_told_59 : decode cX8_told 59 = .ok (.isub, 1) := by decide +kernel
theorem dX8_told_60 : decode cX8_told 60 = .ok (.invokevirtual 183, 3) := by decide +kernel
theorem dX8_told_63 : decode cX8_told 63 = .ok (.ireturn, 1) := by decide +kernel
theorem dX8_told_64 : decode cX8_told 64 = .ok (.bipush 31, 2) := by decide +kernel
theorem dX8_told_66 : decode cX8_told 66 = .ok (.iload_n 1, 1) := by decide +kernel
theorem dX8_told_67 : decode cX8_told 67 = .ok (.invokestatic 174, 3) := by decide +kernel
theorem dX8_told_70 : decode cX8_told 70 = .ok (.ifCond .eq 14, 3) := by decide +kernel
theorem dX8_told_73 : decode cX8_told 73 = .ok (.aload_n 0, 1) := by decide +kernel
theorem dX8_told_74 : decode cX8_told 74 = .ok (.iload_n 1, 1) := by decide +kernel
theorem dX8_told_75 : decode cX8_told 75 = .ok (.bipush 31, 2) := by decide +kernel
theorem dX8_told_77 : decode cX8_told 77 = .ok (.isub, 1) := by decide +kernel
theorem dX8_told_78 : decode cX8_told 78 = .ok (.invokevirtual 186, 3) := by decide +kernel
theorem dX8_told_81 : decode cX8_told 81 = .ok (.goto 4, 3) := by decide +kernel
theorem dX8_told_84 : decode cX8_told 84 = .ok (.iconst (-1), 1) := by decide +kernel
theorem dX8_told_85 : decode cX8_told 85 = .ok (.ireturn, 1) := by decide +kernel
theorem dX8_isAskedFrom_0 : decode cX8_isAskedFrom 0 = .ok (.iload_n 1, 1) := by decide +kernel
theorem dX8_isAskedFrom_1 : decode cX8_isAskedFrom 1 = .ok (.iload_n 0, 1) := by decide +kernel
theorem dX8_isAskedFrom_2 : decode cX8_isAskedFrom 2 = .ok (.if_icmp .lt 15, 3) := by decide +kernel
theorem dX8_isAskedFrom_5 : decode cX8_isAskedFrom 5 = .ok (.iload_n 1, 1) := by decide +kernel
theorem dX8_isAskedFrom_6 : decode cX8_isAskedFrom 6 = .ok (.iload_n 0, 1) := by decide +kernel
theorem dX8_isAskedFrom_7 : decode cX8_isAskedFrom 7 = .ok (.bipush 8, 2) := by decide +kernel
theorem dX8_isAskedFrom_9 : decode cX8_isAskedFrom 9 = .ok (.iadd, 1) := by decide +kernel
theorem dX8_isAskedFrom_10 : decode cX8_isAskedFrom 10 = .ok (.if_icmp .ge 7, 3) := by decide +kernel
theorem dX8_isAskedFrom_13 : decode cX8_isAskedFrom 13 = .ok (.iconst 1, 1) := by decide +kernel
theorem dX8_isAskedFrom_14 : decode cX8_isAskedFrom 14 = .ok (.goto 4, 3) := by decide +kernel
theorem dX8_isAskedFrom_17 : decode cX8_isAskedFrom 17 = .ok (.iconst 0, 1) := by decide +kernel
theorem dX8_isAskedFrom_18 : decode cX8_isAskedFrom 18 = .ok (.ireturn, 1) := by decide +kernel
theorem dX8_toldActs_0 : decode cX8_toldActs 0 = .ok (.aload_n 0, 1) := by decide +kernel
theorem dX8_toldActs_1 : decode cX8_toldActs 1 = .ok (.iload_n 1, 1) := by decide +kernel
theorem dX8_toldActs_2 : decode cX8_toldActs 2 = .ok (.invokevirtual 67, 3) := by decide +kernel
theorem dX8_toldActs_5 : decode cX8_toldActs 5 = .ok (.astore_n 2, 1) := by decide +kernel
theorem dX8_toldActs_6 : decode cX8_toldActs 6 = .ok (.aload_n 2, 1) := by decide +kernel
theorem dX8_toldActs_7 : decode cX8_toldActs 7 = .ok (.ifnonnull 7, 3) := by decide +kernel
theorem dX8_toldActs_10 : decode cX8_toldActs 10 = .ok (.iconst (-1), 1) := by decide +kernel
theorem dX8_toldActs_11 : decode cX8_toldActs 11 = .ok (.goto 7, 3) := by decide +kernel
theorem dX8_toldActs_14 : decode cX8_toldActs 14 = .ok (.aload_n 2, 1) := by decide +kernel
theorem dX8_toldActs_15 : decode cX8_toldActs 15 = .ok (.getfield 71, 3) := by decide +kernel
theorem dX8_toldActs_18 : decode cX8_toldActs 18 = .ok (.ireturn, 1) := by decide +kernel
theorem dX8_toldGuards_0 : decode cX8_toldGuards 0 = .ok (.aload_n 0, 1) := by decide +kernel
theorem dX8_toldGuards_1 : decode cX8_toldGuards 1 = .ok (.iload_n 1, 1) := by decide +kernel
theorem dX8_toldGuards_2 : decode cX8_toldGuards 2 = .ok (.invokevirtual 67, 3) := by decide +kernel
theorem dX8_toldGuards_5 : decode cX8_toldGuards 5 = .ok (.astore_n 2, 1) := by decide +kernel
theorem dX8_toldGuards_6 : decode cX8_toldGuards 6 = .ok (.aload_n 2, 1) := by decide +kernel
theorem dX8_toldGuards_7 : decode cX8_toldGuards 7 = .ok (.ifnonnull 7, 3) := by decide +kernel
theorem dX8_toldGuards_10 : decode cX8_toldGuards 10 = .ok (.iconst (-1), 1) := by decide +kernel
theorem dX8_toldGuards_11 : decode cX8_toldGuards 11 = .ok (.goto 7, 3) := by decide +kernel
theorem dX8_toldGuards_14 : decode cX8_toldGuards 14 = .ok (.aload_n 2, 1) := by decide +kernel
theorem dX8_toldGuards_15 : decode cX8_toldGuards 15 = .ok (.getfield 189, 3) := by decide +kernel
theorem dX8_toldGuards_18 : decode cX8_toldGuards 18 = .ok (.ireturn, 1) := by decide +kernel
theorem dX8_toldPlaces_0 : decode cX8_toldPlaces 0 = .ok (.aload_n 0, 1) := by decide +kernel
theorem dX8_toldPlaces_1 : decode cX8_toldPlaces 1 = .ok (.iload_n 1, 1) := by decide +kernel
theorem dX8_toldPlaces_2 : decode cX8_toldPlaces 2 = .ok (.invokevirtual 67, 3) := by decide +kernel
theorem dX8_toldPlaces_5 : decode cX8_toldPlaces 5 = .ok (.astore_n 2, 1) := by decide +kernel
theorem dX8_toldPlaces_6 : decode cX8_toldPlaces 6 = .ok (.aload_n 2, 1) := by decide +kernel
theorem dX8_toldPlaces_7 : decode cX8_toldPlaces 7 = .ok (.ifnonnull 7, 3) := by decide +kernel
theorem dX8_toldPlaces_10 : decode cX8_toldPlaces 10 = .ok (.iconst (-1), 1) := by decide +kernel
theorem dX8_toldPlaces_11 : decode cX8_toldPlaces 11 = .ok (.goto 7, 3) := by decide +kernel
theorem dX8_toldPlaces_14 : decode cX8_toldPlaces 14 = .ok (.aload_n 2, 1) := by decide +kernel
theorem dX8_toldPlaces_15 : decode cX8_toldPlaces 15 = .ok (.getfield 192, 3) := by decide +kernel
theorem dX8_toldPlaces_18 : decode cX8_toldPlaces 18 = .ok (.ireturn, 1) := by decide +kernel
theorem dX8_toldFrames_0 : decode cX8_toldFrames 0 = .ok (.aload_n 0, 1) := by decide +kernel
theorem dX8_toldFrames_1 : decode cX8_toldFrames 1 = .ok (.iload_n 1, 1) := by decide +kernel
theorem dX8_toldFrames_2 : decode cX8_toldFrames 2 = .ok (.invokevirtual 67, 3) := by decide +kernel
theorem dX8_toldFrames_5 : decode cX8_toldFrames 5 = .ok (.astore_n 2, 1) := by decide +kernel
theorem dX8_toldFrames_6 : decode cX8_toldFrames 6 = .ok (.aload_n 2, 1) := by decide +kernel
theorem dX8_toldFrames_7 : decode cX8_toldFrames 7 = .ok (.ifnonnull 5, 3) := by decide +kernel
theorem dX8_toldFrames_10 : decode cX8_toldFrames 10 = .ok (.iconst (-1), 1) := by decide +kernel
theorem dX8_toldFrames_11 : decode cX8_toldFrames 11 = .ok (.ireturn, 1) := by decide +kernel
theorem dX8_toldFrames_12 : decode cX8_toldFrames 12 = .ok (.aload_n 2, 1) := by decide +kernel
theorem dX8_toldFrames_13 : decode cX8_toldFrames 13 = .ok (.getfield 121, 3) := by decide +kernel
theorem dX8_toldFrames_16 : decode cX8_toldFrames 16 = .ok (.ifCond .eq 10, 3) := by decide +kernel
theorem dX8_toldFrames_19 : decode cX8_toldFrames 19 = .ok (.aload_n 2, 1) := by decide +kernel
theorem dX8_toldFrames_20 : decode cX8_toldFrames 20 = .ok (.invokevirtual 107, 3) := by decide +kernel
theorem dX8_toldFrames_23 : decode cX8_toldFrames 23 = .ok (.goto 5, 3) := by decide +kernel
theorem dX8_toldFrames_26 : decode cX8_toldFrames 26 = .ok (.bipush (-4), 2) := by decide +kernel
theorem dX8_toldFrames_28 : decode cX8_toldFrames 28 = .ok (.ireturn, 1) := by decide +kernel
theorem dX8_methodAt_0 : decode cX8_methodAt 0 = .ok (.iload_n 1, 1) := by decide +kernel
theorem dX8_methodAt_1 : decode cX8_methodAt 1 = .ok (.ifCond .lt 18, 3) := by decide +kernel
theorem dX8_methodAt_4 : decode cX8_methodAt 4 = .ok (.iload_n 1, 1) := by decide +kernel
theorem dX8_methodAt_5 : decode cX8_methodAt 5 = .ok (.bipush 8, 2) := by decide +kernel
theorem dX8_methodAt_7 : decode cX8_methodAt 7 = .ok (.if_icmp .ge 12, 3) := by decide +kernel
theorem dX8_methodAt_10 : decode cX8_methodAt 10 = .ok (.aload_n 0, 1) := by decide +kernel
theorem dX8_methodAt_11 : decode cX8_methodAt 11 = .ok (.getfield 18, 3) := by decide +kernel
theorem dX8_methodAt_14 : decode cX8_methodAt 14 = .ok (.iload_n 1, 1) := by decide +kernel
theorem dX8_methodAt_15 : decode cX8_methodAt 15 = .ok (.aaload, 1) := by decide +kernel
theorem dX8_methodAt_16 : decode cX8_methodAt 16 = .ok (.goto 4, 3) := by decide +kernel
theorem dX8_methodAt_19 : decode cX8_methodAt 19 = .ok (.aconst_null, 1) := by decide +kernel
theorem dX8_methodAt_20 : decode cX8_methodAt 20 = .ok (.areturn, 1) := by decide +kernel
theorem dX8_isPlace_0 : decode cX8_isPlace 0 = .ok (.iload_n 0, 1) := by decide +kernel
theorem dX8_isPlace_1 : decode cX8_isPlace 1 = .ok (.ifCond .lt 13, 3) := by decide +kernel
theorem dX8_isPlace_4 : decode cX8_isPlace 4 = .ok (.iload_n 0, 1) := by decide +kernel
theorem dX8_isPlace_5 : decode cX8_isPlace 5 = .ok (.bipush 8, 2) := by decide +kernel
theorem dX8_isPlace_7 : decode cX8_isPlace 7 = .ok (.if_icmp .ge 7, 3) := by decide +kernel
theorem dX8_isPlace_10 : decode cX8_isPlace 10 = .ok (.iconst 1, 1) := by decide +kernel
theorem dX8_isPlace_11 : decode cX8_isPlace 11 = .ok (.goto 4, 3) := by decide +kernel
theorem dX8_isPlace_14 : decode cX8_isPlace 14 = .ok (.iconst 0, 1) := by decide +kernel
theorem dX8_isPlace_15 : decode cX8_isPlace 15 = .ok (.ireturn, 1) := by decide +kernel
theorem dX8_isOnStack_0 : decode cX8_isOnStack 0 = .ok (.iload_n 0, 1) := by decide +kernel
theorem dX8_isOnStack_1 : decode cX8_isOnStack 1 = .ok (.bipush 100, 2) := by decide +kernel
theorem dX8_isOnStack_3 : decode cX8_isOnStack 3 = .ok (.if_icmp .lt 13, 3) := by decide +kernel
theorem dX8_isOnStack_6 : decode cX8_isOnStack 6 = .ok (.iload_n 0, 1) := by decide +kernel
theorem dX8_isOnStack_7 : decode cX8_isOnStack 7 = .ok (.bipush 110, 2) := by decide +kernel
theorem dX8_isOnStack_9 : decode cX8_isOnStack 9 = .ok (.if_icmp .ge 7, 3) := by decide +kernel
theorem dX8_isOnStack_12 : decode cX8_isOnStack 12 = .ok (.iconst 1, 1) := by decide +kernel
theorem dX8_isOnStack_13 : decode cX8_isOnStack 13 = .ok (.goto 4, 3) := by decide +kernel
theorem dX8_isOnStack_16 : decode cX8_isOnStack 16 = .ok (.iconst 0, 1) := by decide +kernel
theorem dX8_isOnStack_17 : decode cX8_isOnStack 17 = .ok (.ireturn, 1) := by decide +kernel
theorem dX8_isActNumber_0 : decode cX8_isActNumber 0 = .ok (.iload_n 0, 1) := by decide +kernel
theorem dX8_isActNumber_1 : decode cX8_isActNumber 1 = .ok (.ifCond .lt 13, 3) := by decide +kernel
theorem dX8_isActNumber_4 : decode cX8_isActNumber 4 = .ok (.iload_n 0, 1) := by decide +kernel
theorem dX8_isActNumber_5 : decode cX8_isActNumber 5 = .ok (.bipush 40, 2) := by decide +kernel
theorem dX8_isActNumber_7 : decode cX8_isActNumber 7 = .ok (.if_icmp .ge 7, 3) := by decide +kernel
theorem dX8_isActNumber_10 : decode cX8_isActNumber 10 = .ok (.iconst 1, 1) := by decide +kernel
theorem dX8_isActNumber_11 : decode cX8_isActNumber 11 = .ok (.goto 4, 3) := by decide +kernel
theorem dX8_isActNumber_14 : decode cX8_isActNumber 14 = .ok (.iconst 0, 1) := by decide +kernel
theorem dX8_isActNumber_15 : decode cX8_isActNumber 15 = .ok (.ireturn, 1) := by decide +kernel
theorem dX8_isAct_0 : decode cX8_isAct 0 = .ok (.iload_n 1, 1) := by decide +kernel
theorem dX8_isAct_1 : decode cX8_isAct 1 = .ok (.tableswitch 145 0 20 #[99, 99, 99, 101, 101, 99, 99, 99, 99, 106, 106, 106, 106, 106, 115, 115, 120, 99, 106, 106, 101], 99) := by decide +kernel
theorem dX8_isAct_100 : decode cX8_isAct 100 = .ok (.iconst 1, 1) := by decide +kernel
theorem dX8_isAct_101 : decode cX8_isAct 101 = .ok (.ireturn, 1) := by decide +kernel
theorem dX8_isAct_102 : decode cX8_isAct 102 = .ok (.iload_n 2, 1) := by decide +kernel
theorem dX8_isAct_103 : decode cX8_isAct 103 = .ok (.invokestatic 115, 3) := by decide +kernel
theorem dX8_isAct_106 : decode cX8_isAct 106 = .ok (.ireturn, 1) := by decide +kernel
theorem dX8_isAct_107 : decode cX8_isAct 107 = .ok (.aload_n 0, 1) := by decide +kernel
theorem dX8_isAct_108 : decode cX8_isAct 108 = .ok (.getfield 10, 3) := by decide +kernel
theorem dX8_isAct_111 : decode cX8_isAct 111 = .ok (.iload_n 2, 1) := by decide +kernel
theorem dX8_isAct_112 : decode cX8_isAct 112 = .ok (.invokevirtual 48, 3) := by decide +kernel
theorem dX8_isAct_115 : decode cX8_isAct 115 = .ok (.ireturn, 1) := by decide +kernel
theorem dX8_isAct_116 : decode cX8_isAct 116 = .ok (.iload_n 2, 1) := by decide +kernel
theorem dX8_isAct_117 : decode cX8_isAct 117 = .ok (.invokestatic 93, 3) := by decide +kernel
theorem dX8_isAct_120 : decode cX8_isAct 120 = .ok (.ireturn, 1) := by decide +kernel
theorem dX8_isAct_121 : decode cX8_isAct 121 = .ok (.iload_n 2, 1) := by decide +kernel
theorem dX8_isAct_122 : decode cX8_isAct 122 = .ok (.invokestatic 93, 3) := by decide +kernel
theorem dX8_isAct_125 : decode cX8_isAct 125 = .ok (.ifCond .eq 19, 3) := by decide +kernel
theorem dX8_isAct_128 : decode cX8_isAct 128 = .ok (.iload_n 3, 1) := by decide +kernel
theorem dX8_isAct_129 : decode cX8_isAct 129 = .ok (.invokestatic 93, 3) := by decide +kernel
theorem dX8_isAct_132 : decode cX8_isAct 132 = .ok (.ifCond .eq 12, 3) := by decide +kernel
theorem dX8_isAct_135 : decode cX8_isAct 135 = .ok (.iload_n 2, 1) := by decide +kernel
theorem dX8_isAct_136 : decode cX8_isAct 136 = .ok (.iload_n 3, 1) := by decide +kernel
theorem dX8_isAct_137 : decode cX8_isAct 137 = .ok (.if_icmp .gt 7, 3) := by decide +kernel
theorem dX8_isAct_140 : decode cX8_isAct 140 = .ok (.iconst 1, 1) := by decide +kernel
theorem dX8_isAct_141 : decode cX8_isAct 141 = .ok (.goto 4, 3) := by decide +kernel
theorem dX8_isAct_144 : decode cX8_isAct 144 = .ok (.iconst 0, 1) := by decide +kernel
theorem dX8_isAct_145 : decode cX8_isAct 145 = .ok (.ireturn, 1) := by decide +kernel
theorem dX8_isAct_146 : decode cX8_isAct 146 = .ok (.iconst 0, 1) := by decide +kernel
theorem dX8_isAct_147 : decode cX8_isAct 147 = .ok (.ireturn, 1) := by decide +kernel
theorem dX8_plantPlace_0 : decode cX8_plantPlace 0 = .ok (.aload_n 1, 1) := by decide +kernel
theorem dX8_plantPlace_1 : decode cX8_plantPlace 1 = .ok (.iload_n 2, 1) := by decide +kernel
theorem dX8_plantPlace_2 : decode cX8_plantPlace 2 = .ok (.invokevirtual 195, 3) := by decide +kernel
theorem dX8_plantPlace_5 : decode cX8_plantPlace 5 = .ok (.istore 4, 2) := by decide +kernel
theorem dX8_plantPlace_7 : decode cX8_plantPlace 7 = .ok (.iload_n 2, 1) := by decide +kernel
theorem dX8_plantPlace_8 : decode cX8_plantPlace 8 = .ok (.aload_n 0, 1) := by decide +kernel
theorem dX8_plantPlace_9 : decode cX8_plantPlace 9 = .ok (.getfield 192, 3) := by decide +kernel
theorem dX8_plantPlace_12 : decode cX8_plantPlace 12 = .ok (.if_icmp .ge 15, 3) := by decide +kernel
theorem dX8_plantPlace_15 : decode cX8_plantPlace 15 = .ok (.iload 4, 2) := by decide +kernel
theorem dX8_plantPlace_17 : decode cX8_plantPlace 17 = .ok (.iconst 2, 1) := by decide +kernel
theorem dX8_plantPlace_18 : decode cX8_plantPlace 18 = .ok (.if_icmp .eq 9, 3) := by decide +kernel
theorem dX8_plantPlace_21 : decode cX8_plantPlace 21 = .ok (.iload 4, 2) := by decide +kernel
theorem dX8_plantPlace_23 : decode cX8_plantPlace 23 = .ok (.iconst 3, 1) := by decide +kernel
theorem dX8_plantPlace_24 : decode cX8_plantPlace 24 = .ok (.if_icmp .ne 5, 3) := by decide +kernel
theorem dX8_plantPlace_27 : decode cX8_plantPlace 27 = .ok (.iconst (-1), 1) := by decide +kernel
theorem dX8_plantPlace_28 : decode cX8_plantPlace 28 = .ok (.ireturn, 1) := by decide +kernel
theorem dX8_plantPlace_29 : decode cX8_plantPlace 29 = .ok (.aload_n 1, 1) := by decide +kernel
theorem dX8_plantPlace_30 : decode cX8_plantPlace 30 = .ok (.iload_n 2, 1) := by decide +kernel
theorem dX8_plantPlace_31 : decode cX8_plantPlace 31 = .ok (.iload_n 3, 1) := by decide +kernel
theorem dX8_plantPlace_32 : decode cX8_plantPlace 32 = .ok (.invokevirtual 198, 3) := by decide +kernel
theorem dX8_plantPlace_35 : decode cX8_plantPlace 35 = .ok (.iload 4, 2) := by decide +kernel
theorem dX8_plantPlace_37 : decode cX8_plantPlace 37 = .ok (.ireturn, 1) := by decide +kernel
theorem dX8_plantStack_0 : decode cX8_plantStack 0 = .ok (.aload_n 0, 1) := by decide +kernel
theorem dX8_plantStack_1 : decode cX8_plantStack 1 = .ok (.iload_n 1, 1) := by decide +kernel
theorem dX8_plantStack_2 : decode cX8_plantStack 2 = .ok (.invokevirtual 202, 3) := by decide +kernel
theorem dX8_plantStack_5 : decode cX8_plantStack 5 = .ok (.istore_n 3, 1) := by decide +kernel
theorem dX8_plantStack_6 : decode cX8_plantStack 6 = .ok (.iload_n 3, 1) := by decide +kernel
theorem dX8_plantStack_7 : decode cX8_plantStack 7 = .ok (.iconst (-1), 1) := by decide +kernel
theorem dX8_plantStack_8 : decode cX8_plantStack 8 = .ok (.if_icmp .eq 12, 3) := by decide +kernel
theorem dX8_plantStack_11 : decode cX8_plantStack 11 = .ok (.iload_n 3, 1) := by decide +kernel
theorem dX8_plantStack_12 : decode cX8_plantStack 12 = .ok (.iconst 2, 1) := by decide +kernel
theorem dX8_plantStack_13 : decode cX8_plantStack 13 = .ok (.if_icmp .eq 7, 3) := by decide +kernel
theorem dX8_plantStack_16 : decode cX8_plantStack 16 = .ok (.iload_n 2, 1) := by decide +kernel
theorem dX8_plantStack_17 : decode cX8_plantStack 17 = .ok (.ifCond .ne 5, 3) := by decide +kernel
theorem dX8_plantStack_20 : decode cX8_plantStack 20 = .ok (.iconst (-1), 1) := by decide +kernel
theorem dX8_plantStack_21 : decode cX8_plantStack 21 = .ok (.ireturn, 1) := by decide +kernel
theorem dX8_plantStack_22 : decode cX8_plantStack 22 = .ok (.aload_n 0, 1) := by decide +kernel
theorem dX8_plantStack_23 : decode cX8_plantStack 23 = .ok (.iload_n 1, 1) := by decide +kernel
theorem dX8_plantStack_24 : decode cX8_plantStack 24 = .ok (.iload_n 2, 1) := by decide +kernel
theorem dX8_plantStack_25 : decode cX8_plantStack 25 = .ok (.invokevirtual 205, 3) := by decide +kernel
theorem dX8_plantStack_28 : decode cX8_plantStack 28 = .ok (.iload_n 3, 1) := by decide +kernel
theorem dX8_plantStack_29 : decode cX8_plantStack 29 = .ok (.ireturn, 1) := by decide +kernel
end
section
def z_tbl : List Cond := lw_tbl.filter goodWord
theorem z_in {w : Cond} (h : w ∈ lw_tbl) (hg : goodWord w = true) : w ∈ z_tbl := List.mem_filter.mpr ⟨h, hg⟩
theorem z_good : ∀ w ∈ z_tbl, (w.onTables && w.keeps) = true ∨ ∃ ty, w = .arrayClass ty := fun w h => good_of_word (List.mem_filter.mp h).2
theorem z_sub {w : Cond} (h : w ∈ z_tbl) : w ∈ lw_tbl := (List.mem_filter.mp h).1
theorem z_goodIn {x y : MethodName} {b1 b2 : ByteArray} {n1 n2 : Nat} {r1 r2 : Option FieldType} (h : Cond.code y b2 n2 r2 ∈ z_tbl) : GoodIn (Cond.code x b1 n1 r1 :: z_tbl) (Cond.code y b2 n2 r2 :: z_tbl) := fun w hw => by
  rcases List.mem_cons.mp hw with e | e
  · rw [e]; exact ⟨List.mem_cons_of_mem _ h, z_good _ h⟩
  · exact ⟨List.mem_cons_of_mem _ e, z_good _ e⟩
def z_nst : List Cond := [(Jvm.Cond.methodLinkNest "ClosureFrames" (22 : Nat) ({ cls := "ClosureFrames$Method", name := "<init>", desc := "()V" } : Jvm.MethodName) "ClosureFrames"), (Jvm.Cond.methodLinkNest "ClosureFrames$Method" (25 : Nat) ({ cls := "ClosureFrames$Snapshot", name := "<init>", desc := "()V" } : Jvm.MethodName) "ClosureFrames"), (Jvm.Cond.methodLinkNest "ClosureFrames$Computing" (11 : Nat) ({ cls := "ClosureFrames$Snapshot", name := "<init>", desc := "()V" } : Jvm.MethodName) "ClosureFrames"), (Jvm.Cond.methodLinkNest "ClosureFrames$Looking" (11 : Nat) ({ cls := "ClosureFrames$Snapshot", name := "<init>", desc := "()V" } : Jvm.MethodName) "ClosureFrames"), (Jvm.Cond.methodLinkNest "ClosureFrames$Method" (60 : Nat) ({ cls := "ClosureFrames$Act", name := "<init>", desc := "()V" } : Jvm.MethodName) "ClosureFrames"), (Jvm.Cond.methodLinkNest "ClosureFrames$Act" (11 : Nat) ({ cls := "ClosureFrames$Snapshot", name := "<init>", desc := "()V" } : Jvm.MethodName) "ClosureFrames"), (Jvm.Cond.methodLinkNest "ClosureFrames$Method" (65 : Nat) ({ cls := "ClosureFrames$Guard", name := "<init>", desc := "()V" } : Jvm.MethodName) "ClosureFrames"), (Jvm.Cond.methodLinkNest "ClosureFrames$Snapshot" (57 : Nat) ({ cls := "ClosureFrames", name := "isPlace", desc := "(I)Z" } : Jvm.MethodName) "ClosureFrames"), (Jvm.Cond.methodLinkNest "ClosureFrames$Snapshot" (61 : Nat) ({ cls := "ClosureFrames", name := "isOnStack", desc := "(I)Z" } : Jvm.MethodName) "ClosureFrames")]
theorem z_nst_in : ∀ w ∈ z_nst, w ∈ lw_tbl := by decide +kernel
theorem kn_0 : (Jvm.Cond.methodLinkNest "ClosureFrames" (22 : Nat) ({ cls := "ClosureFrames$Method", name := "<init>", desc := "()V" } : Jvm.MethodName) "ClosureFrames") ∈ z_nst := List.mem_of_getElem? (i := 0) (by decide +kernel)
theorem kn_1 : (Jvm.Cond.methodLinkNest "ClosureFrames$Method" (25 : Nat) ({ cls := "ClosureFrames$Snapshot", name := "<init>", desc := "()V" } : Jvm.MethodName) "ClosureFrames") ∈ z_nst := List.mem_of_getElem? (i := 1) (by decide +kernel)
theorem kn_2 : (Jvm.Cond.methodLinkNest "ClosureFrames$Computing" (11 : Nat) ({ cls := "ClosureFrames$Snapshot", name := "<init>", desc := "()V" } : Jvm.MethodName) "ClosureFrames") ∈ z_nst := List.mem_of_getElem? (i := 2) (by decide +kernel)
theorem kn_3 : (Jvm.Cond.methodLinkNest "ClosureFrames$Looking" (11 : Nat) ({ cls := "ClosureFrames$Snapshot", name := "<init>", desc := "()V" } : Jvm.MethodName) "ClosureFrames") ∈ z_nst := List.mem_of_getElem? (i := 3) (by decide +kernel)
theorem kn_4 : (Jvm.Cond.methodLinkNest "ClosureFrames$Method" (60 : Nat) ({ cls := "ClosureFrames$Act", name := "<init>", desc := "()V" } : Jvm.MethodName) "ClosureFrames") ∈ z_nst := List.mem_of_getElem? (i := 4) (by decide +kernel)
theorem kn_5 : (Jvm.Cond.methodLinkNest "ClosureFrames$Act" (11 : Nat) ({ cls := "ClosureFrames$Snapshot", name := "<init>", desc := "()V" } : Jvm.MethodName) "ClosureFrames") ∈ z_nst := List.mem_of_getElem? (i := 5) (by decide +kernel)
theorem kn_6 : (Jvm.Cond.methodLinkNest "ClosureFrames$Method" (65 : Nat) ({ cls := "ClosureFrames$Guard", name := "<init>", desc := "()V" } : Jvm.MethodName) "ClosureFrames") ∈ z_nst := List.mem_of_getElem? (i := 6) (by decide +kernel)
theorem kn_7 : (Jvm.Cond.methodLinkNest "ClosureFrames$Snapshot" (57 : Nat) ({ cls := "ClosureFrames", name := "isPlace", desc := "(I)Z" } : Jvm.MethodName) "ClosureFrames") ∈ z_nst := List.mem_of_getElem? (i := 7) (by decide +kernel)
theorem kn_8 : (Jvm.Cond.methodLinkNest "ClosureFrames$Snapshot" (61 : Nat) ({ cls := "ClosureFrames", name := "isOnStack", desc := "(I)Z" } : Jvm.MethodName) "ClosureFrames") ∈ z_nst := List.mem_of_getElem? (i := 8) (by decide +kernel)
theorem ko_41 : (Jvm.Cond.arrayOver (Jvm.ClassFile.FieldType.object "ClosureFrames$Method")) ∈ lw_tbl := List.mem_append_right _ (List.mem_of_getElem? (i := 41) (by decide +kernel))
theorem ko_48 : (Jvm.Cond.arrayOver (Jvm.ClassFile.FieldType.object "ClosureFrames$Act")) ∈ lw_tbl := List.mem_append_right _ (List.mem_of_getElem? (i := 48) (by decide +kernel))
theorem ko_50 : (Jvm.Cond.arrayOver (Jvm.ClassFile.FieldType.object "ClosureFrames$Guard")) ∈ lw_tbl := List.mem_append_right _ (List.mem_of_getElem? (i := 50) (by decide +kernel))
theorem kw_0 : (Jvm.Cond.initialized "ClosureFramesLaw") ∈ z_tbl := z_in (List.mem_append_right _ (List.mem_of_getElem? (i := 0) (by decide +kernel))) (by decide +kernel)
theorem kw_1 : (Jvm.Cond.initialized "ClosureFrames") ∈ z_tbl := z_in (List.mem_append_right _ (List.mem_of_getElem? (i := 1) (by decide +kernel))) (by decide +kernel)
theorem kw_2 : (Jvm.Cond.initialized "ClosureFrames$ClassTree") ∈ z_tbl := z_in (List.mem_append_right _ (List.mem_of_getElem? (i := 2) (by decide +kernel))) (by decide +kernel)
theorem kw_3 : (Jvm.Cond.initialized "ClosureFrames$Method") ∈ z_tbl := z_in (List.mem_append_right _ (List.mem_of_getElem? (i := 3) (by decide +kernel))) (by decide +kernel)
theorem kw_4 : (Jvm.Cond.initialized "ClosureFrames$Snapshot") ∈ z_tbl := z_in (List.mem_append_right _ (List.mem_of_getElem? (i := 4) (by decide +kernel))) (by decide +kernel)
theorem kw_5 : (Jvm.Cond.initialized "ClosureFrames$Worker") ∈ z_tbl := z_in (List.mem_append_right _ (List.mem_of_getElem? (i := 5) (by decide +kernel))) (by decide +kernel)
theorem kw_6 : (Jvm.Cond.initialized "ClosureFrames$Computing") ∈ z_tbl := z_in (List.mem_append_right _ (List.mem_of_getElem? (i := 6) (by decide +kernel))) (by decide +kernel)
theorem kw_7 : (Jvm.Cond.initialized "ClosureFrames$Looking") ∈ z_tbl := z_in (List.mem_append_right _ (List.mem_of_getElem? (i := 7) (by decide +kernel))) (by decide +kernel)
theorem kw_8 : (Jvm.Cond.initialized "ClosureFramesModel") ∈ z_tbl := z_in (List.mem_append_right _ (List.mem_of_getElem? (i := 8) (by decide +kernel))) (by decide +kernel)
theorem kw_9 : (Jvm.Cond.initialized "ClosureFrames$Act") ∈ z_tbl := z_in (List.mem_append_right _ (List.mem_of_getElem? (i := 9) (by decide +kernel))) (by decide +kernel)
theorem kw_10 : (Jvm.Cond.initialized "ClosureFrames$Guard") ∈ z_tbl := z_in (List.mem_append_right _ (List.mem_of_getElem? (i := 10) (by decide +kernel))) (by decide +kernel)
theorem kw_11 : (Jvm.Cond.initialized "java/lang/System") ∈ z_tbl := z_in (List.mem_append_right _ (List.mem_of_getElem? (i := 11) (by decide +kernel))) (by decide +kernel)
theorem kw_12 : (Jvm.Cond.initialized "java/lang/Math") ∈ z_tbl := z_in (List.mem_append_right _ (List.mem_of_getElem? (i := 12) (by decide +kernel))) (by decide +kernel)
theorem kw_13 : (Jvm.Cond.classLink "ClosureFramesLaw" (7 : Nat) "ClosureFrames") ∈ z_tbl := z_in (List.mem_append_right _ (List.mem_of_getElem? (i := 13) (by decide +kernel))) (by decide +kernel)
theorem kw_14 : (Jvm.Cond.instantiable "ClosureFrames" (5 : Nat)) ∈ z_tbl := z_in (List.mem_append_right _ (List.mem_of_getElem? (i := 14) (by decide +kernel))) (by decide +kernel)
theorem kw_15 : (Jvm.Cond.methodLink "ClosureFramesLaw" (9 : Nat) ({ cls := "ClosureFrames", name := "<init>", desc := "()V" } : Jvm.MethodName)) ∈ z_tbl := z_in (List.mem_append_right _ (List.mem_of_getElem? (i := 15) (by decide +kernel))) (by decide +kernel)
theorem kw_16 : (Jvm.Cond.instanceMethod ({ cls := "ClosureFrames", name := "<init>", desc := "()V" } : Jvm.MethodName)) ∈ z_tbl := z_in (List.mem_append_right _ (List.mem_of_getElem? (i := 16) (by decide +kernel))) (by decide +kernel)
theorem kw_17 : (Jvm.Cond.code ({ cls := "ClosureFrames", name := "<init>", desc := "()V" } : Jvm.MethodName) prog_1_method_1_code (2 : Nat) (Option.none : Option Jvm.ClassFile.FieldType)) ∈ z_tbl := z_in (List.mem_append_right _ (List.mem_of_getElem? (i := 17) (by decide +kernel))) (by decide +kernel)
theorem kw_18 : (Jvm.Cond.methodLink "ClosureFrames" (1 : Nat) ({ cls := "java/lang/Object", name := "<init>", desc := "()V" } : Jvm.MethodName)) ∈ z_tbl := z_in (List.mem_append_right _ (List.mem_of_getElem? (i := 18) (by decide +kernel))) (by decide +kernel)
theorem kw_19 : (Jvm.Cond.instanceMethod ({ cls := "java/lang/Object", name := "<init>", desc := "()V" } : Jvm.MethodName)) ∈ z_tbl := z_in (List.mem_append_right _ (List.mem_of_getElem? (i := 19) (by decide +kernel))) (by decide +kernel)
theorem kw_20 : (Jvm.Cond.code ({ cls := "java/lang/Object", name := "<init>", desc := "()V" } : Jvm.MethodName) object_method_1_code (1 : Nat) (Option.none : Option Jvm.ClassFile.FieldType)) ∈ z_tbl := z_in (List.mem_append_right _ (List.mem_of_getElem? (i := 20) (by decide +kernel))) (by decide +kernel)
theorem kw_21 : (Jvm.Cond.classLink "ClosureFrames" (7 : Nat) "ClosureFrames$ClassTree") ∈ z_tbl := z_in (List.mem_append_right _ (List.mem_of_getElem? (i := 21) (by decide +kernel))) (by decide +kernel)
theorem kw_22 : (Jvm.Cond.instantiable "ClosureFrames$ClassTree" (3 : Nat)) ∈ z_tbl := z_in (List.mem_append_right _ (List.mem_of_getElem? (i := 22) (by decide +kernel))) (by decide +kernel)
theorem kw_23 : (Jvm.Cond.methodLink "ClosureFrames" (9 : Nat) ({ cls := "ClosureFrames$ClassTree", name := "<init>", desc := "()V" } : Jvm.MethodName)) ∈ z_tbl := z_in (List.mem_append_right _ (List.mem_of_getElem? (i := 23) (by decide +kernel))) (by decide +kernel)
theorem kw_24 : (Jvm.Cond.instanceMethod ({ cls := "ClosureFrames$ClassTree", name := "<init>", desc := "()V" } : Jvm.MethodName)) ∈ z_tbl := z_in (List.mem_append_right _ (List.mem_of_getElem? (i := 24) (by decide +kernel))) (by decide +kernel)
theorem kw_25 : (Jvm.Cond.code ({ cls := "ClosureFrames$ClassTree", name := "<init>", desc := "()V" } : Jvm.MethodName) prog_3_method_1_code (1 : Nat) (Option.none : Option Jvm.ClassFile.FieldType)) ∈ z_tbl := z_in (List.mem_append_right _ (List.mem_of_getElem? (i := 25) (by decide +kernel))) (by decide +kernel)
theorem kw_26 : (Jvm.Cond.methodLink "ClosureFrames$ClassTree" (3 : Nat) ({ cls := "java/lang/Object", name := "<init>", desc := "()V" } : Jvm.MethodName)) ∈ z_tbl := z_in (List.mem_append_right _ (List.mem_of_getElem? (i := 26) (by decide +kernel))) (by decide +kernel)
theorem kw_27 : (Jvm.Cond.fieldLink "ClosureFrames$ClassTree" (9 : Nat) "ClosureFrames$ClassTree" "lines" "[I") ∈ z_tbl := z_in (List.mem_append_right _ (List.mem_of_getElem? (i := 27) (by decide +kernel))) (by decide +kernel)
theorem kw_28 : (Jvm.Cond.fieldLink "ClosureFrames$ClassTree" (15 : Nat) "ClosureFrames$ClassTree" "faces" "[Z") ∈ z_tbl := z_in (List.mem_append_right _ (List.mem_of_getElem? (i := 28) (by decide +kernel))) (by decide +kernel)
theorem kw_29 : (Jvm.Cond.fieldLink "ClosureFrames$ClassTree" (19 : Nat) "ClosureFrames$ClassTree" "count" "I") ∈ z_tbl := z_in (List.mem_append_right _ (List.mem_of_getElem? (i := 29) (by decide +kernel))) (by decide +kernel)
theorem kw_30 : (Jvm.Cond.fieldLink "ClosureFrames" (171 : Nat) "ClosureFrames$ClassTree" "count" "I") ∈ z_tbl := z_in (List.mem_append_right _ (List.mem_of_getElem? (i := 30) (by decide +kernel))) (by decide +kernel)
theorem kw_38 : (Jvm.Cond.arrayClass Jvm.ClassFile.FieldType.int) ∈ z_tbl := z_in (List.mem_append_right _ (List.mem_of_getElem? (i := 38) (by decide +kernel))) (by decide +kernel)
theorem kw_39 : (Jvm.Cond.arrayClass Jvm.ClassFile.FieldType.boolean) ∈ z_tbl := z_in (List.mem_append_right _ (List.mem_of_getElem? (i := 39) (by decide +kernel))) (by decide +kernel)
theorem kw_40 : (Jvm.Cond.classLink "ClosureFrames" (16 : Nat) "ClosureFrames$Method") ∈ z_tbl := z_in (List.mem_append_right _ (List.mem_of_getElem? (i := 40) (by decide +kernel))) (by decide +kernel)
theorem kw_42 : (Jvm.Cond.instantiable "ClosureFrames$Method" (10 : Nat)) ∈ z_tbl := z_in (List.mem_append_right _ (List.mem_of_getElem? (i := 42) (by decide +kernel))) (by decide +kernel)
theorem kw_44 : (Jvm.Cond.instanceMethod ({ cls := "ClosureFrames$Method", name := "<init>", desc := "()V" } : Jvm.MethodName)) ∈ z_tbl := z_in (List.mem_append_right _ (List.mem_of_getElem? (i := 44) (by decide +kernel))) (by decide +kernel)
theorem kw_45 : (Jvm.Cond.code ({ cls := "ClosureFrames$Method", name := "<init>", desc := "()V" } : Jvm.MethodName) prog_7_method_1_code (1 : Nat) (Option.none : Option Jvm.ClassFile.FieldType)) ∈ z_tbl := z_in (List.mem_append_right _ (List.mem_of_getElem? (i := 45) (by decide +kernel))) (by decide +kernel)
theorem kw_46 : (Jvm.Cond.methodLink "ClosureFrames$Method" (3 : Nat) ({ cls := "java/lang/Object", name := "<init>", desc := "()V" } : Jvm.MethodName)) ∈ z_tbl := z_in (List.mem_append_right _ (List.mem_of_getElem? (i := 46) (by decide +kernel))) (by decide +kernel)
theorem kw_47 : (Jvm.Cond.classLink "ClosureFrames$Method" (9 : Nat) "ClosureFrames$Act") ∈ z_tbl := z_in (List.mem_append_right _ (List.mem_of_getElem? (i := 47) (by decide +kernel))) (by decide +kernel)
theorem kw_49 : (Jvm.Cond.classLink "ClosureFrames$Method" (17 : Nat) "ClosureFrames$Guard") ∈ z_tbl := z_in (List.mem_append_right _ (List.mem_of_getElem? (i := 49) (by decide +kernel))) (by decide +kernel)
theorem kw_51 : (Jvm.Cond.classLink "ClosureFrames$Method" (23 : Nat) "ClosureFrames$Snapshot") ∈ z_tbl := z_in (List.mem_append_right _ (List.mem_of_getElem? (i := 51) (by decide +kernel))) (by decide +kernel)
theorem kw_52 : (Jvm.Cond.instantiable "ClosureFrames$Snapshot" (3 : Nat)) ∈ z_tbl := z_in (List.mem_append_right _ (List.mem_of_getElem? (i := 52) (by decide +kernel))) (by decide +kernel)
theorem kw_54 : (Jvm.Cond.instanceMethod ({ cls := "ClosureFrames$Snapshot", name := "<init>", desc := "()V" } : Jvm.MethodName)) ∈ z_tbl := z_in (List.mem_append_right _ (List.mem_of_getElem? (i := 54) (by decide +kernel))) (by decide +kernel)
theorem kw_55 : (Jvm.Cond.code ({ cls := "ClosureFrames$Snapshot", name := "<init>", desc := "()V" } : Jvm.MethodName) prog_8_method_1_code (1 : Nat) (Option.none : Option Jvm.ClassFile.FieldType)) ∈ z_tbl := z_in (List.mem_append_right _ (List.mem_of_getElem? (i := 55) (by decide +kernel))) (by decide +kernel)
theorem kw_56 : (Jvm.Cond.methodLink "ClosureFrames$Snapshot" (3 : Nat) ({ cls := "java/lang/Object", name := "<init>", desc := "()V" } : Jvm.MethodName)) ∈ z_tbl := z_in (List.mem_append_right _ (List.mem_of_getElem? (i := 56) (by decide +kernel))) (by decide +kernel)
theorem kw_57 : (Jvm.Cond.fieldLink "ClosureFrames$Snapshot" (9 : Nat) "ClosureFrames$Snapshot" "places" "[I") ∈ z_tbl := z_in (List.mem_append_right _ (List.mem_of_getElem? (i := 57) (by decide +kernel))) (by decide +kernel)
theorem kw_58 : (Jvm.Cond.fieldLink "ClosureFrames$Snapshot" (15 : Nat) "ClosureFrames$Snapshot" "stack" "[I") ∈ z_tbl := z_in (List.mem_append_right _ (List.mem_of_getElem? (i := 58) (by decide +kernel))) (by decide +kernel)
theorem kw_59 : (Jvm.Cond.fieldLink "ClosureFrames$Snapshot" (18 : Nat) "ClosureFrames$Snapshot" "height" "I") ∈ z_tbl := z_in (List.mem_append_right _ (List.mem_of_getElem? (i := 59) (by decide +kernel))) (by decide +kernel)
theorem kw_60 : (Jvm.Cond.fieldLink "ClosureFrames$Computing" (136 : Nat) "ClosureFrames$Snapshot" "height" "I") ∈ z_tbl := z_in (List.mem_append_right _ (List.mem_of_getElem? (i := 60) (by decide +kernel))) (by decide +kernel)
theorem kw_61 : (Jvm.Cond.fieldLink "ClosureFrames$ClassTree" (38 : Nat) "ClosureFrames$Snapshot" "height" "I") ∈ z_tbl := z_in (List.mem_append_right _ (List.mem_of_getElem? (i := 61) (by decide +kernel))) (by decide +kernel)
theorem kw_69 : (Jvm.Cond.fieldLink "ClosureFrames$Method" (11 : Nat) "ClosureFrames$Method" "acts" "[LClosureFrames$Act;") ∈ z_tbl := z_in (List.mem_append_right _ (List.mem_of_getElem? (i := 69) (by decide +kernel))) (by decide +kernel)
theorem kw_70 : (Jvm.Cond.fieldLink "ClosureFrames$Method" (19 : Nat) "ClosureFrames$Method" "guards" "[LClosureFrames$Guard;") ∈ z_tbl := z_in (List.mem_append_right _ (List.mem_of_getElem? (i := 70) (by decide +kernel))) (by decide +kernel)
theorem kw_71 : (Jvm.Cond.fieldLink "ClosureFrames$Method" (26 : Nat) "ClosureFrames$Method" "beginning" "LClosureFrames$Snapshot;") ∈ z_tbl := z_in (List.mem_append_right _ (List.mem_of_getElem? (i := 71) (by decide +kernel))) (by decide +kernel)
theorem kw_72 : (Jvm.Cond.fieldLink "ClosureFrames$Looking" (37 : Nat) "ClosureFrames$Method" "beginning" "LClosureFrames$Snapshot;") ∈ z_tbl := z_in (List.mem_append_right _ (List.mem_of_getElem? (i := 72) (by decide +kernel))) (by decide +kernel)
theorem kw_73 : (Jvm.Cond.fieldLink "ClosureFrames$Computing" (38 : Nat) "ClosureFrames$Method" "beginning" "LClosureFrames$Snapshot;") ∈ z_tbl := z_in (List.mem_append_right _ (List.mem_of_getElem? (i := 73) (by decide +kernel))) (by decide +kernel)
theorem kw_74 : (Jvm.Cond.fieldLink "ClosureFrames" (145 : Nat) "ClosureFrames$Method" "beginning" "LClosureFrames$Snapshot;") ∈ z_tbl := z_in (List.mem_append_right _ (List.mem_of_getElem? (i := 74) (by decide +kernel))) (by decide +kernel)
theorem kw_75 : (Jvm.Cond.fieldLink "ClosureFrames$Method" (30 : Nat) "ClosureFrames$Method" "actCount" "I") ∈ z_tbl := z_in (List.mem_append_right _ (List.mem_of_getElem? (i := 75) (by decide +kernel))) (by decide +kernel)
theorem kw_76 : (Jvm.Cond.fieldLink "ClosureFrames$Looking" (46 : Nat) "ClosureFrames$Method" "actCount" "I") ∈ z_tbl := z_in (List.mem_append_right _ (List.mem_of_getElem? (i := 76) (by decide +kernel))) (by decide +kernel)
theorem kw_77 : (Jvm.Cond.fieldLink "ClosureFrames" (71 : Nat) "ClosureFrames$Method" "actCount" "I") ∈ z_tbl := z_in (List.mem_append_right _ (List.mem_of_getElem? (i := 77) (by decide +kernel))) (by decide +kernel)
theorem kw_78 : (Jvm.Cond.fieldLink "ClosureFrames$Method" (34 : Nat) "ClosureFrames$Method" "guardCount" "I") ∈ z_tbl := z_in (List.mem_append_right _ (List.mem_of_getElem? (i := 78) (by decide +kernel))) (by decide +kernel)
theorem kw_79 : (Jvm.Cond.fieldLink "ClosureFrames$Computing" (97 : Nat) "ClosureFrames$Method" "guardCount" "I") ∈ z_tbl := z_in (List.mem_append_right _ (List.mem_of_getElem? (i := 79) (by decide +kernel))) (by decide +kernel)
theorem kw_80 : (Jvm.Cond.fieldLink "ClosureFrames$Looking" (92 : Nat) "ClosureFrames$Method" "guardCount" "I") ∈ z_tbl := z_in (List.mem_append_right _ (List.mem_of_getElem? (i := 80) (by decide +kernel))) (by decide +kernel)
theorem kw_81 : (Jvm.Cond.fieldLink "ClosureFrames" (189 : Nat) "ClosureFrames$Method" "guardCount" "I") ∈ z_tbl := z_in (List.mem_append_right _ (List.mem_of_getElem? (i := 81) (by decide +kernel))) (by decide +kernel)
theorem kw_82 : (Jvm.Cond.fieldLink "ClosureFrames$Method" (37 : Nat) "ClosureFrames$Method" "placeCount" "I") ∈ z_tbl := z_in (List.mem_append_right _ (List.mem_of_getElem? (i := 82) (by decide +kernel))) (by decide +kernel)
theorem kw_83 : (Jvm.Cond.fieldLink "ClosureFrames" (192 : Nat) "ClosureFrames$Method" "placeCount" "I") ∈ z_tbl := z_in (List.mem_append_right _ (List.mem_of_getElem? (i := 83) (by decide +kernel))) (by decide +kernel)
theorem kw_84 : (Jvm.Cond.fieldLink "ClosureFrames$Method" (40 : Nat) "ClosureFrames$Method" "argumentPlaces" "I") ∈ z_tbl := z_in (List.mem_append_right _ (List.mem_of_getElem? (i := 84) (by decide +kernel))) (by decide +kernel)
theorem kw_85 : (Jvm.Cond.fieldLink "ClosureFrames$Method" (43 : Nat) "ClosureFrames$Method" "computed" "Z") ∈ z_tbl := z_in (List.mem_append_right _ (List.mem_of_getElem? (i := 85) (by decide +kernel))) (by decide +kernel)
theorem kw_86 : (Jvm.Cond.fieldLink "ClosureFrames$Computing" (57 : Nat) "ClosureFrames$Method" "computed" "Z") ∈ z_tbl := z_in (List.mem_append_right _ (List.mem_of_getElem? (i := 86) (by decide +kernel))) (by decide +kernel)
theorem kw_87 : (Jvm.Cond.fieldLink "ClosureFrames" (121 : Nat) "ClosureFrames$Method" "computed" "Z") ∈ z_tbl := z_in (List.mem_append_right _ (List.mem_of_getElem? (i := 87) (by decide +kernel))) (by decide +kernel)
theorem kw_88 : (Jvm.Cond.fieldLink "ClosureFrames$Method" (47 : Nat) "ClosureFrames$Method" "mostStack" "I") ∈ z_tbl := z_in (List.mem_append_right _ (List.mem_of_getElem? (i := 88) (by decide +kernel))) (by decide +kernel)
theorem kw_89 : (Jvm.Cond.fieldLink "ClosureFrames" (155 : Nat) "ClosureFrames$Method" "mostStack" "I") ∈ z_tbl := z_in (List.mem_append_right _ (List.mem_of_getElem? (i := 89) (by decide +kernel))) (by decide +kernel)
theorem kw_90 : (Jvm.Cond.fieldLink "ClosureFrames$Method" (50 : Nat) "ClosureFrames$Method" "mostPlaces" "I") ∈ z_tbl := z_in (List.mem_append_right _ (List.mem_of_getElem? (i := 90) (by decide +kernel))) (by decide +kernel)
theorem kw_91 : (Jvm.Cond.fieldLink "ClosureFrames" (158 : Nat) "ClosureFrames$Method" "mostPlaces" "I") ∈ z_tbl := z_in (List.mem_append_right _ (List.mem_of_getElem? (i := 91) (by decide +kernel))) (by decide +kernel)
theorem kw_113 : (Jvm.Cond.classLink "ClosureFrames" (23 : Nat) "ClosureFrames$Worker") ∈ z_tbl := z_in (List.mem_append_right _ (List.mem_of_getElem? (i := 113) (by decide +kernel))) (by decide +kernel)
theorem kw_114 : (Jvm.Cond.instantiable "ClosureFrames$Worker" (1 : Nat)) ∈ z_tbl := z_in (List.mem_append_right _ (List.mem_of_getElem? (i := 114) (by decide +kernel))) (by decide +kernel)
theorem kw_115 : (Jvm.Cond.methodLink "ClosureFrames" (25 : Nat) ({ cls := "ClosureFrames$Worker", name := "<init>", desc := "(LClosureFrames$ClassTree;)V" } : Jvm.MethodName)) ∈ z_tbl := z_in (List.mem_append_right _ (List.mem_of_getElem? (i := 115) (by decide +kernel))) (by decide +kernel)
theorem kw_116 : (Jvm.Cond.instanceMethod ({ cls := "ClosureFrames$Worker", name := "<init>", desc := "(LClosureFrames$ClassTree;)V" } : Jvm.MethodName)) ∈ z_tbl := z_in (List.mem_append_right _ (List.mem_of_getElem? (i := 116) (by decide +kernel))) (by decide +kernel)
theorem kw_117 : (Jvm.Cond.code ({ cls := "ClosureFrames$Worker", name := "<init>", desc := "(LClosureFrames$ClassTree;)V" } : Jvm.MethodName) prog_9_method_1_code (2 : Nat) (Option.none : Option Jvm.ClassFile.FieldType)) ∈ z_tbl := z_in (List.mem_append_right _ (List.mem_of_getElem? (i := 117) (by decide +kernel))) (by decide +kernel)
theorem kw_118 : (Jvm.Cond.methodLink "ClosureFrames$Worker" (3 : Nat) ({ cls := "java/lang/Object", name := "<init>", desc := "()V" } : Jvm.MethodName)) ∈ z_tbl := z_in (List.mem_append_right _ (List.mem_of_getElem? (i := 118) (by decide +kernel))) (by decide +kernel)
theorem kw_119 : (Jvm.Cond.fieldLink "ClosureFrames$Worker" (9 : Nat) "ClosureFrames$Worker" "tree" "LClosureFrames$ClassTree;") ∈ z_tbl := z_in (List.mem_append_right _ (List.mem_of_getElem? (i := 119) (by decide +kernel))) (by decide +kernel)
theorem kw_123 : (Jvm.Cond.classLink "ClosureFrames" (28 : Nat) "ClosureFrames$Computing") ∈ z_tbl := z_in (List.mem_append_right _ (List.mem_of_getElem? (i := 123) (by decide +kernel))) (by decide +kernel)
theorem kw_124 : (Jvm.Cond.instantiable "ClosureFrames$Computing" (5 : Nat)) ∈ z_tbl := z_in (List.mem_append_right _ (List.mem_of_getElem? (i := 124) (by decide +kernel))) (by decide +kernel)
theorem kw_125 : (Jvm.Cond.methodLink "ClosureFrames" (30 : Nat) ({ cls := "ClosureFrames$Computing", name := "<init>", desc := "(LClosureFrames$ClassTree;LClosureFrames$Worker;)V" } : Jvm.MethodName)) ∈ z_tbl := z_in (List.mem_append_right _ (List.mem_of_getElem? (i := 125) (by decide +kernel))) (by decide +kernel)
theorem kw_126 : (Jvm.Cond.instanceMethod ({ cls := "ClosureFrames$Computing", name := "<init>", desc := "(LClosureFrames$ClassTree;LClosureFrames$Worker;)V" } : Jvm.MethodName)) ∈ z_tbl := z_in (List.mem_append_right _ (List.mem_of_getElem? (i := 126) (by decide +kernel))) (by decide +kernel)
theorem kw_127 : (Jvm.Cond.code ({ cls := "ClosureFrames$Computing", name := "<init>", desc := "(LClosureFrames$ClassTree;LClosureFrames$Worker;)V" } : Jvm.MethodName) prog_4_method_1_code (3 : Nat) (Option.none : Option Jvm.ClassFile.FieldType)) ∈ z_tbl := z_in (List.mem_append_right _ (List.mem_of_getElem? (i := 127) (by decide +kernel))) (by decide +kernel)
theorem kw_128 : (Jvm.Cond.methodLink "ClosureFrames$Computing" (3 : Nat) ({ cls := "java/lang/Object", name := "<init>", desc := "()V" } : Jvm.MethodName)) ∈ z_tbl := z_in (List.mem_append_right _ (List.mem_of_getElem? (i := 128) (by decide +kernel))) (by decide +kernel)
theorem kw_129 : (Jvm.Cond.classLink "ClosureFrames$Computing" (9 : Nat) "ClosureFrames$Snapshot") ∈ z_tbl := z_in (List.mem_append_right _ (List.mem_of_getElem? (i := 129) (by decide +kernel))) (by decide +kernel)
theorem kw_131 : (Jvm.Cond.fieldLink "ClosureFrames$Computing" (25 : Nat) "ClosureFrames$Computing" "tree" "LClosureFrames$ClassTree;") ∈ z_tbl := z_in (List.mem_append_right _ (List.mem_of_getElem? (i := 131) (by decide +kernel))) (by decide +kernel)
theorem kw_132 : (Jvm.Cond.fieldLink "ClosureFrames$Computing" (29 : Nat) "ClosureFrames$Computing" "worker" "LClosureFrames$Worker;") ∈ z_tbl := z_in (List.mem_append_right _ (List.mem_of_getElem? (i := 132) (by decide +kernel))) (by decide +kernel)
theorem kw_133 : (Jvm.Cond.fieldLink "ClosureFrames$Computing" (12 : Nat) "ClosureFrames$Computing" "taken" "LClosureFrames$Snapshot;") ∈ z_tbl := z_in (List.mem_append_right _ (List.mem_of_getElem? (i := 133) (by decide +kernel))) (by decide +kernel)
theorem kw_134 : (Jvm.Cond.fieldLink "ClosureFrames$Computing" (18 : Nat) "ClosureFrames$Computing" "caught" "LClosureFrames$Snapshot;") ∈ z_tbl := z_in (List.mem_append_right _ (List.mem_of_getElem? (i := 134) (by decide +kernel))) (by decide +kernel)
theorem kw_135 : (Jvm.Cond.fieldLink "ClosureFrames$Computing" (21 : Nat) "ClosureFrames$Computing" "fault" "I") ∈ z_tbl := z_in (List.mem_append_right _ (List.mem_of_getElem? (i := 135) (by decide +kernel))) (by decide +kernel)
theorem kw_136 : (Jvm.Cond.fieldLink "ClosureFrames" (104 : Nat) "ClosureFrames$Computing" "fault" "I") ∈ z_tbl := z_in (List.mem_append_right _ (List.mem_of_getElem? (i := 136) (by decide +kernel))) (by decide +kernel)
theorem kw_148 : (Jvm.Cond.classLink "ClosureFrames" (37 : Nat) "ClosureFrames$Looking") ∈ z_tbl := z_in (List.mem_append_right _ (List.mem_of_getElem? (i := 148) (by decide +kernel))) (by decide +kernel)
theorem kw_149 : (Jvm.Cond.instantiable "ClosureFrames$Looking" (6 : Nat)) ∈ z_tbl := z_in (List.mem_append_right _ (List.mem_of_getElem? (i := 149) (by decide +kernel))) (by decide +kernel)
theorem kw_150 : (Jvm.Cond.methodLink "ClosureFrames" (39 : Nat) ({ cls := "ClosureFrames$Looking", name := "<init>", desc := "(LClosureFrames$ClassTree;LClosureFrames$Worker;)V" } : Jvm.MethodName)) ∈ z_tbl := z_in (List.mem_append_right _ (List.mem_of_getElem? (i := 150) (by decide +kernel))) (by decide +kernel)
theorem kw_151 : (Jvm.Cond.instanceMethod ({ cls := "ClosureFrames$Looking", name := "<init>", desc := "(LClosureFrames$ClassTree;LClosureFrames$Worker;)V" } : Jvm.MethodName)) ∈ z_tbl := z_in (List.mem_append_right _ (List.mem_of_getElem? (i := 151) (by decide +kernel))) (by decide +kernel)
theorem kw_152 : (Jvm.Cond.code ({ cls := "ClosureFrames$Looking", name := "<init>", desc := "(LClosureFrames$ClassTree;LClosureFrames$Worker;)V" } : Jvm.MethodName) prog_6_method_1_code (3 : Nat) (Option.none : Option Jvm.ClassFile.FieldType)) ∈ z_tbl := z_in (List.mem_append_right _ (List.mem_of_getElem? (i := 152) (by decide +kernel))) (by decide +kernel)
theorem kw_153 : (Jvm.Cond.methodLink "ClosureFrames$Looking" (3 : Nat) ({ cls := "java/lang/Object", name := "<init>", desc := "()V" } : Jvm.MethodName)) ∈ z_tbl := z_in (List.mem_append_right _ (List.mem_of_getElem? (i := 153) (by decide +kernel))) (by decide +kernel)
theorem kw_154 : (Jvm.Cond.classLink "ClosureFrames$Looking" (9 : Nat) "ClosureFrames$Snapshot") ∈ z_tbl := z_in (List.mem_append_right _ (List.mem_of_getElem? (i := 154) (by decide +kernel))) (by decide +kernel)
theorem kw_156 : (Jvm.Cond.fieldLink "ClosureFrames$Looking" (29 : Nat) "ClosureFrames$Looking" "tree" "LClosureFrames$ClassTree;") ∈ z_tbl := z_in (List.mem_append_right _ (List.mem_of_getElem? (i := 156) (by decide +kernel))) (by decide +kernel)
theorem kw_157 : (Jvm.Cond.fieldLink "ClosureFrames$Looking" (33 : Nat) "ClosureFrames$Looking" "worker" "LClosureFrames$Worker;") ∈ z_tbl := z_in (List.mem_append_right _ (List.mem_of_getElem? (i := 157) (by decide +kernel))) (by decide +kernel)
theorem kw_158 : (Jvm.Cond.fieldLink "ClosureFrames$Looking" (12 : Nat) "ClosureFrames$Looking" "current" "LClosureFrames$Snapshot;") ∈ z_tbl := z_in (List.mem_append_right _ (List.mem_of_getElem? (i := 158) (by decide +kernel))) (by decide +kernel)
theorem kw_159 : (Jvm.Cond.fieldLink "ClosureFrames$Looking" (18 : Nat) "ClosureFrames$Looking" "caught" "LClosureFrames$Snapshot;") ∈ z_tbl := z_in (List.mem_append_right _ (List.mem_of_getElem? (i := 159) (by decide +kernel))) (by decide +kernel)
theorem kw_160 : (Jvm.Cond.fieldLink "ClosureFrames$Looking" (21 : Nat) "ClosureFrames$Looking" "present" "Z") ∈ z_tbl := z_in (List.mem_append_right _ (List.mem_of_getElem? (i := 160) (by decide +kernel))) (by decide +kernel)
theorem kw_161 : (Jvm.Cond.fieldLink "ClosureFrames$Looking" (25 : Nat) "ClosureFrames$Looking" "fault" "I") ∈ z_tbl := z_in (List.mem_append_right _ (List.mem_of_getElem? (i := 161) (by decide +kernel))) (by decide +kernel)
theorem kw_162 : (Jvm.Cond.fieldLink "ClosureFrames" (170 : Nat) "ClosureFrames$Looking" "fault" "I") ∈ z_tbl := z_in (List.mem_append_right _ (List.mem_of_getElem? (i := 162) (by decide +kernel))) (by decide +kernel)
theorem kw_176 : (Jvm.Cond.fieldLink "ClosureFrames" (10 : Nat) "ClosureFrames" "tree" "LClosureFrames$ClassTree;") ∈ z_tbl := z_in (List.mem_append_right _ (List.mem_of_getElem? (i := 176) (by decide +kernel))) (by decide +kernel)
theorem kw_177 : (Jvm.Cond.fieldLink "ClosureFrames" (18 : Nat) "ClosureFrames" "methods" "[LClosureFrames$Method;") ∈ z_tbl := z_in (List.mem_append_right _ (List.mem_of_getElem? (i := 177) (by decide +kernel))) (by decide +kernel)
theorem kw_178 : (Jvm.Cond.fieldLink "ClosureFrames" (33 : Nat) "ClosureFrames" "computing" "LClosureFrames$Computing;") ∈ z_tbl := z_in (List.mem_append_right _ (List.mem_of_getElem? (i := 178) (by decide +kernel))) (by decide +kernel)
theorem kw_179 : (Jvm.Cond.fieldLink "ClosureFrames" (40 : Nat) "ClosureFrames" "looking" "LClosureFrames$Looking;") ∈ z_tbl := z_in (List.mem_append_right _ (List.mem_of_getElem? (i := 179) (by decide +kernel))) (by decide +kernel)
theorem kw_180 : (Jvm.Cond.fieldLink "ClosureFrames" (44 : Nat) "ClosureFrames" "lastFault" "I") ∈ z_tbl := z_in (List.mem_append_right _ (List.mem_of_getElem? (i := 180) (by decide +kernel))) (by decide +kernel)
theorem kw_192 : (Jvm.Cond.methodLink "ClosureFramesLaw" (13 : Nat) ({ cls := "ClosureFrames", name := "cls", desc := "(IZ)I" } : Jvm.MethodName)) ∈ z_tbl := z_in (List.mem_append_right _ (List.mem_of_getElem? (i := 192) (by decide +kernel))) (by decide +kernel)
theorem kw_193 : (Jvm.Cond.instanceMethod ({ cls := "ClosureFrames", name := "cls", desc := "(IZ)I" } : Jvm.MethodName)) ∈ z_tbl := z_in (List.mem_append_right _ (List.mem_of_getElem? (i := 193) (by decide +kernel))) (by decide +kernel)
theorem kw_194 : (Jvm.Cond.selects "ClosureFrames" ({ cls := "ClosureFrames", name := "cls", desc := "(IZ)I" } : Jvm.MethodName) ({ cls := "ClosureFrames", name := "cls", desc := "(IZ)I" } : Jvm.MethodName)) ∈ z_tbl := z_in (List.mem_append_right _ (List.mem_of_getElem? (i := 194) (by decide +kernel))) (by decide +kernel)
theorem kw_195 : (Jvm.Cond.code ({ cls := "ClosureFrames", name := "cls", desc := "(IZ)I" } : Jvm.MethodName) prog_1_method_2_code (3 : Nat) (Option.some Jvm.ClassFile.FieldType.int)) ∈ z_tbl := z_in (List.mem_append_right _ (List.mem_of_getElem? (i := 195) (by decide +kernel))) (by decide +kernel)
theorem kw_196 : (Jvm.Cond.methodLink "ClosureFrames" (48 : Nat) ({ cls := "ClosureFrames$ClassTree", name := "has", desc := "(I)Z" } : Jvm.MethodName)) ∈ z_tbl := z_in (List.mem_append_right _ (List.mem_of_getElem? (i := 196) (by decide +kernel))) (by decide +kernel)
theorem kw_197 : (Jvm.Cond.instanceMethod ({ cls := "ClosureFrames$ClassTree", name := "has", desc := "(I)Z" } : Jvm.MethodName)) ∈ z_tbl := z_in (List.mem_append_right _ (List.mem_of_getElem? (i := 197) (by decide +kernel))) (by decide +kernel)
theorem kw_198 : (Jvm.Cond.selects "ClosureFrames$ClassTree" ({ cls := "ClosureFrames$ClassTree", name := "has", desc := "(I)Z" } : Jvm.MethodName) ({ cls := "ClosureFrames$ClassTree", name := "has", desc := "(I)Z" } : Jvm.MethodName)) ∈ z_tbl := z_in (List.mem_append_right _ (List.mem_of_getElem? (i := 198) (by decide +kernel))) (by decide +kernel)
theorem kw_199 : (Jvm.Cond.code ({ cls := "ClosureFrames$ClassTree", name := "has", desc := "(I)Z" } : Jvm.MethodName) prog_3_method_2_code (2 : Nat) (Option.some Jvm.ClassFile.FieldType.boolean)) ∈ z_tbl := z_in (List.mem_append_right _ (List.mem_of_getElem? (i := 199) (by decide +kernel))) (by decide +kernel)
theorem kw_200 : (Jvm.Cond.methodLink "ClosureFrames" (52 : Nat) ({ cls := "ClosureFrames$ClassTree", name := "isFace", desc := "(I)Z" } : Jvm.MethodName)) ∈ z_tbl := z_in (List.mem_append_right _ (List.mem_of_getElem? (i := 200) (by decide +kernel))) (by decide +kernel)
theorem kw_201 : (Jvm.Cond.instanceMethod ({ cls := "ClosureFrames$ClassTree", name := "isFace", desc := "(I)Z" } : Jvm.MethodName)) ∈ z_tbl := z_in (List.mem_append_right _ (List.mem_of_getElem? (i := 201) (by decide +kernel))) (by decide +kernel)
theorem kw_202 : (Jvm.Cond.selects "ClosureFrames$ClassTree" ({ cls := "ClosureFrames$ClassTree", name := "isFace", desc := "(I)Z" } : Jvm.MethodName) ({ cls := "ClosureFrames$ClassTree", name := "isFace", desc := "(I)Z" } : Jvm.MethodName)) ∈ z_tbl := z_in (List.mem_append_right _ (List.mem_of_getElem? (i := 202) (by decide +kernel))) (by decide +kernel)
theorem kw_203 : (Jvm.Cond.code ({ cls := "ClosureFrames$ClassTree", name := "isFace", desc := "(I)Z" } : Jvm.MethodName) prog_3_method_3_code (2 : Nat) (Option.some Jvm.ClassFile.FieldType.boolean)) ∈ z_tbl := z_in (List.mem_append_right _ (List.mem_of_getElem? (i := 203) (by decide +kernel))) (by decide +kernel)
theorem kw_204 : (Jvm.Cond.methodLink "ClosureFrames$ClassTree" (23 : Nat) ({ cls := "ClosureFrames$ClassTree", name := "has", desc := "(I)Z" } : Jvm.MethodName)) ∈ z_tbl := z_in (List.mem_append_right _ (List.mem_of_getElem? (i := 204) (by decide +kernel))) (by decide +kernel)
theorem kw_205 : (Jvm.Cond.methodLink "ClosureFrames" (55 : Nat) ({ cls := "ClosureFrames$ClassTree", name := "add", desc := "(IZ)I" } : Jvm.MethodName)) ∈ z_tbl := z_in (List.mem_append_right _ (List.mem_of_getElem? (i := 205) (by decide +kernel))) (by decide +kernel)
theorem kw_206 : (Jvm.Cond.instanceMethod ({ cls := "ClosureFrames$ClassTree", name := "add", desc := "(IZ)I" } : Jvm.MethodName)) ∈ z_tbl := z_in (List.mem_append_right _ (List.mem_of_getElem? (i := 206) (by decide +kernel))) (by decide +kernel)
theorem kw_207 : (Jvm.Cond.selects "ClosureFrames$ClassTree" ({ cls := "ClosureFrames$ClassTree", name := "add", desc := "(IZ)I" } : Jvm.MethodName) ({ cls := "ClosureFrames$ClassTree", name := "add", desc := "(IZ)I" } : Jvm.MethodName)) ∈ z_tbl := z_in (List.mem_append_right _ (List.mem_of_getElem? (i := 207) (by decide +kernel))) (by decide +kernel)
theorem kw_208 : (Jvm.Cond.code ({ cls := "ClosureFrames$ClassTree", name := "add", desc := "(IZ)I" } : Jvm.MethodName) prog_3_method_4_code (3 : Nat) (Option.some Jvm.ClassFile.FieldType.int)) ∈ z_tbl := z_in (List.mem_append_right _ (List.mem_of_getElem? (i := 208) (by decide +kernel))) (by decide +kernel)
theorem kw_209 : (Jvm.Cond.methodLink "ClosureFramesLaw" (18 : Nat) ({ cls := "ClosureFrames", name := "joined", desc := "(II)I" } : Jvm.MethodName)) ∈ z_tbl := z_in (List.mem_append_right _ (List.mem_of_getElem? (i := 209) (by decide +kernel))) (by decide +kernel)
theorem kw_210 : (Jvm.Cond.instanceMethod ({ cls := "ClosureFrames", name := "joined", desc := "(II)I" } : Jvm.MethodName)) ∈ z_tbl := z_in (List.mem_append_right _ (List.mem_of_getElem? (i := 210) (by decide +kernel))) (by decide +kernel)
theorem kw_211 : (Jvm.Cond.selects "ClosureFrames" ({ cls := "ClosureFrames", name := "joined", desc := "(II)I" } : Jvm.MethodName) ({ cls := "ClosureFrames", name := "joined", desc := "(II)I" } : Jvm.MethodName)) ∈ z_tbl := z_in (List.mem_append_right _ (List.mem_of_getElem? (i := 211) (by decide +kernel))) (by decide +kernel)
theorem kw_212 : (Jvm.Cond.code ({ cls := "ClosureFrames", name := "joined", desc := "(II)I" } : Jvm.MethodName) prog_1_method_3_code (3 : Nat) (Option.some Jvm.ClassFile.FieldType.int)) ∈ z_tbl := z_in (List.mem_append_right _ (List.mem_of_getElem? (i := 212) (by decide +kernel))) (by decide +kernel)
theorem kw_213 : (Jvm.Cond.methodLink "ClosureFrames" (59 : Nat) ({ cls := "ClosureFrames$ClassTree", name := "nearest", desc := "(II)I" } : Jvm.MethodName)) ∈ z_tbl := z_in (List.mem_append_right _ (List.mem_of_getElem? (i := 213) (by decide +kernel))) (by decide +kernel)
theorem kw_214 : (Jvm.Cond.instanceMethod ({ cls := "ClosureFrames$ClassTree", name := "nearest", desc := "(II)I" } : Jvm.MethodName)) ∈ z_tbl := z_in (List.mem_append_right _ (List.mem_of_getElem? (i := 214) (by decide +kernel))) (by decide +kernel)
theorem kw_215 : (Jvm.Cond.selects "ClosureFrames$ClassTree" ({ cls := "ClosureFrames$ClassTree", name := "nearest", desc := "(II)I" } : Jvm.MethodName) ({ cls := "ClosureFrames$ClassTree", name := "nearest", desc := "(II)I" } : Jvm.MethodName)) ∈ z_tbl := z_in (List.mem_append_right _ (List.mem_of_getElem? (i := 215) (by decide +kernel))) (by decide +kernel)
theorem kw_216 : (Jvm.Cond.code ({ cls := "ClosureFrames$ClassTree", name := "nearest", desc := "(II)I" } : Jvm.MethodName) prog_3_method_5_code (5 : Nat) (Option.some Jvm.ClassFile.FieldType.int)) ∈ z_tbl := z_in (List.mem_append_right _ (List.mem_of_getElem? (i := 216) (by decide +kernel))) (by decide +kernel)
theorem kw_217 : (Jvm.Cond.methodLink "ClosureFramesLaw" (23 : Nat) ({ cls := "ClosureFrames", name := "is", desc := "(II)I" } : Jvm.MethodName)) ∈ z_tbl := z_in (List.mem_append_right _ (List.mem_of_getElem? (i := 217) (by decide +kernel))) (by decide +kernel)
theorem kw_218 : (Jvm.Cond.instanceMethod ({ cls := "ClosureFrames", name := "is", desc := "(II)I" } : Jvm.MethodName)) ∈ z_tbl := z_in (List.mem_append_right _ (List.mem_of_getElem? (i := 218) (by decide +kernel))) (by decide +kernel)
theorem kw_219 : (Jvm.Cond.selects "ClosureFrames" ({ cls := "ClosureFrames", name := "is", desc := "(II)I" } : Jvm.MethodName) ({ cls := "ClosureFrames", name := "is", desc := "(II)I" } : Jvm.MethodName)) ∈ z_tbl := z_in (List.mem_append_right _ (List.mem_of_getElem? (i := 219) (by decide +kernel))) (by decide +kernel)
theorem kw_220 : (Jvm.Cond.code ({ cls := "ClosureFrames", name := "is", desc := "(II)I" } : Jvm.MethodName) prog_1_method_4_code (3 : Nat) (Option.some Jvm.ClassFile.FieldType.int)) ∈ z_tbl := z_in (List.mem_append_right _ (List.mem_of_getElem? (i := 220) (by decide +kernel))) (by decide +kernel)
theorem kw_221 : (Jvm.Cond.methodLink "ClosureFrames" (63 : Nat) ({ cls := "ClosureFrames$ClassTree", name := "isKindOf", desc := "(II)Z" } : Jvm.MethodName)) ∈ z_tbl := z_in (List.mem_append_right _ (List.mem_of_getElem? (i := 221) (by decide +kernel))) (by decide +kernel)
theorem kw_222 : (Jvm.Cond.instanceMethod ({ cls := "ClosureFrames$ClassTree", name := "isKindOf", desc := "(II)Z" } : Jvm.MethodName)) ∈ z_tbl := z_in (List.mem_append_right _ (List.mem_of_getElem? (i := 222) (by decide +kernel))) (by decide +kernel)
theorem kw_223 : (Jvm.Cond.selects "ClosureFrames$ClassTree" ({ cls := "ClosureFrames$ClassTree", name := "isKindOf", desc := "(II)Z" } : Jvm.MethodName) ({ cls := "ClosureFrames$ClassTree", name := "isKindOf", desc := "(II)Z" } : Jvm.MethodName)) ∈ z_tbl := z_in (List.mem_append_right _ (List.mem_of_getElem? (i := 223) (by decide +kernel))) (by decide +kernel)
theorem kw_224 : (Jvm.Cond.code ({ cls := "ClosureFrames$ClassTree", name := "isKindOf", desc := "(II)Z" } : Jvm.MethodName) prog_3_method_6_code (3 : Nat) (Option.some Jvm.ClassFile.FieldType.boolean)) ∈ z_tbl := z_in (List.mem_append_right _ (List.mem_of_getElem? (i := 224) (by decide +kernel))) (by decide +kernel)
theorem kw_225 : (Jvm.Cond.methodLink "ClosureFramesLaw" (27 : Nat) ({ cls := "ClosureFrames", name := "clear", desc := "(II)I" } : Jvm.MethodName)) ∈ z_tbl := z_in (List.mem_append_right _ (List.mem_of_getElem? (i := 225) (by decide +kernel))) (by decide +kernel)
theorem kw_226 : (Jvm.Cond.instanceMethod ({ cls := "ClosureFrames", name := "clear", desc := "(II)I" } : Jvm.MethodName)) ∈ z_tbl := z_in (List.mem_append_right _ (List.mem_of_getElem? (i := 226) (by decide +kernel))) (by decide +kernel)
theorem kw_227 : (Jvm.Cond.selects "ClosureFrames" ({ cls := "ClosureFrames", name := "clear", desc := "(II)I" } : Jvm.MethodName) ({ cls := "ClosureFrames", name := "clear", desc := "(II)I" } : Jvm.MethodName)) ∈ z_tbl := z_in (List.mem_append_right _ (List.mem_of_getElem? (i := 227) (by decide +kernel))) (by decide +kernel)
theorem kw_228 : (Jvm.Cond.code ({ cls := "ClosureFrames", name := "clear", desc := "(II)I" } : Jvm.MethodName) prog_1_method_5_code (5 : Nat) (Option.some Jvm.ClassFile.FieldType.int)) ∈ z_tbl := z_in (List.mem_append_right _ (List.mem_of_getElem? (i := 228) (by decide +kernel))) (by decide +kernel)
theorem kw_229 : (Jvm.Cond.methodLink "ClosureFrames" (67 : Nat) ({ cls := "ClosureFrames", name := "methodAt", desc := "(I)LClosureFrames$Method;" } : Jvm.MethodName)) ∈ z_tbl := z_in (List.mem_append_right _ (List.mem_of_getElem? (i := 229) (by decide +kernel))) (by decide +kernel)
theorem kw_231 : (Jvm.Cond.instanceMethod ({ cls := "ClosureFrames", name := "methodAt", desc := "(I)LClosureFrames$Method;" } : Jvm.MethodName)) ∈ z_tbl := z_in (List.mem_append_right _ (List.mem_of_getElem? (i := 231) (by decide +kernel))) (by decide +kernel)
theorem kw_232 : (Jvm.Cond.code ({ cls := "ClosureFrames", name := "methodAt", desc := "(I)LClosureFrames$Method;" } : Jvm.MethodName) prog_1_method_24_code (2 : Nat) (Option.some (Jvm.ClassFile.FieldType.object "ClosureFrames$Method"))) ∈ z_tbl := z_in (List.mem_append_right _ (List.mem_of_getElem? (i := 232) (by decide +kernel))) (by decide +kernel)
theorem kw_233 : (Jvm.Cond.methodLink "ClosureFrames" (74 : Nat) ({ cls := "ClosureFrames$Method", name := "empty", desc := "(I)V" } : Jvm.MethodName)) ∈ z_tbl := z_in (List.mem_append_right _ (List.mem_of_getElem? (i := 233) (by decide +kernel))) (by decide +kernel)
theorem kw_234 : (Jvm.Cond.instanceMethod ({ cls := "ClosureFrames$Method", name := "empty", desc := "(I)V" } : Jvm.MethodName)) ∈ z_tbl := z_in (List.mem_append_right _ (List.mem_of_getElem? (i := 234) (by decide +kernel))) (by decide +kernel)
theorem kw_235 : (Jvm.Cond.selects "ClosureFrames$Method" ({ cls := "ClosureFrames$Method", name := "empty", desc := "(I)V" } : Jvm.MethodName) ({ cls := "ClosureFrames$Method", name := "empty", desc := "(I)V" } : Jvm.MethodName)) ∈ z_tbl := z_in (List.mem_append_right _ (List.mem_of_getElem? (i := 235) (by decide +kernel))) (by decide +kernel)
theorem kw_236 : (Jvm.Cond.code ({ cls := "ClosureFrames$Method", name := "empty", desc := "(I)V" } : Jvm.MethodName) prog_7_method_2_code (2 : Nat) (Option.none : Option Jvm.ClassFile.FieldType)) ∈ z_tbl := z_in (List.mem_append_right _ (List.mem_of_getElem? (i := 236) (by decide +kernel))) (by decide +kernel)
theorem kw_237 : (Jvm.Cond.methodLink "ClosureFrames$Method" (53 : Nat) ({ cls := "ClosureFrames$Snapshot", name := "empty", desc := "()V" } : Jvm.MethodName)) ∈ z_tbl := z_in (List.mem_append_right _ (List.mem_of_getElem? (i := 237) (by decide +kernel))) (by decide +kernel)
theorem kw_238 : (Jvm.Cond.instanceMethod ({ cls := "ClosureFrames$Snapshot", name := "empty", desc := "()V" } : Jvm.MethodName)) ∈ z_tbl := z_in (List.mem_append_right _ (List.mem_of_getElem? (i := 238) (by decide +kernel))) (by decide +kernel)
theorem kw_239 : (Jvm.Cond.selects "ClosureFrames$Snapshot" ({ cls := "ClosureFrames$Snapshot", name := "empty", desc := "()V" } : Jvm.MethodName) ({ cls := "ClosureFrames$Snapshot", name := "empty", desc := "()V" } : Jvm.MethodName)) ∈ z_tbl := z_in (List.mem_append_right _ (List.mem_of_getElem? (i := 239) (by decide +kernel))) (by decide +kernel)
theorem kw_240 : (Jvm.Cond.code ({ cls := "ClosureFrames$Snapshot", name := "empty", desc := "()V" } : Jvm.MethodName) prog_8_method_2_code (2 : Nat) (Option.none : Option Jvm.ClassFile.FieldType)) ∈ z_tbl := z_in (List.mem_append_right _ (List.mem_of_getElem? (i := 240) (by decide +kernel))) (by decide +kernel)
theorem kw_241 : (Jvm.Cond.methodLink "ClosureFramesLaw" (31 : Nat) ({ cls := "ClosureFrames", name := "argument", desc := "(II)I" } : Jvm.MethodName)) ∈ z_tbl := z_in (List.mem_append_right _ (List.mem_of_getElem? (i := 241) (by decide +kernel))) (by decide +kernel)
theorem kw_242 : (Jvm.Cond.instanceMethod ({ cls := "ClosureFrames", name := "argument", desc := "(II)I" } : Jvm.MethodName)) ∈ z_tbl := z_in (List.mem_append_right _ (List.mem_of_getElem? (i := 242) (by decide +kernel))) (by decide +kernel)
theorem kw_243 : (Jvm.Cond.selects "ClosureFrames" ({ cls := "ClosureFrames", name := "argument", desc := "(II)I" } : Jvm.MethodName) ({ cls := "ClosureFrames", name := "argument", desc := "(II)I" } : Jvm.MethodName)) ∈ z_tbl := z_in (List.mem_append_right _ (List.mem_of_getElem? (i := 243) (by decide +kernel))) (by decide +kernel)
theorem kw_244 : (Jvm.Cond.code ({ cls := "ClosureFrames", name := "argument", desc := "(II)I" } : Jvm.MethodName) prog_1_method_6_code (4 : Nat) (Option.some Jvm.ClassFile.FieldType.int)) ∈ z_tbl := z_in (List.mem_append_right _ (List.mem_of_getElem? (i := 244) (by decide +kernel))) (by decide +kernel)
theorem kw_245 : (Jvm.Cond.methodLink "ClosureFrames" (78 : Nat) ({ cls := "ClosureFrames$ClassTree", name := "isKnownObject", desc := "(I)Z" } : Jvm.MethodName)) ∈ z_tbl := z_in (List.mem_append_right _ (List.mem_of_getElem? (i := 245) (by decide +kernel))) (by decide +kernel)
theorem kw_246 : (Jvm.Cond.instanceMethod ({ cls := "ClosureFrames$ClassTree", name := "isKnownObject", desc := "(I)Z" } : Jvm.MethodName)) ∈ z_tbl := z_in (List.mem_append_right _ (List.mem_of_getElem? (i := 246) (by decide +kernel))) (by decide +kernel)
theorem kw_247 : (Jvm.Cond.selects "ClosureFrames$ClassTree" ({ cls := "ClosureFrames$ClassTree", name := "isKnownObject", desc := "(I)Z" } : Jvm.MethodName) ({ cls := "ClosureFrames$ClassTree", name := "isKnownObject", desc := "(I)Z" } : Jvm.MethodName)) ∈ z_tbl := z_in (List.mem_append_right _ (List.mem_of_getElem? (i := 247) (by decide +kernel))) (by decide +kernel)
theorem kw_248 : (Jvm.Cond.code ({ cls := "ClosureFrames$ClassTree", name := "isKnownObject", desc := "(I)Z" } : Jvm.MethodName) prog_3_method_7_code (2 : Nat) (Option.some Jvm.ClassFile.FieldType.boolean)) ∈ z_tbl := z_in (List.mem_append_right _ (List.mem_of_getElem? (i := 248) (by decide +kernel))) (by decide +kernel)
theorem kw_249 : (Jvm.Cond.methodLink "ClosureFrames" (81 : Nat) ({ cls := "ClosureFrames$Method", name := "addArgument", desc := "(I)I" } : Jvm.MethodName)) ∈ z_tbl := z_in (List.mem_append_right _ (List.mem_of_getElem? (i := 249) (by decide +kernel))) (by decide +kernel)
theorem kw_250 : (Jvm.Cond.instanceMethod ({ cls := "ClosureFrames$Method", name := "addArgument", desc := "(I)I" } : Jvm.MethodName)) ∈ z_tbl := z_in (List.mem_append_right _ (List.mem_of_getElem? (i := 250) (by decide +kernel))) (by decide +kernel)
theorem kw_251 : (Jvm.Cond.selects "ClosureFrames$Method" ({ cls := "ClosureFrames$Method", name := "addArgument", desc := "(I)I" } : Jvm.MethodName) ({ cls := "ClosureFrames$Method", name := "addArgument", desc := "(I)I" } : Jvm.MethodName)) ∈ z_tbl := z_in (List.mem_append_right _ (List.mem_of_getElem? (i := 251) (by decide +kernel))) (by decide +kernel)
theorem kw_252 : (Jvm.Cond.code ({ cls := "ClosureFrames$Method", name := "addArgument", desc := "(I)I" } : Jvm.MethodName) prog_7_method_3_code (4 : Nat) (Option.some Jvm.ClassFile.FieldType.int)) ∈ z_tbl := z_in (List.mem_append_right _ (List.mem_of_getElem? (i := 252) (by decide +kernel))) (by decide +kernel)
theorem kw_253 : (Jvm.Cond.methodLink "ClosureFrames$Method" (56 : Nat) ({ cls := "ClosureFrames$Snapshot", name := "store", desc := "(II)V" } : Jvm.MethodName)) ∈ z_tbl := z_in (List.mem_append_right _ (List.mem_of_getElem? (i := 253) (by decide +kernel))) (by decide +kernel)
theorem kw_254 : (Jvm.Cond.instanceMethod ({ cls := "ClosureFrames$Snapshot", name := "store", desc := "(II)V" } : Jvm.MethodName)) ∈ z_tbl := z_in (List.mem_append_right _ (List.mem_of_getElem? (i := 254) (by decide +kernel))) (by decide +kernel)
theorem kw_255 : (Jvm.Cond.selects "ClosureFrames$Snapshot" ({ cls := "ClosureFrames$Snapshot", name := "store", desc := "(II)V" } : Jvm.MethodName) ({ cls := "ClosureFrames$Snapshot", name := "store", desc := "(II)V" } : Jvm.MethodName)) ∈ z_tbl := z_in (List.mem_append_right _ (List.mem_of_getElem? (i := 255) (by decide +kernel))) (by decide +kernel)
theorem kw_256 : (Jvm.Cond.code ({ cls := "ClosureFrames$Snapshot", name := "store", desc := "(II)V" } : Jvm.MethodName) prog_8_method_12_code (3 : Nat) (Option.none : Option Jvm.ClassFile.FieldType)) ∈ z_tbl := z_in (List.mem_append_right _ (List.mem_of_getElem? (i := 256) (by decide +kernel))) (by decide +kernel)
theorem kw_257 : (Jvm.Cond.methodLink "ClosureFrames$Snapshot" (40 : Nat) ({ cls := "ClosureFrames$Snapshot", name := "breakWideAt", desc := "(I)V" } : Jvm.MethodName)) ∈ z_tbl := z_in (List.mem_append_right _ (List.mem_of_getElem? (i := 257) (by decide +kernel))) (by decide +kernel)
theorem kw_259 : (Jvm.Cond.instanceMethod ({ cls := "ClosureFrames$Snapshot", name := "breakWideAt", desc := "(I)V" } : Jvm.MethodName)) ∈ z_tbl := z_in (List.mem_append_right _ (List.mem_of_getElem? (i := 259) (by decide +kernel))) (by decide +kernel)
theorem kw_260 : (Jvm.Cond.code ({ cls := "ClosureFrames$Snapshot", name := "breakWideAt", desc := "(I)V" } : Jvm.MethodName) prog_8_method_13_code (2 : Nat) (Option.none : Option Jvm.ClassFile.FieldType)) ∈ z_tbl := z_in (List.mem_append_right _ (List.mem_of_getElem? (i := 260) (by decide +kernel))) (by decide +kernel)
theorem kw_261 : (Jvm.Cond.methodLink "ClosureFrames$Snapshot" (47 : Nat) ({ cls := "ClosureFrames$Snapshot", name := "inPlace", desc := "(I)I" } : Jvm.MethodName)) ∈ z_tbl := z_in (List.mem_append_right _ (List.mem_of_getElem? (i := 261) (by decide +kernel))) (by decide +kernel)
theorem kw_262 : (Jvm.Cond.instanceMethod ({ cls := "ClosureFrames$Snapshot", name := "inPlace", desc := "(I)I" } : Jvm.MethodName)) ∈ z_tbl := z_in (List.mem_append_right _ (List.mem_of_getElem? (i := 262) (by decide +kernel))) (by decide +kernel)
theorem kw_263 : (Jvm.Cond.selects "ClosureFrames$Snapshot" ({ cls := "ClosureFrames$Snapshot", name := "inPlace", desc := "(I)I" } : Jvm.MethodName) ({ cls := "ClosureFrames$Snapshot", name := "inPlace", desc := "(I)I" } : Jvm.MethodName)) ∈ z_tbl := z_in (List.mem_append_right _ (List.mem_of_getElem? (i := 263) (by decide +kernel))) (by decide +kernel)
theorem kw_264 : (Jvm.Cond.code ({ cls := "ClosureFrames$Snapshot", name := "inPlace", desc := "(I)I" } : Jvm.MethodName) prog_8_method_4_code (2 : Nat) (Option.some Jvm.ClassFile.FieldType.int)) ∈ z_tbl := z_in (List.mem_append_right _ (List.mem_of_getElem? (i := 264) (by decide +kernel))) (by decide +kernel)
theorem kw_265 : (Jvm.Cond.methodLink "ClosureFrames$Snapshot" (44 : Nat) ({ cls := "ClosureFrames$Snapshot", name := "setPlace", desc := "(II)V" } : Jvm.MethodName)) ∈ z_tbl := z_in (List.mem_append_right _ (List.mem_of_getElem? (i := 265) (by decide +kernel))) (by decide +kernel)
theorem kw_266 : (Jvm.Cond.instanceMethod ({ cls := "ClosureFrames$Snapshot", name := "setPlace", desc := "(II)V" } : Jvm.MethodName)) ∈ z_tbl := z_in (List.mem_append_right _ (List.mem_of_getElem? (i := 266) (by decide +kernel))) (by decide +kernel)
theorem kw_267 : (Jvm.Cond.selects "ClosureFrames$Snapshot" ({ cls := "ClosureFrames$Snapshot", name := "setPlace", desc := "(II)V" } : Jvm.MethodName) ({ cls := "ClosureFrames$Snapshot", name := "setPlace", desc := "(II)V" } : Jvm.MethodName)) ∈ z_tbl := z_in (List.mem_append_right _ (List.mem_of_getElem? (i := 267) (by decide +kernel))) (by decide +kernel)
theorem kw_268 : (Jvm.Cond.code ({ cls := "ClosureFrames$Snapshot", name := "setPlace", desc := "(II)V" } : Jvm.MethodName) prog_8_method_5_code (3 : Nat) (Option.none : Option Jvm.ClassFile.FieldType)) ∈ z_tbl := z_in (List.mem_append_right _ (List.mem_of_getElem? (i := 268) (by decide +kernel))) (by decide +kernel)
theorem kw_269 : (Jvm.Cond.methodLink "ClosureFramesLaw" (35 : Nat) ({ cls := "ClosureFrames", name := "act", desc := "(IIII)I" } : Jvm.MethodName)) ∈ z_tbl := z_in (List.mem_append_right _ (List.mem_of_getElem? (i := 269) (by decide +kernel))) (by decide +kernel)
theorem kw_270 : (Jvm.Cond.instanceMethod ({ cls := "ClosureFrames", name := "act", desc := "(IIII)I" } : Jvm.MethodName)) ∈ z_tbl := z_in (List.mem_append_right _ (List.mem_of_getElem? (i := 270) (by decide +kernel))) (by decide +kernel)
theorem kw_271 : (Jvm.Cond.selects "ClosureFrames" ({ cls := "ClosureFrames", name := "act", desc := "(IIII)I" } : Jvm.MethodName) ({ cls := "ClosureFrames", name := "act", desc := "(IIII)I" } : Jvm.MethodName)) ∈ z_tbl := z_in (List.mem_append_right _ (List.mem_of_getElem? (i := 271) (by decide +kernel))) (by decide +kernel)
theorem kw_272 : (Jvm.Cond.code ({ cls := "ClosureFrames", name := "act", desc := "(IIII)I" } : Jvm.MethodName) prog_1_method_7_code (6 : Nat) (Option.some Jvm.ClassFile.FieldType.int)) ∈ z_tbl := z_in (List.mem_append_right _ (List.mem_of_getElem? (i := 272) (by decide +kernel))) (by decide +kernel)
theorem kw_273 : (Jvm.Cond.methodLink "ClosureFrames" (85 : Nat) ({ cls := "ClosureFrames", name := "isAct", desc := "(III)Z" } : Jvm.MethodName)) ∈ z_tbl := z_in (List.mem_append_right _ (List.mem_of_getElem? (i := 273) (by decide +kernel))) (by decide +kernel)
theorem kw_275 : (Jvm.Cond.instanceMethod ({ cls := "ClosureFrames", name := "isAct", desc := "(III)Z" } : Jvm.MethodName)) ∈ z_tbl := z_in (List.mem_append_right _ (List.mem_of_getElem? (i := 275) (by decide +kernel))) (by decide +kernel)
theorem kw_276 : (Jvm.Cond.code ({ cls := "ClosureFrames", name := "isAct", desc := "(III)Z" } : Jvm.MethodName) prog_1_method_28_code (4 : Nat) (Option.some Jvm.ClassFile.FieldType.boolean)) ∈ z_tbl := z_in (List.mem_append_right _ (List.mem_of_getElem? (i := 276) (by decide +kernel))) (by decide +kernel)
theorem kw_277 : (Jvm.Cond.methodLink "ClosureFrames" (115 : Nat) ({ cls := "ClosureFrames", name := "isPlace", desc := "(I)Z" } : Jvm.MethodName)) ∈ z_tbl := z_in (List.mem_append_right _ (List.mem_of_getElem? (i := 277) (by decide +kernel))) (by decide +kernel)
theorem kw_278 : (Jvm.Cond.static ({ cls := "ClosureFrames", name := "isPlace", desc := "(I)Z" } : Jvm.MethodName)) ∈ z_tbl := z_in (List.mem_append_right _ (List.mem_of_getElem? (i := 278) (by decide +kernel))) (by decide +kernel)
theorem kw_279 : (Jvm.Cond.code ({ cls := "ClosureFrames", name := "isPlace", desc := "(I)Z" } : Jvm.MethodName) prog_1_method_25_code (1 : Nat) (Option.some Jvm.ClassFile.FieldType.boolean)) ∈ z_tbl := z_in (List.mem_append_right _ (List.mem_of_getElem? (i := 279) (by decide +kernel))) (by decide +kernel)
theorem kw_280 : (Jvm.Cond.methodLink "ClosureFrames" (93 : Nat) ({ cls := "ClosureFrames", name := "isActNumber", desc := "(I)Z" } : Jvm.MethodName)) ∈ z_tbl := z_in (List.mem_append_right _ (List.mem_of_getElem? (i := 280) (by decide +kernel))) (by decide +kernel)
theorem kw_281 : (Jvm.Cond.static ({ cls := "ClosureFrames", name := "isActNumber", desc := "(I)Z" } : Jvm.MethodName)) ∈ z_tbl := z_in (List.mem_append_right _ (List.mem_of_getElem? (i := 281) (by decide +kernel))) (by decide +kernel)
theorem kw_282 : (Jvm.Cond.code ({ cls := "ClosureFrames", name := "isActNumber", desc := "(I)Z" } : Jvm.MethodName) prog_1_method_27_code (1 : Nat) (Option.some Jvm.ClassFile.FieldType.boolean)) ∈ z_tbl := z_in (List.mem_append_right _ (List.mem_of_getElem? (i := 282) (by decide +kernel))) (by decide +kernel)
theorem kw_283 : (Jvm.Cond.methodLink "ClosureFrames" (89 : Nat) ({ cls := "ClosureFrames$Method", name := "addAct", desc := "(III)I" } : Jvm.MethodName)) ∈ z_tbl := z_in (List.mem_append_right _ (List.mem_of_getElem? (i := 283) (by decide +kernel))) (by decide +kernel)
theorem kw_284 : (Jvm.Cond.instanceMethod ({ cls := "ClosureFrames$Method", name := "addAct", desc := "(III)I" } : Jvm.MethodName)) ∈ z_tbl := z_in (List.mem_append_right _ (List.mem_of_getElem? (i := 284) (by decide +kernel))) (by decide +kernel)
theorem kw_285 : (Jvm.Cond.selects "ClosureFrames$Method" ({ cls := "ClosureFrames$Method", name := "addAct", desc := "(III)I" } : Jvm.MethodName) ({ cls := "ClosureFrames$Method", name := "addAct", desc := "(III)I" } : Jvm.MethodName)) ∈ z_tbl := z_in (List.mem_append_right _ (List.mem_of_getElem? (i := 285) (by decide +kernel))) (by decide +kernel)
theorem kw_286 : (Jvm.Cond.code ({ cls := "ClosureFrames$Method", name := "addAct", desc := "(III)I" } : Jvm.MethodName) prog_7_method_4_code (5 : Nat) (Option.some Jvm.ClassFile.FieldType.int)) ∈ z_tbl := z_in (List.mem_append_right _ (List.mem_of_getElem? (i := 286) (by decide +kernel))) (by decide +kernel)
theorem kw_287 : (Jvm.Cond.instantiable "ClosureFrames$Act" (8 : Nat)) ∈ z_tbl := z_in (List.mem_append_right _ (List.mem_of_getElem? (i := 287) (by decide +kernel))) (by decide +kernel)
theorem kw_289 : (Jvm.Cond.instanceMethod ({ cls := "ClosureFrames$Act", name := "<init>", desc := "()V" } : Jvm.MethodName)) ∈ z_tbl := z_in (List.mem_append_right _ (List.mem_of_getElem? (i := 289) (by decide +kernel))) (by decide +kernel)
theorem kw_290 : (Jvm.Cond.code ({ cls := "ClosureFrames$Act", name := "<init>", desc := "()V" } : Jvm.MethodName) prog_2_method_1_code (1 : Nat) (Option.none : Option Jvm.ClassFile.FieldType)) ∈ z_tbl := z_in (List.mem_append_right _ (List.mem_of_getElem? (i := 290) (by decide +kernel))) (by decide +kernel)
theorem kw_291 : (Jvm.Cond.methodLink "ClosureFrames$Act" (3 : Nat) ({ cls := "java/lang/Object", name := "<init>", desc := "()V" } : Jvm.MethodName)) ∈ z_tbl := z_in (List.mem_append_right _ (List.mem_of_getElem? (i := 291) (by decide +kernel))) (by decide +kernel)
theorem kw_292 : (Jvm.Cond.classLink "ClosureFrames$Act" (9 : Nat) "ClosureFrames$Snapshot") ∈ z_tbl := z_in (List.mem_append_right _ (List.mem_of_getElem? (i := 292) (by decide +kernel))) (by decide +kernel)
theorem kw_294 : (Jvm.Cond.fieldLink "ClosureFrames$Worker" (15 : Nat) "ClosureFrames$Act" "kind" "I") ∈ z_tbl := z_in (List.mem_append_right _ (List.mem_of_getElem? (i := 294) (by decide +kernel))) (by decide +kernel)
theorem kw_295 : (Jvm.Cond.fieldLink "ClosureFrames$Act" (21 : Nat) "ClosureFrames$Act" "kind" "I") ∈ z_tbl := z_in (List.mem_append_right _ (List.mem_of_getElem? (i := 295) (by decide +kernel))) (by decide +kernel)
theorem kw_296 : (Jvm.Cond.fieldLink "ClosureFrames$Method" (86 : Nat) "ClosureFrames$Act" "kind" "I") ∈ z_tbl := z_in (List.mem_append_right _ (List.mem_of_getElem? (i := 296) (by decide +kernel))) (by decide +kernel)
theorem kw_297 : (Jvm.Cond.fieldLink "ClosureFrames$Act" (25 : Nat) "ClosureFrames$Act" "a" "I") ∈ z_tbl := z_in (List.mem_append_right _ (List.mem_of_getElem? (i := 297) (by decide +kernel))) (by decide +kernel)
theorem kw_298 : (Jvm.Cond.fieldLink "ClosureFrames$Worker" (27 : Nat) "ClosureFrames$Act" "a" "I") ∈ z_tbl := z_in (List.mem_append_right _ (List.mem_of_getElem? (i := 298) (by decide +kernel))) (by decide +kernel)
theorem kw_299 : (Jvm.Cond.fieldLink "ClosureFrames$Method" (89 : Nat) "ClosureFrames$Act" "a" "I") ∈ z_tbl := z_in (List.mem_append_right _ (List.mem_of_getElem? (i := 299) (by decide +kernel))) (by decide +kernel)
theorem kw_300 : (Jvm.Cond.fieldLink "ClosureFrames$Act" (28 : Nat) "ClosureFrames$Act" "b" "I") ∈ z_tbl := z_in (List.mem_append_right _ (List.mem_of_getElem? (i := 300) (by decide +kernel))) (by decide +kernel)
theorem kw_301 : (Jvm.Cond.fieldLink "ClosureFrames$Act" (31 : Nat) "ClosureFrames$Act" "reached" "Z") ∈ z_tbl := z_in (List.mem_append_right _ (List.mem_of_getElem? (i := 301) (by decide +kernel))) (by decide +kernel)
theorem kw_302 : (Jvm.Cond.fieldLink "ClosureFrames$Computing" (129 : Nat) "ClosureFrames$Act" "reached" "Z") ∈ z_tbl := z_in (List.mem_append_right _ (List.mem_of_getElem? (i := 302) (by decide +kernel))) (by decide +kernel)
theorem kw_303 : (Jvm.Cond.fieldLink "ClosureFrames" (125 : Nat) "ClosureFrames$Act" "reached" "Z") ∈ z_tbl := z_in (List.mem_append_right _ (List.mem_of_getElem? (i := 303) (by decide +kernel))) (by decide +kernel)
theorem kw_304 : (Jvm.Cond.fieldLink "ClosureFrames$Method" (116 : Nat) "ClosureFrames$Act" "reached" "Z") ∈ z_tbl := z_in (List.mem_append_right _ (List.mem_of_getElem? (i := 304) (by decide +kernel))) (by decide +kernel)
theorem kw_305 : (Jvm.Cond.fieldLink "ClosureFrames$Act" (35 : Nat) "ClosureFrames$Act" "due" "Z") ∈ z_tbl := z_in (List.mem_append_right _ (List.mem_of_getElem? (i := 305) (by decide +kernel))) (by decide +kernel)
theorem kw_306 : (Jvm.Cond.fieldLink "ClosureFrames$Computing" (65 : Nat) "ClosureFrames$Act" "due" "Z") ∈ z_tbl := z_in (List.mem_append_right _ (List.mem_of_getElem? (i := 306) (by decide +kernel))) (by decide +kernel)
theorem kw_307 : (Jvm.Cond.fieldLink "ClosureFrames$Method" (95 : Nat) "ClosureFrames$Act" "due" "Z") ∈ z_tbl := z_in (List.mem_append_right _ (List.mem_of_getElem? (i := 307) (by decide +kernel))) (by decide +kernel)
theorem kw_308 : (Jvm.Cond.fieldLink "ClosureFrames$Act" (38 : Nat) "ClosureFrames$Act" "framed" "Z") ∈ z_tbl := z_in (List.mem_append_right _ (List.mem_of_getElem? (i := 308) (by decide +kernel))) (by decide +kernel)
theorem kw_309 : (Jvm.Cond.fieldLink "ClosureFrames$Looking" (80 : Nat) "ClosureFrames$Act" "framed" "Z") ∈ z_tbl := z_in (List.mem_append_right _ (List.mem_of_getElem? (i := 309) (by decide +kernel))) (by decide +kernel)
theorem kw_310 : (Jvm.Cond.fieldLink "ClosureFrames$Method" (133 : Nat) "ClosureFrames$Act" "framed" "Z") ∈ z_tbl := z_in (List.mem_append_right _ (List.mem_of_getElem? (i := 310) (by decide +kernel))) (by decide +kernel)
theorem kw_311 : (Jvm.Cond.fieldLink "ClosureFrames$Act" (12 : Nat) "ClosureFrames$Act" "before" "LClosureFrames$Snapshot;") ∈ z_tbl := z_in (List.mem_append_right _ (List.mem_of_getElem? (i := 311) (by decide +kernel))) (by decide +kernel)
theorem kw_312 : (Jvm.Cond.fieldLink "ClosureFrames$Computing" (70 : Nat) "ClosureFrames$Act" "before" "LClosureFrames$Snapshot;") ∈ z_tbl := z_in (List.mem_append_right _ (List.mem_of_getElem? (i := 312) (by decide +kernel))) (by decide +kernel)
theorem kw_313 : (Jvm.Cond.fieldLink "ClosureFrames" (130 : Nat) "ClosureFrames$Act" "before" "LClosureFrames$Snapshot;") ∈ z_tbl := z_in (List.mem_append_right _ (List.mem_of_getElem? (i := 313) (by decide +kernel))) (by decide +kernel)
theorem kw_314 : (Jvm.Cond.fieldLink "ClosureFrames$Method" (139 : Nat) "ClosureFrames$Act" "before" "LClosureFrames$Snapshot;") ∈ z_tbl := z_in (List.mem_append_right _ (List.mem_of_getElem? (i := 314) (by decide +kernel))) (by decide +kernel)
theorem kw_315 : (Jvm.Cond.fieldLink "ClosureFrames$Act" (18 : Nat) "ClosureFrames$Act" "frame" "LClosureFrames$Snapshot;") ∈ z_tbl := z_in (List.mem_append_right _ (List.mem_of_getElem? (i := 315) (by decide +kernel))) (by decide +kernel)
theorem kw_316 : (Jvm.Cond.fieldLink "ClosureFrames$Looking" (83 : Nat) "ClosureFrames$Act" "frame" "LClosureFrames$Snapshot;") ∈ z_tbl := z_in (List.mem_append_right _ (List.mem_of_getElem? (i := 316) (by decide +kernel))) (by decide +kernel)
theorem kw_317 : (Jvm.Cond.fieldLink "ClosureFrames" (142 : Nat) "ClosureFrames$Act" "frame" "LClosureFrames$Snapshot;") ∈ z_tbl := z_in (List.mem_append_right _ (List.mem_of_getElem? (i := 317) (by decide +kernel))) (by decide +kernel)
theorem kw_318 : (Jvm.Cond.fieldLink "ClosureFrames$Method" (136 : Nat) "ClosureFrames$Act" "frame" "LClosureFrames$Snapshot;") ∈ z_tbl := z_in (List.mem_append_right _ (List.mem_of_getElem? (i := 318) (by decide +kernel))) (by decide +kernel)
theorem kw_336 : (Jvm.Cond.methodLink "ClosureFrames$Method" (61 : Nat) ({ cls := "ClosureFrames$Act", name := "tell", desc := "(III)V" } : Jvm.MethodName)) ∈ z_tbl := z_in (List.mem_append_right _ (List.mem_of_getElem? (i := 336) (by decide +kernel))) (by decide +kernel)
theorem kw_337 : (Jvm.Cond.instanceMethod ({ cls := "ClosureFrames$Act", name := "tell", desc := "(III)V" } : Jvm.MethodName)) ∈ z_tbl := z_in (List.mem_append_right _ (List.mem_of_getElem? (i := 337) (by decide +kernel))) (by decide +kernel)
theorem kw_338 : (Jvm.Cond.selects "ClosureFrames$Act" ({ cls := "ClosureFrames$Act", name := "tell", desc := "(III)V" } : Jvm.MethodName) ({ cls := "ClosureFrames$Act", name := "tell", desc := "(III)V" } : Jvm.MethodName)) ∈ z_tbl := z_in (List.mem_append_right _ (List.mem_of_getElem? (i := 338) (by decide +kernel))) (by decide +kernel)
theorem kw_339 : (Jvm.Cond.code ({ cls := "ClosureFrames$Act", name := "tell", desc := "(III)V" } : Jvm.MethodName) prog_2_method_2_code (4 : Nat) (Option.none : Option Jvm.ClassFile.FieldType)) ∈ z_tbl := z_in (List.mem_append_right _ (List.mem_of_getElem? (i := 339) (by decide +kernel))) (by decide +kernel)
theorem kw_340 : (Jvm.Cond.methodLink "ClosureFramesLaw" (40 : Nat) ({ cls := "ClosureFrames", name := "guard", desc := "(IIIII)I" } : Jvm.MethodName)) ∈ z_tbl := z_in (List.mem_append_right _ (List.mem_of_getElem? (i := 340) (by decide +kernel))) (by decide +kernel)
theorem kw_341 : (Jvm.Cond.instanceMethod ({ cls := "ClosureFrames", name := "guard", desc := "(IIIII)I" } : Jvm.MethodName)) ∈ z_tbl := z_in (List.mem_append_right _ (List.mem_of_getElem? (i := 341) (by decide +kernel))) (by decide +kernel)
theorem kw_342 : (Jvm.Cond.selects "ClosureFrames" ({ cls := "ClosureFrames", name := "guard", desc := "(IIIII)I" } : Jvm.MethodName) ({ cls := "ClosureFrames", name := "guard", desc := "(IIIII)I" } : Jvm.MethodName)) ∈ z_tbl := z_in (List.mem_append_right _ (List.mem_of_getElem? (i := 342) (by decide +kernel))) (by decide +kernel)
theorem kw_343 : (Jvm.Cond.code ({ cls := "ClosureFrames", name := "guard", desc := "(IIIII)I" } : Jvm.MethodName) prog_1_method_8_code (7 : Nat) (Option.some Jvm.ClassFile.FieldType.int)) ∈ z_tbl := z_in (List.mem_append_right _ (List.mem_of_getElem? (i := 343) (by decide +kernel))) (by decide +kernel)
theorem kw_344 : (Jvm.Cond.methodLink "ClosureFrames" (96 : Nat) ({ cls := "ClosureFrames$Method", name := "addGuard", desc := "(IIII)I" } : Jvm.MethodName)) ∈ z_tbl := z_in (List.mem_append_right _ (List.mem_of_getElem? (i := 344) (by decide +kernel))) (by decide +kernel)
theorem kw_345 : (Jvm.Cond.instanceMethod ({ cls := "ClosureFrames$Method", name := "addGuard", desc := "(IIII)I" } : Jvm.MethodName)) ∈ z_tbl := z_in (List.mem_append_right _ (List.mem_of_getElem? (i := 345) (by decide +kernel))) (by decide +kernel)
theorem kw_346 : (Jvm.Cond.selects "ClosureFrames$Method" ({ cls := "ClosureFrames$Method", name := "addGuard", desc := "(IIII)I" } : Jvm.MethodName) ({ cls := "ClosureFrames$Method", name := "addGuard", desc := "(IIII)I" } : Jvm.MethodName)) ∈ z_tbl := z_in (List.mem_append_right _ (List.mem_of_getElem? (i := 346) (by decide +kernel))) (by decide +kernel)
theorem kw_347 : (Jvm.Cond.code ({ cls := "ClosureFrames$Method", name := "addGuard", desc := "(IIII)I" } : Jvm.MethodName) prog_7_method_5_code (6 : Nat) (Option.some Jvm.ClassFile.FieldType.int)) ∈ z_tbl := z_in (List.mem_append_right _ (List.mem_of_getElem? (i := 347) (by decide +kernel))) (by decide +kernel)
theorem kw_348 : (Jvm.Cond.instantiable "ClosureFrames$Guard" (4 : Nat)) ∈ z_tbl := z_in (List.mem_append_right _ (List.mem_of_getElem? (i := 348) (by decide +kernel))) (by decide +kernel)
theorem kw_350 : (Jvm.Cond.instanceMethod ({ cls := "ClosureFrames$Guard", name := "<init>", desc := "()V" } : Jvm.MethodName)) ∈ z_tbl := z_in (List.mem_append_right _ (List.mem_of_getElem? (i := 350) (by decide +kernel))) (by decide +kernel)
theorem kw_351 : (Jvm.Cond.code ({ cls := "ClosureFrames$Guard", name := "<init>", desc := "()V" } : Jvm.MethodName) prog_5_method_1_code (1 : Nat) (Option.none : Option Jvm.ClassFile.FieldType)) ∈ z_tbl := z_in (List.mem_append_right _ (List.mem_of_getElem? (i := 351) (by decide +kernel))) (by decide +kernel)
theorem kw_352 : (Jvm.Cond.methodLink "ClosureFrames$Guard" (1 : Nat) ({ cls := "java/lang/Object", name := "<init>", desc := "()V" } : Jvm.MethodName)) ∈ z_tbl := z_in (List.mem_append_right _ (List.mem_of_getElem? (i := 352) (by decide +kernel))) (by decide +kernel)
theorem kw_353 : (Jvm.Cond.fieldLink "ClosureFrames$Guard" (7 : Nat) "ClosureFrames$Guard" "from" "I") ∈ z_tbl := z_in (List.mem_append_right _ (List.mem_of_getElem? (i := 353) (by decide +kernel))) (by decide +kernel)
theorem kw_354 : (Jvm.Cond.fieldLink "ClosureFrames$Method" (66 : Nat) "ClosureFrames$Guard" "from" "I") ∈ z_tbl := z_in (List.mem_append_right _ (List.mem_of_getElem? (i := 354) (by decide +kernel))) (by decide +kernel)
theorem kw_355 : (Jvm.Cond.fieldLink "ClosureFrames$Guard" (13 : Nat) "ClosureFrames$Guard" "to" "I") ∈ z_tbl := z_in (List.mem_append_right _ (List.mem_of_getElem? (i := 355) (by decide +kernel))) (by decide +kernel)
theorem kw_356 : (Jvm.Cond.fieldLink "ClosureFrames$Method" (69 : Nat) "ClosureFrames$Guard" "to" "I") ∈ z_tbl := z_in (List.mem_append_right _ (List.mem_of_getElem? (i := 356) (by decide +kernel))) (by decide +kernel)
theorem kw_357 : (Jvm.Cond.fieldLink "ClosureFrames$Computing" (113 : Nat) "ClosureFrames$Guard" "at" "I") ∈ z_tbl := z_in (List.mem_append_right _ (List.mem_of_getElem? (i := 357) (by decide +kernel))) (by decide +kernel)
theorem kw_358 : (Jvm.Cond.fieldLink "ClosureFrames$Looking" (108 : Nat) "ClosureFrames$Guard" "at" "I") ∈ z_tbl := z_in (List.mem_append_right _ (List.mem_of_getElem? (i := 358) (by decide +kernel))) (by decide +kernel)
theorem kw_359 : (Jvm.Cond.fieldLink "ClosureFrames$Method" (72 : Nat) "ClosureFrames$Guard" "at" "I") ∈ z_tbl := z_in (List.mem_append_right _ (List.mem_of_getElem? (i := 359) (by decide +kernel))) (by decide +kernel)
theorem kw_360 : (Jvm.Cond.fieldLink "ClosureFrames$Computing" (104 : Nat) "ClosureFrames$Guard" "cls" "I") ∈ z_tbl := z_in (List.mem_append_right _ (List.mem_of_getElem? (i := 360) (by decide +kernel))) (by decide +kernel)
theorem kw_361 : (Jvm.Cond.fieldLink "ClosureFrames$Looking" (99 : Nat) "ClosureFrames$Guard" "cls" "I") ∈ z_tbl := z_in (List.mem_append_right _ (List.mem_of_getElem? (i := 361) (by decide +kernel))) (by decide +kernel)
theorem kw_362 : (Jvm.Cond.fieldLink "ClosureFrames$Method" (75 : Nat) "ClosureFrames$Guard" "cls" "I") ∈ z_tbl := z_in (List.mem_append_right _ (List.mem_of_getElem? (i := 362) (by decide +kernel))) (by decide +kernel)
theorem kw_372 : (Jvm.Cond.methodLink "ClosureFramesLaw" (45 : Nat) ({ cls := "ClosureFrames", name := "compute", desc := "(I)I" } : Jvm.MethodName)) ∈ z_tbl := z_in (List.mem_append_right _ (List.mem_of_getElem? (i := 372) (by decide +kernel))) (by decide +kernel)
theorem kw_373 : (Jvm.Cond.instanceMethod ({ cls := "ClosureFrames", name := "compute", desc := "(I)I" } : Jvm.MethodName)) ∈ z_tbl := z_in (List.mem_append_right _ (List.mem_of_getElem? (i := 373) (by decide +kernel))) (by decide +kernel)
theorem kw_374 : (Jvm.Cond.selects "ClosureFrames" ({ cls := "ClosureFrames", name := "compute", desc := "(I)I" } : Jvm.MethodName) ({ cls := "ClosureFrames", name := "compute", desc := "(I)I" } : Jvm.MethodName)) ∈ z_tbl := z_in (List.mem_append_right _ (List.mem_of_getElem? (i := 374) (by decide +kernel))) (by decide +kernel)
theorem kw_375 : (Jvm.Cond.code ({ cls := "ClosureFrames", name := "compute", desc := "(I)I" } : Jvm.MethodName) prog_1_method_9_code (4 : Nat) (Option.some Jvm.ClassFile.FieldType.int)) ∈ z_tbl := z_in (List.mem_append_right _ (List.mem_of_getElem? (i := 375) (by decide +kernel))) (by decide +kernel)
theorem kw_376 : (Jvm.Cond.methodLink "ClosureFrames" (100 : Nat) ({ cls := "ClosureFrames$Computing", name := "run", desc := "(LClosureFrames$Method;)I" } : Jvm.MethodName)) ∈ z_tbl := z_in (List.mem_append_right _ (List.mem_of_getElem? (i := 376) (by decide +kernel))) (by decide +kernel)
theorem kw_377 : (Jvm.Cond.instanceMethod ({ cls := "ClosureFrames$Computing", name := "run", desc := "(LClosureFrames$Method;)I" } : Jvm.MethodName)) ∈ z_tbl := z_in (List.mem_append_right _ (List.mem_of_getElem? (i := 377) (by decide +kernel))) (by decide +kernel)
theorem kw_378 : (Jvm.Cond.selects "ClosureFrames$Computing" ({ cls := "ClosureFrames$Computing", name := "run", desc := "(LClosureFrames$Method;)I" } : Jvm.MethodName) ({ cls := "ClosureFrames$Computing", name := "run", desc := "(LClosureFrames$Method;)I" } : Jvm.MethodName)) ∈ z_tbl := z_in (List.mem_append_right _ (List.mem_of_getElem? (i := 378) (by decide +kernel))) (by decide +kernel)
theorem kw_379 : (Jvm.Cond.code ({ cls := "ClosureFrames$Computing", name := "run", desc := "(LClosureFrames$Method;)I" } : Jvm.MethodName) prog_4_method_2_code (4 : Nat) (Option.some Jvm.ClassFile.FieldType.int)) ∈ z_tbl := z_in (List.mem_append_right _ (List.mem_of_getElem? (i := 379) (by decide +kernel))) (by decide +kernel)
theorem kw_380 : (Jvm.Cond.methodLink "ClosureFrames$Computing" (33 : Nat) ({ cls := "ClosureFrames$Method", name := "forgetComputed", desc := "()V" } : Jvm.MethodName)) ∈ z_tbl := z_in (List.mem_append_right _ (List.mem_of_getElem? (i := 380) (by decide +kernel))) (by decide +kernel)
theorem kw_381 : (Jvm.Cond.instanceMethod ({ cls := "ClosureFrames$Method", name := "forgetComputed", desc := "()V" } : Jvm.MethodName)) ∈ z_tbl := z_in (List.mem_append_right _ (List.mem_of_getElem? (i := 381) (by decide +kernel))) (by decide +kernel)
theorem kw_382 : (Jvm.Cond.selects "ClosureFrames$Method" ({ cls := "ClosureFrames$Method", name := "forgetComputed", desc := "()V" } : Jvm.MethodName) ({ cls := "ClosureFrames$Method", name := "forgetComputed", desc := "()V" } : Jvm.MethodName)) ∈ z_tbl := z_in (List.mem_append_right _ (List.mem_of_getElem? (i := 382) (by decide +kernel))) (by decide +kernel)
theorem kw_383 : (Jvm.Cond.code ({ cls := "ClosureFrames$Method", name := "forgetComputed", desc := "()V" } : Jvm.MethodName) prog_7_method_10_code (3 : Nat) (Option.none : Option Jvm.ClassFile.FieldType)) ∈ z_tbl := z_in (List.mem_append_right _ (List.mem_of_getElem? (i := 383) (by decide +kernel))) (by decide +kernel)
theorem kw_384 : (Jvm.Cond.methodLink "ClosureFrames$Method" (82 : Nat) ({ cls := "ClosureFrames$Method", name := "actAt", desc := "(I)LClosureFrames$Act;" } : Jvm.MethodName)) ∈ z_tbl := z_in (List.mem_append_right _ (List.mem_of_getElem? (i := 384) (by decide +kernel))) (by decide +kernel)
theorem kw_385 : (Jvm.Cond.instanceMethod ({ cls := "ClosureFrames$Method", name := "actAt", desc := "(I)LClosureFrames$Act;" } : Jvm.MethodName)) ∈ z_tbl := z_in (List.mem_append_right _ (List.mem_of_getElem? (i := 385) (by decide +kernel))) (by decide +kernel)
theorem kw_386 : (Jvm.Cond.selects "ClosureFrames$Method" ({ cls := "ClosureFrames$Method", name := "actAt", desc := "(I)LClosureFrames$Act;" } : Jvm.MethodName) ({ cls := "ClosureFrames$Method", name := "actAt", desc := "(I)LClosureFrames$Act;" } : Jvm.MethodName)) ∈ z_tbl := z_in (List.mem_append_right _ (List.mem_of_getElem? (i := 386) (by decide +kernel))) (by decide +kernel)
theorem kw_387 : (Jvm.Cond.code ({ cls := "ClosureFrames$Method", name := "actAt", desc := "(I)LClosureFrames$Act;" } : Jvm.MethodName) prog_7_method_6_code (2 : Nat) (Option.some (Jvm.ClassFile.FieldType.object "ClosureFrames$Act"))) ∈ z_tbl := z_in (List.mem_append_right _ (List.mem_of_getElem? (i := 387) (by decide +kernel))) (by decide +kernel)
theorem kw_388 : (Jvm.Cond.methodLink "ClosureFrames$Method" (92 : Nat) ({ cls := "ClosureFrames$Act", name := "forget", desc := "()V" } : Jvm.MethodName)) ∈ z_tbl := z_in (List.mem_append_right _ (List.mem_of_getElem? (i := 388) (by decide +kernel))) (by decide +kernel)
theorem kw_389 : (Jvm.Cond.instanceMethod ({ cls := "ClosureFrames$Act", name := "forget", desc := "()V" } : Jvm.MethodName)) ∈ z_tbl := z_in (List.mem_append_right _ (List.mem_of_getElem? (i := 389) (by decide +kernel))) (by decide +kernel)
theorem kw_390 : (Jvm.Cond.selects "ClosureFrames$Act" ({ cls := "ClosureFrames$Act", name := "forget", desc := "()V" } : Jvm.MethodName) ({ cls := "ClosureFrames$Act", name := "forget", desc := "()V" } : Jvm.MethodName)) ∈ z_tbl := z_in (List.mem_append_right _ (List.mem_of_getElem? (i := 390) (by decide +kernel))) (by decide +kernel)
theorem kw_391 : (Jvm.Cond.code ({ cls := "ClosureFrames$Act", name := "forget", desc := "()V" } : Jvm.MethodName) prog_2_method_3_code (1 : Nat) (Option.none : Option Jvm.ClassFile.FieldType)) ∈ z_tbl := z_in (List.mem_append_right _ (List.mem_of_getElem? (i := 391) (by decide +kernel))) (by decide +kernel)
theorem kw_392 : (Jvm.Cond.methodLink "ClosureFrames$Computing" (41 : Nat) ({ cls := "ClosureFrames$Computing", name := "arrive", desc := "(LClosureFrames$Method;IILClosureFrames$Snapshot;)I" } : Jvm.MethodName)) ∈ z_tbl := z_in (List.mem_append_right _ (List.mem_of_getElem? (i := 392) (by decide +kernel))) (by decide +kernel)
theorem kw_394 : (Jvm.Cond.instanceMethod ({ cls := "ClosureFrames$Computing", name := "arrive", desc := "(LClosureFrames$Method;IILClosureFrames$Snapshot;)I" } : Jvm.MethodName)) ∈ z_tbl := z_in (List.mem_append_right _ (List.mem_of_getElem? (i := 394) (by decide +kernel))) (by decide +kernel)
theorem kw_395 : (Jvm.Cond.code ({ cls := "ClosureFrames$Computing", name := "arrive", desc := "(LClosureFrames$Method;IILClosureFrames$Snapshot;)I" } : Jvm.MethodName) prog_4_method_6_code (6 : Nat) (Option.some Jvm.ClassFile.FieldType.int)) ∈ z_tbl := z_in (List.mem_append_right _ (List.mem_of_getElem? (i := 395) (by decide +kernel))) (by decide +kernel)
theorem kw_396 : (Jvm.Cond.methodLink "ClosureFrames$Computing" (61 : Nat) ({ cls := "ClosureFrames$Method", name := "actAt", desc := "(I)LClosureFrames$Act;" } : Jvm.MethodName)) ∈ z_tbl := z_in (List.mem_append_right _ (List.mem_of_getElem? (i := 396) (by decide +kernel))) (by decide +kernel)
theorem kw_397 : (Jvm.Cond.methodLink "ClosureFrames$Computing" (126 : Nat) ({ cls := "ClosureFrames$Snapshot", name := "hasUnmade", desc := "()Z" } : Jvm.MethodName)) ∈ z_tbl := z_in (List.mem_append_right _ (List.mem_of_getElem? (i := 397) (by decide +kernel))) (by decide +kernel)
theorem kw_398 : (Jvm.Cond.instanceMethod ({ cls := "ClosureFrames$Snapshot", name := "hasUnmade", desc := "()Z" } : Jvm.MethodName)) ∈ z_tbl := z_in (List.mem_append_right _ (List.mem_of_getElem? (i := 398) (by decide +kernel))) (by decide +kernel)
theorem kw_399 : (Jvm.Cond.selects "ClosureFrames$Snapshot" ({ cls := "ClosureFrames$Snapshot", name := "hasUnmade", desc := "()Z" } : Jvm.MethodName) ({ cls := "ClosureFrames$Snapshot", name := "hasUnmade", desc := "()Z" } : Jvm.MethodName)) ∈ z_tbl := z_in (List.mem_append_right _ (List.mem_of_getElem? (i := 399) (by decide +kernel))) (by decide +kernel)
theorem kw_400 : (Jvm.Cond.code ({ cls := "ClosureFrames$Snapshot", name := "hasUnmade", desc := "()Z" } : Jvm.MethodName) prog_8_method_15_code (2 : Nat) (Option.some Jvm.ClassFile.FieldType.boolean)) ∈ z_tbl := z_in (List.mem_append_right _ (List.mem_of_getElem? (i := 400) (by decide +kernel))) (by decide +kernel)
theorem kw_401 : (Jvm.Cond.methodLink "ClosureFrames$Snapshot" (36 : Nat) ({ cls := "ClosureFrames$Snapshot", name := "onStack", desc := "(I)I" } : Jvm.MethodName)) ∈ z_tbl := z_in (List.mem_append_right _ (List.mem_of_getElem? (i := 401) (by decide +kernel))) (by decide +kernel)
theorem kw_402 : (Jvm.Cond.instanceMethod ({ cls := "ClosureFrames$Snapshot", name := "onStack", desc := "(I)I" } : Jvm.MethodName)) ∈ z_tbl := z_in (List.mem_append_right _ (List.mem_of_getElem? (i := 402) (by decide +kernel))) (by decide +kernel)
theorem kw_403 : (Jvm.Cond.selects "ClosureFrames$Snapshot" ({ cls := "ClosureFrames$Snapshot", name := "onStack", desc := "(I)I" } : Jvm.MethodName) ({ cls := "ClosureFrames$Snapshot", name := "onStack", desc := "(I)I" } : Jvm.MethodName)) ∈ z_tbl := z_in (List.mem_append_right _ (List.mem_of_getElem? (i := 403) (by decide +kernel))) (by decide +kernel)
theorem kw_404 : (Jvm.Cond.code ({ cls := "ClosureFrames$Snapshot", name := "onStack", desc := "(I)I" } : Jvm.MethodName) prog_8_method_6_code (2 : Nat) (Option.some Jvm.ClassFile.FieldType.int)) ∈ z_tbl := z_in (List.mem_append_right _ (List.mem_of_getElem? (i := 404) (by decide +kernel))) (by decide +kernel)
theorem kw_405 : (Jvm.Cond.methodLink "ClosureFrames$Computing" (73 : Nat) ({ cls := "ClosureFrames$Snapshot", name := "become", desc := "(LClosureFrames$Snapshot;)V" } : Jvm.MethodName)) ∈ z_tbl := z_in (List.mem_append_right _ (List.mem_of_getElem? (i := 405) (by decide +kernel))) (by decide +kernel)
theorem kw_406 : (Jvm.Cond.instanceMethod ({ cls := "ClosureFrames$Snapshot", name := "become", desc := "(LClosureFrames$Snapshot;)V" } : Jvm.MethodName)) ∈ z_tbl := z_in (List.mem_append_right _ (List.mem_of_getElem? (i := 406) (by decide +kernel))) (by decide +kernel)
theorem kw_407 : (Jvm.Cond.selects "ClosureFrames$Snapshot" ({ cls := "ClosureFrames$Snapshot", name := "become", desc := "(LClosureFrames$Snapshot;)V" } : Jvm.MethodName) ({ cls := "ClosureFrames$Snapshot", name := "become", desc := "(LClosureFrames$Snapshot;)V" } : Jvm.MethodName)) ∈ z_tbl := z_in (List.mem_append_right _ (List.mem_of_getElem? (i := 407) (by decide +kernel))) (by decide +kernel)
theorem kw_408 : (Jvm.Cond.code ({ cls := "ClosureFrames$Snapshot", name := "become", desc := "(LClosureFrames$Snapshot;)V" } : Jvm.MethodName) prog_8_method_3_code (2 : Nat) (Option.none : Option Jvm.ClassFile.FieldType)) ∈ z_tbl := z_in (List.mem_append_right _ (List.mem_of_getElem? (i := 408) (by decide +kernel))) (by decide +kernel)
theorem kw_409 : (Jvm.Cond.methodLink "ClosureFrames$Snapshot" (22 : Nat) ({ cls := "java/lang/System", name := "arraycopy", desc := "(Ljava/lang/Object;ILjava/lang/Object;II)V" } : Jvm.MethodName)) ∈ z_tbl := z_in (List.mem_append_right _ (List.mem_of_getElem? (i := 409) (by decide +kernel))) (by decide +kernel)
theorem kw_410 : (Jvm.Cond.static ({ cls := "java/lang/System", name := "arraycopy", desc := "(Ljava/lang/Object;ILjava/lang/Object;II)V" } : Jvm.MethodName)) ∈ z_tbl := z_in (List.mem_append_right _ (List.mem_of_getElem? (i := 410) (by decide +kernel))) (by decide +kernel)
theorem kw_411 : (Jvm.Cond.native ({ cls := "java/lang/System", name := "arraycopy", desc := "(Ljava/lang/Object;ILjava/lang/Object;II)V" } : Jvm.MethodName)) ∈ z_tbl := z_in (List.mem_append_right _ (List.mem_of_getElem? (i := 411) (by decide +kernel))) (by decide +kernel)
theorem kw_412 : (Jvm.Cond.methodLink "ClosureFrames$Computing" (132 : Nat) ({ cls := "ClosureFrames$Computing", name := "merge", desc := "(LClosureFrames$Act;LClosureFrames$Snapshot;)I" } : Jvm.MethodName)) ∈ z_tbl := z_in (List.mem_append_right _ (List.mem_of_getElem? (i := 412) (by decide +kernel))) (by decide +kernel)
theorem kw_414 : (Jvm.Cond.instanceMethod ({ cls := "ClosureFrames$Computing", name := "merge", desc := "(LClosureFrames$Act;LClosureFrames$Snapshot;)I" } : Jvm.MethodName)) ∈ z_tbl := z_in (List.mem_append_right _ (List.mem_of_getElem? (i := 414) (by decide +kernel))) (by decide +kernel)
theorem kw_415 : (Jvm.Cond.code ({ cls := "ClosureFrames$Computing", name := "merge", desc := "(LClosureFrames$Act;LClosureFrames$Snapshot;)I" } : Jvm.MethodName) prog_4_method_7_code (7 : Nat) (Option.some Jvm.ClassFile.FieldType.int)) ∈ z_tbl := z_in (List.mem_append_right _ (List.mem_of_getElem? (i := 415) (by decide +kernel))) (by decide +kernel)
theorem kw_416 : (Jvm.Cond.methodLink "ClosureFrames$Computing" (139 : Nat) ({ cls := "ClosureFrames$Snapshot", name := "onStack", desc := "(I)I" } : Jvm.MethodName)) ∈ z_tbl := z_in (List.mem_append_right _ (List.mem_of_getElem? (i := 416) (by decide +kernel))) (by decide +kernel)
theorem kw_417 : (Jvm.Cond.methodLink "ClosureFrames$Computing" (143 : Nat) ({ cls := "ClosureFrames$ClassTree", name := "joinTypes", desc := "(II)I" } : Jvm.MethodName)) ∈ z_tbl := z_in (List.mem_append_right _ (List.mem_of_getElem? (i := 417) (by decide +kernel))) (by decide +kernel)
theorem kw_418 : (Jvm.Cond.instanceMethod ({ cls := "ClosureFrames$ClassTree", name := "joinTypes", desc := "(II)I" } : Jvm.MethodName)) ∈ z_tbl := z_in (List.mem_append_right _ (List.mem_of_getElem? (i := 418) (by decide +kernel))) (by decide +kernel)
theorem kw_419 : (Jvm.Cond.selects "ClosureFrames$ClassTree" ({ cls := "ClosureFrames$ClassTree", name := "joinTypes", desc := "(II)I" } : Jvm.MethodName) ({ cls := "ClosureFrames$ClassTree", name := "joinTypes", desc := "(II)I" } : Jvm.MethodName)) ∈ z_tbl := z_in (List.mem_append_right _ (List.mem_of_getElem? (i := 419) (by decide +kernel))) (by decide +kernel)
theorem kw_420 : (Jvm.Cond.code ({ cls := "ClosureFrames$ClassTree", name := "joinTypes", desc := "(II)I" } : Jvm.MethodName) prog_3_method_8_code (5 : Nat) (Option.some Jvm.ClassFile.FieldType.int)) ∈ z_tbl := z_in (List.mem_append_right _ (List.mem_of_getElem? (i := 420) (by decide +kernel))) (by decide +kernel)
theorem kw_421 : (Jvm.Cond.methodLink "ClosureFrames$ClassTree" (27 : Nat) ({ cls := "ClosureFrames$ClassTree", name := "isKnownObject", desc := "(I)Z" } : Jvm.MethodName)) ∈ z_tbl := z_in (List.mem_append_right _ (List.mem_of_getElem? (i := 421) (by decide +kernel))) (by decide +kernel)
theorem kw_422 : (Jvm.Cond.methodLink "ClosureFrames$ClassTree" (30 : Nat) ({ cls := "ClosureFrames$ClassTree", name := "nearest", desc := "(II)I" } : Jvm.MethodName)) ∈ z_tbl := z_in (List.mem_append_right _ (List.mem_of_getElem? (i := 422) (by decide +kernel))) (by decide +kernel)
theorem kw_423 : (Jvm.Cond.methodLink "ClosureFrames$Computing" (149 : Nat) ({ cls := "ClosureFrames$Snapshot", name := "setStack", desc := "(II)V" } : Jvm.MethodName)) ∈ z_tbl := z_in (List.mem_append_right _ (List.mem_of_getElem? (i := 423) (by decide +kernel))) (by decide +kernel)
theorem kw_424 : (Jvm.Cond.instanceMethod ({ cls := "ClosureFrames$Snapshot", name := "setStack", desc := "(II)V" } : Jvm.MethodName)) ∈ z_tbl := z_in (List.mem_append_right _ (List.mem_of_getElem? (i := 424) (by decide +kernel))) (by decide +kernel)
theorem kw_425 : (Jvm.Cond.selects "ClosureFrames$Snapshot" ({ cls := "ClosureFrames$Snapshot", name := "setStack", desc := "(II)V" } : Jvm.MethodName) ({ cls := "ClosureFrames$Snapshot", name := "setStack", desc := "(II)V" } : Jvm.MethodName)) ∈ z_tbl := z_in (List.mem_append_right _ (List.mem_of_getElem? (i := 425) (by decide +kernel))) (by decide +kernel)
theorem kw_426 : (Jvm.Cond.code ({ cls := "ClosureFrames$Snapshot", name := "setStack", desc := "(II)V" } : Jvm.MethodName) prog_8_method_7_code (3 : Nat) (Option.none : Option Jvm.ClassFile.FieldType)) ∈ z_tbl := z_in (List.mem_append_right _ (List.mem_of_getElem? (i := 426) (by decide +kernel))) (by decide +kernel)
theorem kw_427 : (Jvm.Cond.methodLink "ClosureFrames$Computing" (153 : Nat) ({ cls := "ClosureFrames$Snapshot", name := "inPlace", desc := "(I)I" } : Jvm.MethodName)) ∈ z_tbl := z_in (List.mem_append_right _ (List.mem_of_getElem? (i := 427) (by decide +kernel))) (by decide +kernel)
theorem kw_428 : (Jvm.Cond.methodLink "ClosureFrames$Computing" (156 : Nat) ({ cls := "ClosureFrames$Snapshot", name := "setPlace", desc := "(II)V" } : Jvm.MethodName)) ∈ z_tbl := z_in (List.mem_append_right _ (List.mem_of_getElem? (i := 428) (by decide +kernel))) (by decide +kernel)
theorem kw_429 : (Jvm.Cond.methodLink "ClosureFrames$Computing" (45 : Nat) ({ cls := "ClosureFrames$Method", name := "leastDue", desc := "()I" } : Jvm.MethodName)) ∈ z_tbl := z_in (List.mem_append_right _ (List.mem_of_getElem? (i := 429) (by decide +kernel))) (by decide +kernel)
theorem kw_430 : (Jvm.Cond.instanceMethod ({ cls := "ClosureFrames$Method", name := "leastDue", desc := "()I" } : Jvm.MethodName)) ∈ z_tbl := z_in (List.mem_append_right _ (List.mem_of_getElem? (i := 430) (by decide +kernel))) (by decide +kernel)
theorem kw_431 : (Jvm.Cond.selects "ClosureFrames$Method" ({ cls := "ClosureFrames$Method", name := "leastDue", desc := "()I" } : Jvm.MethodName) ({ cls := "ClosureFrames$Method", name := "leastDue", desc := "()I" } : Jvm.MethodName)) ∈ z_tbl := z_in (List.mem_append_right _ (List.mem_of_getElem? (i := 431) (by decide +kernel))) (by decide +kernel)
theorem kw_432 : (Jvm.Cond.code ({ cls := "ClosureFrames$Method", name := "leastDue", desc := "()I" } : Jvm.MethodName) prog_7_method_11_code (3 : Nat) (Option.some Jvm.ClassFile.FieldType.int)) ∈ z_tbl := z_in (List.mem_append_right _ (List.mem_of_getElem? (i := 432) (by decide +kernel))) (by decide +kernel)
theorem kw_433 : (Jvm.Cond.constant "ClosureFrames$Computing" (49 : Nat) (1000000 : Int32)) ∈ z_tbl := z_in (List.mem_append_right _ (List.mem_of_getElem? (i := 433) (by decide +kernel))) (by decide +kernel)
theorem kw_434 : (Jvm.Cond.methodLink "ClosureFrames$Computing" (50 : Nat) ({ cls := "ClosureFrames$Computing", name := "workOn", desc := "(LClosureFrames$Method;I)I" } : Jvm.MethodName)) ∈ z_tbl := z_in (List.mem_append_right _ (List.mem_of_getElem? (i := 434) (by decide +kernel))) (by decide +kernel)
theorem kw_436 : (Jvm.Cond.instanceMethod ({ cls := "ClosureFrames$Computing", name := "workOn", desc := "(LClosureFrames$Method;I)I" } : Jvm.MethodName)) ∈ z_tbl := z_in (List.mem_append_right _ (List.mem_of_getElem? (i := 436) (by decide +kernel))) (by decide +kernel)
theorem kw_437 : (Jvm.Cond.code ({ cls := "ClosureFrames$Computing", name := "workOn", desc := "(LClosureFrames$Method;I)I" } : Jvm.MethodName) prog_4_method_3_code (5 : Nat) (Option.some Jvm.ClassFile.FieldType.int)) ∈ z_tbl := z_in (List.mem_append_right _ (List.mem_of_getElem? (i := 437) (by decide +kernel))) (by decide +kernel)
theorem kw_438 : (Jvm.Cond.methodLink "ClosureFrames$Computing" (77 : Nat) ({ cls := "ClosureFrames$Method", name := "noteStack", desc := "(LClosureFrames$Snapshot;)V" } : Jvm.MethodName)) ∈ z_tbl := z_in (List.mem_append_right _ (List.mem_of_getElem? (i := 438) (by decide +kernel))) (by decide +kernel)
theorem kw_439 : (Jvm.Cond.instanceMethod ({ cls := "ClosureFrames$Method", name := "noteStack", desc := "(LClosureFrames$Snapshot;)V" } : Jvm.MethodName)) ∈ z_tbl := z_in (List.mem_append_right _ (List.mem_of_getElem? (i := 439) (by decide +kernel))) (by decide +kernel)
theorem kw_440 : (Jvm.Cond.selects "ClosureFrames$Method" ({ cls := "ClosureFrames$Method", name := "noteStack", desc := "(LClosureFrames$Snapshot;)V" } : Jvm.MethodName) ({ cls := "ClosureFrames$Method", name := "noteStack", desc := "(LClosureFrames$Snapshot;)V" } : Jvm.MethodName)) ∈ z_tbl := z_in (List.mem_append_right _ (List.mem_of_getElem? (i := 440) (by decide +kernel))) (by decide +kernel)
theorem kw_441 : (Jvm.Cond.code ({ cls := "ClosureFrames$Method", name := "noteStack", desc := "(LClosureFrames$Snapshot;)V" } : Jvm.MethodName) prog_7_method_12_code (2 : Nat) (Option.none : Option Jvm.ClassFile.FieldType)) ∈ z_tbl := z_in (List.mem_append_right _ (List.mem_of_getElem? (i := 441) (by decide +kernel))) (by decide +kernel)
theorem kw_442 : (Jvm.Cond.methodLink "ClosureFrames$Method" (98 : Nat) ({ cls := "ClosureFrames$Snapshot", name := "weight", desc := "()I" } : Jvm.MethodName)) ∈ z_tbl := z_in (List.mem_append_right _ (List.mem_of_getElem? (i := 442) (by decide +kernel))) (by decide +kernel)
theorem kw_443 : (Jvm.Cond.instanceMethod ({ cls := "ClosureFrames$Snapshot", name := "weight", desc := "()I" } : Jvm.MethodName)) ∈ z_tbl := z_in (List.mem_append_right _ (List.mem_of_getElem? (i := 443) (by decide +kernel))) (by decide +kernel)
theorem kw_444 : (Jvm.Cond.selects "ClosureFrames$Snapshot" ({ cls := "ClosureFrames$Snapshot", name := "weight", desc := "()I" } : Jvm.MethodName) ({ cls := "ClosureFrames$Snapshot", name := "weight", desc := "()I" } : Jvm.MethodName)) ∈ z_tbl := z_in (List.mem_append_right _ (List.mem_of_getElem? (i := 444) (by decide +kernel))) (by decide +kernel)
theorem kw_445 : (Jvm.Cond.code ({ cls := "ClosureFrames$Snapshot", name := "weight", desc := "()I" } : Jvm.MethodName) prog_8_method_8_code (3 : Nat) (Option.some Jvm.ClassFile.FieldType.int)) ∈ z_tbl := z_in (List.mem_append_right _ (List.mem_of_getElem? (i := 445) (by decide +kernel))) (by decide +kernel)
theorem kw_446 : (Jvm.Cond.methodLink "ClosureFrames$Method" (102 : Nat) ({ cls := "java/lang/Math", name := "max", desc := "(II)I" } : Jvm.MethodName)) ∈ z_tbl := z_in (List.mem_append_right _ (List.mem_of_getElem? (i := 446) (by decide +kernel))) (by decide +kernel)
theorem kw_447 : (Jvm.Cond.static ({ cls := "java/lang/Math", name := "max", desc := "(II)I" } : Jvm.MethodName)) ∈ z_tbl := z_in (List.mem_append_right _ (List.mem_of_getElem? (i := 447) (by decide +kernel))) (by decide +kernel)
theorem kw_448 : (Jvm.Cond.code ({ cls := "java/lang/Math", name := "max", desc := "(II)I" } : Jvm.MethodName) prog_12_method_65_code (2 : Nat) (Option.some Jvm.ClassFile.FieldType.int)) ∈ z_tbl := z_in (List.mem_append_right _ (List.mem_of_getElem? (i := 448) (by decide +kernel))) (by decide +kernel)
theorem kw_449 : (Jvm.Cond.methodLink "ClosureFrames$Computing" (80 : Nat) ({ cls := "ClosureFrames$Computing", name := "sendToGuards", desc := "(LClosureFrames$Method;I)I" } : Jvm.MethodName)) ∈ z_tbl := z_in (List.mem_append_right _ (List.mem_of_getElem? (i := 449) (by decide +kernel))) (by decide +kernel)
theorem kw_451 : (Jvm.Cond.instanceMethod ({ cls := "ClosureFrames$Computing", name := "sendToGuards", desc := "(LClosureFrames$Method;I)I" } : Jvm.MethodName)) ∈ z_tbl := z_in (List.mem_append_right _ (List.mem_of_getElem? (i := 451) (by decide +kernel))) (by decide +kernel)
theorem kw_452 : (Jvm.Cond.code ({ cls := "ClosureFrames$Computing", name := "sendToGuards", desc := "(LClosureFrames$Method;I)I" } : Jvm.MethodName) prog_4_method_4_code (6 : Nat) (Option.some Jvm.ClassFile.FieldType.int)) ∈ z_tbl := z_in (List.mem_append_right _ (List.mem_of_getElem? (i := 452) (by decide +kernel))) (by decide +kernel)
theorem kw_453 : (Jvm.Cond.methodLink "ClosureFrames$Computing" (100 : Nat) ({ cls := "ClosureFrames$Method", name := "guardOver", desc := "(II)LClosureFrames$Guard;" } : Jvm.MethodName)) ∈ z_tbl := z_in (List.mem_append_right _ (List.mem_of_getElem? (i := 453) (by decide +kernel))) (by decide +kernel)
theorem kw_454 : (Jvm.Cond.instanceMethod ({ cls := "ClosureFrames$Method", name := "guardOver", desc := "(II)LClosureFrames$Guard;" } : Jvm.MethodName)) ∈ z_tbl := z_in (List.mem_append_right _ (List.mem_of_getElem? (i := 454) (by decide +kernel))) (by decide +kernel)
theorem kw_455 : (Jvm.Cond.selects "ClosureFrames$Method" ({ cls := "ClosureFrames$Method", name := "guardOver", desc := "(II)LClosureFrames$Guard;" } : Jvm.MethodName) ({ cls := "ClosureFrames$Method", name := "guardOver", desc := "(II)LClosureFrames$Guard;" } : Jvm.MethodName)) ∈ z_tbl := z_in (List.mem_append_right _ (List.mem_of_getElem? (i := 455) (by decide +kernel))) (by decide +kernel)
theorem kw_456 : (Jvm.Cond.code ({ cls := "ClosureFrames$Method", name := "guardOver", desc := "(II)LClosureFrames$Guard;" } : Jvm.MethodName) prog_7_method_7_code (4 : Nat) (Option.some (Jvm.ClassFile.FieldType.object "ClosureFrames$Guard"))) ∈ z_tbl := z_in (List.mem_append_right _ (List.mem_of_getElem? (i := 456) (by decide +kernel))) (by decide +kernel)
theorem kw_457 : (Jvm.Cond.methodLink "ClosureFrames$Method" (78 : Nat) ({ cls := "ClosureFrames$Guard", name := "holds", desc := "(I)Z" } : Jvm.MethodName)) ∈ z_tbl := z_in (List.mem_append_right _ (List.mem_of_getElem? (i := 457) (by decide +kernel))) (by decide +kernel)
theorem kw_458 : (Jvm.Cond.instanceMethod ({ cls := "ClosureFrames$Guard", name := "holds", desc := "(I)Z" } : Jvm.MethodName)) ∈ z_tbl := z_in (List.mem_append_right _ (List.mem_of_getElem? (i := 458) (by decide +kernel))) (by decide +kernel)
theorem kw_459 : (Jvm.Cond.selects "ClosureFrames$Guard" ({ cls := "ClosureFrames$Guard", name := "holds", desc := "(I)Z" } : Jvm.MethodName) ({ cls := "ClosureFrames$Guard", name := "holds", desc := "(I)Z" } : Jvm.MethodName)) ∈ z_tbl := z_in (List.mem_append_right _ (List.mem_of_getElem? (i := 459) (by decide +kernel))) (by decide +kernel)
theorem kw_460 : (Jvm.Cond.code ({ cls := "ClosureFrames$Guard", name := "holds", desc := "(I)Z" } : Jvm.MethodName) prog_5_method_2_code (2 : Nat) (Option.some Jvm.ClassFile.FieldType.boolean)) ∈ z_tbl := z_in (List.mem_append_right _ (List.mem_of_getElem? (i := 460) (by decide +kernel))) (by decide +kernel)
theorem kw_461 : (Jvm.Cond.methodLink "ClosureFrames$Computing" (109 : Nat) ({ cls := "ClosureFrames$Snapshot", name := "becomeCaught", desc := "(LClosureFrames$Snapshot;I)V" } : Jvm.MethodName)) ∈ z_tbl := z_in (List.mem_append_right _ (List.mem_of_getElem? (i := 461) (by decide +kernel))) (by decide +kernel)
theorem kw_462 : (Jvm.Cond.instanceMethod ({ cls := "ClosureFrames$Snapshot", name := "becomeCaught", desc := "(LClosureFrames$Snapshot;I)V" } : Jvm.MethodName)) ∈ z_tbl := z_in (List.mem_append_right _ (List.mem_of_getElem? (i := 462) (by decide +kernel))) (by decide +kernel)
theorem kw_463 : (Jvm.Cond.selects "ClosureFrames$Snapshot" ({ cls := "ClosureFrames$Snapshot", name := "becomeCaught", desc := "(LClosureFrames$Snapshot;I)V" } : Jvm.MethodName) ({ cls := "ClosureFrames$Snapshot", name := "becomeCaught", desc := "(LClosureFrames$Snapshot;I)V" } : Jvm.MethodName)) ∈ z_tbl := z_in (List.mem_append_right _ (List.mem_of_getElem? (i := 463) (by decide +kernel))) (by decide +kernel)
theorem kw_464 : (Jvm.Cond.code ({ cls := "ClosureFrames$Snapshot", name := "becomeCaught", desc := "(LClosureFrames$Snapshot;I)V" } : Jvm.MethodName) prog_8_method_16_code (4 : Nat) (Option.none : Option Jvm.ClassFile.FieldType)) ∈ z_tbl := z_in (List.mem_append_right _ (List.mem_of_getElem? (i := 464) (by decide +kernel))) (by decide +kernel)
theorem kw_465 : (Jvm.Cond.methodLink "ClosureFrames$Snapshot" (50 : Nat) ({ cls := "ClosureFrames$Snapshot", name := "become", desc := "(LClosureFrames$Snapshot;)V" } : Jvm.MethodName)) ∈ z_tbl := z_in (List.mem_append_right _ (List.mem_of_getElem? (i := 465) (by decide +kernel))) (by decide +kernel)
theorem kw_466 : (Jvm.Cond.methodLink "ClosureFrames$Snapshot" (54 : Nat) ({ cls := "ClosureFrames$Snapshot", name := "push", desc := "(I)I" } : Jvm.MethodName)) ∈ z_tbl := z_in (List.mem_append_right _ (List.mem_of_getElem? (i := 466) (by decide +kernel))) (by decide +kernel)
theorem kw_467 : (Jvm.Cond.instanceMethod ({ cls := "ClosureFrames$Snapshot", name := "push", desc := "(I)I" } : Jvm.MethodName)) ∈ z_tbl := z_in (List.mem_append_right _ (List.mem_of_getElem? (i := 467) (by decide +kernel))) (by decide +kernel)
theorem kw_468 : (Jvm.Cond.selects "ClosureFrames$Snapshot" ({ cls := "ClosureFrames$Snapshot", name := "push", desc := "(I)I" } : Jvm.MethodName) ({ cls := "ClosureFrames$Snapshot", name := "push", desc := "(I)I" } : Jvm.MethodName)) ∈ z_tbl := z_in (List.mem_append_right _ (List.mem_of_getElem? (i := 468) (by decide +kernel))) (by decide +kernel)
theorem kw_469 : (Jvm.Cond.code ({ cls := "ClosureFrames$Snapshot", name := "push", desc := "(I)I" } : Jvm.MethodName) prog_8_method_9_code (3 : Nat) (Option.some Jvm.ClassFile.FieldType.int)) ∈ z_tbl := z_in (List.mem_append_right _ (List.mem_of_getElem? (i := 469) (by decide +kernel))) (by decide +kernel)
theorem kw_470 : (Jvm.Cond.methodLink "ClosureFrames$Snapshot" (28 : Nat) ({ cls := "ClosureFrames$Snapshot", name := "weight", desc := "()I" } : Jvm.MethodName)) ∈ z_tbl := z_in (List.mem_append_right _ (List.mem_of_getElem? (i := 470) (by decide +kernel))) (by decide +kernel)
theorem kw_471 : (Jvm.Cond.methodLink "ClosureFrames$Snapshot" (32 : Nat) ({ cls := "ClosureFrames$Snapshot", name := "setStack", desc := "(II)V" } : Jvm.MethodName)) ∈ z_tbl := z_in (List.mem_append_right _ (List.mem_of_getElem? (i := 471) (by decide +kernel))) (by decide +kernel)
theorem kw_472 : (Jvm.Cond.methodLink "ClosureFrames$Computing" (83 : Nat) ({ cls := "ClosureFrames$Worker", name := "perform", desc := "(LClosureFrames$Method;ILClosureFrames$Act;LClosureFrames$Snapshot;)I" } : Jvm.MethodName)) ∈ z_tbl := z_in (List.mem_append_right _ (List.mem_of_getElem? (i := 472) (by decide +kernel))) (by decide +kernel)
theorem kw_473 : (Jvm.Cond.instanceMethod ({ cls := "ClosureFrames$Worker", name := "perform", desc := "(LClosureFrames$Method;ILClosureFrames$Act;LClosureFrames$Snapshot;)I" } : Jvm.MethodName)) ∈ z_tbl := z_in (List.mem_append_right _ (List.mem_of_getElem? (i := 473) (by decide +kernel))) (by decide +kernel)
theorem kw_474 : (Jvm.Cond.selects "ClosureFrames$Worker" ({ cls := "ClosureFrames$Worker", name := "perform", desc := "(LClosureFrames$Method;ILClosureFrames$Act;LClosureFrames$Snapshot;)I" } : Jvm.MethodName) ({ cls := "ClosureFrames$Worker", name := "perform", desc := "(LClosureFrames$Method;ILClosureFrames$Act;LClosureFrames$Snapshot;)I" } : Jvm.MethodName)) ∈ z_tbl := z_in (List.mem_append_right _ (List.mem_of_getElem? (i := 474) (by decide +kernel))) (by decide +kernel)
theorem kw_475 : (Jvm.Cond.code ({ cls := "ClosureFrames$Worker", name := "perform", desc := "(LClosureFrames$Method;ILClosureFrames$Act;LClosureFrames$Snapshot;)I" } : Jvm.MethodName) prog_9_method_2_code (5 : Nat) (Option.some Jvm.ClassFile.FieldType.int)) ∈ z_tbl := z_in (List.mem_append_right _ (List.mem_of_getElem? (i := 475) (by decide +kernel))) (by decide +kernel)
theorem kw_476 : (Jvm.Cond.methodLink "ClosureFrames$Worker" (21 : Nat) ({ cls := "ClosureFrames$Snapshot", name := "push", desc := "(I)I" } : Jvm.MethodName)) ∈ z_tbl := z_in (List.mem_append_right _ (List.mem_of_getElem? (i := 476) (by decide +kernel))) (by decide +kernel)
theorem kw_477 : (Jvm.Cond.methodLink "ClosureFrames$Worker" (30 : Nat) ({ cls := "ClosureFrames$Worker", name := "load", desc := "(LClosureFrames$Method;ILClosureFrames$Snapshot;)I" } : Jvm.MethodName)) ∈ z_tbl := z_in (List.mem_append_right _ (List.mem_of_getElem? (i := 477) (by decide +kernel))) (by decide +kernel)
theorem kw_479 : (Jvm.Cond.instanceMethod ({ cls := "ClosureFrames$Worker", name := "load", desc := "(LClosureFrames$Method;ILClosureFrames$Snapshot;)I" } : Jvm.MethodName)) ∈ z_tbl := z_in (List.mem_append_right _ (List.mem_of_getElem? (i := 479) (by decide +kernel))) (by decide +kernel)
theorem kw_480 : (Jvm.Cond.code ({ cls := "ClosureFrames$Worker", name := "load", desc := "(LClosureFrames$Method;ILClosureFrames$Snapshot;)I" } : Jvm.MethodName) prog_9_method_3_code (5 : Nat) (Option.some Jvm.ClassFile.FieldType.int)) ∈ z_tbl := z_in (List.mem_append_right _ (List.mem_of_getElem? (i := 480) (by decide +kernel))) (by decide +kernel)
theorem kw_481 : (Jvm.Cond.methodLink "ClosureFrames$Worker" (70 : Nat) ({ cls := "ClosureFrames$Snapshot", name := "inPlace", desc := "(I)I" } : Jvm.MethodName)) ∈ z_tbl := z_in (List.mem_append_right _ (List.mem_of_getElem? (i := 481) (by decide +kernel))) (by decide +kernel)
theorem kw_482 : (Jvm.Cond.methodLink "ClosureFrames$Worker" (64 : Nat) ({ cls := "ClosureFrames$Method", name := "hasPlace", desc := "(I)Z" } : Jvm.MethodName)) ∈ z_tbl := z_in (List.mem_append_right _ (List.mem_of_getElem? (i := 482) (by decide +kernel))) (by decide +kernel)
theorem kw_483 : (Jvm.Cond.instanceMethod ({ cls := "ClosureFrames$Method", name := "hasPlace", desc := "(I)Z" } : Jvm.MethodName)) ∈ z_tbl := z_in (List.mem_append_right _ (List.mem_of_getElem? (i := 483) (by decide +kernel))) (by decide +kernel)
theorem kw_484 : (Jvm.Cond.selects "ClosureFrames$Method" ({ cls := "ClosureFrames$Method", name := "hasPlace", desc := "(I)Z" } : Jvm.MethodName) ({ cls := "ClosureFrames$Method", name := "hasPlace", desc := "(I)Z" } : Jvm.MethodName)) ∈ z_tbl := z_in (List.mem_append_right _ (List.mem_of_getElem? (i := 484) (by decide +kernel))) (by decide +kernel)
theorem kw_485 : (Jvm.Cond.code ({ cls := "ClosureFrames$Method", name := "hasPlace", desc := "(I)Z" } : Jvm.MethodName) prog_7_method_8_code (2 : Nat) (Option.some Jvm.ClassFile.FieldType.boolean)) ∈ z_tbl := z_in (List.mem_append_right _ (List.mem_of_getElem? (i := 485) (by decide +kernel))) (by decide +kernel)
theorem kw_486 : (Jvm.Cond.methodLink "ClosureFrames$Worker" (34 : Nat) ({ cls := "ClosureFrames$Worker", name := "store", desc := "(LClosureFrames$Method;ILClosureFrames$Snapshot;)I" } : Jvm.MethodName)) ∈ z_tbl := z_in (List.mem_append_right _ (List.mem_of_getElem? (i := 486) (by decide +kernel))) (by decide +kernel)
theorem kw_488 : (Jvm.Cond.instanceMethod ({ cls := "ClosureFrames$Worker", name := "store", desc := "(LClosureFrames$Method;ILClosureFrames$Snapshot;)I" } : Jvm.MethodName)) ∈ z_tbl := z_in (List.mem_append_right _ (List.mem_of_getElem? (i := 488) (by decide +kernel))) (by decide +kernel)
theorem kw_489 : (Jvm.Cond.code ({ cls := "ClosureFrames$Worker", name := "store", desc := "(LClosureFrames$Method;ILClosureFrames$Snapshot;)I" } : Jvm.MethodName) prog_9_method_4_code (5 : Nat) (Option.some Jvm.ClassFile.FieldType.int)) ∈ z_tbl := z_in (List.mem_append_right _ (List.mem_of_getElem? (i := 489) (by decide +kernel))) (by decide +kernel)
theorem kw_490 : (Jvm.Cond.methodLink "ClosureFrames$Worker" (37 : Nat) ({ cls := "ClosureFrames$Snapshot", name := "pop", desc := "()I" } : Jvm.MethodName)) ∈ z_tbl := z_in (List.mem_append_right _ (List.mem_of_getElem? (i := 490) (by decide +kernel))) (by decide +kernel)
theorem kw_491 : (Jvm.Cond.instanceMethod ({ cls := "ClosureFrames$Snapshot", name := "pop", desc := "()I" } : Jvm.MethodName)) ∈ z_tbl := z_in (List.mem_append_right _ (List.mem_of_getElem? (i := 491) (by decide +kernel))) (by decide +kernel)
theorem kw_492 : (Jvm.Cond.selects "ClosureFrames$Snapshot" ({ cls := "ClosureFrames$Snapshot", name := "pop", desc := "()I" } : Jvm.MethodName) ({ cls := "ClosureFrames$Snapshot", name := "pop", desc := "()I" } : Jvm.MethodName)) ∈ z_tbl := z_in (List.mem_append_right _ (List.mem_of_getElem? (i := 492) (by decide +kernel))) (by decide +kernel)
theorem kw_493 : (Jvm.Cond.code ({ cls := "ClosureFrames$Snapshot", name := "pop", desc := "()I" } : Jvm.MethodName) prog_8_method_11_code (2 : Nat) (Option.some Jvm.ClassFile.FieldType.int)) ∈ z_tbl := z_in (List.mem_append_right _ (List.mem_of_getElem? (i := 493) (by decide +kernel))) (by decide +kernel)
theorem kw_494 : (Jvm.Cond.methodLink "ClosureFrames$Worker" (73 : Nat) ({ cls := "ClosureFrames$Snapshot", name := "store", desc := "(II)V" } : Jvm.MethodName)) ∈ z_tbl := z_in (List.mem_append_right _ (List.mem_of_getElem? (i := 494) (by decide +kernel))) (by decide +kernel)
theorem kw_495 : (Jvm.Cond.methodLink "ClosureFrames$Worker" (41 : Nat) ({ cls := "ClosureFrames$Snapshot", name := "top", desc := "()I" } : Jvm.MethodName)) ∈ z_tbl := z_in (List.mem_append_right _ (List.mem_of_getElem? (i := 495) (by decide +kernel))) (by decide +kernel)
theorem kw_496 : (Jvm.Cond.instanceMethod ({ cls := "ClosureFrames$Snapshot", name := "top", desc := "()I" } : Jvm.MethodName)) ∈ z_tbl := z_in (List.mem_append_right _ (List.mem_of_getElem? (i := 496) (by decide +kernel))) (by decide +kernel)
theorem kw_497 : (Jvm.Cond.selects "ClosureFrames$Snapshot" ({ cls := "ClosureFrames$Snapshot", name := "top", desc := "()I" } : Jvm.MethodName) ({ cls := "ClosureFrames$Snapshot", name := "top", desc := "()I" } : Jvm.MethodName)) ∈ z_tbl := z_in (List.mem_append_right _ (List.mem_of_getElem? (i := 497) (by decide +kernel))) (by decide +kernel)
theorem kw_498 : (Jvm.Cond.code ({ cls := "ClosureFrames$Snapshot", name := "top", desc := "()I" } : Jvm.MethodName) prog_8_method_10_code (1 : Nat) (Option.some Jvm.ClassFile.FieldType.int)) ∈ z_tbl := z_in (List.mem_append_right _ (List.mem_of_getElem? (i := 498) (by decide +kernel))) (by decide +kernel)
theorem kw_499 : (Jvm.Cond.methodLink "ClosureFrames$Worker" (44 : Nat) ({ cls := "ClosureFrames$Worker", name := "add", desc := "(LClosureFrames$Snapshot;I)I" } : Jvm.MethodName)) ∈ z_tbl := z_in (List.mem_append_right _ (List.mem_of_getElem? (i := 499) (by decide +kernel))) (by decide +kernel)
theorem kw_501 : (Jvm.Cond.instanceMethod ({ cls := "ClosureFrames$Worker", name := "add", desc := "(LClosureFrames$Snapshot;I)I" } : Jvm.MethodName)) ∈ z_tbl := z_in (List.mem_append_right _ (List.mem_of_getElem? (i := 501) (by decide +kernel))) (by decide +kernel)
theorem kw_502 : (Jvm.Cond.code ({ cls := "ClosureFrames$Worker", name := "add", desc := "(LClosureFrames$Snapshot;I)I" } : Jvm.MethodName) prog_9_method_8_code (4 : Nat) (Option.some Jvm.ClassFile.FieldType.int)) ∈ z_tbl := z_in (List.mem_append_right _ (List.mem_of_getElem? (i := 502) (by decide +kernel))) (by decide +kernel)
theorem kw_503 : (Jvm.Cond.methodLink "ClosureFrames$Worker" (61 : Nat) ({ cls := "ClosureFrames$Worker", name := "take", desc := "(LClosureFrames$Snapshot;I)I" } : Jvm.MethodName)) ∈ z_tbl := z_in (List.mem_append_right _ (List.mem_of_getElem? (i := 503) (by decide +kernel))) (by decide +kernel)
theorem kw_505 : (Jvm.Cond.instanceMethod ({ cls := "ClosureFrames$Worker", name := "take", desc := "(LClosureFrames$Snapshot;I)I" } : Jvm.MethodName)) ∈ z_tbl := z_in (List.mem_append_right _ (List.mem_of_getElem? (i := 505) (by decide +kernel))) (by decide +kernel)
theorem kw_506 : (Jvm.Cond.code ({ cls := "ClosureFrames$Worker", name := "take", desc := "(LClosureFrames$Snapshot;I)I" } : Jvm.MethodName) prog_9_method_5_code (4 : Nat) (Option.some Jvm.ClassFile.FieldType.int)) ∈ z_tbl := z_in (List.mem_append_right _ (List.mem_of_getElem? (i := 506) (by decide +kernel))) (by decide +kernel)
theorem kw_507 : (Jvm.Cond.methodLink "ClosureFrames$Worker" (54 : Nat) ({ cls := "ClosureFrames$Worker", name := "pushUnless", desc := "(ILClosureFrames$Snapshot;I)I" } : Jvm.MethodName)) ∈ z_tbl := z_in (List.mem_append_right _ (List.mem_of_getElem? (i := 507) (by decide +kernel))) (by decide +kernel)
theorem kw_509 : (Jvm.Cond.instanceMethod ({ cls := "ClosureFrames$Worker", name := "pushUnless", desc := "(ILClosureFrames$Snapshot;I)I" } : Jvm.MethodName)) ∈ z_tbl := z_in (List.mem_append_right _ (List.mem_of_getElem? (i := 509) (by decide +kernel))) (by decide +kernel)
theorem kw_510 : (Jvm.Cond.code ({ cls := "ClosureFrames$Worker", name := "pushUnless", desc := "(ILClosureFrames$Snapshot;I)I" } : Jvm.MethodName) prog_9_method_7_code (4 : Nat) (Option.some Jvm.ClassFile.FieldType.int)) ∈ z_tbl := z_in (List.mem_append_right _ (List.mem_of_getElem? (i := 510) (by decide +kernel))) (by decide +kernel)
theorem kw_511 : (Jvm.Cond.methodLink "ClosureFrames$Worker" (48 : Nat) ({ cls := "ClosureFrames$Worker", name := "make", desc := "(LClosureFrames$Method;ILClosureFrames$Snapshot;)I" } : Jvm.MethodName)) ∈ z_tbl := z_in (List.mem_append_right _ (List.mem_of_getElem? (i := 511) (by decide +kernel))) (by decide +kernel)
theorem kw_513 : (Jvm.Cond.instanceMethod ({ cls := "ClosureFrames$Worker", name := "make", desc := "(LClosureFrames$Method;ILClosureFrames$Snapshot;)I" } : Jvm.MethodName)) ∈ z_tbl := z_in (List.mem_append_right _ (List.mem_of_getElem? (i := 513) (by decide +kernel))) (by decide +kernel)
theorem kw_514 : (Jvm.Cond.code ({ cls := "ClosureFrames$Worker", name := "make", desc := "(LClosureFrames$Method;ILClosureFrames$Snapshot;)I" } : Jvm.MethodName) prog_9_method_10_code (5 : Nat) (Option.some Jvm.ClassFile.FieldType.int)) ∈ z_tbl := z_in (List.mem_append_right _ (List.mem_of_getElem? (i := 514) (by decide +kernel))) (by decide +kernel)
theorem kw_515 : (Jvm.Cond.methodLink "ClosureFrames$Worker" (82 : Nat) ({ cls := "ClosureFrames$Method", name := "isUnmadeOf", desc := "(II)Z" } : Jvm.MethodName)) ∈ z_tbl := z_in (List.mem_append_right _ (List.mem_of_getElem? (i := 515) (by decide +kernel))) (by decide +kernel)
theorem kw_516 : (Jvm.Cond.instanceMethod ({ cls := "ClosureFrames$Method", name := "isUnmadeOf", desc := "(II)Z" } : Jvm.MethodName)) ∈ z_tbl := z_in (List.mem_append_right _ (List.mem_of_getElem? (i := 516) (by decide +kernel))) (by decide +kernel)
theorem kw_517 : (Jvm.Cond.selects "ClosureFrames$Method" ({ cls := "ClosureFrames$Method", name := "isUnmadeOf", desc := "(II)Z" } : Jvm.MethodName) ({ cls := "ClosureFrames$Method", name := "isUnmadeOf", desc := "(II)Z" } : Jvm.MethodName)) ∈ z_tbl := z_in (List.mem_append_right _ (List.mem_of_getElem? (i := 517) (by decide +kernel))) (by decide +kernel)
theorem kw_518 : (Jvm.Cond.code ({ cls := "ClosureFrames$Method", name := "isUnmadeOf", desc := "(II)Z" } : Jvm.MethodName) prog_7_method_9_code (4 : Nat) (Option.some Jvm.ClassFile.FieldType.boolean)) ∈ z_tbl := z_in (List.mem_append_right _ (List.mem_of_getElem? (i := 518) (by decide +kernel))) (by decide +kernel)
theorem kw_519 : (Jvm.Cond.methodLink "ClosureFrames$Worker" (85 : Nat) ({ cls := "ClosureFrames$Snapshot", name := "replace", desc := "(II)V" } : Jvm.MethodName)) ∈ z_tbl := z_in (List.mem_append_right _ (List.mem_of_getElem? (i := 519) (by decide +kernel))) (by decide +kernel)
theorem kw_520 : (Jvm.Cond.instanceMethod ({ cls := "ClosureFrames$Snapshot", name := "replace", desc := "(II)V" } : Jvm.MethodName)) ∈ z_tbl := z_in (List.mem_append_right _ (List.mem_of_getElem? (i := 520) (by decide +kernel))) (by decide +kernel)
theorem kw_521 : (Jvm.Cond.selects "ClosureFrames$Snapshot" ({ cls := "ClosureFrames$Snapshot", name := "replace", desc := "(II)V" } : Jvm.MethodName) ({ cls := "ClosureFrames$Snapshot", name := "replace", desc := "(II)V" } : Jvm.MethodName)) ∈ z_tbl := z_in (List.mem_append_right _ (List.mem_of_getElem? (i := 521) (by decide +kernel))) (by decide +kernel)
theorem kw_522 : (Jvm.Cond.code ({ cls := "ClosureFrames$Snapshot", name := "replace", desc := "(II)V" } : Jvm.MethodName) prog_8_method_14_code (4 : Nat) (Option.none : Option Jvm.ClassFile.FieldType)) ∈ z_tbl := z_in (List.mem_append_right _ (List.mem_of_getElem? (i := 522) (by decide +kernel))) (by decide +kernel)
theorem kw_523 : (Jvm.Cond.methodLink "ClosureFrames$Worker" (51 : Nat) ({ cls := "ClosureFrames$Worker", name := "takeObject", desc := "(LClosureFrames$Snapshot;I)I" } : Jvm.MethodName)) ∈ z_tbl := z_in (List.mem_append_right _ (List.mem_of_getElem? (i := 523) (by decide +kernel))) (by decide +kernel)
theorem kw_525 : (Jvm.Cond.instanceMethod ({ cls := "ClosureFrames$Worker", name := "takeObject", desc := "(LClosureFrames$Snapshot;I)I" } : Jvm.MethodName)) ∈ z_tbl := z_in (List.mem_append_right _ (List.mem_of_getElem? (i := 525) (by decide +kernel))) (by decide +kernel)
theorem kw_526 : (Jvm.Cond.code ({ cls := "ClosureFrames$Worker", name := "takeObject", desc := "(LClosureFrames$Snapshot;I)I" } : Jvm.MethodName) prog_9_method_6_code (4 : Nat) (Option.some Jvm.ClassFile.FieldType.int)) ∈ z_tbl := z_in (List.mem_append_right _ (List.mem_of_getElem? (i := 526) (by decide +kernel))) (by decide +kernel)
theorem kw_527 : (Jvm.Cond.methodLink "ClosureFrames$Worker" (76 : Nat) ({ cls := "ClosureFrames$ClassTree", name := "isObjectFor", desc := "(II)Z" } : Jvm.MethodName)) ∈ z_tbl := z_in (List.mem_append_right _ (List.mem_of_getElem? (i := 527) (by decide +kernel))) (by decide +kernel)
theorem kw_528 : (Jvm.Cond.instanceMethod ({ cls := "ClosureFrames$ClassTree", name := "isObjectFor", desc := "(II)Z" } : Jvm.MethodName)) ∈ z_tbl := z_in (List.mem_append_right _ (List.mem_of_getElem? (i := 528) (by decide +kernel))) (by decide +kernel)
theorem kw_529 : (Jvm.Cond.selects "ClosureFrames$ClassTree" ({ cls := "ClosureFrames$ClassTree", name := "isObjectFor", desc := "(II)Z" } : Jvm.MethodName) ({ cls := "ClosureFrames$ClassTree", name := "isObjectFor", desc := "(II)Z" } : Jvm.MethodName)) ∈ z_tbl := z_in (List.mem_append_right _ (List.mem_of_getElem? (i := 529) (by decide +kernel))) (by decide +kernel)
theorem kw_530 : (Jvm.Cond.code ({ cls := "ClosureFrames$ClassTree", name := "isObjectFor", desc := "(II)Z" } : Jvm.MethodName) prog_3_method_9_code (3 : Nat) (Option.some Jvm.ClassFile.FieldType.boolean)) ∈ z_tbl := z_in (List.mem_append_right _ (List.mem_of_getElem? (i := 530) (by decide +kernel))) (by decide +kernel)
theorem kw_531 : (Jvm.Cond.methodLink "ClosureFrames$ClassTree" (34 : Nat) ({ cls := "ClosureFrames$ClassTree", name := "isKindOf", desc := "(II)Z" } : Jvm.MethodName)) ∈ z_tbl := z_in (List.mem_append_right _ (List.mem_of_getElem? (i := 531) (by decide +kernel))) (by decide +kernel)
theorem kw_532 : (Jvm.Cond.methodLink "ClosureFrames$Worker" (58 : Nat) ({ cls := "ClosureFrames$Worker", name := "callOn", desc := "(LClosureFrames$Snapshot;I)I" } : Jvm.MethodName)) ∈ z_tbl := z_in (List.mem_append_right _ (List.mem_of_getElem? (i := 532) (by decide +kernel))) (by decide +kernel)
theorem kw_534 : (Jvm.Cond.instanceMethod ({ cls := "ClosureFrames$Worker", name := "callOn", desc := "(LClosureFrames$Snapshot;I)I" } : Jvm.MethodName)) ∈ z_tbl := z_in (List.mem_append_right _ (List.mem_of_getElem? (i := 534) (by decide +kernel))) (by decide +kernel)
theorem kw_535 : (Jvm.Cond.code ({ cls := "ClosureFrames$Worker", name := "callOn", desc := "(LClosureFrames$Snapshot;I)I" } : Jvm.MethodName) prog_9_method_9_code (4 : Nat) (Option.some Jvm.ClassFile.FieldType.int)) ∈ z_tbl := z_in (List.mem_append_right _ (List.mem_of_getElem? (i := 535) (by decide +kernel))) (by decide +kernel)
theorem kw_536 : (Jvm.Cond.methodLink "ClosureFrames$Computing" (89 : Nat) ({ cls := "ClosureFrames$Method", name := "notePlaces", desc := "(LClosureFrames$Act;LClosureFrames$Snapshot;)V" } : Jvm.MethodName)) ∈ z_tbl := z_in (List.mem_append_right _ (List.mem_of_getElem? (i := 536) (by decide +kernel))) (by decide +kernel)
theorem kw_537 : (Jvm.Cond.instanceMethod ({ cls := "ClosureFrames$Method", name := "notePlaces", desc := "(LClosureFrames$Act;LClosureFrames$Snapshot;)V" } : Jvm.MethodName)) ∈ z_tbl := z_in (List.mem_append_right _ (List.mem_of_getElem? (i := 537) (by decide +kernel))) (by decide +kernel)
theorem kw_538 : (Jvm.Cond.selects "ClosureFrames$Method" ({ cls := "ClosureFrames$Method", name := "notePlaces", desc := "(LClosureFrames$Act;LClosureFrames$Snapshot;)V" } : Jvm.MethodName) ({ cls := "ClosureFrames$Method", name := "notePlaces", desc := "(LClosureFrames$Act;LClosureFrames$Snapshot;)V" } : Jvm.MethodName)) ∈ z_tbl := z_in (List.mem_append_right _ (List.mem_of_getElem? (i := 538) (by decide +kernel))) (by decide +kernel)
theorem kw_539 : (Jvm.Cond.code ({ cls := "ClosureFrames$Method", name := "notePlaces", desc := "(LClosureFrames$Act;LClosureFrames$Snapshot;)V" } : Jvm.MethodName) prog_7_method_13_code (4 : Nat) (Option.none : Option Jvm.ClassFile.FieldType)) ∈ z_tbl := z_in (List.mem_append_right _ (List.mem_of_getElem? (i := 539) (by decide +kernel))) (by decide +kernel)
theorem kw_540 : (Jvm.Cond.methodLink "ClosureFrames$Method" (108 : Nat) ({ cls := "ClosureFrames$Act", name := "usesPlace", desc := "()Z" } : Jvm.MethodName)) ∈ z_tbl := z_in (List.mem_append_right _ (List.mem_of_getElem? (i := 540) (by decide +kernel))) (by decide +kernel)
theorem kw_541 : (Jvm.Cond.instanceMethod ({ cls := "ClosureFrames$Act", name := "usesPlace", desc := "()Z" } : Jvm.MethodName)) ∈ z_tbl := z_in (List.mem_append_right _ (List.mem_of_getElem? (i := 541) (by decide +kernel))) (by decide +kernel)
theorem kw_542 : (Jvm.Cond.selects "ClosureFrames$Act" ({ cls := "ClosureFrames$Act", name := "usesPlace", desc := "()Z" } : Jvm.MethodName) ({ cls := "ClosureFrames$Act", name := "usesPlace", desc := "()Z" } : Jvm.MethodName)) ∈ z_tbl := z_in (List.mem_append_right _ (List.mem_of_getElem? (i := 542) (by decide +kernel))) (by decide +kernel)
theorem kw_543 : (Jvm.Cond.code ({ cls := "ClosureFrames$Act", name := "usesPlace", desc := "()Z" } : Jvm.MethodName) prog_2_method_9_code (1 : Nat) (Option.some Jvm.ClassFile.FieldType.boolean)) ∈ z_tbl := z_in (List.mem_append_right _ (List.mem_of_getElem? (i := 543) (by decide +kernel))) (by decide +kernel)
theorem kw_544 : (Jvm.Cond.methodLink "ClosureFrames$Method" (112 : Nat) ({ cls := "ClosureFrames$Snapshot", name := "inPlace", desc := "(I)I" } : Jvm.MethodName)) ∈ z_tbl := z_in (List.mem_append_right _ (List.mem_of_getElem? (i := 544) (by decide +kernel))) (by decide +kernel)
theorem kw_545 : (Jvm.Cond.methodLink "ClosureFrames$Computing" (93 : Nat) ({ cls := "ClosureFrames$Computing", name := "sendOn", desc := "(LClosureFrames$Method;ILClosureFrames$Act;)I" } : Jvm.MethodName)) ∈ z_tbl := z_in (List.mem_append_right _ (List.mem_of_getElem? (i := 545) (by decide +kernel))) (by decide +kernel)
theorem kw_547 : (Jvm.Cond.instanceMethod ({ cls := "ClosureFrames$Computing", name := "sendOn", desc := "(LClosureFrames$Method;ILClosureFrames$Act;)I" } : Jvm.MethodName)) ∈ z_tbl := z_in (List.mem_append_right _ (List.mem_of_getElem? (i := 547) (by decide +kernel))) (by decide +kernel)
theorem kw_548 : (Jvm.Cond.code ({ cls := "ClosureFrames$Computing", name := "sendOn", desc := "(LClosureFrames$Method;ILClosureFrames$Act;)I" } : Jvm.MethodName) prog_4_method_5_code (7 : Nat) (Option.some Jvm.ClassFile.FieldType.int)) ∈ z_tbl := z_in (List.mem_append_right _ (List.mem_of_getElem? (i := 548) (by decide +kernel))) (by decide +kernel)
theorem kw_549 : (Jvm.Cond.methodLink "ClosureFrames$Computing" (116 : Nat) ({ cls := "ClosureFrames$Act", name := "goesToNext", desc := "()Z" } : Jvm.MethodName)) ∈ z_tbl := z_in (List.mem_append_right _ (List.mem_of_getElem? (i := 549) (by decide +kernel))) (by decide +kernel)
theorem kw_550 : (Jvm.Cond.instanceMethod ({ cls := "ClosureFrames$Act", name := "goesToNext", desc := "()Z" } : Jvm.MethodName)) ∈ z_tbl := z_in (List.mem_append_right _ (List.mem_of_getElem? (i := 550) (by decide +kernel))) (by decide +kernel)
theorem kw_551 : (Jvm.Cond.selects "ClosureFrames$Act" ({ cls := "ClosureFrames$Act", name := "goesToNext", desc := "()Z" } : Jvm.MethodName) ({ cls := "ClosureFrames$Act", name := "goesToNext", desc := "()Z" } : Jvm.MethodName)) ∈ z_tbl := z_in (List.mem_append_right _ (List.mem_of_getElem? (i := 551) (by decide +kernel))) (by decide +kernel)
theorem kw_552 : (Jvm.Cond.code ({ cls := "ClosureFrames$Act", name := "goesToNext", desc := "()Z" } : Jvm.MethodName) prog_2_method_8_code (1 : Nat) (Option.some Jvm.ClassFile.FieldType.boolean)) ∈ z_tbl := z_in (List.mem_append_right _ (List.mem_of_getElem? (i := 552) (by decide +kernel))) (by decide +kernel)
theorem kw_553 : (Jvm.Cond.methodLink "ClosureFrames$Computing" (120 : Nat) ({ cls := "ClosureFrames$Act", name := "lastTarget", desc := "()I" } : Jvm.MethodName)) ∈ z_tbl := z_in (List.mem_append_right _ (List.mem_of_getElem? (i := 553) (by decide +kernel))) (by decide +kernel)
theorem kw_554 : (Jvm.Cond.instanceMethod ({ cls := "ClosureFrames$Act", name := "lastTarget", desc := "()I" } : Jvm.MethodName)) ∈ z_tbl := z_in (List.mem_append_right _ (List.mem_of_getElem? (i := 554) (by decide +kernel))) (by decide +kernel)
theorem kw_555 : (Jvm.Cond.selects "ClosureFrames$Act" ({ cls := "ClosureFrames$Act", name := "lastTarget", desc := "()I" } : Jvm.MethodName) ({ cls := "ClosureFrames$Act", name := "lastTarget", desc := "()I" } : Jvm.MethodName)) ∈ z_tbl := z_in (List.mem_append_right _ (List.mem_of_getElem? (i := 555) (by decide +kernel))) (by decide +kernel)
theorem kw_556 : (Jvm.Cond.code ({ cls := "ClosureFrames$Act", name := "lastTarget", desc := "()I" } : Jvm.MethodName) prog_2_method_6_code (1 : Nat) (Option.some Jvm.ClassFile.FieldType.int)) ∈ z_tbl := z_in (List.mem_append_right _ (List.mem_of_getElem? (i := 556) (by decide +kernel))) (by decide +kernel)
theorem kw_557 : (Jvm.Cond.methodLink "ClosureFrames$Act" (41 : Nat) ({ cls := "ClosureFrames$Act", name := "jumps", desc := "()Z" } : Jvm.MethodName)) ∈ z_tbl := z_in (List.mem_append_right _ (List.mem_of_getElem? (i := 557) (by decide +kernel))) (by decide +kernel)
theorem kw_559 : (Jvm.Cond.instanceMethod ({ cls := "ClosureFrames$Act", name := "jumps", desc := "()Z" } : Jvm.MethodName)) ∈ z_tbl := z_in (List.mem_append_right _ (List.mem_of_getElem? (i := 559) (by decide +kernel))) (by decide +kernel)
theorem kw_560 : (Jvm.Cond.code ({ cls := "ClosureFrames$Act", name := "jumps", desc := "()Z" } : Jvm.MethodName) prog_2_method_4_code (1 : Nat) (Option.some Jvm.ClassFile.FieldType.boolean)) ∈ z_tbl := z_in (List.mem_append_right _ (List.mem_of_getElem? (i := 560) (by decide +kernel))) (by decide +kernel)
theorem kw_561 : (Jvm.Cond.methodLink "ClosureFrames$Computing" (123 : Nat) ({ cls := "ClosureFrames$Act", name := "firstTarget", desc := "()I" } : Jvm.MethodName)) ∈ z_tbl := z_in (List.mem_append_right _ (List.mem_of_getElem? (i := 561) (by decide +kernel))) (by decide +kernel)
theorem kw_562 : (Jvm.Cond.instanceMethod ({ cls := "ClosureFrames$Act", name := "firstTarget", desc := "()I" } : Jvm.MethodName)) ∈ z_tbl := z_in (List.mem_append_right _ (List.mem_of_getElem? (i := 562) (by decide +kernel))) (by decide +kernel)
theorem kw_563 : (Jvm.Cond.selects "ClosureFrames$Act" ({ cls := "ClosureFrames$Act", name := "firstTarget", desc := "()I" } : Jvm.MethodName) ({ cls := "ClosureFrames$Act", name := "firstTarget", desc := "()I" } : Jvm.MethodName)) ∈ z_tbl := z_in (List.mem_append_right _ (List.mem_of_getElem? (i := 563) (by decide +kernel))) (by decide +kernel)
theorem kw_564 : (Jvm.Cond.code ({ cls := "ClosureFrames$Act", name := "firstTarget", desc := "()I" } : Jvm.MethodName) prog_2_method_5_code (1 : Nat) (Option.some Jvm.ClassFile.FieldType.int)) ∈ z_tbl := z_in (List.mem_append_right _ (List.mem_of_getElem? (i := 564) (by decide +kernel))) (by decide +kernel)
theorem kw_565 : (Jvm.Cond.methodLink "ClosureFrames$Computing" (54 : Nat) ({ cls := "ClosureFrames$Method", name := "setFrames", desc := "()V" } : Jvm.MethodName)) ∈ z_tbl := z_in (List.mem_append_right _ (List.mem_of_getElem? (i := 565) (by decide +kernel))) (by decide +kernel)
theorem kw_566 : (Jvm.Cond.instanceMethod ({ cls := "ClosureFrames$Method", name := "setFrames", desc := "()V" } : Jvm.MethodName)) ∈ z_tbl := z_in (List.mem_append_right _ (List.mem_of_getElem? (i := 566) (by decide +kernel))) (by decide +kernel)
theorem kw_567 : (Jvm.Cond.selects "ClosureFrames$Method" ({ cls := "ClosureFrames$Method", name := "setFrames", desc := "()V" } : Jvm.MethodName) ({ cls := "ClosureFrames$Method", name := "setFrames", desc := "()V" } : Jvm.MethodName)) ∈ z_tbl := z_in (List.mem_append_right _ (List.mem_of_getElem? (i := 567) (by decide +kernel))) (by decide +kernel)
theorem kw_568 : (Jvm.Cond.code ({ cls := "ClosureFrames$Method", name := "setFrames", desc := "()V" } : Jvm.MethodName) prog_7_method_16_code (3 : Nat) (Option.none : Option Jvm.ClassFile.FieldType)) ∈ z_tbl := z_in (List.mem_append_right _ (List.mem_of_getElem? (i := 568) (by decide +kernel))) (by decide +kernel)
theorem kw_569 : (Jvm.Cond.methodLink "ClosureFrames$Method" (130 : Nat) ({ cls := "ClosureFrames$Method", name := "countSources", desc := "(I)I" } : Jvm.MethodName)) ∈ z_tbl := z_in (List.mem_append_right _ (List.mem_of_getElem? (i := 569) (by decide +kernel))) (by decide +kernel)
theorem kw_570 : (Jvm.Cond.instanceMethod ({ cls := "ClosureFrames$Method", name := "countSources", desc := "(I)I" } : Jvm.MethodName)) ∈ z_tbl := z_in (List.mem_append_right _ (List.mem_of_getElem? (i := 570) (by decide +kernel))) (by decide +kernel)
theorem kw_571 : (Jvm.Cond.selects "ClosureFrames$Method" ({ cls := "ClosureFrames$Method", name := "countSources", desc := "(I)I" } : Jvm.MethodName) ({ cls := "ClosureFrames$Method", name := "countSources", desc := "(I)I" } : Jvm.MethodName)) ∈ z_tbl := z_in (List.mem_append_right _ (List.mem_of_getElem? (i := 571) (by decide +kernel))) (by decide +kernel)
theorem kw_572 : (Jvm.Cond.code ({ cls := "ClosureFrames$Method", name := "countSources", desc := "(I)I" } : Jvm.MethodName) prog_7_method_15_code (4 : Nat) (Option.some Jvm.ClassFile.FieldType.int)) ∈ z_tbl := z_in (List.mem_append_right _ (List.mem_of_getElem? (i := 572) (by decide +kernel))) (by decide +kernel)
theorem kw_573 : (Jvm.Cond.methodLink "ClosureFrames$Method" (126 : Nat) ({ cls := "ClosureFrames$Method", name := "leads", desc := "(II)Z" } : Jvm.MethodName)) ∈ z_tbl := z_in (List.mem_append_right _ (List.mem_of_getElem? (i := 573) (by decide +kernel))) (by decide +kernel)
theorem kw_575 : (Jvm.Cond.instanceMethod ({ cls := "ClosureFrames$Method", name := "leads", desc := "(II)Z" } : Jvm.MethodName)) ∈ z_tbl := z_in (List.mem_append_right _ (List.mem_of_getElem? (i := 575) (by decide +kernel))) (by decide +kernel)
theorem kw_576 : (Jvm.Cond.code ({ cls := "ClosureFrames$Method", name := "leads", desc := "(II)Z" } : Jvm.MethodName) prog_7_method_14_code (6 : Nat) (Option.some Jvm.ClassFile.FieldType.boolean)) ∈ z_tbl := z_in (List.mem_append_right _ (List.mem_of_getElem? (i := 576) (by decide +kernel))) (by decide +kernel)
theorem kw_577 : (Jvm.Cond.methodLink "ClosureFrames$Method" (119 : Nat) ({ cls := "ClosureFrames$Act", name := "goesOnAt", desc := "(I)Z" } : Jvm.MethodName)) ∈ z_tbl := z_in (List.mem_append_right _ (List.mem_of_getElem? (i := 577) (by decide +kernel))) (by decide +kernel)
theorem kw_578 : (Jvm.Cond.instanceMethod ({ cls := "ClosureFrames$Act", name := "goesOnAt", desc := "(I)Z" } : Jvm.MethodName)) ∈ z_tbl := z_in (List.mem_append_right _ (List.mem_of_getElem? (i := 578) (by decide +kernel))) (by decide +kernel)
theorem kw_579 : (Jvm.Cond.selects "ClosureFrames$Act" ({ cls := "ClosureFrames$Act", name := "goesOnAt", desc := "(I)Z" } : Jvm.MethodName) ({ cls := "ClosureFrames$Act", name := "goesOnAt", desc := "(I)Z" } : Jvm.MethodName)) ∈ z_tbl := z_in (List.mem_append_right _ (List.mem_of_getElem? (i := 579) (by decide +kernel))) (by decide +kernel)
theorem kw_580 : (Jvm.Cond.code ({ cls := "ClosureFrames$Act", name := "goesOnAt", desc := "(I)Z" } : Jvm.MethodName) prog_2_method_7_code (2 : Nat) (Option.some Jvm.ClassFile.FieldType.boolean)) ∈ z_tbl := z_in (List.mem_append_right _ (List.mem_of_getElem? (i := 580) (by decide +kernel))) (by decide +kernel)
theorem kw_581 : (Jvm.Cond.methodLink "ClosureFrames$Act" (45 : Nat) ({ cls := "ClosureFrames$Act", name := "firstTarget", desc := "()I" } : Jvm.MethodName)) ∈ z_tbl := z_in (List.mem_append_right _ (List.mem_of_getElem? (i := 581) (by decide +kernel))) (by decide +kernel)
theorem kw_582 : (Jvm.Cond.methodLink "ClosureFrames$Act" (49 : Nat) ({ cls := "ClosureFrames$Act", name := "lastTarget", desc := "()I" } : Jvm.MethodName)) ∈ z_tbl := z_in (List.mem_append_right _ (List.mem_of_getElem? (i := 582) (by decide +kernel))) (by decide +kernel)
theorem kw_583 : (Jvm.Cond.methodLink "ClosureFrames$Method" (122 : Nat) ({ cls := "ClosureFrames$Method", name := "guardOver", desc := "(II)LClosureFrames$Guard;" } : Jvm.MethodName)) ∈ z_tbl := z_in (List.mem_append_right _ (List.mem_of_getElem? (i := 583) (by decide +kernel))) (by decide +kernel)
theorem kw_584 : (Jvm.Cond.methodLink "ClosureFrames$Method" (142 : Nat) ({ cls := "ClosureFrames$Snapshot", name := "become", desc := "(LClosureFrames$Snapshot;)V" } : Jvm.MethodName)) ∈ z_tbl := z_in (List.mem_append_right _ (List.mem_of_getElem? (i := 584) (by decide +kernel))) (by decide +kernel)
theorem kw_585 : (Jvm.Cond.methodLink "ClosureFrames" (107 : Nat) ({ cls := "ClosureFrames$Method", name := "frameCount", desc := "()I" } : Jvm.MethodName)) ∈ z_tbl := z_in (List.mem_append_right _ (List.mem_of_getElem? (i := 585) (by decide +kernel))) (by decide +kernel)
theorem kw_586 : (Jvm.Cond.instanceMethod ({ cls := "ClosureFrames$Method", name := "frameCount", desc := "()I" } : Jvm.MethodName)) ∈ z_tbl := z_in (List.mem_append_right _ (List.mem_of_getElem? (i := 586) (by decide +kernel))) (by decide +kernel)
theorem kw_587 : (Jvm.Cond.selects "ClosureFrames$Method" ({ cls := "ClosureFrames$Method", name := "frameCount", desc := "()I" } : Jvm.MethodName) ({ cls := "ClosureFrames$Method", name := "frameCount", desc := "()I" } : Jvm.MethodName)) ∈ z_tbl := z_in (List.mem_append_right _ (List.mem_of_getElem? (i := 587) (by decide +kernel))) (by decide +kernel)
theorem kw_588 : (Jvm.Cond.code ({ cls := "ClosureFrames$Method", name := "frameCount", desc := "()I" } : Jvm.MethodName) prog_7_method_17_code (4 : Nat) (Option.some Jvm.ClassFile.FieldType.int)) ∈ z_tbl := z_in (List.mem_append_right _ (List.mem_of_getElem? (i := 588) (by decide +kernel))) (by decide +kernel)
theorem kw_589 : (Jvm.Cond.methodLink "ClosureFramesLaw" (50 : Nat) ({ cls := "ClosureFrames", name := "fault", desc := "()I" } : Jvm.MethodName)) ∈ z_tbl := z_in (List.mem_append_right _ (List.mem_of_getElem? (i := 589) (by decide +kernel))) (by decide +kernel)
theorem kw_590 : (Jvm.Cond.instanceMethod ({ cls := "ClosureFrames", name := "fault", desc := "()I" } : Jvm.MethodName)) ∈ z_tbl := z_in (List.mem_append_right _ (List.mem_of_getElem? (i := 590) (by decide +kernel))) (by decide +kernel)
theorem kw_591 : (Jvm.Cond.selects "ClosureFrames" ({ cls := "ClosureFrames", name := "fault", desc := "()I" } : Jvm.MethodName) ({ cls := "ClosureFrames", name := "fault", desc := "()I" } : Jvm.MethodName)) ∈ z_tbl := z_in (List.mem_append_right _ (List.mem_of_getElem? (i := 591) (by decide +kernel))) (by decide +kernel)
theorem kw_592 : (Jvm.Cond.code ({ cls := "ClosureFrames", name := "fault", desc := "()I" } : Jvm.MethodName) prog_1_method_10_code (1 : Nat) (Option.some Jvm.ClassFile.FieldType.int)) ∈ z_tbl := z_in (List.mem_append_right _ (List.mem_of_getElem? (i := 592) (by decide +kernel))) (by decide +kernel)
theorem kw_593 : (Jvm.Cond.methodLink "ClosureFramesLaw" (55 : Nat) ({ cls := "ClosureFrames", name := "state", desc := "(III)I" } : Jvm.MethodName)) ∈ z_tbl := z_in (List.mem_append_right _ (List.mem_of_getElem? (i := 593) (by decide +kernel))) (by decide +kernel)
theorem kw_594 : (Jvm.Cond.instanceMethod ({ cls := "ClosureFrames", name := "state", desc := "(III)I" } : Jvm.MethodName)) ∈ z_tbl := z_in (List.mem_append_right _ (List.mem_of_getElem? (i := 594) (by decide +kernel))) (by decide +kernel)
theorem kw_595 : (Jvm.Cond.selects "ClosureFrames" ({ cls := "ClosureFrames", name := "state", desc := "(III)I" } : Jvm.MethodName) ({ cls := "ClosureFrames", name := "state", desc := "(III)I" } : Jvm.MethodName)) ∈ z_tbl := z_in (List.mem_append_right _ (List.mem_of_getElem? (i := 595) (by decide +kernel))) (by decide +kernel)
theorem kw_596 : (Jvm.Cond.code ({ cls := "ClosureFrames", name := "state", desc := "(III)I" } : Jvm.MethodName) prog_1_method_11_code (6 : Nat) (Option.some Jvm.ClassFile.FieldType.int)) ∈ z_tbl := z_in (List.mem_append_right _ (List.mem_of_getElem? (i := 596) (by decide +kernel))) (by decide +kernel)
theorem kw_597 : (Jvm.Cond.methodLink "ClosureFrames" (111 : Nat) ({ cls := "ClosureFrames$Method", name := "actAt", desc := "(I)LClosureFrames$Act;" } : Jvm.MethodName)) ∈ z_tbl := z_in (List.mem_append_right _ (List.mem_of_getElem? (i := 597) (by decide +kernel))) (by decide +kernel)
theorem kw_598 : (Jvm.Cond.methodLink "ClosureFrames" (118 : Nat) ({ cls := "ClosureFrames", name := "isOnStack", desc := "(I)Z" } : Jvm.MethodName)) ∈ z_tbl := z_in (List.mem_append_right _ (List.mem_of_getElem? (i := 598) (by decide +kernel))) (by decide +kernel)
theorem kw_599 : (Jvm.Cond.static ({ cls := "ClosureFrames", name := "isOnStack", desc := "(I)Z" } : Jvm.MethodName)) ∈ z_tbl := z_in (List.mem_append_right _ (List.mem_of_getElem? (i := 599) (by decide +kernel))) (by decide +kernel)
theorem kw_600 : (Jvm.Cond.code ({ cls := "ClosureFrames", name := "isOnStack", desc := "(I)Z" } : Jvm.MethodName) prog_1_method_26_code (1 : Nat) (Option.some Jvm.ClassFile.FieldType.boolean)) ∈ z_tbl := z_in (List.mem_append_right _ (List.mem_of_getElem? (i := 600) (by decide +kernel))) (by decide +kernel)
theorem kw_601 : (Jvm.Cond.methodLink "ClosureFrames" (134 : Nat) ({ cls := "ClosureFrames$Snapshot", name := "answer", desc := "(I)I" } : Jvm.MethodName)) ∈ z_tbl := z_in (List.mem_append_right _ (List.mem_of_getElem? (i := 601) (by decide +kernel))) (by decide +kernel)
theorem kw_602 : (Jvm.Cond.instanceMethod ({ cls := "ClosureFrames$Snapshot", name := "answer", desc := "(I)I" } : Jvm.MethodName)) ∈ z_tbl := z_in (List.mem_append_right _ (List.mem_of_getElem? (i := 602) (by decide +kernel))) (by decide +kernel)
theorem kw_603 : (Jvm.Cond.selects "ClosureFrames$Snapshot" ({ cls := "ClosureFrames$Snapshot", name := "answer", desc := "(I)I" } : Jvm.MethodName) ({ cls := "ClosureFrames$Snapshot", name := "answer", desc := "(I)I" } : Jvm.MethodName)) ∈ z_tbl := z_in (List.mem_append_right _ (List.mem_of_getElem? (i := 603) (by decide +kernel))) (by decide +kernel)
theorem kw_604 : (Jvm.Cond.code ({ cls := "ClosureFrames$Snapshot", name := "answer", desc := "(I)I" } : Jvm.MethodName) prog_8_method_17_code (3 : Nat) (Option.some Jvm.ClassFile.FieldType.int)) ∈ z_tbl := z_in (List.mem_append_right _ (List.mem_of_getElem? (i := 604) (by decide +kernel))) (by decide +kernel)
theorem kw_607 : (Jvm.Cond.methodLink "ClosureFramesLaw" (60 : Nat) ({ cls := "ClosureFrames", name := "frame", desc := "(III)I" } : Jvm.MethodName)) ∈ z_tbl := z_in (List.mem_append_right _ (List.mem_of_getElem? (i := 607) (by decide +kernel))) (by decide +kernel)
theorem kw_608 : (Jvm.Cond.instanceMethod ({ cls := "ClosureFrames", name := "frame", desc := "(III)I" } : Jvm.MethodName)) ∈ z_tbl := z_in (List.mem_append_right _ (List.mem_of_getElem? (i := 608) (by decide +kernel))) (by decide +kernel)
theorem kw_609 : (Jvm.Cond.selects "ClosureFrames" ({ cls := "ClosureFrames", name := "frame", desc := "(III)I" } : Jvm.MethodName) ({ cls := "ClosureFrames", name := "frame", desc := "(III)I" } : Jvm.MethodName)) ∈ z_tbl := z_in (List.mem_append_right _ (List.mem_of_getElem? (i := 609) (by decide +kernel))) (by decide +kernel)
theorem kw_610 : (Jvm.Cond.code ({ cls := "ClosureFrames", name := "frame", desc := "(III)I" } : Jvm.MethodName) prog_1_method_12_code (7 : Nat) (Option.some Jvm.ClassFile.FieldType.int)) ∈ z_tbl := z_in (List.mem_append_right _ (List.mem_of_getElem? (i := 610) (by decide +kernel))) (by decide +kernel)
theorem kw_611 : (Jvm.Cond.methodLink "ClosureFrames" (139 : Nat) ({ cls := "ClosureFrames$Method", name := "actOfFrame", desc := "(I)I" } : Jvm.MethodName)) ∈ z_tbl := z_in (List.mem_append_right _ (List.mem_of_getElem? (i := 611) (by decide +kernel))) (by decide +kernel)
theorem kw_612 : (Jvm.Cond.instanceMethod ({ cls := "ClosureFrames$Method", name := "actOfFrame", desc := "(I)I" } : Jvm.MethodName)) ∈ z_tbl := z_in (List.mem_append_right _ (List.mem_of_getElem? (i := 612) (by decide +kernel))) (by decide +kernel)
theorem kw_613 : (Jvm.Cond.selects "ClosureFrames$Method" ({ cls := "ClosureFrames$Method", name := "actOfFrame", desc := "(I)I" } : Jvm.MethodName) ({ cls := "ClosureFrames$Method", name := "actOfFrame", desc := "(I)I" } : Jvm.MethodName)) ∈ z_tbl := z_in (List.mem_append_right _ (List.mem_of_getElem? (i := 613) (by decide +kernel))) (by decide +kernel)
theorem kw_614 : (Jvm.Cond.code ({ cls := "ClosureFrames$Method", name := "actOfFrame", desc := "(I)I" } : Jvm.MethodName) prog_7_method_18_code (5 : Nat) (Option.some Jvm.ClassFile.FieldType.int)) ∈ z_tbl := z_in (List.mem_append_right _ (List.mem_of_getElem? (i := 614) (by decide +kernel))) (by decide +kernel)
theorem kw_615 : (Jvm.Cond.methodLink "ClosureFramesLaw" (64 : Nat) ({ cls := "ClosureFrames", name := "form", desc := "(II)I" } : Jvm.MethodName)) ∈ z_tbl := z_in (List.mem_append_right _ (List.mem_of_getElem? (i := 615) (by decide +kernel))) (by decide +kernel)
theorem kw_616 : (Jvm.Cond.instanceMethod ({ cls := "ClosureFrames", name := "form", desc := "(II)I" } : Jvm.MethodName)) ∈ z_tbl := z_in (List.mem_append_right _ (List.mem_of_getElem? (i := 616) (by decide +kernel))) (by decide +kernel)
theorem kw_617 : (Jvm.Cond.selects "ClosureFrames" ({ cls := "ClosureFrames", name := "form", desc := "(II)I" } : Jvm.MethodName) ({ cls := "ClosureFrames", name := "form", desc := "(II)I" } : Jvm.MethodName)) ∈ z_tbl := z_in (List.mem_append_right _ (List.mem_of_getElem? (i := 617) (by decide +kernel))) (by decide +kernel)
theorem kw_618 : (Jvm.Cond.code ({ cls := "ClosureFrames", name := "form", desc := "(II)I" } : Jvm.MethodName) prog_1_method_13_code (6 : Nat) (Option.some Jvm.ClassFile.FieldType.int)) ∈ z_tbl := z_in (List.mem_append_right _ (List.mem_of_getElem? (i := 618) (by decide +kernel))) (by decide +kernel)
theorem kw_619 : (Jvm.Cond.methodLink "ClosureFrames" (148 : Nat) ({ cls := "ClosureFrames$Snapshot", name := "formAgainst", desc := "(LClosureFrames$Snapshot;)I" } : Jvm.MethodName)) ∈ z_tbl := z_in (List.mem_append_right _ (List.mem_of_getElem? (i := 619) (by decide +kernel))) (by decide +kernel)
theorem kw_620 : (Jvm.Cond.instanceMethod ({ cls := "ClosureFrames$Snapshot", name := "formAgainst", desc := "(LClosureFrames$Snapshot;)I" } : Jvm.MethodName)) ∈ z_tbl := z_in (List.mem_append_right _ (List.mem_of_getElem? (i := 620) (by decide +kernel))) (by decide +kernel)
theorem kw_621 : (Jvm.Cond.selects "ClosureFrames$Snapshot" ({ cls := "ClosureFrames$Snapshot", name := "formAgainst", desc := "(LClosureFrames$Snapshot;)I" } : Jvm.MethodName) ({ cls := "ClosureFrames$Snapshot", name := "formAgainst", desc := "(LClosureFrames$Snapshot;)I" } : Jvm.MethodName)) ∈ z_tbl := z_in (List.mem_append_right _ (List.mem_of_getElem? (i := 621) (by decide +kernel))) (by decide +kernel)
theorem kw_622 : (Jvm.Cond.code ({ cls := "ClosureFrames$Snapshot", name := "formAgainst", desc := "(LClosureFrames$Snapshot;)I" } : Jvm.MethodName) prog_8_method_21_code (6 : Nat) (Option.some Jvm.ClassFile.FieldType.int)) ∈ z_tbl := z_in (List.mem_append_right _ (List.mem_of_getElem? (i := 622) (by decide +kernel))) (by decide +kernel)
theorem kw_623 : (Jvm.Cond.methodLink "ClosureFrames$Snapshot" (64 : Nat) ({ cls := "ClosureFrames$Snapshot", name := "end", desc := "()I" } : Jvm.MethodName)) ∈ z_tbl := z_in (List.mem_append_right _ (List.mem_of_getElem? (i := 623) (by decide +kernel))) (by decide +kernel)
theorem kw_625 : (Jvm.Cond.instanceMethod ({ cls := "ClosureFrames$Snapshot", name := "end", desc := "()I" } : Jvm.MethodName)) ∈ z_tbl := z_in (List.mem_append_right _ (List.mem_of_getElem? (i := 625) (by decide +kernel))) (by decide +kernel)
theorem kw_626 : (Jvm.Cond.code ({ cls := "ClosureFrames$Snapshot", name := "end", desc := "()I" } : Jvm.MethodName) prog_8_method_18_code (3 : Nat) (Option.some Jvm.ClassFile.FieldType.int)) ∈ z_tbl := z_in (List.mem_append_right _ (List.mem_of_getElem? (i := 626) (by decide +kernel))) (by decide +kernel)
theorem kw_627 : (Jvm.Cond.methodLink "ClosureFrames$Snapshot" (67 : Nat) ({ cls := "java/lang/Math", name := "min", desc := "(II)I" } : Jvm.MethodName)) ∈ z_tbl := z_in (List.mem_append_right _ (List.mem_of_getElem? (i := 627) (by decide +kernel))) (by decide +kernel)
theorem kw_628 : (Jvm.Cond.static ({ cls := "java/lang/Math", name := "min", desc := "(II)I" } : Jvm.MethodName)) ∈ z_tbl := z_in (List.mem_append_right _ (List.mem_of_getElem? (i := 628) (by decide +kernel))) (by decide +kernel)
theorem kw_629 : (Jvm.Cond.code ({ cls := "java/lang/Math", name := "min", desc := "(II)I" } : Jvm.MethodName) prog_12_method_69_code (2 : Nat) (Option.some Jvm.ClassFile.FieldType.int)) ∈ z_tbl := z_in (List.mem_append_right _ (List.mem_of_getElem? (i := 629) (by decide +kernel))) (by decide +kernel)
theorem kw_630 : (Jvm.Cond.methodLink "ClosureFrames$Snapshot" (73 : Nat) ({ cls := "ClosureFrames$Snapshot", name := "isLikeUpTo", desc := "(LClosureFrames$Snapshot;I)Z" } : Jvm.MethodName)) ∈ z_tbl := z_in (List.mem_append_right _ (List.mem_of_getElem? (i := 630) (by decide +kernel))) (by decide +kernel)
theorem kw_632 : (Jvm.Cond.instanceMethod ({ cls := "ClosureFrames$Snapshot", name := "isLikeUpTo", desc := "(LClosureFrames$Snapshot;I)Z" } : Jvm.MethodName)) ∈ z_tbl := z_in (List.mem_append_right _ (List.mem_of_getElem? (i := 632) (by decide +kernel))) (by decide +kernel)
theorem kw_633 : (Jvm.Cond.code ({ cls := "ClosureFrames$Snapshot", name := "isLikeUpTo", desc := "(LClosureFrames$Snapshot;I)Z" } : Jvm.MethodName) prog_8_method_19_code (4 : Nat) (Option.some Jvm.ClassFile.FieldType.boolean)) ∈ z_tbl := z_in (List.mem_append_right _ (List.mem_of_getElem? (i := 633) (by decide +kernel))) (by decide +kernel)
theorem kw_634 : (Jvm.Cond.methodLink "ClosureFrames$Snapshot" (77 : Nat) ({ cls := "ClosureFrames$Snapshot", name := "countTold", desc := "(II)I" } : Jvm.MethodName)) ∈ z_tbl := z_in (List.mem_append_right _ (List.mem_of_getElem? (i := 634) (by decide +kernel))) (by decide +kernel)
theorem kw_636 : (Jvm.Cond.instanceMethod ({ cls := "ClosureFrames$Snapshot", name := "countTold", desc := "(II)I" } : Jvm.MethodName)) ∈ z_tbl := z_in (List.mem_append_right _ (List.mem_of_getElem? (i := 636) (by decide +kernel))) (by decide +kernel)
theorem kw_637 : (Jvm.Cond.code ({ cls := "ClosureFrames$Snapshot", name := "countTold", desc := "(II)I" } : Jvm.MethodName) prog_8_method_20_code (5 : Nat) (Option.some Jvm.ClassFile.FieldType.int)) ∈ z_tbl := z_in (List.mem_append_right _ (List.mem_of_getElem? (i := 637) (by decide +kernel))) (by decide +kernel)
theorem kw_638 : (Jvm.Cond.methodLink "ClosureFramesLaw" (68 : Nat) ({ cls := "ClosureFrames", name := "shared", desc := "(II)I" } : Jvm.MethodName)) ∈ z_tbl := z_in (List.mem_append_right _ (List.mem_of_getElem? (i := 638) (by decide +kernel))) (by decide +kernel)
theorem kw_639 : (Jvm.Cond.instanceMethod ({ cls := "ClosureFrames", name := "shared", desc := "(II)I" } : Jvm.MethodName)) ∈ z_tbl := z_in (List.mem_append_right _ (List.mem_of_getElem? (i := 639) (by decide +kernel))) (by decide +kernel)
theorem kw_640 : (Jvm.Cond.selects "ClosureFrames" ({ cls := "ClosureFrames", name := "shared", desc := "(II)I" } : Jvm.MethodName) ({ cls := "ClosureFrames", name := "shared", desc := "(II)I" } : Jvm.MethodName)) ∈ z_tbl := z_in (List.mem_append_right _ (List.mem_of_getElem? (i := 640) (by decide +kernel))) (by decide +kernel)
theorem kw_641 : (Jvm.Cond.code ({ cls := "ClosureFrames", name := "shared", desc := "(II)I" } : Jvm.MethodName) prog_1_method_14_code (4 : Nat) (Option.some Jvm.ClassFile.FieldType.int)) ∈ z_tbl := z_in (List.mem_append_right _ (List.mem_of_getElem? (i := 641) (by decide +kernel))) (by decide +kernel)
theorem kw_642 : (Jvm.Cond.methodLink "ClosureFrames" (152 : Nat) ({ cls := "ClosureFrames$Method", name := "countSources", desc := "(I)I" } : Jvm.MethodName)) ∈ z_tbl := z_in (List.mem_append_right _ (List.mem_of_getElem? (i := 642) (by decide +kernel))) (by decide +kernel)
theorem kw_643 : (Jvm.Cond.methodLink "ClosureFramesLaw" (72 : Nat) ({ cls := "ClosureFrames", name := "maximum", desc := "(II)I" } : Jvm.MethodName)) ∈ z_tbl := z_in (List.mem_append_right _ (List.mem_of_getElem? (i := 643) (by decide +kernel))) (by decide +kernel)
theorem kw_644 : (Jvm.Cond.instanceMethod ({ cls := "ClosureFrames", name := "maximum", desc := "(II)I" } : Jvm.MethodName)) ∈ z_tbl := z_in (List.mem_append_right _ (List.mem_of_getElem? (i := 644) (by decide +kernel))) (by decide +kernel)
theorem kw_645 : (Jvm.Cond.selects "ClosureFrames" ({ cls := "ClosureFrames", name := "maximum", desc := "(II)I" } : Jvm.MethodName) ({ cls := "ClosureFrames", name := "maximum", desc := "(II)I" } : Jvm.MethodName)) ∈ z_tbl := z_in (List.mem_append_right _ (List.mem_of_getElem? (i := 645) (by decide +kernel))) (by decide +kernel)
theorem kw_646 : (Jvm.Cond.code ({ cls := "ClosureFrames", name := "maximum", desc := "(II)I" } : Jvm.MethodName) prog_1_method_15_code (4 : Nat) (Option.some Jvm.ClassFile.FieldType.int)) ∈ z_tbl := z_in (List.mem_append_right _ (List.mem_of_getElem? (i := 646) (by decide +kernel))) (by decide +kernel)
theorem kw_647 : (Jvm.Cond.methodLink "ClosureFramesLaw" (76 : Nat) ({ cls := "ClosureFrames", name := "plant", desc := "(IIII)I" } : Jvm.MethodName)) ∈ z_tbl := z_in (List.mem_append_right _ (List.mem_of_getElem? (i := 647) (by decide +kernel))) (by decide +kernel)
theorem kw_648 : (Jvm.Cond.instanceMethod ({ cls := "ClosureFrames", name := "plant", desc := "(IIII)I" } : Jvm.MethodName)) ∈ z_tbl := z_in (List.mem_append_right _ (List.mem_of_getElem? (i := 648) (by decide +kernel))) (by decide +kernel)
theorem kw_649 : (Jvm.Cond.selects "ClosureFrames" ({ cls := "ClosureFrames", name := "plant", desc := "(IIII)I" } : Jvm.MethodName) ({ cls := "ClosureFrames", name := "plant", desc := "(IIII)I" } : Jvm.MethodName)) ∈ z_tbl := z_in (List.mem_append_right _ (List.mem_of_getElem? (i := 649) (by decide +kernel))) (by decide +kernel)
theorem kw_650 : (Jvm.Cond.code ({ cls := "ClosureFrames", name := "plant", desc := "(IIII)I" } : Jvm.MethodName) prog_1_method_16_code (8 : Nat) (Option.some Jvm.ClassFile.FieldType.int)) ∈ z_tbl := z_in (List.mem_append_right _ (List.mem_of_getElem? (i := 650) (by decide +kernel))) (by decide +kernel)
theorem kw_651 : (Jvm.Cond.methodLink "ClosureFrames" (161 : Nat) ({ cls := "ClosureFrames", name := "plantPlace", desc := "(LClosureFrames$Method;LClosureFrames$Snapshot;II)I" } : Jvm.MethodName)) ∈ z_tbl := z_in (List.mem_append_right _ (List.mem_of_getElem? (i := 651) (by decide +kernel))) (by decide +kernel)
theorem kw_652 : (Jvm.Cond.static ({ cls := "ClosureFrames", name := "plantPlace", desc := "(LClosureFrames$Method;LClosureFrames$Snapshot;II)I" } : Jvm.MethodName)) ∈ z_tbl := z_in (List.mem_append_right _ (List.mem_of_getElem? (i := 652) (by decide +kernel))) (by decide +kernel)
theorem kw_653 : (Jvm.Cond.code ({ cls := "ClosureFrames", name := "plantPlace", desc := "(LClosureFrames$Method;LClosureFrames$Snapshot;II)I" } : Jvm.MethodName) prog_1_method_29_code (5 : Nat) (Option.some Jvm.ClassFile.FieldType.int)) ∈ z_tbl := z_in (List.mem_append_right _ (List.mem_of_getElem? (i := 653) (by decide +kernel))) (by decide +kernel)
theorem kw_654 : (Jvm.Cond.methodLink "ClosureFrames" (195 : Nat) ({ cls := "ClosureFrames$Snapshot", name := "inPlace", desc := "(I)I" } : Jvm.MethodName)) ∈ z_tbl := z_in (List.mem_append_right _ (List.mem_of_getElem? (i := 654) (by decide +kernel))) (by decide +kernel)
theorem kw_655 : (Jvm.Cond.methodLink "ClosureFrames" (198 : Nat) ({ cls := "ClosureFrames$Snapshot", name := "setPlace", desc := "(II)V" } : Jvm.MethodName)) ∈ z_tbl := z_in (List.mem_append_right _ (List.mem_of_getElem? (i := 655) (by decide +kernel))) (by decide +kernel)
theorem kw_656 : (Jvm.Cond.methodLink "ClosureFrames" (165 : Nat) ({ cls := "ClosureFrames", name := "plantStack", desc := "(LClosureFrames$Snapshot;II)I" } : Jvm.MethodName)) ∈ z_tbl := z_in (List.mem_append_right _ (List.mem_of_getElem? (i := 656) (by decide +kernel))) (by decide +kernel)
theorem kw_657 : (Jvm.Cond.static ({ cls := "ClosureFrames", name := "plantStack", desc := "(LClosureFrames$Snapshot;II)I" } : Jvm.MethodName)) ∈ z_tbl := z_in (List.mem_append_right _ (List.mem_of_getElem? (i := 657) (by decide +kernel))) (by decide +kernel)
theorem kw_658 : (Jvm.Cond.code ({ cls := "ClosureFrames", name := "plantStack", desc := "(LClosureFrames$Snapshot;II)I" } : Jvm.MethodName) prog_1_method_30_code (4 : Nat) (Option.some Jvm.ClassFile.FieldType.int)) ∈ z_tbl := z_in (List.mem_append_right _ (List.mem_of_getElem? (i := 658) (by decide +kernel))) (by decide +kernel)
theorem kw_659 : (Jvm.Cond.methodLink "ClosureFrames" (202 : Nat) ({ cls := "ClosureFrames$Snapshot", name := "onStack", desc := "(I)I" } : Jvm.MethodName)) ∈ z_tbl := z_in (List.mem_append_right _ (List.mem_of_getElem? (i := 659) (by decide +kernel))) (by decide +kernel)
theorem kw_660 : (Jvm.Cond.methodLink "ClosureFrames" (205 : Nat) ({ cls := "ClosureFrames$Snapshot", name := "setStack", desc := "(II)V" } : Jvm.MethodName)) ∈ z_tbl := z_in (List.mem_append_right _ (List.mem_of_getElem? (i := 660) (by decide +kernel))) (by decide +kernel)
theorem kw_661 : (Jvm.Cond.methodLink "ClosureFramesLaw" (80 : Nat) ({ cls := "ClosureFrames", name := "verify", desc := "(I)I" } : Jvm.MethodName)) ∈ z_tbl := z_in (List.mem_append_right _ (List.mem_of_getElem? (i := 661) (by decide +kernel))) (by decide +kernel)
theorem kw_662 : (Jvm.Cond.instanceMethod ({ cls := "ClosureFrames", name := "verify", desc := "(I)I" } : Jvm.MethodName)) ∈ z_tbl := z_in (List.mem_append_right _ (List.mem_of_getElem? (i := 662) (by decide +kernel))) (by decide +kernel)
theorem kw_663 : (Jvm.Cond.selects "ClosureFrames" ({ cls := "ClosureFrames", name := "verify", desc := "(I)I" } : Jvm.MethodName) ({ cls := "ClosureFrames", name := "verify", desc := "(I)I" } : Jvm.MethodName)) ∈ z_tbl := z_in (List.mem_append_right _ (List.mem_of_getElem? (i := 663) (by decide +kernel))) (by decide +kernel)
theorem kw_664 : (Jvm.Cond.code ({ cls := "ClosureFrames", name := "verify", desc := "(I)I" } : Jvm.MethodName) prog_1_method_17_code (4 : Nat) (Option.some Jvm.ClassFile.FieldType.int)) ∈ z_tbl := z_in (List.mem_append_right _ (List.mem_of_getElem? (i := 664) (by decide +kernel))) (by decide +kernel)
theorem kw_665 : (Jvm.Cond.methodLink "ClosureFrames" (169 : Nat) ({ cls := "ClosureFrames$Looking", name := "run", desc := "(LClosureFrames$Method;)I" } : Jvm.MethodName)) ∈ z_tbl := z_in (List.mem_append_right _ (List.mem_of_getElem? (i := 665) (by decide +kernel))) (by decide +kernel)
theorem kw_666 : (Jvm.Cond.instanceMethod ({ cls := "ClosureFrames$Looking", name := "run", desc := "(LClosureFrames$Method;)I" } : Jvm.MethodName)) ∈ z_tbl := z_in (List.mem_append_right _ (List.mem_of_getElem? (i := 666) (by decide +kernel))) (by decide +kernel)
theorem kw_667 : (Jvm.Cond.selects "ClosureFrames$Looking" ({ cls := "ClosureFrames$Looking", name := "run", desc := "(LClosureFrames$Method;)I" } : Jvm.MethodName) ({ cls := "ClosureFrames$Looking", name := "run", desc := "(LClosureFrames$Method;)I" } : Jvm.MethodName)) ∈ z_tbl := z_in (List.mem_append_right _ (List.mem_of_getElem? (i := 667) (by decide +kernel))) (by decide +kernel)
theorem kw_668 : (Jvm.Cond.code ({ cls := "ClosureFrames$Looking", name := "run", desc := "(LClosureFrames$Method;)I" } : Jvm.MethodName) prog_6_method_2_code (3 : Nat) (Option.some Jvm.ClassFile.FieldType.int)) ∈ z_tbl := z_in (List.mem_append_right _ (List.mem_of_getElem? (i := 668) (by decide +kernel))) (by decide +kernel)
theorem kw_669 : (Jvm.Cond.methodLink "ClosureFrames$Looking" (42 : Nat) ({ cls := "ClosureFrames$Snapshot", name := "become", desc := "(LClosureFrames$Snapshot;)V" } : Jvm.MethodName)) ∈ z_tbl := z_in (List.mem_append_right _ (List.mem_of_getElem? (i := 669) (by decide +kernel))) (by decide +kernel)
theorem kw_670 : (Jvm.Cond.methodLink "ClosureFrames$Looking" (49 : Nat) ({ cls := "ClosureFrames$Looking", name := "lookAt", desc := "(LClosureFrames$Method;I)I" } : Jvm.MethodName)) ∈ z_tbl := z_in (List.mem_append_right _ (List.mem_of_getElem? (i := 670) (by decide +kernel))) (by decide +kernel)
theorem kw_672 : (Jvm.Cond.instanceMethod ({ cls := "ClosureFrames$Looking", name := "lookAt", desc := "(LClosureFrames$Method;I)I" } : Jvm.MethodName)) ∈ z_tbl := z_in (List.mem_append_right _ (List.mem_of_getElem? (i := 672) (by decide +kernel))) (by decide +kernel)
theorem kw_673 : (Jvm.Cond.code ({ cls := "ClosureFrames$Looking", name := "lookAt", desc := "(LClosureFrames$Method;I)I" } : Jvm.MethodName) prog_6_method_3_code (5 : Nat) (Option.some Jvm.ClassFile.FieldType.int)) ∈ z_tbl := z_in (List.mem_append_right _ (List.mem_of_getElem? (i := 673) (by decide +kernel))) (by decide +kernel)
theorem kw_674 : (Jvm.Cond.methodLink "ClosureFrames$Looking" (53 : Nat) ({ cls := "ClosureFrames$Method", name := "actAt", desc := "(I)LClosureFrames$Act;" } : Jvm.MethodName)) ∈ z_tbl := z_in (List.mem_append_right _ (List.mem_of_getElem? (i := 674) (by decide +kernel))) (by decide +kernel)
theorem kw_675 : (Jvm.Cond.methodLink "ClosureFrames$Looking" (57 : Nat) ({ cls := "ClosureFrames$Looking", name := "takeFrame", desc := "(LClosureFrames$Act;)I" } : Jvm.MethodName)) ∈ z_tbl := z_in (List.mem_append_right _ (List.mem_of_getElem? (i := 675) (by decide +kernel))) (by decide +kernel)
theorem kw_677 : (Jvm.Cond.instanceMethod ({ cls := "ClosureFrames$Looking", name := "takeFrame", desc := "(LClosureFrames$Act;)I" } : Jvm.MethodName)) ∈ z_tbl := z_in (List.mem_append_right _ (List.mem_of_getElem? (i := 677) (by decide +kernel))) (by decide +kernel)
theorem kw_678 : (Jvm.Cond.code ({ cls := "ClosureFrames$Looking", name := "takeFrame", desc := "(LClosureFrames$Act;)I" } : Jvm.MethodName) prog_6_method_4_code (2 : Nat) (Option.some Jvm.ClassFile.FieldType.int)) ∈ z_tbl := z_in (List.mem_append_right _ (List.mem_of_getElem? (i := 678) (by decide +kernel))) (by decide +kernel)
theorem kw_679 : (Jvm.Cond.methodLink "ClosureFrames$Looking" (86 : Nat) ({ cls := "ClosureFrames$ClassTree", name := "fitsAll", desc := "(LClosureFrames$Snapshot;LClosureFrames$Snapshot;)Z" } : Jvm.MethodName)) ∈ z_tbl := z_in (List.mem_append_right _ (List.mem_of_getElem? (i := 679) (by decide +kernel))) (by decide +kernel)
theorem kw_680 : (Jvm.Cond.instanceMethod ({ cls := "ClosureFrames$ClassTree", name := "fitsAll", desc := "(LClosureFrames$Snapshot;LClosureFrames$Snapshot;)Z" } : Jvm.MethodName)) ∈ z_tbl := z_in (List.mem_append_right _ (List.mem_of_getElem? (i := 680) (by decide +kernel))) (by decide +kernel)
theorem kw_681 : (Jvm.Cond.selects "ClosureFrames$ClassTree" ({ cls := "ClosureFrames$ClassTree", name := "fitsAll", desc := "(LClosureFrames$Snapshot;LClosureFrames$Snapshot;)Z" } : Jvm.MethodName) ({ cls := "ClosureFrames$ClassTree", name := "fitsAll", desc := "(LClosureFrames$Snapshot;LClosureFrames$Snapshot;)Z" } : Jvm.MethodName)) ∈ z_tbl := z_in (List.mem_append_right _ (List.mem_of_getElem? (i := 681) (by decide +kernel))) (by decide +kernel)
theorem kw_682 : (Jvm.Cond.code ({ cls := "ClosureFrames$ClassTree", name := "fitsAll", desc := "(LClosureFrames$Snapshot;LClosureFrames$Snapshot;)Z" } : Jvm.MethodName) prog_3_method_11_code (4 : Nat) (Option.some Jvm.ClassFile.FieldType.boolean)) ∈ z_tbl := z_in (List.mem_append_right _ (List.mem_of_getElem? (i := 682) (by decide +kernel))) (by decide +kernel)
theorem kw_683 : (Jvm.Cond.methodLink "ClosureFrames$ClassTree" (43 : Nat) ({ cls := "ClosureFrames$Snapshot", name := "inPlace", desc := "(I)I" } : Jvm.MethodName)) ∈ z_tbl := z_in (List.mem_append_right _ (List.mem_of_getElem? (i := 683) (by decide +kernel))) (by decide +kernel)
theorem kw_684 : (Jvm.Cond.methodLink "ClosureFrames$ClassTree" (47 : Nat) ({ cls := "ClosureFrames$ClassTree", name := "fitsType", desc := "(II)Z" } : Jvm.MethodName)) ∈ z_tbl := z_in (List.mem_append_right _ (List.mem_of_getElem? (i := 684) (by decide +kernel))) (by decide +kernel)
theorem kw_685 : (Jvm.Cond.instanceMethod ({ cls := "ClosureFrames$ClassTree", name := "fitsType", desc := "(II)Z" } : Jvm.MethodName)) ∈ z_tbl := z_in (List.mem_append_right _ (List.mem_of_getElem? (i := 685) (by decide +kernel))) (by decide +kernel)
theorem kw_686 : (Jvm.Cond.selects "ClosureFrames$ClassTree" ({ cls := "ClosureFrames$ClassTree", name := "fitsType", desc := "(II)Z" } : Jvm.MethodName) ({ cls := "ClosureFrames$ClassTree", name := "fitsType", desc := "(II)Z" } : Jvm.MethodName)) ∈ z_tbl := z_in (List.mem_append_right _ (List.mem_of_getElem? (i := 686) (by decide +kernel))) (by decide +kernel)
theorem kw_687 : (Jvm.Cond.code ({ cls := "ClosureFrames$ClassTree", name := "fitsType", desc := "(II)Z" } : Jvm.MethodName) prog_3_method_10_code (3 : Nat) (Option.some Jvm.ClassFile.FieldType.boolean)) ∈ z_tbl := z_in (List.mem_append_right _ (List.mem_of_getElem? (i := 687) (by decide +kernel))) (by decide +kernel)
theorem kw_688 : (Jvm.Cond.methodLink "ClosureFrames$ClassTree" (50 : Nat) ({ cls := "ClosureFrames$Snapshot", name := "onStack", desc := "(I)I" } : Jvm.MethodName)) ∈ z_tbl := z_in (List.mem_append_right _ (List.mem_of_getElem? (i := 688) (by decide +kernel))) (by decide +kernel)
theorem kw_689 : (Jvm.Cond.methodLink "ClosureFrames$Looking" (61 : Nat) ({ cls := "ClosureFrames$Looking", name := "lookAtGuards", desc := "(LClosureFrames$Method;I)I" } : Jvm.MethodName)) ∈ z_tbl := z_in (List.mem_append_right _ (List.mem_of_getElem? (i := 689) (by decide +kernel))) (by decide +kernel)
theorem kw_691 : (Jvm.Cond.instanceMethod ({ cls := "ClosureFrames$Looking", name := "lookAtGuards", desc := "(LClosureFrames$Method;I)I" } : Jvm.MethodName)) ∈ z_tbl := z_in (List.mem_append_right _ (List.mem_of_getElem? (i := 691) (by decide +kernel))) (by decide +kernel)
theorem kw_692 : (Jvm.Cond.code ({ cls := "ClosureFrames$Looking", name := "lookAtGuards", desc := "(LClosureFrames$Method;I)I" } : Jvm.MethodName) prog_6_method_5_code (6 : Nat) (Option.some Jvm.ClassFile.FieldType.int)) ∈ z_tbl := z_in (List.mem_append_right _ (List.mem_of_getElem? (i := 692) (by decide +kernel))) (by decide +kernel)
theorem kw_693 : (Jvm.Cond.methodLink "ClosureFrames$Looking" (95 : Nat) ({ cls := "ClosureFrames$Method", name := "guardOver", desc := "(II)LClosureFrames$Guard;" } : Jvm.MethodName)) ∈ z_tbl := z_in (List.mem_append_right _ (List.mem_of_getElem? (i := 693) (by decide +kernel))) (by decide +kernel)
theorem kw_694 : (Jvm.Cond.methodLink "ClosureFrames$Looking" (104 : Nat) ({ cls := "ClosureFrames$Snapshot", name := "becomeCaught", desc := "(LClosureFrames$Snapshot;I)V" } : Jvm.MethodName)) ∈ z_tbl := z_in (List.mem_append_right _ (List.mem_of_getElem? (i := 694) (by decide +kernel))) (by decide +kernel)
theorem kw_695 : (Jvm.Cond.methodLink "ClosureFrames$Looking" (111 : Nat) ({ cls := "ClosureFrames$Looking", name := "meet", desc := "(LClosureFrames$Act;LClosureFrames$Snapshot;)I" } : Jvm.MethodName)) ∈ z_tbl := z_in (List.mem_append_right _ (List.mem_of_getElem? (i := 695) (by decide +kernel))) (by decide +kernel)
theorem kw_697 : (Jvm.Cond.instanceMethod ({ cls := "ClosureFrames$Looking", name := "meet", desc := "(LClosureFrames$Act;LClosureFrames$Snapshot;)I" } : Jvm.MethodName)) ∈ z_tbl := z_in (List.mem_append_right _ (List.mem_of_getElem? (i := 697) (by decide +kernel))) (by decide +kernel)
theorem kw_698 : (Jvm.Cond.code ({ cls := "ClosureFrames$Looking", name := "meet", desc := "(LClosureFrames$Act;LClosureFrames$Snapshot;)I" } : Jvm.MethodName) prog_6_method_7_code (3 : Nat) (Option.some Jvm.ClassFile.FieldType.int)) ∈ z_tbl := z_in (List.mem_append_right _ (List.mem_of_getElem? (i := 698) (by decide +kernel))) (by decide +kernel)
theorem kw_699 : (Jvm.Cond.methodLink "ClosureFrames$Looking" (64 : Nat) ({ cls := "ClosureFrames$Worker", name := "perform", desc := "(LClosureFrames$Method;ILClosureFrames$Act;LClosureFrames$Snapshot;)I" } : Jvm.MethodName)) ∈ z_tbl := z_in (List.mem_append_right _ (List.mem_of_getElem? (i := 699) (by decide +kernel))) (by decide +kernel)
theorem kw_700 : (Jvm.Cond.methodLink "ClosureFrames$Looking" (70 : Nat) ({ cls := "ClosureFrames$Looking", name := "lookAtTargets", desc := "(LClosureFrames$Method;ILClosureFrames$Act;)I" } : Jvm.MethodName)) ∈ z_tbl := z_in (List.mem_append_right _ (List.mem_of_getElem? (i := 700) (by decide +kernel))) (by decide +kernel)
theorem kw_702 : (Jvm.Cond.instanceMethod ({ cls := "ClosureFrames$Looking", name := "lookAtTargets", desc := "(LClosureFrames$Method;ILClosureFrames$Act;)I" } : Jvm.MethodName)) ∈ z_tbl := z_in (List.mem_append_right _ (List.mem_of_getElem? (i := 702) (by decide +kernel))) (by decide +kernel)
theorem kw_703 : (Jvm.Cond.code ({ cls := "ClosureFrames$Looking", name := "lookAtTargets", desc := "(LClosureFrames$Method;ILClosureFrames$Act;)I" } : Jvm.MethodName) prog_6_method_6_code (8 : Nat) (Option.some Jvm.ClassFile.FieldType.int)) ∈ z_tbl := z_in (List.mem_append_right _ (List.mem_of_getElem? (i := 703) (by decide +kernel))) (by decide +kernel)
theorem kw_704 : (Jvm.Cond.methodLink "ClosureFrames$Looking" (115 : Nat) ({ cls := "ClosureFrames$Act", name := "lastTarget", desc := "()I" } : Jvm.MethodName)) ∈ z_tbl := z_in (List.mem_append_right _ (List.mem_of_getElem? (i := 704) (by decide +kernel))) (by decide +kernel)
theorem kw_705 : (Jvm.Cond.methodLink "ClosureFrames$Looking" (119 : Nat) ({ cls := "ClosureFrames$Act", name := "firstTarget", desc := "()I" } : Jvm.MethodName)) ∈ z_tbl := z_in (List.mem_append_right _ (List.mem_of_getElem? (i := 705) (by decide +kernel))) (by decide +kernel)
theorem kw_706 : (Jvm.Cond.methodLink "ClosureFrames$Looking" (122 : Nat) ({ cls := "ClosureFrames$Snapshot", name := "hasUnmade", desc := "()Z" } : Jvm.MethodName)) ∈ z_tbl := z_in (List.mem_append_right _ (List.mem_of_getElem? (i := 706) (by decide +kernel))) (by decide +kernel)
theorem kw_707 : (Jvm.Cond.methodLink "ClosureFrames$Looking" (74 : Nat) ({ cls := "ClosureFrames$Act", name := "goesToNext", desc := "()Z" } : Jvm.MethodName)) ∈ z_tbl := z_in (List.mem_append_right _ (List.mem_of_getElem? (i := 707) (by decide +kernel))) (by decide +kernel)
theorem kw_708 : (Jvm.Cond.methodLink "ClosureFramesLaw" (84 : Nat) ({ cls := "ClosureFrames", name := "told", desc := "(I)I" } : Jvm.MethodName)) ∈ z_tbl := z_in (List.mem_append_right _ (List.mem_of_getElem? (i := 708) (by decide +kernel))) (by decide +kernel)
theorem kw_709 : (Jvm.Cond.instanceMethod ({ cls := "ClosureFrames", name := "told", desc := "(I)I" } : Jvm.MethodName)) ∈ z_tbl := z_in (List.mem_append_right _ (List.mem_of_getElem? (i := 709) (by decide +kernel))) (by decide +kernel)
theorem kw_710 : (Jvm.Cond.selects "ClosureFrames" ({ cls := "ClosureFrames", name := "told", desc := "(I)I" } : Jvm.MethodName) ({ cls := "ClosureFrames", name := "told", desc := "(I)I" } : Jvm.MethodName)) ∈ z_tbl := z_in (List.mem_append_right _ (List.mem_of_getElem? (i := 710) (by decide +kernel))) (by decide +kernel)
theorem kw_711 : (Jvm.Cond.code ({ cls := "ClosureFrames", name := "told", desc := "(I)I" } : Jvm.MethodName) prog_1_method_18_code (2 : Nat) (Option.some Jvm.ClassFile.FieldType.int)) ∈ z_tbl := z_in (List.mem_append_right _ (List.mem_of_getElem? (i := 711) (by decide +kernel))) (by decide +kernel)
theorem kw_712 : (Jvm.Cond.methodLink "ClosureFrames" (174 : Nat) ({ cls := "ClosureFrames", name := "isAskedFrom", desc := "(II)Z" } : Jvm.MethodName)) ∈ z_tbl := z_in (List.mem_append_right _ (List.mem_of_getElem? (i := 712) (by decide +kernel))) (by decide +kernel)
theorem kw_713 : (Jvm.Cond.static ({ cls := "ClosureFrames", name := "isAskedFrom", desc := "(II)Z" } : Jvm.MethodName)) ∈ z_tbl := z_in (List.mem_append_right _ (List.mem_of_getElem? (i := 713) (by decide +kernel))) (by decide +kernel)
theorem kw_714 : (Jvm.Cond.code ({ cls := "ClosureFrames", name := "isAskedFrom", desc := "(II)Z" } : Jvm.MethodName) prog_1_method_19_code (2 : Nat) (Option.some Jvm.ClassFile.FieldType.boolean)) ∈ z_tbl := z_in (List.mem_append_right _ (List.mem_of_getElem? (i := 714) (by decide +kernel))) (by decide +kernel)
theorem kw_715 : (Jvm.Cond.methodLink "ClosureFrames" (177 : Nat) ({ cls := "ClosureFrames", name := "toldActs", desc := "(I)I" } : Jvm.MethodName)) ∈ z_tbl := z_in (List.mem_append_right _ (List.mem_of_getElem? (i := 715) (by decide +kernel))) (by decide +kernel)
theorem kw_717 : (Jvm.Cond.instanceMethod ({ cls := "ClosureFrames", name := "toldActs", desc := "(I)I" } : Jvm.MethodName)) ∈ z_tbl := z_in (List.mem_append_right _ (List.mem_of_getElem? (i := 717) (by decide +kernel))) (by decide +kernel)
theorem kw_718 : (Jvm.Cond.code ({ cls := "ClosureFrames", name := "toldActs", desc := "(I)I" } : Jvm.MethodName) prog_1_method_20_code (3 : Nat) (Option.some Jvm.ClassFile.FieldType.int)) ∈ z_tbl := z_in (List.mem_append_right _ (List.mem_of_getElem? (i := 718) (by decide +kernel))) (by decide +kernel)
theorem kw_719 : (Jvm.Cond.methodLink "ClosureFrames" (180 : Nat) ({ cls := "ClosureFrames", name := "toldGuards", desc := "(I)I" } : Jvm.MethodName)) ∈ z_tbl := z_in (List.mem_append_right _ (List.mem_of_getElem? (i := 719) (by decide +kernel))) (by decide +kernel)
theorem kw_721 : (Jvm.Cond.instanceMethod ({ cls := "ClosureFrames", name := "toldGuards", desc := "(I)I" } : Jvm.MethodName)) ∈ z_tbl := z_in (List.mem_append_right _ (List.mem_of_getElem? (i := 721) (by decide +kernel))) (by decide +kernel)
theorem kw_722 : (Jvm.Cond.code ({ cls := "ClosureFrames", name := "toldGuards", desc := "(I)I" } : Jvm.MethodName) prog_1_method_21_code (3 : Nat) (Option.some Jvm.ClassFile.FieldType.int)) ∈ z_tbl := z_in (List.mem_append_right _ (List.mem_of_getElem? (i := 722) (by decide +kernel))) (by decide +kernel)
theorem kw_723 : (Jvm.Cond.methodLink "ClosureFrames" (183 : Nat) ({ cls := "ClosureFrames", name := "toldPlaces", desc := "(I)I" } : Jvm.MethodName)) ∈ z_tbl := z_in (List.mem_append_right _ (List.mem_of_getElem? (i := 723) (by decide +kernel))) (by decide +kernel)
theorem kw_725 : (Jvm.Cond.instanceMethod ({ cls := "ClosureFrames", name := "toldPlaces", desc := "(I)I" } : Jvm.MethodName)) ∈ z_tbl := z_in (List.mem_append_right _ (List.mem_of_getElem? (i := 725) (by decide +kernel))) (by decide +kernel)
theorem kw_726 : (Jvm.Cond.code ({ cls := "ClosureFrames", name := "toldPlaces", desc := "(I)I" } : Jvm.MethodName) prog_1_method_22_code (3 : Nat) (Option.some Jvm.ClassFile.FieldType.int)) ∈ z_tbl := z_in (List.mem_append_right _ (List.mem_of_getElem? (i := 726) (by decide +kernel))) (by decide +kernel)
theorem kw_727 : (Jvm.Cond.methodLink "ClosureFrames" (186 : Nat) ({ cls := "ClosureFrames", name := "toldFrames", desc := "(I)I" } : Jvm.MethodName)) ∈ z_tbl := z_in (List.mem_append_right _ (List.mem_of_getElem? (i := 727) (by decide +kernel))) (by decide +kernel)
theorem kw_729 : (Jvm.Cond.instanceMethod ({ cls := "ClosureFrames", name := "toldFrames", desc := "(I)I" } : Jvm.MethodName)) ∈ z_tbl := z_in (List.mem_append_right _ (List.mem_of_getElem? (i := 729) (by decide +kernel))) (by decide +kernel)
theorem kw_730 : (Jvm.Cond.code ({ cls := "ClosureFrames", name := "toldFrames", desc := "(I)I" } : Jvm.MethodName) prog_1_method_23_code (3 : Nat) (Option.some Jvm.ClassFile.FieldType.int)) ∈ z_tbl := z_in (List.mem_append_right _ (List.mem_of_getElem? (i := 730) (by decide +kernel))) (by decide +kernel)
theorem kw_731 : (Jvm.Cond.classLink "ClosureFramesLaw" (10 : Nat) "ClosureFramesModel") ∈ z_tbl := z_in (List.mem_append_right _ (List.mem_of_getElem? (i := 731) (by decide +kernel))) (by decide +kernel)
theorem kw_732 : (Jvm.Cond.instantiable "ClosureFramesModel" (29 : Nat)) ∈ z_tbl := z_in (List.mem_append_right _ (List.mem_of_getElem? (i := 732) (by decide +kernel))) (by decide +kernel)
theorem kw_733 : (Jvm.Cond.methodLink "ClosureFramesLaw" (12 : Nat) ({ cls := "ClosureFramesModel", name := "<init>", desc := "()V" } : Jvm.MethodName)) ∈ z_tbl := z_in (List.mem_append_right _ (List.mem_of_getElem? (i := 733) (by decide +kernel))) (by decide +kernel)
theorem kw_734 : (Jvm.Cond.instanceMethod ({ cls := "ClosureFramesModel", name := "<init>", desc := "()V" } : Jvm.MethodName)) ∈ z_tbl := z_in (List.mem_append_right _ (List.mem_of_getElem? (i := 734) (by decide +kernel))) (by decide +kernel)
theorem kw_735 : (Jvm.Cond.code ({ cls := "ClosureFramesModel", name := "<init>", desc := "()V" } : Jvm.MethodName) prog_11_method_1_code (1 : Nat) (Option.none : Option Jvm.ClassFile.FieldType)) ∈ z_tbl := z_in (List.mem_append_right _ (List.mem_of_getElem? (i := 735) (by decide +kernel))) (by decide +kernel)
theorem kw_736 : (Jvm.Cond.methodLink "ClosureFramesModel" (1 : Nat) ({ cls := "java/lang/Object", name := "<init>", desc := "()V" } : Jvm.MethodName)) ∈ z_tbl := z_in (List.mem_append_right _ (List.mem_of_getElem? (i := 736) (by decide +kernel))) (by decide +kernel)
theorem kw_737 : (Jvm.Cond.fieldLink "ClosureFramesModel" (7 : Nat) "ClosureFramesModel" "classes" "I") ∈ z_tbl := z_in (List.mem_append_right _ (List.mem_of_getElem? (i := 737) (by decide +kernel))) (by decide +kernel)
theorem kw_738 : (Jvm.Cond.fieldLink "ClosureFramesModel" (13 : Nat) "ClosureFramesModel" "above" "[I") ∈ z_tbl := z_in (List.mem_append_right _ (List.mem_of_getElem? (i := 738) (by decide +kernel))) (by decide +kernel)
theorem kw_739 : (Jvm.Cond.fieldLink "ClosureFramesModel" (17 : Nat) "ClosureFramesModel" "isFace" "[Z") ∈ z_tbl := z_in (List.mem_append_right _ (List.mem_of_getElem? (i := 739) (by decide +kernel))) (by decide +kernel)
theorem kw_740 : (Jvm.Cond.fieldLink "ClosureFramesModel" (21 : Nat) "ClosureFramesModel" "places" "[I") ∈ z_tbl := z_in (List.mem_append_right _ (List.mem_of_getElem? (i := 740) (by decide +kernel))) (by decide +kernel)
theorem kw_741 : (Jvm.Cond.fieldLink "ClosureFramesModel" (24 : Nat) "ClosureFramesModel" "used" "[I") ∈ z_tbl := z_in (List.mem_append_right _ (List.mem_of_getElem? (i := 741) (by decide +kernel))) (by decide +kernel)
theorem kw_742 : (Jvm.Cond.fieldLink "ClosureFramesModel" (27 : Nat) "ClosureFramesModel" "arguments" "[I") ∈ z_tbl := z_in (List.mem_append_right _ (List.mem_of_getElem? (i := 742) (by decide +kernel))) (by decide +kernel)
theorem kw_743 : (Jvm.Cond.fieldLink "ClosureFramesModel" (30 : Nat) "ClosureFramesModel" "acts" "[I") ∈ z_tbl := z_in (List.mem_append_right _ (List.mem_of_getElem? (i := 743) (by decide +kernel))) (by decide +kernel)
theorem kw_744 : (Jvm.Cond.fieldLink "ClosureFramesModel" (33 : Nat) "ClosureFramesModel" "kinds" "[I") ∈ z_tbl := z_in (List.mem_append_right _ (List.mem_of_getElem? (i := 744) (by decide +kernel))) (by decide +kernel)
theorem kw_745 : (Jvm.Cond.fieldLink "ClosureFramesModel" (36 : Nat) "ClosureFramesModel" "as" "[I") ∈ z_tbl := z_in (List.mem_append_right _ (List.mem_of_getElem? (i := 745) (by decide +kernel))) (by decide +kernel)
theorem kw_746 : (Jvm.Cond.fieldLink "ClosureFramesModel" (39 : Nat) "ClosureFramesModel" "bs" "[I") ∈ z_tbl := z_in (List.mem_append_right _ (List.mem_of_getElem? (i := 746) (by decide +kernel))) (by decide +kernel)
theorem kw_747 : (Jvm.Cond.fieldLink "ClosureFramesModel" (42 : Nat) "ClosureFramesModel" "guards" "[I") ∈ z_tbl := z_in (List.mem_append_right _ (List.mem_of_getElem? (i := 747) (by decide +kernel))) (by decide +kernel)
theorem kw_748 : (Jvm.Cond.fieldLink "ClosureFramesModel" (45 : Nat) "ClosureFramesModel" "from" "[I") ∈ z_tbl := z_in (List.mem_append_right _ (List.mem_of_getElem? (i := 748) (by decide +kernel))) (by decide +kernel)
theorem kw_749 : (Jvm.Cond.fieldLink "ClosureFramesModel" (48 : Nat) "ClosureFramesModel" "to" "[I") ∈ z_tbl := z_in (List.mem_append_right _ (List.mem_of_getElem? (i := 749) (by decide +kernel))) (by decide +kernel)
theorem kw_750 : (Jvm.Cond.fieldLink "ClosureFramesModel" (51 : Nat) "ClosureFramesModel" "handler" "[I") ∈ z_tbl := z_in (List.mem_append_right _ (List.mem_of_getElem? (i := 750) (by decide +kernel))) (by decide +kernel)
theorem kw_751 : (Jvm.Cond.fieldLink "ClosureFramesModel" (54 : Nat) "ClosureFramesModel" "caught" "[I") ∈ z_tbl := z_in (List.mem_append_right _ (List.mem_of_getElem? (i := 751) (by decide +kernel))) (by decide +kernel)
theorem kw_752 : (Jvm.Cond.fieldLink "ClosureFramesModel" (57 : Nat) "ClosureFramesModel" "known" "[Z") ∈ z_tbl := z_in (List.mem_append_right _ (List.mem_of_getElem? (i := 752) (by decide +kernel))) (by decide +kernel)
theorem kw_753 : (Jvm.Cond.fieldLink "ClosureFramesModel" (60 : Nat) "ClosureFramesModel" "has" "[Z") ∈ z_tbl := z_in (List.mem_append_right _ (List.mem_of_getElem? (i := 753) (by decide +kernel))) (by decide +kernel)
theorem kw_754 : (Jvm.Cond.fieldLink "ClosureFramesModel" (63 : Nat) "ClosureFramesModel" "states" "[I") ∈ z_tbl := z_in (List.mem_append_right _ (List.mem_of_getElem? (i := 754) (by decide +kernel))) (by decide +kernel)
theorem kw_755 : (Jvm.Cond.fieldLink "ClosureFramesModel" (66 : Nat) "ClosureFramesModel" "isFrame" "[Z") ∈ z_tbl := z_in (List.mem_append_right _ (List.mem_of_getElem? (i := 755) (by decide +kernel))) (by decide +kernel)
theorem kw_756 : (Jvm.Cond.fieldLink "ClosureFramesModel" (69 : Nat) "ClosureFramesModel" "frames" "[I") ∈ z_tbl := z_in (List.mem_append_right _ (List.mem_of_getElem? (i := 756) (by decide +kernel))) (by decide +kernel)
theorem kw_757 : (Jvm.Cond.fieldLink "ClosureFramesModel" (199 : Nat) "ClosureFramesModel" "fault" "I") ∈ z_tbl := z_in (List.mem_append_right _ (List.mem_of_getElem? (i := 757) (by decide +kernel))) (by decide +kernel)
theorem kw_758 : (Jvm.Cond.fieldLink "ClosureFramesModel" (129 : Nat) "ClosureFramesModel" "method" "I") ∈ z_tbl := z_in (List.mem_append_right _ (List.mem_of_getElem? (i := 758) (by decide +kernel))) (by decide +kernel)
theorem kw_759 : (Jvm.Cond.fieldLink "ClosureFramesModel" (72 : Nat) "ClosureFramesModel" "now" "[I") ∈ z_tbl := z_in (List.mem_append_right _ (List.mem_of_getElem? (i := 759) (by decide +kernel))) (by decide +kernel)
theorem kw_760 : (Jvm.Cond.fieldLink "ClosureFramesModel" (75 : Nat) "ClosureFramesModel" "then" "[I") ∈ z_tbl := z_in (List.mem_append_right _ (List.mem_of_getElem? (i := 760) (by decide +kernel))) (by decide +kernel)
theorem kw_761 : (Jvm.Cond.fieldLink "ClosureFramesModel" (115 : Nat) "ClosureFramesModel" "wrong" "I") ∈ z_tbl := z_in (List.mem_append_right _ (List.mem_of_getElem? (i := 761) (by decide +kernel))) (by decide +kernel)
theorem kw_762 : (Jvm.Cond.fieldLink "ClosureFramesModel" (78 : Nat) "ClosureFramesModel" "due" "[Z") ∈ z_tbl := z_in (List.mem_append_right _ (List.mem_of_getElem? (i := 762) (by decide +kernel))) (by decide +kernel)
theorem kw_763 : (Jvm.Cond.fieldLink "ClosureFramesModel" (81 : Nat) "ClosureFramesModel" "joinRow" "[I") ∈ z_tbl := z_in (List.mem_append_right _ (List.mem_of_getElem? (i := 763) (by decide +kernel))) (by decide +kernel)
theorem kw_764 : (Jvm.Cond.fieldLink "ClosureFramesModel" (84 : Nat) "ClosureFramesModel" "one" "[I") ∈ z_tbl := z_in (List.mem_append_right _ (List.mem_of_getElem? (i := 764) (by decide +kernel))) (by decide +kernel)
theorem kw_765 : (Jvm.Cond.fieldLink "ClosureFramesModel" (87 : Nat) "ClosureFramesModel" "other" "[I") ∈ z_tbl := z_in (List.mem_append_right _ (List.mem_of_getElem? (i := 765) (by decide +kernel))) (by decide +kernel)
theorem kw_825 : (Jvm.Cond.methodLink "ClosureFramesLaw" (17 : Nat) ({ cls := "ClosureFramesModel", name := "cls", desc := "(IZ)I" } : Jvm.MethodName)) ∈ z_tbl := z_in (List.mem_append_right _ (List.mem_of_getElem? (i := 825) (by decide +kernel))) (by decide +kernel)
theorem kw_826 : (Jvm.Cond.instanceMethod ({ cls := "ClosureFramesModel", name := "cls", desc := "(IZ)I" } : Jvm.MethodName)) ∈ z_tbl := z_in (List.mem_append_right _ (List.mem_of_getElem? (i := 826) (by decide +kernel))) (by decide +kernel)
theorem kw_827 : (Jvm.Cond.selects "ClosureFramesModel" ({ cls := "ClosureFramesModel", name := "cls", desc := "(IZ)I" } : Jvm.MethodName) ({ cls := "ClosureFramesModel", name := "cls", desc := "(IZ)I" } : Jvm.MethodName)) ∈ z_tbl := z_in (List.mem_append_right _ (List.mem_of_getElem? (i := 827) (by decide +kernel))) (by decide +kernel)
theorem kw_828 : (Jvm.Cond.code ({ cls := "ClosureFramesModel", name := "cls", desc := "(IZ)I" } : Jvm.MethodName) prog_11_method_5_code (3 : Nat) (Option.some Jvm.ClassFile.FieldType.int)) ∈ z_tbl := z_in (List.mem_append_right _ (List.mem_of_getElem? (i := 828) (by decide +kernel))) (by decide +kernel)
theorem kw_829 : (Jvm.Cond.methodLink "ClosureFramesModel" (94 : Nat) ({ cls := "ClosureFramesModel", name := "isClass", desc := "(I)Z" } : Jvm.MethodName)) ∈ z_tbl := z_in (List.mem_append_right _ (List.mem_of_getElem? (i := 829) (by decide +kernel))) (by decide +kernel)
theorem kw_831 : (Jvm.Cond.instanceMethod ({ cls := "ClosureFramesModel", name := "isClass", desc := "(I)Z" } : Jvm.MethodName)) ∈ z_tbl := z_in (List.mem_append_right _ (List.mem_of_getElem? (i := 831) (by decide +kernel))) (by decide +kernel)
theorem kw_832 : (Jvm.Cond.code ({ cls := "ClosureFramesModel", name := "isClass", desc := "(I)Z" } : Jvm.MethodName) prog_11_method_3_code (2 : Nat) (Option.some Jvm.ClassFile.FieldType.boolean)) ∈ z_tbl := z_in (List.mem_append_right _ (List.mem_of_getElem? (i := 832) (by decide +kernel))) (by decide +kernel)
theorem kw_833 : (Jvm.Cond.methodLink "ClosureFramesModel" (90 : Nat) ({ cls := "ClosureFramesModel", name := "in", desc := "(III)Z" } : Jvm.MethodName)) ∈ z_tbl := z_in (List.mem_append_right _ (List.mem_of_getElem? (i := 833) (by decide +kernel))) (by decide +kernel)
theorem kw_834 : (Jvm.Cond.static ({ cls := "ClosureFramesModel", name := "in", desc := "(III)Z" } : Jvm.MethodName)) ∈ z_tbl := z_in (List.mem_append_right _ (List.mem_of_getElem? (i := 834) (by decide +kernel))) (by decide +kernel)
theorem kw_835 : (Jvm.Cond.code ({ cls := "ClosureFramesModel", name := "in", desc := "(III)Z" } : Jvm.MethodName) prog_11_method_2_code (3 : Nat) (Option.some Jvm.ClassFile.FieldType.boolean)) ∈ z_tbl := z_in (List.mem_append_right _ (List.mem_of_getElem? (i := 835) (by decide +kernel))) (by decide +kernel)
theorem kw_836 : (Jvm.Cond.methodLink "ClosureFramesLaw" (22 : Nat) ({ cls := "ClosureFramesModel", name := "joined", desc := "(II)I" } : Jvm.MethodName)) ∈ z_tbl := z_in (List.mem_append_right _ (List.mem_of_getElem? (i := 836) (by decide +kernel))) (by decide +kernel)
theorem kw_837 : (Jvm.Cond.instanceMethod ({ cls := "ClosureFramesModel", name := "joined", desc := "(II)I" } : Jvm.MethodName)) ∈ z_tbl := z_in (List.mem_append_right _ (List.mem_of_getElem? (i := 837) (by decide +kernel))) (by decide +kernel)
theorem kw_838 : (Jvm.Cond.selects "ClosureFramesModel" ({ cls := "ClosureFramesModel", name := "joined", desc := "(II)I" } : Jvm.MethodName) ({ cls := "ClosureFramesModel", name := "joined", desc := "(II)I" } : Jvm.MethodName)) ∈ z_tbl := z_in (List.mem_append_right _ (List.mem_of_getElem? (i := 838) (by decide +kernel))) (by decide +kernel)
theorem kw_839 : (Jvm.Cond.code ({ cls := "ClosureFramesModel", name := "joined", desc := "(II)I" } : Jvm.MethodName) prog_11_method_9_code (3 : Nat) (Option.some Jvm.ClassFile.FieldType.int)) ∈ z_tbl := z_in (List.mem_append_right _ (List.mem_of_getElem? (i := 839) (by decide +kernel))) (by decide +kernel)
theorem kw_840 : (Jvm.Cond.methodLink "ClosureFramesModel" (102 : Nat) ({ cls := "ClosureFramesModel", name := "joinOf", desc := "(II)I" } : Jvm.MethodName)) ∈ z_tbl := z_in (List.mem_append_right _ (List.mem_of_getElem? (i := 840) (by decide +kernel))) (by decide +kernel)
theorem kw_842 : (Jvm.Cond.instanceMethod ({ cls := "ClosureFramesModel", name := "joinOf", desc := "(II)I" } : Jvm.MethodName)) ∈ z_tbl := z_in (List.mem_append_right _ (List.mem_of_getElem? (i := 842) (by decide +kernel))) (by decide +kernel)
theorem kw_843 : (Jvm.Cond.code ({ cls := "ClosureFramesModel", name := "joinOf", desc := "(II)I" } : Jvm.MethodName) prog_11_method_7_code (4 : Nat) (Option.some Jvm.ClassFile.FieldType.int)) ∈ z_tbl := z_in (List.mem_append_right _ (List.mem_of_getElem? (i := 843) (by decide +kernel))) (by decide +kernel)
theorem kw_844 : (Jvm.Cond.methodLink "ClosureFramesModel" (98 : Nat) ({ cls := "ClosureFramesModel", name := "isBelow", desc := "(II)Z" } : Jvm.MethodName)) ∈ z_tbl := z_in (List.mem_append_right _ (List.mem_of_getElem? (i := 844) (by decide +kernel))) (by decide +kernel)
theorem kw_846 : (Jvm.Cond.instanceMethod ({ cls := "ClosureFramesModel", name := "isBelow", desc := "(II)Z" } : Jvm.MethodName)) ∈ z_tbl := z_in (List.mem_append_right _ (List.mem_of_getElem? (i := 846) (by decide +kernel))) (by decide +kernel)
theorem kw_847 : (Jvm.Cond.code ({ cls := "ClosureFramesModel", name := "isBelow", desc := "(II)Z" } : Jvm.MethodName) prog_11_method_6_code (4 : Nat) (Option.some Jvm.ClassFile.FieldType.boolean)) ∈ z_tbl := z_in (List.mem_append_right _ (List.mem_of_getElem? (i := 847) (by decide +kernel))) (by decide +kernel)
theorem kw_848 : (Jvm.Cond.methodLink "ClosureFramesLaw" (26 : Nat) ({ cls := "ClosureFramesModel", name := "is", desc := "(II)I" } : Jvm.MethodName)) ∈ z_tbl := z_in (List.mem_append_right _ (List.mem_of_getElem? (i := 848) (by decide +kernel))) (by decide +kernel)
theorem kw_849 : (Jvm.Cond.instanceMethod ({ cls := "ClosureFramesModel", name := "is", desc := "(II)I" } : Jvm.MethodName)) ∈ z_tbl := z_in (List.mem_append_right _ (List.mem_of_getElem? (i := 849) (by decide +kernel))) (by decide +kernel)
theorem kw_850 : (Jvm.Cond.selects "ClosureFramesModel" ({ cls := "ClosureFramesModel", name := "is", desc := "(II)I" } : Jvm.MethodName) ({ cls := "ClosureFramesModel", name := "is", desc := "(II)I" } : Jvm.MethodName)) ∈ z_tbl := z_in (List.mem_append_right _ (List.mem_of_getElem? (i := 850) (by decide +kernel))) (by decide +kernel)
theorem kw_851 : (Jvm.Cond.code ({ cls := "ClosureFramesModel", name := "is", desc := "(II)I" } : Jvm.MethodName) prog_11_method_10_code (3 : Nat) (Option.some Jvm.ClassFile.FieldType.int)) ∈ z_tbl := z_in (List.mem_append_right _ (List.mem_of_getElem? (i := 851) (by decide +kernel))) (by decide +kernel)
theorem kw_852 : (Jvm.Cond.methodLink "ClosureFramesModel" (106 : Nat) ({ cls := "ClosureFramesModel", name := "isOne", desc := "(II)Z" } : Jvm.MethodName)) ∈ z_tbl := z_in (List.mem_append_right _ (List.mem_of_getElem? (i := 852) (by decide +kernel))) (by decide +kernel)
theorem kw_854 : (Jvm.Cond.instanceMethod ({ cls := "ClosureFramesModel", name := "isOne", desc := "(II)Z" } : Jvm.MethodName)) ∈ z_tbl := z_in (List.mem_append_right _ (List.mem_of_getElem? (i := 854) (by decide +kernel))) (by decide +kernel)
theorem kw_855 : (Jvm.Cond.code ({ cls := "ClosureFramesModel", name := "isOne", desc := "(II)Z" } : Jvm.MethodName) prog_11_method_8_code (3 : Nat) (Option.some Jvm.ClassFile.FieldType.boolean)) ∈ z_tbl := z_in (List.mem_append_right _ (List.mem_of_getElem? (i := 855) (by decide +kernel))) (by decide +kernel)
theorem kw_856 : (Jvm.Cond.methodLink "ClosureFramesLaw" (30 : Nat) ({ cls := "ClosureFramesModel", name := "clear", desc := "(II)I" } : Jvm.MethodName)) ∈ z_tbl := z_in (List.mem_append_right _ (List.mem_of_getElem? (i := 856) (by decide +kernel))) (by decide +kernel)
theorem kw_857 : (Jvm.Cond.instanceMethod ({ cls := "ClosureFramesModel", name := "clear", desc := "(II)I" } : Jvm.MethodName)) ∈ z_tbl := z_in (List.mem_append_right _ (List.mem_of_getElem? (i := 857) (by decide +kernel))) (by decide +kernel)
theorem kw_858 : (Jvm.Cond.selects "ClosureFramesModel" ({ cls := "ClosureFramesModel", name := "clear", desc := "(II)I" } : Jvm.MethodName) ({ cls := "ClosureFramesModel", name := "clear", desc := "(II)I" } : Jvm.MethodName)) ∈ z_tbl := z_in (List.mem_append_right _ (List.mem_of_getElem? (i := 858) (by decide +kernel))) (by decide +kernel)
theorem kw_859 : (Jvm.Cond.code ({ cls := "ClosureFramesModel", name := "clear", desc := "(II)I" } : Jvm.MethodName) prog_11_method_15_code (4 : Nat) (Option.some Jvm.ClassFile.FieldType.int)) ∈ z_tbl := z_in (List.mem_append_right _ (List.mem_of_getElem? (i := 859) (by decide +kernel))) (by decide +kernel)
theorem kw_860 : (Jvm.Cond.methodLink "ClosureFramesModel" (112 : Nat) ({ cls := "ClosureFramesModel", name := "isMethod", desc := "(I)Z" } : Jvm.MethodName)) ∈ z_tbl := z_in (List.mem_append_right _ (List.mem_of_getElem? (i := 860) (by decide +kernel))) (by decide +kernel)
theorem kw_861 : (Jvm.Cond.static ({ cls := "ClosureFramesModel", name := "isMethod", desc := "(I)Z" } : Jvm.MethodName)) ∈ z_tbl := z_in (List.mem_append_right _ (List.mem_of_getElem? (i := 861) (by decide +kernel))) (by decide +kernel)
theorem kw_862 : (Jvm.Cond.code ({ cls := "ClosureFramesModel", name := "isMethod", desc := "(I)Z" } : Jvm.MethodName) prog_11_method_4_code (1 : Nat) (Option.some Jvm.ClassFile.FieldType.boolean)) ∈ z_tbl := z_in (List.mem_append_right _ (List.mem_of_getElem? (i := 862) (by decide +kernel))) (by decide +kernel)
theorem kw_863 : (Jvm.Cond.methodLink "ClosureFramesLaw" (34 : Nat) ({ cls := "ClosureFramesModel", name := "argument", desc := "(II)I" } : Jvm.MethodName)) ∈ z_tbl := z_in (List.mem_append_right _ (List.mem_of_getElem? (i := 863) (by decide +kernel))) (by decide +kernel)
theorem kw_864 : (Jvm.Cond.instanceMethod ({ cls := "ClosureFramesModel", name := "argument", desc := "(II)I" } : Jvm.MethodName)) ∈ z_tbl := z_in (List.mem_append_right _ (List.mem_of_getElem? (i := 864) (by decide +kernel))) (by decide +kernel)
theorem kw_865 : (Jvm.Cond.selects "ClosureFramesModel" ({ cls := "ClosureFramesModel", name := "argument", desc := "(II)I" } : Jvm.MethodName) ({ cls := "ClosureFramesModel", name := "argument", desc := "(II)I" } : Jvm.MethodName)) ∈ z_tbl := z_in (List.mem_append_right _ (List.mem_of_getElem? (i := 865) (by decide +kernel))) (by decide +kernel)
theorem kw_866 : (Jvm.Cond.code ({ cls := "ClosureFramesModel", name := "argument", desc := "(II)I" } : Jvm.MethodName) prog_11_method_16_code (6 : Nat) (Option.some Jvm.ClassFile.FieldType.int)) ∈ z_tbl := z_in (List.mem_append_right _ (List.mem_of_getElem? (i := 866) (by decide +kernel))) (by decide +kernel)
theorem kw_867 : (Jvm.Cond.methodLink "ClosureFramesModel" (109 : Nat) ({ cls := "ClosureFramesModel", name := "isObject", desc := "(I)Z" } : Jvm.MethodName)) ∈ z_tbl := z_in (List.mem_append_right _ (List.mem_of_getElem? (i := 867) (by decide +kernel))) (by decide +kernel)
theorem kw_868 : (Jvm.Cond.static ({ cls := "ClosureFramesModel", name := "isObject", desc := "(I)Z" } : Jvm.MethodName)) ∈ z_tbl := z_in (List.mem_append_right _ (List.mem_of_getElem? (i := 868) (by decide +kernel))) (by decide +kernel)
theorem kw_869 : (Jvm.Cond.code ({ cls := "ClosureFramesModel", name := "isObject", desc := "(I)Z" } : Jvm.MethodName) prog_11_method_11_code (1 : Nat) (Option.some Jvm.ClassFile.FieldType.boolean)) ∈ z_tbl := z_in (List.mem_append_right _ (List.mem_of_getElem? (i := 869) (by decide +kernel))) (by decide +kernel)
theorem kw_870 : (Jvm.Cond.methodLink "ClosureFramesLaw" (39 : Nat) ({ cls := "ClosureFramesModel", name := "act", desc := "(IIII)I" } : Jvm.MethodName)) ∈ z_tbl := z_in (List.mem_append_right _ (List.mem_of_getElem? (i := 870) (by decide +kernel))) (by decide +kernel)
theorem kw_871 : (Jvm.Cond.instanceMethod ({ cls := "ClosureFramesModel", name := "act", desc := "(IIII)I" } : Jvm.MethodName)) ∈ z_tbl := z_in (List.mem_append_right _ (List.mem_of_getElem? (i := 871) (by decide +kernel))) (by decide +kernel)
theorem kw_872 : (Jvm.Cond.selects "ClosureFramesModel" ({ cls := "ClosureFramesModel", name := "act", desc := "(IIII)I" } : Jvm.MethodName) ({ cls := "ClosureFramesModel", name := "act", desc := "(IIII)I" } : Jvm.MethodName)) ∈ z_tbl := z_in (List.mem_append_right _ (List.mem_of_getElem? (i := 872) (by decide +kernel))) (by decide +kernel)
theorem kw_873 : (Jvm.Cond.code ({ cls := "ClosureFramesModel", name := "act", desc := "(IIII)I" } : Jvm.MethodName) prog_11_method_17_code (9 : Nat) (Option.some Jvm.ClassFile.FieldType.int)) ∈ z_tbl := z_in (List.mem_append_right _ (List.mem_of_getElem? (i := 873) (by decide +kernel))) (by decide +kernel)
theorem kw_874 : (Jvm.Cond.methodLink "ClosureFramesLaw" (44 : Nat) ({ cls := "ClosureFramesModel", name := "guard", desc := "(IIIII)I" } : Jvm.MethodName)) ∈ z_tbl := z_in (List.mem_append_right _ (List.mem_of_getElem? (i := 874) (by decide +kernel))) (by decide +kernel)
theorem kw_875 : (Jvm.Cond.instanceMethod ({ cls := "ClosureFramesModel", name := "guard", desc := "(IIIII)I" } : Jvm.MethodName)) ∈ z_tbl := z_in (List.mem_append_right _ (List.mem_of_getElem? (i := 875) (by decide +kernel))) (by decide +kernel)
theorem kw_876 : (Jvm.Cond.selects "ClosureFramesModel" ({ cls := "ClosureFramesModel", name := "guard", desc := "(IIIII)I" } : Jvm.MethodName) ({ cls := "ClosureFramesModel", name := "guard", desc := "(IIIII)I" } : Jvm.MethodName)) ∈ z_tbl := z_in (List.mem_append_right _ (List.mem_of_getElem? (i := 876) (by decide +kernel))) (by decide +kernel)
theorem kw_877 : (Jvm.Cond.code ({ cls := "ClosureFramesModel", name := "guard", desc := "(IIIII)I" } : Jvm.MethodName) prog_11_method_18_code (7 : Nat) (Option.some Jvm.ClassFile.FieldType.int)) ∈ z_tbl := z_in (List.mem_append_right _ (List.mem_of_getElem? (i := 877) (by decide +kernel))) (by decide +kernel)
theorem kw_878 : (Jvm.Cond.methodLink "ClosureFramesLaw" (49 : Nat) ({ cls := "ClosureFramesModel", name := "compute", desc := "(I)I" } : Jvm.MethodName)) ∈ z_tbl := z_in (List.mem_append_right _ (List.mem_of_getElem? (i := 878) (by decide +kernel))) (by decide +kernel)
theorem kw_879 : (Jvm.Cond.instanceMethod ({ cls := "ClosureFramesModel", name := "compute", desc := "(I)I" } : Jvm.MethodName)) ∈ z_tbl := z_in (List.mem_append_right _ (List.mem_of_getElem? (i := 879) (by decide +kernel))) (by decide +kernel)
theorem kw_880 : (Jvm.Cond.selects "ClosureFramesModel" ({ cls := "ClosureFramesModel", name := "compute", desc := "(I)I" } : Jvm.MethodName) ({ cls := "ClosureFramesModel", name := "compute", desc := "(I)I" } : Jvm.MethodName)) ∈ z_tbl := z_in (List.mem_append_right _ (List.mem_of_getElem? (i := 880) (by decide +kernel))) (by decide +kernel)
theorem kw_881 : (Jvm.Cond.code ({ cls := "ClosureFramesModel", name := "compute", desc := "(I)I" } : Jvm.MethodName) prog_11_method_41_code (3 : Nat) (Option.some Jvm.ClassFile.FieldType.int)) ∈ z_tbl := z_in (List.mem_append_right _ (List.mem_of_getElem? (i := 881) (by decide +kernel))) (by decide +kernel)
theorem kw_882 : (Jvm.Cond.methodLink "ClosureFramesModel" (192 : Nat) ({ cls := "ClosureFramesModel", name := "beginning", desc := "([I)V" } : Jvm.MethodName)) ∈ z_tbl := z_in (List.mem_append_right _ (List.mem_of_getElem? (i := 882) (by decide +kernel))) (by decide +kernel)
theorem kw_884 : (Jvm.Cond.instanceMethod ({ cls := "ClosureFramesModel", name := "beginning", desc := "([I)V" } : Jvm.MethodName)) ∈ z_tbl := z_in (List.mem_append_right _ (List.mem_of_getElem? (i := 884) (by decide +kernel))) (by decide +kernel)
theorem kw_885 : (Jvm.Cond.code ({ cls := "ClosureFramesModel", name := "beginning", desc := "([I)V" } : Jvm.MethodName) prog_11_method_36_code (3 : Nat) (Option.none : Option Jvm.ClassFile.FieldType)) ∈ z_tbl := z_in (List.mem_append_right _ (List.mem_of_getElem? (i := 885) (by decide +kernel))) (by decide +kernel)
theorem kw_886 : (Jvm.Cond.methodLink "ClosureFramesModel" (162 : Nat) ({ cls := "ClosureFramesModel", name := "copy", desc := "([II[II)V" } : Jvm.MethodName)) ∈ z_tbl := z_in (List.mem_append_right _ (List.mem_of_getElem? (i := 886) (by decide +kernel))) (by decide +kernel)
theorem kw_887 : (Jvm.Cond.static ({ cls := "ClosureFramesModel", name := "copy", desc := "([II[II)V" } : Jvm.MethodName)) ∈ z_tbl := z_in (List.mem_append_right _ (List.mem_of_getElem? (i := 887) (by decide +kernel))) (by decide +kernel)
theorem kw_888 : (Jvm.Cond.code ({ cls := "ClosureFramesModel", name := "copy", desc := "([II[II)V" } : Jvm.MethodName) prog_11_method_33_code (5 : Nat) (Option.none : Option Jvm.ClassFile.FieldType)) ∈ z_tbl := z_in (List.mem_append_right _ (List.mem_of_getElem? (i := 888) (by decide +kernel))) (by decide +kernel)
theorem kw_889 : (Jvm.Cond.methodLink "ClosureFramesModel" (196 : Nat) ({ cls := "ClosureFramesModel", name := "works", desc := "(I)V" } : Jvm.MethodName)) ∈ z_tbl := z_in (List.mem_append_right _ (List.mem_of_getElem? (i := 889) (by decide +kernel))) (by decide +kernel)
theorem kw_891 : (Jvm.Cond.instanceMethod ({ cls := "ClosureFramesModel", name := "works", desc := "(I)V" } : Jvm.MethodName)) ∈ z_tbl := z_in (List.mem_append_right _ (List.mem_of_getElem? (i := 891) (by decide +kernel))) (by decide +kernel)
theorem kw_892 : (Jvm.Cond.code ({ cls := "ClosureFramesModel", name := "works", desc := "(I)V" } : Jvm.MethodName) prog_11_method_40_code (4 : Nat) (Option.none : Option Jvm.ClassFile.FieldType)) ∈ z_tbl := z_in (List.mem_append_right _ (List.mem_of_getElem? (i := 892) (by decide +kernel))) (by decide +kernel)
theorem kw_893 : (Jvm.Cond.methodLink "ClosureFramesModel" (173 : Nat) ({ cls := "ClosureFramesModel", name := "holds", desc := "(II)Z" } : Jvm.MethodName)) ∈ z_tbl := z_in (List.mem_append_right _ (List.mem_of_getElem? (i := 893) (by decide +kernel))) (by decide +kernel)
theorem kw_895 : (Jvm.Cond.instanceMethod ({ cls := "ClosureFramesModel", name := "holds", desc := "(II)Z" } : Jvm.MethodName)) ∈ z_tbl := z_in (List.mem_append_right _ (List.mem_of_getElem? (i := 895) (by decide +kernel))) (by decide +kernel)
theorem kw_896 : (Jvm.Cond.code ({ cls := "ClosureFramesModel", name := "holds", desc := "(II)Z" } : Jvm.MethodName) prog_11_method_39_code (3 : Nat) (Option.some Jvm.ClassFile.FieldType.boolean)) ∈ z_tbl := z_in (List.mem_append_right _ (List.mem_of_getElem? (i := 896) (by decide +kernel))) (by decide +kernel)
theorem kw_897 : (Jvm.Cond.methodLink "ClosureFramesModel" (176 : Nat) ({ cls := "ClosureFramesModel", name := "caughtState", desc := "(I)V" } : Jvm.MethodName)) ∈ z_tbl := z_in (List.mem_append_right _ (List.mem_of_getElem? (i := 897) (by decide +kernel))) (by decide +kernel)
theorem kw_899 : (Jvm.Cond.instanceMethod ({ cls := "ClosureFramesModel", name := "caughtState", desc := "(I)V" } : Jvm.MethodName)) ∈ z_tbl := z_in (List.mem_append_right _ (List.mem_of_getElem? (i := 899) (by decide +kernel))) (by decide +kernel)
theorem kw_900 : (Jvm.Cond.code ({ cls := "ClosureFramesModel", name := "caughtState", desc := "(I)V" } : Jvm.MethodName) prog_11_method_34_code (3 : Nat) (Option.none : Option Jvm.ClassFile.FieldType)) ∈ z_tbl := z_in (List.mem_append_right _ (List.mem_of_getElem? (i := 900) (by decide +kernel))) (by decide +kernel)
theorem kw_901 : (Jvm.Cond.methodLink "ClosureFramesModel" (139 : Nat) ({ cls := "ClosureFramesModel", name := "isUnmade", desc := "(I)Z" } : Jvm.MethodName)) ∈ z_tbl := z_in (List.mem_append_right _ (List.mem_of_getElem? (i := 901) (by decide +kernel))) (by decide +kernel)
theorem kw_902 : (Jvm.Cond.static ({ cls := "ClosureFramesModel", name := "isUnmade", desc := "(I)Z" } : Jvm.MethodName)) ∈ z_tbl := z_in (List.mem_append_right _ (List.mem_of_getElem? (i := 902) (by decide +kernel))) (by decide +kernel)
theorem kw_903 : (Jvm.Cond.code ({ cls := "ClosureFramesModel", name := "isUnmade", desc := "(I)Z" } : Jvm.MethodName) prog_11_method_12_code (1 : Nat) (Option.some Jvm.ClassFile.FieldType.boolean)) ∈ z_tbl := z_in (List.mem_append_right _ (List.mem_of_getElem? (i := 903) (by decide +kernel))) (by decide +kernel)
theorem kw_904 : (Jvm.Cond.methodLink "ClosureFramesModel" (179 : Nat) ({ cls := "ClosureFramesModel", name := "comes", desc := "(IIZ)V" } : Jvm.MethodName)) ∈ z_tbl := z_in (List.mem_append_right _ (List.mem_of_getElem? (i := 904) (by decide +kernel))) (by decide +kernel)
theorem kw_906 : (Jvm.Cond.instanceMethod ({ cls := "ClosureFramesModel", name := "comes", desc := "(IIZ)V" } : Jvm.MethodName)) ∈ z_tbl := z_in (List.mem_append_right _ (List.mem_of_getElem? (i := 906) (by decide +kernel))) (by decide +kernel)
theorem kw_907 : (Jvm.Cond.code ({ cls := "ClosureFramesModel", name := "comes", desc := "(IIZ)V" } : Jvm.MethodName) prog_11_method_37_code (8 : Nat) (Option.none : Option Jvm.ClassFile.FieldType)) ∈ z_tbl := z_in (List.mem_append_right _ (List.mem_of_getElem? (i := 907) (by decide +kernel))) (by decide +kernel)
theorem kw_908 : (Jvm.Cond.methodLink "ClosureFramesModel" (122 : Nat) ({ cls := "ClosureFramesModel", name := "fails", desc := "(I)V" } : Jvm.MethodName)) ∈ z_tbl := z_in (List.mem_append_right _ (List.mem_of_getElem? (i := 908) (by decide +kernel))) (by decide +kernel)
theorem kw_910 : (Jvm.Cond.instanceMethod ({ cls := "ClosureFramesModel", name := "fails", desc := "(I)V" } : Jvm.MethodName)) ∈ z_tbl := z_in (List.mem_append_right _ (List.mem_of_getElem? (i := 910) (by decide +kernel))) (by decide +kernel)
theorem kw_911 : (Jvm.Cond.code ({ cls := "ClosureFramesModel", name := "fails", desc := "(I)V" } : Jvm.MethodName) prog_11_method_19_code (2 : Nat) (Option.none : Option Jvm.ClassFile.FieldType)) ∈ z_tbl := z_in (List.mem_append_right _ (List.mem_of_getElem? (i := 911) (by decide +kernel))) (by decide +kernel)
theorem kw_912 : (Jvm.Cond.methodLink "ClosureFramesModel" (166 : Nat) ({ cls := "ClosureFramesModel", name := "hasUnmade", desc := "([I)Z" } : Jvm.MethodName)) ∈ z_tbl := z_in (List.mem_append_right _ (List.mem_of_getElem? (i := 912) (by decide +kernel))) (by decide +kernel)
theorem kw_914 : (Jvm.Cond.instanceMethod ({ cls := "ClosureFramesModel", name := "hasUnmade", desc := "([I)Z" } : Jvm.MethodName)) ∈ z_tbl := z_in (List.mem_append_right _ (List.mem_of_getElem? (i := 914) (by decide +kernel))) (by decide +kernel)
theorem kw_915 : (Jvm.Cond.code ({ cls := "ClosureFramesModel", name := "hasUnmade", desc := "([I)Z" } : Jvm.MethodName) prog_11_method_35_code (4 : Nat) (Option.some Jvm.ClassFile.FieldType.boolean)) ∈ z_tbl := z_in (List.mem_append_right _ (List.mem_of_getElem? (i := 915) (by decide +kernel))) (by decide +kernel)
theorem kw_916 : (Jvm.Cond.methodLink "ClosureFramesModel" (170 : Nat) ({ cls := "ClosureFramesModel", name := "joinTypes", desc := "(II)I" } : Jvm.MethodName)) ∈ z_tbl := z_in (List.mem_append_right _ (List.mem_of_getElem? (i := 916) (by decide +kernel))) (by decide +kernel)
theorem kw_918 : (Jvm.Cond.instanceMethod ({ cls := "ClosureFramesModel", name := "joinTypes", desc := "(II)I" } : Jvm.MethodName)) ∈ z_tbl := z_in (List.mem_append_right _ (List.mem_of_getElem? (i := 918) (by decide +kernel))) (by decide +kernel)
theorem kw_919 : (Jvm.Cond.code ({ cls := "ClosureFramesModel", name := "joinTypes", desc := "(II)I" } : Jvm.MethodName) prog_11_method_13_code (3 : Nat) (Option.some Jvm.ClassFile.FieldType.int)) ∈ z_tbl := z_in (List.mem_append_right _ (List.mem_of_getElem? (i := 919) (by decide +kernel))) (by decide +kernel)
theorem kw_920 : (Jvm.Cond.methodLink "ClosureFramesModel" (183 : Nat) ({ cls := "ClosureFramesModel", name := "does", desc := "(I)V" } : Jvm.MethodName)) ∈ z_tbl := z_in (List.mem_append_right _ (List.mem_of_getElem? (i := 920) (by decide +kernel))) (by decide +kernel)
theorem kw_922 : (Jvm.Cond.instanceMethod ({ cls := "ClosureFramesModel", name := "does", desc := "(I)V" } : Jvm.MethodName)) ∈ z_tbl := z_in (List.mem_append_right _ (List.mem_of_getElem? (i := 922) (by decide +kernel))) (by decide +kernel)
theorem kw_923 : (Jvm.Cond.code ({ cls := "ClosureFramesModel", name := "does", desc := "(I)V" } : Jvm.MethodName) prog_11_method_29_code (6 : Nat) (Option.none : Option Jvm.ClassFile.FieldType)) ∈ z_tbl := z_in (List.mem_append_right _ (List.mem_of_getElem? (i := 923) (by decide +kernel))) (by decide +kernel)
theorem kw_924 : (Jvm.Cond.methodLink "ClosureFramesModel" (132 : Nat) ({ cls := "ClosureFramesModel", name := "push", desc := "(I)V" } : Jvm.MethodName)) ∈ z_tbl := z_in (List.mem_append_right _ (List.mem_of_getElem? (i := 924) (by decide +kernel))) (by decide +kernel)
theorem kw_926 : (Jvm.Cond.instanceMethod ({ cls := "ClosureFramesModel", name := "push", desc := "(I)V" } : Jvm.MethodName)) ∈ z_tbl := z_in (List.mem_append_right _ (List.mem_of_getElem? (i := 926) (by decide +kernel))) (by decide +kernel)
theorem kw_927 : (Jvm.Cond.code ({ cls := "ClosureFramesModel", name := "push", desc := "(I)V" } : Jvm.MethodName) prog_11_method_22_code (2 : Nat) (Option.none : Option Jvm.ClassFile.FieldType)) ∈ z_tbl := z_in (List.mem_append_right _ (List.mem_of_getElem? (i := 927) (by decide +kernel))) (by decide +kernel)
theorem kw_928 : (Jvm.Cond.methodLink "ClosureFramesModel" (142 : Nat) ({ cls := "ClosureFramesModel", name := "placeActs", desc := "(II)V" } : Jvm.MethodName)) ∈ z_tbl := z_in (List.mem_append_right _ (List.mem_of_getElem? (i := 928) (by decide +kernel))) (by decide +kernel)
theorem kw_930 : (Jvm.Cond.instanceMethod ({ cls := "ClosureFramesModel", name := "placeActs", desc := "(II)V" } : Jvm.MethodName)) ∈ z_tbl := z_in (List.mem_append_right _ (List.mem_of_getElem? (i := 930) (by decide +kernel))) (by decide +kernel)
theorem kw_931 : (Jvm.Cond.code ({ cls := "ClosureFramesModel", name := "placeActs", desc := "(II)V" } : Jvm.MethodName) prog_11_method_27_code (4 : Nat) (Option.none : Option Jvm.ClassFile.FieldType)) ∈ z_tbl := z_in (List.mem_append_right _ (List.mem_of_getElem? (i := 931) (by decide +kernel))) (by decide +kernel)
theorem kw_932 : (Jvm.Cond.methodLink "ClosureFramesModel" (126 : Nat) ({ cls := "ClosureFramesModel", name := "pop", desc := "()I" } : Jvm.MethodName)) ∈ z_tbl := z_in (List.mem_append_right _ (List.mem_of_getElem? (i := 932) (by decide +kernel))) (by decide +kernel)
theorem kw_934 : (Jvm.Cond.instanceMethod ({ cls := "ClosureFramesModel", name := "pop", desc := "()I" } : Jvm.MethodName)) ∈ z_tbl := z_in (List.mem_append_right _ (List.mem_of_getElem? (i := 934) (by decide +kernel))) (by decide +kernel)
theorem kw_935 : (Jvm.Cond.code ({ cls := "ClosureFramesModel", name := "pop", desc := "()I" } : Jvm.MethodName) prog_11_method_21_code (2 : Nat) (Option.some Jvm.ClassFile.FieldType.int)) ∈ z_tbl := z_in (List.mem_append_right _ (List.mem_of_getElem? (i := 935) (by decide +kernel))) (by decide +kernel)
theorem kw_936 : (Jvm.Cond.methodLink "ClosureFramesModel" (118 : Nat) ({ cls := "ClosureFramesModel", name := "top", desc := "()I" } : Jvm.MethodName)) ∈ z_tbl := z_in (List.mem_append_right _ (List.mem_of_getElem? (i := 936) (by decide +kernel))) (by decide +kernel)
theorem kw_938 : (Jvm.Cond.instanceMethod ({ cls := "ClosureFramesModel", name := "top", desc := "()I" } : Jvm.MethodName)) ∈ z_tbl := z_in (List.mem_append_right _ (List.mem_of_getElem? (i := 938) (by decide +kernel))) (by decide +kernel)
theorem kw_939 : (Jvm.Cond.code ({ cls := "ClosureFramesModel", name := "top", desc := "()I" } : Jvm.MethodName) prog_11_method_20_code (1 : Nat) (Option.some Jvm.ClassFile.FieldType.int)) ∈ z_tbl := z_in (List.mem_append_right _ (List.mem_of_getElem? (i := 939) (by decide +kernel))) (by decide +kernel)
theorem kw_940 : (Jvm.Cond.methodLink "ClosureFramesModel" (135 : Nat) ({ cls := "ClosureFramesModel", name := "put", desc := "(II)V" } : Jvm.MethodName)) ∈ z_tbl := z_in (List.mem_append_right _ (List.mem_of_getElem? (i := 940) (by decide +kernel))) (by decide +kernel)
theorem kw_942 : (Jvm.Cond.instanceMethod ({ cls := "ClosureFramesModel", name := "put", desc := "(II)V" } : Jvm.MethodName)) ∈ z_tbl := z_in (List.mem_append_right _ (List.mem_of_getElem? (i := 942) (by decide +kernel))) (by decide +kernel)
theorem kw_943 : (Jvm.Cond.code ({ cls := "ClosureFramesModel", name := "put", desc := "(II)V" } : Jvm.MethodName) prog_11_method_26_code (3 : Nat) (Option.none : Option Jvm.ClassFile.FieldType)) ∈ z_tbl := z_in (List.mem_append_right _ (List.mem_of_getElem? (i := 943) (by decide +kernel))) (by decide +kernel)
theorem kw_944 : (Jvm.Cond.methodLink "ClosureFramesModel" (145 : Nat) ({ cls := "ClosureFramesModel", name := "wants", desc := "(I)V" } : Jvm.MethodName)) ∈ z_tbl := z_in (List.mem_append_right _ (List.mem_of_getElem? (i := 944) (by decide +kernel))) (by decide +kernel)
theorem kw_946 : (Jvm.Cond.instanceMethod ({ cls := "ClosureFramesModel", name := "wants", desc := "(I)V" } : Jvm.MethodName)) ∈ z_tbl := z_in (List.mem_append_right _ (List.mem_of_getElem? (i := 946) (by decide +kernel))) (by decide +kernel)
theorem kw_947 : (Jvm.Cond.code ({ cls := "ClosureFramesModel", name := "wants", desc := "(I)V" } : Jvm.MethodName) prog_11_method_23_code (2 : Nat) (Option.none : Option Jvm.ClassFile.FieldType)) ∈ z_tbl := z_in (List.mem_append_right _ (List.mem_of_getElem? (i := 947) (by decide +kernel))) (by decide +kernel)
theorem kw_948 : (Jvm.Cond.methodLink "ClosureFramesModel" (148 : Nat) ({ cls := "ClosureFramesModel", name := "doesMore", desc := "(III)V" } : Jvm.MethodName)) ∈ z_tbl := z_in (List.mem_append_right _ (List.mem_of_getElem? (i := 948) (by decide +kernel))) (by decide +kernel)
theorem kw_950 : (Jvm.Cond.instanceMethod ({ cls := "ClosureFramesModel", name := "doesMore", desc := "(III)V" } : Jvm.MethodName)) ∈ z_tbl := z_in (List.mem_append_right _ (List.mem_of_getElem? (i := 950) (by decide +kernel))) (by decide +kernel)
theorem kw_951 : (Jvm.Cond.code ({ cls := "ClosureFramesModel", name := "doesMore", desc := "(III)V" } : Jvm.MethodName) prog_11_method_30_code (4 : Nat) (Option.none : Option Jvm.ClassFile.FieldType)) ∈ z_tbl := z_in (List.mem_append_right _ (List.mem_of_getElem? (i := 951) (by decide +kernel))) (by decide +kernel)
theorem kw_952 : (Jvm.Cond.methodLink "ClosureFramesModel" (156 : Nat) ({ cls := "ClosureFramesModel", name := "make", desc := "(I)V" } : Jvm.MethodName)) ∈ z_tbl := z_in (List.mem_append_right _ (List.mem_of_getElem? (i := 952) (by decide +kernel))) (by decide +kernel)
theorem kw_954 : (Jvm.Cond.instanceMethod ({ cls := "ClosureFramesModel", name := "make", desc := "(I)V" } : Jvm.MethodName)) ∈ z_tbl := z_in (List.mem_append_right _ (List.mem_of_getElem? (i := 954) (by decide +kernel))) (by decide +kernel)
theorem kw_955 : (Jvm.Cond.code ({ cls := "ClosureFramesModel", name := "make", desc := "(I)V" } : Jvm.MethodName) prog_11_method_28_code (4 : Nat) (Option.none : Option Jvm.ClassFile.FieldType)) ∈ z_tbl := z_in (List.mem_append_right _ (List.mem_of_getElem? (i := 955) (by decide +kernel))) (by decide +kernel)
theorem kw_956 : (Jvm.Cond.methodLink "ClosureFramesModel" (159 : Nat) ({ cls := "ClosureFramesModel", name := "wantsObject", desc := "(I)V" } : Jvm.MethodName)) ∈ z_tbl := z_in (List.mem_append_right _ (List.mem_of_getElem? (i := 956) (by decide +kernel))) (by decide +kernel)
theorem kw_958 : (Jvm.Cond.instanceMethod ({ cls := "ClosureFramesModel", name := "wantsObject", desc := "(I)V" } : Jvm.MethodName)) ∈ z_tbl := z_in (List.mem_append_right _ (List.mem_of_getElem? (i := 958) (by decide +kernel))) (by decide +kernel)
theorem kw_959 : (Jvm.Cond.code ({ cls := "ClosureFramesModel", name := "wantsObject", desc := "(I)V" } : Jvm.MethodName) prog_11_method_24_code (3 : Nat) (Option.none : Option Jvm.ClassFile.FieldType)) ∈ z_tbl := z_in (List.mem_append_right _ (List.mem_of_getElem? (i := 959) (by decide +kernel))) (by decide +kernel)
theorem kw_960 : (Jvm.Cond.methodLink "ClosureFramesModel" (152 : Nat) ({ cls := "ClosureFramesModel", name := "counted", desc := "([I)I" } : Jvm.MethodName)) ∈ z_tbl := z_in (List.mem_append_right _ (List.mem_of_getElem? (i := 960) (by decide +kernel))) (by decide +kernel)
theorem kw_961 : (Jvm.Cond.static ({ cls := "ClosureFramesModel", name := "counted", desc := "([I)I" } : Jvm.MethodName)) ∈ z_tbl := z_in (List.mem_append_right _ (List.mem_of_getElem? (i := 961) (by decide +kernel))) (by decide +kernel)
theorem kw_962 : (Jvm.Cond.code ({ cls := "ClosureFramesModel", name := "counted", desc := "([I)I" } : Jvm.MethodName) prog_11_method_25_code (3 : Nat) (Option.some Jvm.ClassFile.FieldType.int)) ∈ z_tbl := z_in (List.mem_append_right _ (List.mem_of_getElem? (i := 962) (by decide +kernel))) (by decide +kernel)
theorem kw_963 : (Jvm.Cond.methodLink "ClosureFramesModel" (186 : Nat) ({ cls := "ClosureFramesModel", name := "goesOn", desc := "(I)Z" } : Jvm.MethodName)) ∈ z_tbl := z_in (List.mem_append_right _ (List.mem_of_getElem? (i := 963) (by decide +kernel))) (by decide +kernel)
theorem kw_964 : (Jvm.Cond.static ({ cls := "ClosureFramesModel", name := "goesOn", desc := "(I)Z" } : Jvm.MethodName)) ∈ z_tbl := z_in (List.mem_append_right _ (List.mem_of_getElem? (i := 964) (by decide +kernel))) (by decide +kernel)
theorem kw_965 : (Jvm.Cond.code ({ cls := "ClosureFramesModel", name := "goesOn", desc := "(I)Z" } : Jvm.MethodName) prog_11_method_31_code (1 : Nat) (Option.some Jvm.ClassFile.FieldType.boolean)) ∈ z_tbl := z_in (List.mem_append_right _ (List.mem_of_getElem? (i := 965) (by decide +kernel))) (by decide +kernel)
theorem kw_966 : (Jvm.Cond.methodLink "ClosureFramesModel" (189 : Nat) ({ cls := "ClosureFramesModel", name := "jumps", desc := "(I)Z" } : Jvm.MethodName)) ∈ z_tbl := z_in (List.mem_append_right _ (List.mem_of_getElem? (i := 966) (by decide +kernel))) (by decide +kernel)
theorem kw_967 : (Jvm.Cond.static ({ cls := "ClosureFramesModel", name := "jumps", desc := "(I)Z" } : Jvm.MethodName)) ∈ z_tbl := z_in (List.mem_append_right _ (List.mem_of_getElem? (i := 967) (by decide +kernel))) (by decide +kernel)
theorem kw_968 : (Jvm.Cond.code ({ cls := "ClosureFramesModel", name := "jumps", desc := "(I)Z" } : Jvm.MethodName) prog_11_method_32_code (1 : Nat) (Option.some Jvm.ClassFile.FieldType.boolean)) ∈ z_tbl := z_in (List.mem_append_right _ (List.mem_of_getElem? (i := 968) (by decide +kernel))) (by decide +kernel)
theorem kw_969 : (Jvm.Cond.methodLink "ClosureFramesModel" (202 : Nat) ({ cls := "ClosureFramesModel", name := "leastDue", desc := "()I" } : Jvm.MethodName)) ∈ z_tbl := z_in (List.mem_append_right _ (List.mem_of_getElem? (i := 969) (by decide +kernel))) (by decide +kernel)
theorem kw_971 : (Jvm.Cond.instanceMethod ({ cls := "ClosureFramesModel", name := "leastDue", desc := "()I" } : Jvm.MethodName)) ∈ z_tbl := z_in (List.mem_append_right _ (List.mem_of_getElem? (i := 971) (by decide +kernel))) (by decide +kernel)
theorem kw_972 : (Jvm.Cond.code ({ cls := "ClosureFramesModel", name := "leastDue", desc := "()I" } : Jvm.MethodName) prog_11_method_38_code (2 : Nat) (Option.some Jvm.ClassFile.FieldType.int)) ∈ z_tbl := z_in (List.mem_append_right _ (List.mem_of_getElem? (i := 972) (by decide +kernel))) (by decide +kernel)
theorem kw_973 : (Jvm.Cond.methodLink "ClosureFramesModel" (205 : Nat) ({ cls := "ClosureFramesModel", name := "layFrames", desc := "(I)I" } : Jvm.MethodName)) ∈ z_tbl := z_in (List.mem_append_right _ (List.mem_of_getElem? (i := 973) (by decide +kernel))) (by decide +kernel)
theorem kw_975 : (Jvm.Cond.instanceMethod ({ cls := "ClosureFramesModel", name := "layFrames", desc := "(I)I" } : Jvm.MethodName)) ∈ z_tbl := z_in (List.mem_append_right _ (List.mem_of_getElem? (i := 975) (by decide +kernel))) (by decide +kernel)
theorem kw_976 : (Jvm.Cond.code ({ cls := "ClosureFramesModel", name := "layFrames", desc := "(I)I" } : Jvm.MethodName) prog_11_method_42_code (5 : Nat) (Option.some Jvm.ClassFile.FieldType.int)) ∈ z_tbl := z_in (List.mem_append_right _ (List.mem_of_getElem? (i := 976) (by decide +kernel))) (by decide +kernel)
theorem kw_977 : (Jvm.Cond.methodLink "ClosureFramesLaw" (54 : Nat) ({ cls := "ClosureFramesModel", name := "fault", desc := "()I" } : Jvm.MethodName)) ∈ z_tbl := z_in (List.mem_append_right _ (List.mem_of_getElem? (i := 977) (by decide +kernel))) (by decide +kernel)
theorem kw_978 : (Jvm.Cond.instanceMethod ({ cls := "ClosureFramesModel", name := "fault", desc := "()I" } : Jvm.MethodName)) ∈ z_tbl := z_in (List.mem_append_right _ (List.mem_of_getElem? (i := 978) (by decide +kernel))) (by decide +kernel)
theorem kw_979 : (Jvm.Cond.selects "ClosureFramesModel" ({ cls := "ClosureFramesModel", name := "fault", desc := "()I" } : Jvm.MethodName) ({ cls := "ClosureFramesModel", name := "fault", desc := "()I" } : Jvm.MethodName)) ∈ z_tbl := z_in (List.mem_append_right _ (List.mem_of_getElem? (i := 979) (by decide +kernel))) (by decide +kernel)
theorem kw_980 : (Jvm.Cond.code ({ cls := "ClosureFramesModel", name := "fault", desc := "()I" } : Jvm.MethodName) prog_11_method_43_code (1 : Nat) (Option.some Jvm.ClassFile.FieldType.int)) ∈ z_tbl := z_in (List.mem_append_right _ (List.mem_of_getElem? (i := 980) (by decide +kernel))) (by decide +kernel)
theorem kw_981 : (Jvm.Cond.methodLink "ClosureFramesLaw" (59 : Nat) ({ cls := "ClosureFramesModel", name := "state", desc := "(III)I" } : Jvm.MethodName)) ∈ z_tbl := z_in (List.mem_append_right _ (List.mem_of_getElem? (i := 981) (by decide +kernel))) (by decide +kernel)
theorem kw_982 : (Jvm.Cond.instanceMethod ({ cls := "ClosureFramesModel", name := "state", desc := "(III)I" } : Jvm.MethodName)) ∈ z_tbl := z_in (List.mem_append_right _ (List.mem_of_getElem? (i := 982) (by decide +kernel))) (by decide +kernel)
theorem kw_983 : (Jvm.Cond.selects "ClosureFramesModel" ({ cls := "ClosureFramesModel", name := "state", desc := "(III)I" } : Jvm.MethodName) ({ cls := "ClosureFramesModel", name := "state", desc := "(III)I" } : Jvm.MethodName)) ∈ z_tbl := z_in (List.mem_append_right _ (List.mem_of_getElem? (i := 983) (by decide +kernel))) (by decide +kernel)
theorem kw_984 : (Jvm.Cond.code ({ cls := "ClosureFramesModel", name := "state", desc := "(III)I" } : Jvm.MethodName) prog_11_method_46_code (5 : Nat) (Option.some Jvm.ClassFile.FieldType.int)) ∈ z_tbl := z_in (List.mem_append_right _ (List.mem_of_getElem? (i := 984) (by decide +kernel))) (by decide +kernel)
theorem kw_985 : (Jvm.Cond.methodLink "ClosureFramesModel" (209 : Nat) ({ cls := "ClosureFramesModel", name := "isAsked", desc := "(I)Z" } : Jvm.MethodName)) ∈ z_tbl := z_in (List.mem_append_right _ (List.mem_of_getElem? (i := 985) (by decide +kernel))) (by decide +kernel)
theorem kw_986 : (Jvm.Cond.static ({ cls := "ClosureFramesModel", name := "isAsked", desc := "(I)Z" } : Jvm.MethodName)) ∈ z_tbl := z_in (List.mem_append_right _ (List.mem_of_getElem? (i := 986) (by decide +kernel))) (by decide +kernel)
theorem kw_987 : (Jvm.Cond.code ({ cls := "ClosureFramesModel", name := "isAsked", desc := "(I)Z" } : Jvm.MethodName) prog_11_method_45_code (1 : Nat) (Option.some Jvm.ClassFile.FieldType.boolean)) ∈ z_tbl := z_in (List.mem_append_right _ (List.mem_of_getElem? (i := 987) (by decide +kernel))) (by decide +kernel)
theorem kw_988 : (Jvm.Cond.methodLink "ClosureFramesModel" (212 : Nat) ({ cls := "ClosureFramesModel", name := "part", desc := "([III)I" } : Jvm.MethodName)) ∈ z_tbl := z_in (List.mem_append_right _ (List.mem_of_getElem? (i := 988) (by decide +kernel))) (by decide +kernel)
theorem kw_990 : (Jvm.Cond.instanceMethod ({ cls := "ClosureFramesModel", name := "part", desc := "([III)I" } : Jvm.MethodName)) ∈ z_tbl := z_in (List.mem_append_right _ (List.mem_of_getElem? (i := 990) (by decide +kernel))) (by decide +kernel)
theorem kw_991 : (Jvm.Cond.code ({ cls := "ClosureFramesModel", name := "part", desc := "([III)I" } : Jvm.MethodName) prog_11_method_44_code (4 : Nat) (Option.some Jvm.ClassFile.FieldType.int)) ∈ z_tbl := z_in (List.mem_append_right _ (List.mem_of_getElem? (i := 991) (by decide +kernel))) (by decide +kernel)
theorem kw_992 : (Jvm.Cond.methodLink "ClosureFramesLaw" (63 : Nat) ({ cls := "ClosureFramesModel", name := "frame", desc := "(III)I" } : Jvm.MethodName)) ∈ z_tbl := z_in (List.mem_append_right _ (List.mem_of_getElem? (i := 992) (by decide +kernel))) (by decide +kernel)
theorem kw_993 : (Jvm.Cond.instanceMethod ({ cls := "ClosureFramesModel", name := "frame", desc := "(III)I" } : Jvm.MethodName)) ∈ z_tbl := z_in (List.mem_append_right _ (List.mem_of_getElem? (i := 993) (by decide +kernel))) (by decide +kernel)
theorem kw_994 : (Jvm.Cond.selects "ClosureFramesModel" ({ cls := "ClosureFramesModel", name := "frame", desc := "(III)I" } : Jvm.MethodName) ({ cls := "ClosureFramesModel", name := "frame", desc := "(III)I" } : Jvm.MethodName)) ∈ z_tbl := z_in (List.mem_append_right _ (List.mem_of_getElem? (i := 994) (by decide +kernel))) (by decide +kernel)
theorem kw_995 : (Jvm.Cond.code ({ cls := "ClosureFramesModel", name := "frame", desc := "(III)I" } : Jvm.MethodName) prog_11_method_49_code (6 : Nat) (Option.some Jvm.ClassFile.FieldType.int)) ∈ z_tbl := z_in (List.mem_append_right _ (List.mem_of_getElem? (i := 995) (by decide +kernel))) (by decide +kernel)
theorem kw_996 : (Jvm.Cond.methodLink "ClosureFramesModel" (216 : Nat) ({ cls := "ClosureFramesModel", name := "actOf", desc := "(II)I" } : Jvm.MethodName)) ∈ z_tbl := z_in (List.mem_append_right _ (List.mem_of_getElem? (i := 996) (by decide +kernel))) (by decide +kernel)
theorem kw_998 : (Jvm.Cond.instanceMethod ({ cls := "ClosureFramesModel", name := "actOf", desc := "(II)I" } : Jvm.MethodName)) ∈ z_tbl := z_in (List.mem_append_right _ (List.mem_of_getElem? (i := 998) (by decide +kernel))) (by decide +kernel)
theorem kw_999 : (Jvm.Cond.code ({ cls := "ClosureFramesModel", name := "actOf", desc := "(II)I" } : Jvm.MethodName) prog_11_method_48_code (5 : Nat) (Option.some Jvm.ClassFile.FieldType.int)) ∈ z_tbl := z_in (List.mem_append_right _ (List.mem_of_getElem? (i := 999) (by decide +kernel))) (by decide +kernel)
theorem kw_1000 : (Jvm.Cond.methodLink "ClosureFramesLaw" (67 : Nat) ({ cls := "ClosureFramesModel", name := "form", desc := "(II)I" } : Jvm.MethodName)) ∈ z_tbl := z_in (List.mem_append_right _ (List.mem_of_getElem? (i := 1000) (by decide +kernel))) (by decide +kernel)
theorem kw_1001 : (Jvm.Cond.instanceMethod ({ cls := "ClosureFramesModel", name := "form", desc := "(II)I" } : Jvm.MethodName)) ∈ z_tbl := z_in (List.mem_append_right _ (List.mem_of_getElem? (i := 1001) (by decide +kernel))) (by decide +kernel)
theorem kw_1002 : (Jvm.Cond.selects "ClosureFramesModel" ({ cls := "ClosureFramesModel", name := "form", desc := "(II)I" } : Jvm.MethodName) ({ cls := "ClosureFramesModel", name := "form", desc := "(II)I" } : Jvm.MethodName)) ∈ z_tbl := z_in (List.mem_append_right _ (List.mem_of_getElem? (i := 1002) (by decide +kernel))) (by decide +kernel)
theorem kw_1003 : (Jvm.Cond.code ({ cls := "ClosureFramesModel", name := "form", desc := "(II)I" } : Jvm.MethodName) prog_11_method_51_code (9 : Nat) (Option.some Jvm.ClassFile.FieldType.int)) ∈ z_tbl := z_in (List.mem_append_right _ (List.mem_of_getElem? (i := 1003) (by decide +kernel))) (by decide +kernel)
theorem kw_1004 : (Jvm.Cond.methodLink "ClosureFramesModel" (219 : Nat) ({ cls := "ClosureFramesModel", name := "toldPlaces", desc := "([II[I)I" } : Jvm.MethodName)) ∈ z_tbl := z_in (List.mem_append_right _ (List.mem_of_getElem? (i := 1004) (by decide +kernel))) (by decide +kernel)
theorem kw_1005 : (Jvm.Cond.static ({ cls := "ClosureFramesModel", name := "toldPlaces", desc := "([II[I)I" } : Jvm.MethodName)) ∈ z_tbl := z_in (List.mem_append_right _ (List.mem_of_getElem? (i := 1005) (by decide +kernel))) (by decide +kernel)
theorem kw_1006 : (Jvm.Cond.code ({ cls := "ClosureFramesModel", name := "toldPlaces", desc := "([II[I)I" } : Jvm.MethodName) prog_11_method_50_code (6 : Nat) (Option.some Jvm.ClassFile.FieldType.int)) ∈ z_tbl := z_in (List.mem_append_right _ (List.mem_of_getElem? (i := 1006) (by decide +kernel))) (by decide +kernel)
theorem kw_1007 : (Jvm.Cond.methodLink "ClosureFramesLaw" (71 : Nat) ({ cls := "ClosureFramesModel", name := "shared", desc := "(II)I" } : Jvm.MethodName)) ∈ z_tbl := z_in (List.mem_append_right _ (List.mem_of_getElem? (i := 1007) (by decide +kernel))) (by decide +kernel)
theorem kw_1008 : (Jvm.Cond.instanceMethod ({ cls := "ClosureFramesModel", name := "shared", desc := "(II)I" } : Jvm.MethodName)) ∈ z_tbl := z_in (List.mem_append_right _ (List.mem_of_getElem? (i := 1008) (by decide +kernel))) (by decide +kernel)
theorem kw_1009 : (Jvm.Cond.selects "ClosureFramesModel" ({ cls := "ClosureFramesModel", name := "shared", desc := "(II)I" } : Jvm.MethodName) ({ cls := "ClosureFramesModel", name := "shared", desc := "(II)I" } : Jvm.MethodName)) ∈ z_tbl := z_in (List.mem_append_right _ (List.mem_of_getElem? (i := 1009) (by decide +kernel))) (by decide +kernel)
theorem kw_1010 : (Jvm.Cond.code ({ cls := "ClosureFramesModel", name := "shared", desc := "(II)I" } : Jvm.MethodName) prog_11_method_52_code (8 : Nat) (Option.some Jvm.ClassFile.FieldType.int)) ∈ z_tbl := z_in (List.mem_append_right _ (List.mem_of_getElem? (i := 1010) (by decide +kernel))) (by decide +kernel)
theorem kw_1011 : (Jvm.Cond.methodLink "ClosureFramesLaw" (75 : Nat) ({ cls := "ClosureFramesModel", name := "maximum", desc := "(II)I" } : Jvm.MethodName)) ∈ z_tbl := z_in (List.mem_append_right _ (List.mem_of_getElem? (i := 1011) (by decide +kernel))) (by decide +kernel)
theorem kw_1012 : (Jvm.Cond.instanceMethod ({ cls := "ClosureFramesModel", name := "maximum", desc := "(II)I" } : Jvm.MethodName)) ∈ z_tbl := z_in (List.mem_append_right _ (List.mem_of_getElem? (i := 1012) (by decide +kernel))) (by decide +kernel)
theorem kw_1013 : (Jvm.Cond.selects "ClosureFramesModel" ({ cls := "ClosureFramesModel", name := "maximum", desc := "(II)I" } : Jvm.MethodName) ({ cls := "ClosureFramesModel", name := "maximum", desc := "(II)I" } : Jvm.MethodName)) ∈ z_tbl := z_in (List.mem_append_right _ (List.mem_of_getElem? (i := 1013) (by decide +kernel))) (by decide +kernel)
theorem kw_1014 : (Jvm.Cond.code ({ cls := "ClosureFramesModel", name := "maximum", desc := "(II)I" } : Jvm.MethodName) prog_11_method_53_code (11 : Nat) (Option.some Jvm.ClassFile.FieldType.int)) ∈ z_tbl := z_in (List.mem_append_right _ (List.mem_of_getElem? (i := 1014) (by decide +kernel))) (by decide +kernel)
theorem kw_1015 : (Jvm.Cond.methodLink "ClosureFramesLaw" (79 : Nat) ({ cls := "ClosureFramesModel", name := "plant", desc := "(IIII)I" } : Jvm.MethodName)) ∈ z_tbl := z_in (List.mem_append_right _ (List.mem_of_getElem? (i := 1015) (by decide +kernel))) (by decide +kernel)
theorem kw_1016 : (Jvm.Cond.instanceMethod ({ cls := "ClosureFramesModel", name := "plant", desc := "(IIII)I" } : Jvm.MethodName)) ∈ z_tbl := z_in (List.mem_append_right _ (List.mem_of_getElem? (i := 1016) (by decide +kernel))) (by decide +kernel)
theorem kw_1017 : (Jvm.Cond.selects "ClosureFramesModel" ({ cls := "ClosureFramesModel", name := "plant", desc := "(IIII)I" } : Jvm.MethodName) ({ cls := "ClosureFramesModel", name := "plant", desc := "(IIII)I" } : Jvm.MethodName)) ∈ z_tbl := z_in (List.mem_append_right _ (List.mem_of_getElem? (i := 1017) (by decide +kernel))) (by decide +kernel)
theorem kw_1018 : (Jvm.Cond.code ({ cls := "ClosureFramesModel", name := "plant", desc := "(IIII)I" } : Jvm.MethodName) prog_11_method_54_code (8 : Nat) (Option.some Jvm.ClassFile.FieldType.int)) ∈ z_tbl := z_in (List.mem_append_right _ (List.mem_of_getElem? (i := 1018) (by decide +kernel))) (by decide +kernel)
theorem kw_1019 : (Jvm.Cond.methodLink "ClosureFramesLaw" (83 : Nat) ({ cls := "ClosureFramesModel", name := "verify", desc := "(I)I" } : Jvm.MethodName)) ∈ z_tbl := z_in (List.mem_append_right _ (List.mem_of_getElem? (i := 1019) (by decide +kernel))) (by decide +kernel)
theorem kw_1020 : (Jvm.Cond.instanceMethod ({ cls := "ClosureFramesModel", name := "verify", desc := "(I)I" } : Jvm.MethodName)) ∈ z_tbl := z_in (List.mem_append_right _ (List.mem_of_getElem? (i := 1020) (by decide +kernel))) (by decide +kernel)
theorem kw_1021 : (Jvm.Cond.selects "ClosureFramesModel" ({ cls := "ClosureFramesModel", name := "verify", desc := "(I)I" } : Jvm.MethodName) ({ cls := "ClosureFramesModel", name := "verify", desc := "(I)I" } : Jvm.MethodName)) ∈ z_tbl := z_in (List.mem_append_right _ (List.mem_of_getElem? (i := 1021) (by decide +kernel))) (by decide +kernel)
theorem kw_1022 : (Jvm.Cond.code ({ cls := "ClosureFramesModel", name := "verify", desc := "(I)I" } : Jvm.MethodName) prog_11_method_58_code (4 : Nat) (Option.some Jvm.ClassFile.FieldType.int)) ∈ z_tbl := z_in (List.mem_append_right _ (List.mem_of_getElem? (i := 1022) (by decide +kernel))) (by decide +kernel)
theorem kw_1023 : (Jvm.Cond.methodLink "ClosureFramesModel" (234 : Nat) ({ cls := "ClosureFramesModel", name := "looksAt", desc := "(IZ)V" } : Jvm.MethodName)) ∈ z_tbl := z_in (List.mem_append_right _ (List.mem_of_getElem? (i := 1023) (by decide +kernel))) (by decide +kernel)
theorem kw_1025 : (Jvm.Cond.instanceMethod ({ cls := "ClosureFramesModel", name := "looksAt", desc := "(IZ)V" } : Jvm.MethodName)) ∈ z_tbl := z_in (List.mem_append_right _ (List.mem_of_getElem? (i := 1025) (by decide +kernel))) (by decide +kernel)
theorem kw_1026 : (Jvm.Cond.code ({ cls := "ClosureFramesModel", name := "looksAt", desc := "(IZ)V" } : Jvm.MethodName) prog_11_method_57_code (5 : Nat) (Option.none : Option Jvm.ClassFile.FieldType)) ∈ z_tbl := z_in (List.mem_append_right _ (List.mem_of_getElem? (i := 1026) (by decide +kernel))) (by decide +kernel)
theorem kw_1027 : (Jvm.Cond.methodLink "ClosureFramesModel" (226 : Nat) ({ cls := "ClosureFramesModel", name := "allFit", desc := "([II)Z" } : Jvm.MethodName)) ∈ z_tbl := z_in (List.mem_append_right _ (List.mem_of_getElem? (i := 1027) (by decide +kernel))) (by decide +kernel)
theorem kw_1029 : (Jvm.Cond.instanceMethod ({ cls := "ClosureFramesModel", name := "allFit", desc := "([II)Z" } : Jvm.MethodName)) ∈ z_tbl := z_in (List.mem_append_right _ (List.mem_of_getElem? (i := 1029) (by decide +kernel))) (by decide +kernel)
theorem kw_1030 : (Jvm.Cond.code ({ cls := "ClosureFramesModel", name := "allFit", desc := "([II)Z" } : Jvm.MethodName) prog_11_method_55_code (5 : Nat) (Option.some Jvm.ClassFile.FieldType.boolean)) ∈ z_tbl := z_in (List.mem_append_right _ (List.mem_of_getElem? (i := 1030) (by decide +kernel))) (by decide +kernel)
theorem kw_1031 : (Jvm.Cond.methodLink "ClosureFramesModel" (223 : Nat) ({ cls := "ClosureFramesModel", name := "fits", desc := "(II)Z" } : Jvm.MethodName)) ∈ z_tbl := z_in (List.mem_append_right _ (List.mem_of_getElem? (i := 1031) (by decide +kernel))) (by decide +kernel)
theorem kw_1033 : (Jvm.Cond.instanceMethod ({ cls := "ClosureFramesModel", name := "fits", desc := "(II)Z" } : Jvm.MethodName)) ∈ z_tbl := z_in (List.mem_append_right _ (List.mem_of_getElem? (i := 1033) (by decide +kernel))) (by decide +kernel)
theorem kw_1034 : (Jvm.Cond.code ({ cls := "ClosureFramesModel", name := "fits", desc := "(II)Z" } : Jvm.MethodName) prog_11_method_14_code (3 : Nat) (Option.some Jvm.ClassFile.FieldType.boolean)) ∈ z_tbl := z_in (List.mem_append_right _ (List.mem_of_getElem? (i := 1034) (by decide +kernel))) (by decide +kernel)
theorem kw_1035 : (Jvm.Cond.methodLink "ClosureFramesModel" (230 : Nat) ({ cls := "ClosureFramesModel", name := "looks", desc := "([IIIZ)V" } : Jvm.MethodName)) ∈ z_tbl := z_in (List.mem_append_right _ (List.mem_of_getElem? (i := 1035) (by decide +kernel))) (by decide +kernel)
theorem kw_1037 : (Jvm.Cond.instanceMethod ({ cls := "ClosureFramesModel", name := "looks", desc := "([IIIZ)V" } : Jvm.MethodName)) ∈ z_tbl := z_in (List.mem_append_right _ (List.mem_of_getElem? (i := 1037) (by decide +kernel))) (by decide +kernel)
theorem kw_1038 : (Jvm.Cond.code ({ cls := "ClosureFramesModel", name := "looks", desc := "([IIIZ)V" } : Jvm.MethodName) prog_11_method_56_code (5 : Nat) (Option.none : Option Jvm.ClassFile.FieldType)) ∈ z_tbl := z_in (List.mem_append_right _ (List.mem_of_getElem? (i := 1038) (by decide +kernel))) (by decide +kernel)
theorem kw_1039 : (Jvm.Cond.methodLink "ClosureFramesLaw" (87 : Nat) ({ cls := "ClosureFramesModel", name := "told", desc := "(I)I" } : Jvm.MethodName)) ∈ z_tbl := z_in (List.mem_append_right _ (List.mem_of_getElem? (i := 1039) (by decide +kernel))) (by decide +kernel)
theorem kw_1040 : (Jvm.Cond.instanceMethod ({ cls := "ClosureFramesModel", name := "told", desc := "(I)I" } : Jvm.MethodName)) ∈ z_tbl := z_in (List.mem_append_right _ (List.mem_of_getElem? (i := 1040) (by decide +kernel))) (by decide +kernel)
theorem kw_1041 : (Jvm.Cond.selects "ClosureFramesModel" ({ cls := "ClosureFramesModel", name := "told", desc := "(I)I" } : Jvm.MethodName) ({ cls := "ClosureFramesModel", name := "told", desc := "(I)I" } : Jvm.MethodName)) ∈ z_tbl := z_in (List.mem_append_right _ (List.mem_of_getElem? (i := 1041) (by decide +kernel))) (by decide +kernel)
theorem kw_1042 : (Jvm.Cond.code ({ cls := "ClosureFramesModel", name := "told", desc := "(I)I" } : Jvm.MethodName) prog_11_method_59_code (3 : Nat) (Option.some Jvm.ClassFile.FieldType.int)) ∈ z_tbl := z_in (List.mem_append_right _ (List.mem_of_getElem? (i := 1042) (by decide +kernel))) (by decide +kernel)
theorem kw_1043 : (Jvm.Cond.methodLink "ClosureFramesModel" (238 : Nat) ({ cls := "ClosureFramesModel", name := "frameCount", desc := "(I)I" } : Jvm.MethodName)) ∈ z_tbl := z_in (List.mem_append_right _ (List.mem_of_getElem? (i := 1043) (by decide +kernel))) (by decide +kernel)
theorem kw_1045 : (Jvm.Cond.instanceMethod ({ cls := "ClosureFramesModel", name := "frameCount", desc := "(I)I" } : Jvm.MethodName)) ∈ z_tbl := z_in (List.mem_append_right _ (List.mem_of_getElem? (i := 1045) (by decide +kernel))) (by decide +kernel)
theorem kw_1046 : (Jvm.Cond.code ({ cls := "ClosureFramesModel", name := "frameCount", desc := "(I)I" } : Jvm.MethodName) prog_11_method_47_code (4 : Nat) (Option.some Jvm.ClassFile.FieldType.int)) ∈ z_tbl := z_in (List.mem_append_right _ (List.mem_of_getElem? (i := 1046) (by decide +kernel))) (by decide +kernel)
theorem ks_0 : Cond.selects "ClosureFrames" ⟨"ClosureFrames", "methodAt", "(I)LClosureFrames$Method;"⟩ ⟨"ClosureFrames", "methodAt", "(I)LClosureFrames$Method;"⟩ ∈ z_tbl := z_in (List.mem_append_left _ (List.mem_of_getElem? (i := 0) (by decide +kernel))) (by decide +kernel)
theorem ks_1 : Cond.selects "ClosureFrames$Snapshot" ⟨"ClosureFrames$Snapshot", "breakWideAt", "(I)V"⟩ ⟨"ClosureFrames$Snapshot", "breakWideAt", "(I)V"⟩ ∈ z_tbl := z_in (List.mem_append_left _ (List.mem_of_getElem? (i := 1) (by decide +kernel))) (by decide +kernel)
theorem ks_2 : Cond.selects "ClosureFrames" ⟨"ClosureFrames", "isAct", "(III)Z"⟩ ⟨"ClosureFrames", "isAct", "(III)Z"⟩ ∈ z_tbl := z_in (List.mem_append_left _ (List.mem_of_getElem? (i := 2) (by decide +kernel))) (by decide +kernel)
theorem ks_3 : Cond.selects "ClosureFrames$Computing" ⟨"ClosureFrames$Computing", "arrive", "(LClosureFrames$Method;IILClosureFrames$Snapshot;)I"⟩ ⟨"ClosureFrames$Computing", "arrive", "(LClosureFrames$Method;IILClosureFrames$Snapshot;)I"⟩ ∈ z_tbl := z_in (List.mem_append_left _ (List.mem_of_getElem? (i := 3) (by decide +kernel))) (by decide +kernel)
theorem ks_4 : Cond.selects "ClosureFrames$Computing" ⟨"ClosureFrames$Computing", "merge", "(LClosureFrames$Act;LClosureFrames$Snapshot;)I"⟩ ⟨"ClosureFrames$Computing", "merge", "(LClosureFrames$Act;LClosureFrames$Snapshot;)I"⟩ ∈ z_tbl := z_in (List.mem_append_left _ (List.mem_of_getElem? (i := 4) (by decide +kernel))) (by decide +kernel)
theorem ks_5 : Cond.selects "ClosureFrames$Computing" ⟨"ClosureFrames$Computing", "workOn", "(LClosureFrames$Method;I)I"⟩ ⟨"ClosureFrames$Computing", "workOn", "(LClosureFrames$Method;I)I"⟩ ∈ z_tbl := z_in (List.mem_append_left _ (List.mem_of_getElem? (i := 5) (by decide +kernel))) (by decide +kernel)
theorem ks_6 : Cond.selects "ClosureFrames$Computing" ⟨"ClosureFrames$Computing", "sendToGuards", "(LClosureFrames$Method;I)I"⟩ ⟨"ClosureFrames$Computing", "sendToGuards", "(LClosureFrames$Method;I)I"⟩ ∈ z_tbl := z_in (List.mem_append_left _ (List.mem_of_getElem? (i := 6) (by decide +kernel))) (by decide +kernel)
theorem ks_7 : Cond.selects "ClosureFrames$Worker" ⟨"ClosureFrames$Worker", "load", "(LClosureFrames$Method;ILClosureFrames$Snapshot;)I"⟩ ⟨"ClosureFrames$Worker", "load", "(LClosureFrames$Method;ILClosureFrames$Snapshot;)I"⟩ ∈ z_tbl := z_in (List.mem_append_left _ (List.mem_of_getElem? (i := 7) (by decide +kernel))) (by decide +kernel)
theorem ks_8 : Cond.selects "ClosureFrames$Worker" ⟨"ClosureFrames$Worker", "store", "(LClosureFrames$Method;ILClosureFrames$Snapshot;)I"⟩ ⟨"ClosureFrames$Worker", "store", "(LClosureFrames$Method;ILClosureFrames$Snapshot;)I"⟩ ∈ z_tbl := z_in (List.mem_append_left _ (List.mem_of_getElem? (i := 8) (by decide +kernel))) (by decide +kernel)
theorem ks_9 : Cond.selects "ClosureFrames$Worker" ⟨"ClosureFrames$Worker", "add", "(LClosureFrames$Snapshot;I)I"⟩ ⟨"ClosureFrames$Worker", "add", "(LClosureFrames$Snapshot;I)I"⟩ ∈ z_tbl := z_in (List.mem_append_left _ (List.mem_of_getElem? (i := 9) (by decide +kernel))) (by decide +kernel)
theorem ks_10 : Cond.selects "ClosureFrames$Worker" ⟨"ClosureFrames$Worker", "take", "(LClosureFrames$Snapshot;I)I"⟩ ⟨"ClosureFrames$Worker", "take", "(LClosureFrames$Snapshot;I)I"⟩ ∈ z_tbl := z_in (List.mem_append_left _ (List.mem_of_getElem? (i := 10) (by decide +kernel))) (by decide +kernel)
theorem ks_11 : Cond.selects "ClosureFrames$Worker" ⟨"ClosureFrames$Worker", "pushUnless", "(ILClosureFrames$Snapshot;I)I"⟩ ⟨"ClosureFrames$Worker", "pushUnless", "(ILClosureFrames$Snapshot;I)I"⟩ ∈ z_tbl := z_in (List.mem_append_left _ (List.mem_of_getElem? (i := 11) (by decide +kernel))) (by decide +kernel)
theorem ks_12 : Cond.selects "ClosureFrames$Worker" ⟨"ClosureFrames$Worker", "make", "(LClosureFrames$Method;ILClosureFrames$Snapshot;)I"⟩ ⟨"ClosureFrames$Worker", "make", "(LClosureFrames$Method;ILClosureFrames$Snapshot;)I"⟩ ∈ z_tbl := z_in (List.mem_append_left _ (List.mem_of_getElem? (i := 12) (by decide +kernel))) (by decide +kernel)
theorem ks_13 : Cond.selects "ClosureFrames$Worker" ⟨"ClosureFrames$Worker", "takeObject", "(LClosureFrames$Snapshot;I)I"⟩ ⟨"ClosureFrames$Worker", "takeObject", "(LClosureFrames$Snapshot;I)I"⟩ ∈ z_tbl := z_in (List.mem_append_left _ (List.mem_of_getElem? (i := 13) (by decide +kernel))) (by decide +kernel)
theorem ks_14 : Cond.selects "ClosureFrames$Worker" ⟨"ClosureFrames$Worker", "callOn", "(LClosureFrames$Snapshot;I)I"⟩ ⟨"ClosureFrames$Worker", "callOn", "(LClosureFrames$Snapshot;I)I"⟩ ∈ z_tbl := z_in (List.mem_append_left _ (List.mem_of_getElem? (i := 14) (by decide +kernel))) (by decide +kernel)
theorem ks_15 : Cond.selects "ClosureFrames$Computing" ⟨"ClosureFrames$Computing", "sendOn", "(LClosureFrames$Method;ILClosureFrames$Act;)I"⟩ ⟨"ClosureFrames$Computing", "sendOn", "(LClosureFrames$Method;ILClosureFrames$Act;)I"⟩ ∈ z_tbl := z_in (List.mem_append_left _ (List.mem_of_getElem? (i := 15) (by decide +kernel))) (by decide +kernel)
theorem ks_16 : Cond.selects "ClosureFrames$Act" ⟨"ClosureFrames$Act", "jumps", "()Z"⟩ ⟨"ClosureFrames$Act", "jumps", "()Z"⟩ ∈ z_tbl := z_in (List.mem_append_left _ (List.mem_of_getElem? (i := 16) (by decide +kernel))) (by decide +kernel)
theorem ks_17 : Cond.selects "ClosureFrames$Method" ⟨"ClosureFrames$Method", "leads", "(II)Z"⟩ ⟨"ClosureFrames$Method", "leads", "(II)Z"⟩ ∈ z_tbl := z_in (List.mem_append_left _ (List.mem_of_getElem? (i := 17) (by decide +kernel))) (by decide +kernel)
theorem ks_18 : Cond.selects "ClosureFrames$Snapshot" ⟨"ClosureFrames$Snapshot", "end", "()I"⟩ ⟨"ClosureFrames$Snapshot", "end", "()I"⟩ ∈ z_tbl := z_in (List.mem_append_left _ (List.mem_of_getElem? (i := 18) (by decide +kernel))) (by decide +kernel)
theorem ks_19 : Cond.selects "ClosureFrames$Snapshot" ⟨"ClosureFrames$Snapshot", "isLikeUpTo", "(LClosureFrames$Snapshot;I)Z"⟩ ⟨"ClosureFrames$Snapshot", "isLikeUpTo", "(LClosureFrames$Snapshot;I)Z"⟩ ∈ z_tbl := z_in (List.mem_append_left _ (List.mem_of_getElem? (i := 19) (by decide +kernel))) (by decide +kernel)
theorem ks_20 : Cond.selects "ClosureFrames$Snapshot" ⟨"ClosureFrames$Snapshot", "countTold", "(II)I"⟩ ⟨"ClosureFrames$Snapshot", "countTold", "(II)I"⟩ ∈ z_tbl := z_in (List.mem_append_left _ (List.mem_of_getElem? (i := 20) (by decide +kernel))) (by decide +kernel)
theorem ks_21 : Cond.selects "ClosureFrames$Looking" ⟨"ClosureFrames$Looking", "lookAt", "(LClosureFrames$Method;I)I"⟩ ⟨"ClosureFrames$Looking", "lookAt", "(LClosureFrames$Method;I)I"⟩ ∈ z_tbl := z_in (List.mem_append_left _ (List.mem_of_getElem? (i := 21) (by decide +kernel))) (by decide +kernel)
theorem ks_22 : Cond.selects "ClosureFrames$Looking" ⟨"ClosureFrames$Looking", "takeFrame", "(LClosureFrames$Act;)I"⟩ ⟨"ClosureFrames$Looking", "takeFrame", "(LClosureFrames$Act;)I"⟩ ∈ z_tbl := z_in (List.mem_append_left _ (List.mem_of_getElem? (i := 22) (by decide +kernel))) (by decide +kernel)
theorem ks_23 : Cond.selects "ClosureFrames$Looking" ⟨"ClosureFrames$Looking", "lookAtGuards", "(LClosureFrames$Method;I)I"⟩ ⟨"ClosureFrames$Looking", "lookAtGuards", "(LClosureFrames$Method;I)I"⟩ ∈ z_tbl := z_in (List.mem_append_left _ (List.mem_of_getElem? (i := 23) (by decide +kernel))) (by decide +kernel)
theorem ks_24 : Cond.selects "ClosureFrames$Looking" ⟨"ClosureFrames$Looking", "meet", "(LClosureFrames$Act;LClosureFrames$Snapshot;)I"⟩ ⟨"ClosureFrames$Looking", "meet", "(LClosureFrames$Act;LClosureFrames$Snapshot;)I"⟩ ∈ z_tbl := z_in (List.mem_append_left _ (List.mem_of_getElem? (i := 24) (by decide +kernel))) (by decide +kernel)
theorem ks_25 : Cond.selects "ClosureFrames$Looking" ⟨"ClosureFrames$Looking", "lookAtTargets", "(LClosureFrames$Method;ILClosureFrames$Act;)I"⟩ ⟨"ClosureFrames$Looking", "lookAtTargets", "(LClosureFrames$Method;ILClosureFrames$Act;)I"⟩ ∈ z_tbl := z_in (List.mem_append_left _ (List.mem_of_getElem? (i := 25) (by decide +kernel))) (by decide +kernel)
theorem ks_26 : Cond.selects "ClosureFrames" ⟨"ClosureFrames", "toldActs", "(I)I"⟩ ⟨"ClosureFrames", "toldActs", "(I)I"⟩ ∈ z_tbl := z_in (List.mem_append_left _ (List.mem_of_getElem? (i := 26) (by decide +kernel))) (by decide +kernel)
theorem ks_27 : Cond.selects "ClosureFrames" ⟨"ClosureFrames", "toldGuards", "(I)I"⟩ ⟨"ClosureFrames", "toldGuards", "(I)I"⟩ ∈ z_tbl := z_in (List.mem_append_left _ (List.mem_of_getElem? (i := 27) (by decide +kernel))) (by decide +kernel)
theorem ks_28 : Cond.selects "ClosureFrames" ⟨"ClosureFrames", "toldPlaces", "(I)I"⟩ ⟨"ClosureFrames", "toldPlaces", "(I)I"⟩ ∈ z_tbl := z_in (List.mem_append_left _ (List.mem_of_getElem? (i := 28) (by decide +kernel))) (by decide +kernel)
theorem ks_29 : Cond.selects "ClosureFrames" ⟨"ClosureFrames", "toldFrames", "(I)I"⟩ ⟨"ClosureFrames", "toldFrames", "(I)I"⟩ ∈ z_tbl := z_in (List.mem_append_left _ (List.mem_of_getElem? (i := 29) (by decide +kernel))) (by decide +kernel)
theorem ks_30 : Cond.selects "ClosureFramesModel" ⟨"ClosureFramesModel", "isClass", "(I)Z"⟩ ⟨"ClosureFramesModel", "isClass", "(I)Z"⟩ ∈ z_tbl := z_in (List.mem_append_left _ (List.mem_of_getElem? (i := 30) (by decide +kernel))) (by decide +kernel)
theorem ks_31 : Cond.selects "ClosureFramesModel" ⟨"ClosureFramesModel", "joinOf", "(II)I"⟩ ⟨"ClosureFramesModel", "joinOf", "(II)I"⟩ ∈ z_tbl := z_in (List.mem_append_left _ (List.mem_of_getElem? (i := 31) (by decide +kernel))) (by decide +kernel)
theorem ks_32 : Cond.selects "ClosureFramesModel" ⟨"ClosureFramesModel", "isBelow", "(II)Z"⟩ ⟨"ClosureFramesModel", "isBelow", "(II)Z"⟩ ∈ z_tbl := z_in (List.mem_append_left _ (List.mem_of_getElem? (i := 32) (by decide +kernel))) (by decide +kernel)
theorem ks_33 : Cond.selects "ClosureFramesModel" ⟨"ClosureFramesModel", "isOne", "(II)Z"⟩ ⟨"ClosureFramesModel", "isOne", "(II)Z"⟩ ∈ z_tbl := z_in (List.mem_append_left _ (List.mem_of_getElem? (i := 33) (by decide +kernel))) (by decide +kernel)
theorem ks_34 : Cond.selects "ClosureFramesModel" ⟨"ClosureFramesModel", "beginning", "([I)V"⟩ ⟨"ClosureFramesModel", "beginning", "([I)V"⟩ ∈ z_tbl := z_in (List.mem_append_left _ (List.mem_of_getElem? (i := 34) (by decide +kernel))) (by decide +kernel)
theorem ks_35 : Cond.selects "ClosureFramesModel" ⟨"ClosureFramesModel", "works", "(I)V"⟩ ⟨"ClosureFramesModel", "works", "(I)V"⟩ ∈ z_tbl := z_in (List.mem_append_left _ (List.mem_of_getElem? (i := 35) (by decide +kernel))) (by decide +kernel)
theorem ks_36 : Cond.selects "ClosureFramesModel" ⟨"ClosureFramesModel", "holds", "(II)Z"⟩ ⟨"ClosureFramesModel", "holds", "(II)Z"⟩ ∈ z_tbl := z_in (List.mem_append_left _ (List.mem_of_getElem? (i := 36) (by decide +kernel))) (by decide +kernel)
theorem ks_37 : Cond.selects "ClosureFramesModel" ⟨"ClosureFramesModel", "caughtState", "(I)V"⟩ ⟨"ClosureFramesModel", "caughtState", "(I)V"⟩ ∈ z_tbl := z_in (List.mem_append_left _ (List.mem_of_getElem? (i := 37) (by decide +kernel))) (by decide +kernel)
theorem ks_38 : Cond.selects "ClosureFramesModel" ⟨"ClosureFramesModel", "comes", "(IIZ)V"⟩ ⟨"ClosureFramesModel", "comes", "(IIZ)V"⟩ ∈ z_tbl := z_in (List.mem_append_left _ (List.mem_of_getElem? (i := 38) (by decide +kernel))) (by decide +kernel)
theorem ks_39 : Cond.selects "ClosureFramesModel" ⟨"ClosureFramesModel", "fails", "(I)V"⟩ ⟨"ClosureFramesModel", "fails", "(I)V"⟩ ∈ z_tbl := z_in (List.mem_append_left _ (List.mem_of_getElem? (i := 39) (by decide +kernel))) (by decide +kernel)
theorem ks_40 : Cond.selects "ClosureFramesModel" ⟨"ClosureFramesModel", "hasUnmade", "([I)Z"⟩ ⟨"ClosureFramesModel", "hasUnmade", "([I)Z"⟩ ∈ z_tbl := z_in (List.mem_append_left _ (List.mem_of_getElem? (i := 40) (by decide +kernel))) (by decide +kernel)
theorem ks_41 : Cond.selects "ClosureFramesModel" ⟨"ClosureFramesModel", "joinTypes", "(II)I"⟩ ⟨"ClosureFramesModel", "joinTypes", "(II)I"⟩ ∈ z_tbl := z_in (List.mem_append_left _ (List.mem_of_getElem? (i := 41) (by decide +kernel))) (by decide +kernel)
theorem ks_42 : Cond.selects "ClosureFramesModel" ⟨"ClosureFramesModel", "does", "(I)V"⟩ ⟨"ClosureFramesModel", "does", "(I)V"⟩ ∈ z_tbl := z_in (List.mem_append_left _ (List.mem_of_getElem? (i := 42) (by decide +kernel))) (by decide +kernel)
theorem ks_43 : Cond.selects "ClosureFramesModel" ⟨"ClosureFramesModel", "push", "(I)V"⟩ ⟨"ClosureFramesModel", "push", "(I)V"⟩ ∈ z_tbl := z_in (List.mem_append_left _ (List.mem_of_getElem? (i := 43) (by decide +kernel))) (by decide +kernel)
theorem ks_44 : Cond.selects "ClosureFramesModel" ⟨"ClosureFramesModel", "placeActs", "(II)V"⟩ ⟨"ClosureFramesModel", "placeActs", "(II)V"⟩ ∈ z_tbl := z_in (List.mem_append_left _ (List.mem_of_getElem? (i := 44) (by decide +kernel))) (by decide +kernel)
theorem ks_45 : Cond.selects "ClosureFramesModel" ⟨"ClosureFramesModel", "pop", "()I"⟩ ⟨"ClosureFramesModel", "pop", "()I"⟩ ∈ z_tbl := z_in (List.mem_append_left _ (List.mem_of_getElem? (i := 45) (by decide +kernel))) (by decide +kernel)
theorem ks_46 : Cond.selects "ClosureFramesModel" ⟨"ClosureFramesModel", "top", "()I"⟩ ⟨"ClosureFramesModel", "top", "()I"⟩ ∈ z_tbl := z_in (List.mem_append_left _ (List.mem_of_getElem? (i := 46) (by decide +kernel))) (by decide +kernel)
theorem ks_47 : Cond.selects "ClosureFramesModel" ⟨"ClosureFramesModel", "put", "(II)V"⟩ ⟨"ClosureFramesModel", "put", "(II)V"⟩ ∈ z_tbl := z_in (List.mem_append_left _ (List.mem_of_getElem? (i := 47) (by decide +kernel))) (by decide +kernel)
theorem ks_48 : Cond.selects "ClosureFramesModel" ⟨"ClosureFramesModel", "wants", "(I)V"⟩ ⟨"ClosureFramesModel", "wants", "(I)V"⟩ ∈ z_tbl := z_in (List.mem_append_left _ (List.mem_of_getElem? (i := 48) (by decide +kernel))) (by decide +kernel)
theorem ks_49 : Cond.selects "ClosureFramesModel" ⟨"ClosureFramesModel", "doesMore", "(III)V"⟩ ⟨"ClosureFramesModel", "doesMore", "(III)V"⟩ ∈ z_tbl := z_in (List.mem_append_left _ (List.mem_of_getElem? (i := 49) (by decide +kernel))) (by decide +kernel)
theorem ks_50 : Cond.selects "ClosureFramesModel" ⟨"ClosureFramesModel", "make", "(I)V"⟩ ⟨"ClosureFramesModel", "make", "(I)V"⟩ ∈ z_tbl := z_in (List.mem_append_left _ (List.mem_of_getElem? (i := 50) (by decide +kernel))) (by decide +kernel)
theorem ks_51 : Cond.selects "ClosureFramesModel" ⟨"ClosureFramesModel", "wantsObject", "(I)V"⟩ ⟨"ClosureFramesModel", "wantsObject", "(I)V"⟩ ∈ z_tbl := z_in (List.mem_append_left _ (List.mem_of_getElem? (i := 51) (by decide +kernel))) (by decide +kernel)
theorem ks_52 : Cond.selects "ClosureFramesModel" ⟨"ClosureFramesModel", "leastDue", "()I"⟩ ⟨"ClosureFramesModel", "leastDue", "()I"⟩ ∈ z_tbl := z_in (List.mem_append_left _ (List.mem_of_getElem? (i := 52) (by decide +kernel))) (by decide +kernel)
theorem ks_53 : Cond.selects "ClosureFramesModel" ⟨"ClosureFramesModel", "layFrames", "(I)I"⟩ ⟨"ClosureFramesModel", "layFrames", "(I)I"⟩ ∈ z_tbl := z_in (List.mem_append_left _ (List.mem_of_getElem? (i := 53) (by decide +kernel))) (by decide +kernel)
theorem ks_54 : Cond.selects "ClosureFramesModel" ⟨"ClosureFramesModel", "part", "([III)I"⟩ ⟨"ClosureFramesModel", "part", "([III)I"⟩ ∈ z_tbl := z_in (List.mem_append_left _ (List.mem_of_getElem? (i := 54) (by decide +kernel))) (by decide +kernel)
theorem ks_55 : Cond.selects "ClosureFramesModel" ⟨"ClosureFramesModel", "actOf", "(II)I"⟩ ⟨"ClosureFramesModel", "actOf", "(II)I"⟩ ∈ z_tbl := z_in (List.mem_append_left _ (List.mem_of_getElem? (i := 55) (by decide +kernel))) (by decide +kernel)
theorem ks_56 : Cond.selects "ClosureFramesModel" ⟨"ClosureFramesModel", "looksAt", "(IZ)V"⟩ ⟨"ClosureFramesModel", "looksAt", "(IZ)V"⟩ ∈ z_tbl := z_in (List.mem_append_left _ (List.mem_of_getElem? (i := 56) (by decide +kernel))) (by decide +kernel)
theorem ks_57 : Cond.selects "ClosureFramesModel" ⟨"ClosureFramesModel", "allFit", "([II)Z"⟩ ⟨"ClosureFramesModel", "allFit", "([II)Z"⟩ ∈ z_tbl := z_in (List.mem_append_left _ (List.mem_of_getElem? (i := 57) (by decide +kernel))) (by decide +kernel)
theorem ks_58 : Cond.selects "ClosureFramesModel" ⟨"ClosureFramesModel", "fits", "(II)Z"⟩ ⟨"ClosureFramesModel", "fits", "(II)Z"⟩ ∈ z_tbl := z_in (List.mem_append_left _ (List.mem_of_getElem? (i := 58) (by decide +kernel))) (by decide +kernel)
theorem ks_59 : Cond.selects "ClosureFramesModel" ⟨"ClosureFramesModel", "looks", "([IIIZ)V"⟩ ⟨"ClosureFramesModel", "looks", "([IIIZ)V"⟩ ∈ z_tbl := z_in (List.mem_append_left _ (List.mem_of_getElem? (i := 59) (by decide +kernel))) (by decide +kernel)
theorem ks_60 : Cond.selects "ClosureFramesModel" ⟨"ClosureFramesModel", "frameCount", "(I)I"⟩ ⟨"ClosureFramesModel", "frameCount", "(I)I"⟩ ∈ z_tbl := z_in (List.mem_append_left _ (List.mem_of_getElem? (i := 60) (by decide +kernel))) (by decide +kernel)
end
section
/-! ===== the flat picture of the heap: every cell from b0 on is ours; ints in I, references in S.1, kinds and lengths in S.2.1, the next address S.2.2 ===== -/
abbrev zI : Type := Nat → Nat → Int32
abbrev zS : Type := (Nat → Nat → Option Nat) × (Nat → Nat × Nat) × Nat
abbrev zD : Type := va_G × (Nat → ClassId)
/-- whether field k of an object of class c is an int (else a reference) -/
def z_sh : Nat → Nat → Bool := fun c k => match c with
  | 0 => decide (k < 6)
  | 1 => decide (k = 2)
  | 2 => decide (k = 4)
  | 3 => true
  | 4 => decide (4 ≤ k)
  | 5 => decide (3 ≤ k)
  | 6 => decide (k = 2)
  | 7 => false
  | 8 => decide (k = 4)
  | _ => decide (k = 0 ∨ k = 20 ∨ k = 21 ∨ k = 24)
def z_V (c : Nat) (i : Nat → Int32) (r : Nat → Option Nat) (k : Nat) : Value := if z_sh c k = true then .int (i k) else va_rf (r k)
theorem z_V_i {c k : Nat} {i : Nat → Int32} {r : Nat → Option Nat} (h : z_sh c k = true) : z_V c i r k = .int (i k) := by unfold z_V; rw [if_pos h]
theorem z_V_r {c k : Nat} {i : Nat → Int32} {r : Nat → Option Nat} (h : z_sh c k = false) : z_V c i r k = va_rf (r k) := by unfold z_V; rw [if_neg (by rw [h]; decide)]
def z_at (D : zD) (a : Nat) (k : Nat × Nat) (i : Nat → Int32) (r : Nat → Option Nat) (H : Heap) : Prop :=
  (k.1 < 10 → ∃ q : vw_C, vwCl[k.1]? = some q ∧ t_OB a (D.1.1 k.1) q.2.2 (D.1.2 k.1) H (z_V k.1 i r)) ∧
  (10 ≤ k.1 → k.1 < 12 → H[a]? = some (arrV (D.2 k.1) k.2 (fun j => .int (i j)))) ∧
  (12 ≤ k.1 → H[a]? = some (arrV (D.2 k.1) k.2 (fun j => va_rf (r j))))
def z_H (D : zD) (b0 : Nat) (S : zS) (I : zI) (H : Heap) : Prop := H.size = S.2.2 ∧ b0 ≤ S.2.2 ∧ ∀ a, b0 ≤ a → a < S.2.2 → z_at D a (S.2.1 a) (I a) (S.1 a) H
/-- a is ours, of kind c -/
def z_is (b0 : Nat) (S : zS) (a c : Nat) : Prop := b0 ≤ a ∧ a < S.2.2 ∧ (S.2.1 a).1 = c
/-- of which kind is what a field, or an array's place, refers to -/
def z_fk : Nat → Nat → Nat := fun c k => match c with
  | 0 => 6
  | 1 => if k = 0 then 10 else 11
  | 2 => if k = 0 then 1 else if k = 1 then 7 else 6
  | 4 => if k = 0 then 1 else if k = 1 then 7 else 6
  | 5 => if k = 0 then 12 else if k = 1 then 13 else 6
  | 6 => 10
  | 7 => 1
  | 8 => if k = 0 then 1 else if k = 1 then 14 else if k = 2 then 2 else 4
  | 9 => if k = 2 ∨ k = 15 ∨ k = 16 ∨ k = 18 ∨ k = 25 then 11 else 10
  | 12 => 0
  | 13 => 3
  | 14 => 5
  | _ => 99
def z_T (b0 : Nat) (S : zS) : Prop := ∀ a k b, b0 ≤ a → a < S.2.2 → S.1 a k = some b → z_is b0 S b (z_fk (S.2.1 a).1 k)
theorem z_T.at {b0 : Nat} {S : zS} (h : z_T b0 S) {a c k b : Nat} (ha : z_is b0 S a c) (hb : S.1 a k = some b) : z_is b0 S b (z_fk c k) := by
  have := h a k b ha.1 ha.2.1 hb
  rw [ha.2.2] at this
  exact this
def z_tys (cA : Nat → ClassId) : List (ClassId × FieldType) := [(cA 10, .int), (cA 11, .boolean), (cA 12, .object RX0), (cA 13, .object RX3), (cA 14, .object RX5)]
/-- what the tables say: classes, arrays' classes, links to nest mates -/
def z_K (D : zD) (U : State) : Prop := va_K D.1 vwCl (z_tys D.2) U ∧ (∀ w ∈ z_nst, va_Nw w U) ∧ va_AO RX0 U ∧ va_AO RX3 U ∧ va_AO RX5 U
theorem z_nst_warm {s U : State} (hW : s.WarmedH U.vm) (h : ∀ w ∈ z_nst, va_Nw w s) : ∀ w ∈ z_nst, va_Nw w U := by
  intro w hw
  have h1 := h w hw
  have h2 : ∀ w ∈ z_nst, ∃ a i x q, w = Cond.methodLinkNest a i x q := by
    intro w hw
    simp only [z_nst, List.mem_cons, List.not_mem_nil, or_false] at hw
    rcases hw with e | e | e | e | e | e | e | e | e <;> exact ⟨_, _, _, _, e⟩
  obtain ⟨a, i, x, q, e⟩ := h2 w hw
  subst e
  exact va_Nw.warmM hW h1
theorem z_K.warm {D : zD} {s U : State} (hW : s.WarmedH U.vm) (h : z_K D s) : z_K D U := ⟨va_K.moved hW.alike h.1, z_nst_warm hW h.2.1, h.2.2.1.moved hW.alike, h.2.2.2.1.moved hW.alike, h.2.2.2.2.moved hW.alike⟩
theorem z_K.same {D : zD} {u U : State} (hv : u.vm = U.vm) (h : z_K D u) : z_K D U := by
  have ha : u.vm.Alike U.vm := by rw [hv]; exact Vm.Alike.refl _
  refine ⟨va_K.moved ha h.1, fun w hw => ?_, h.2.2.1.moved ha, h.2.2.2.1.moved ha, h.2.2.2.2.moved ha⟩
  have h2 : ∀ w ∈ z_nst, w.onTables = true := by decide +kernel
  exact va_Nw.same (h2 w hw) hv (h.2.1 w hw)
def z_U (D : zD) (b0 : Nat) (S : zS) (I : zI) (U : State) : Prop := z_H D b0 S I U.heap ∧ z_T b0 S ∧ z_K D U
def z_up (I : zI) (a k : Nat) (x : Int32) : zI := fun b j => if b = a ∧ j = k then x else I b j
def z_upR (S : zS) (a k : Nat) (x : Option Nat) : zS := (fun b j => if b = a ∧ j = k then x else S.1 b j, S.2)
def z_new (S : zS) (c n : Nat) : zS := (fun b j => if b = S.2.2 then none else S.1 b j, fun b => if b = S.2.2 then (c, n) else S.2.1 b, S.2.2 + 1)
def z_newI (S : zS) (I : zI) : zI := fun b j => if b = S.2.2 then 0 else I b j
def z_cpy (I : zI) (a sp b dp n : Nat) : zI := fun q j => if q = b then va_cpy (I a) (I b) sp dp n j else I q j
def ob {α β : Type} (o : Option α) (k : α → Option β) : Option β := match o with | none => none | some x => k x
theorem ob_some {α β : Type} {o : Option α} {k : α → Option β} {x : β} (h : ob o k = some x) : ∃ y, o = some y ∧ k y = some x := by
  cases o with
  | none => cases h
  | some y => exact ⟨y, rfl, h⟩
theorem ob_mk {α β : Type} {o : Option α} {k : α → Option β} {y : α} (h : o = some y) : ob o k = k y := by rw [h]; rfl
/-- a class's number, name, fields and types -/
def z_cls (ci : Nat) (C : String) (T : u_T) (N : Nat) (ty : Nat → FieldType) : Prop := vwCl[ci]? = some (C, T, N) ∧ ci < 10 ∧ (∀ w ∈ u_ws C T N, w ∈ z_tbl) ∧ (∀ k, k < N → parseFieldDescriptor (T k).2.2.1 = some (ty k)) ∧ (∀ a, a < N → ∀ b, b < N → a ≠ b → (T a).2.1 ≠ (T b).2.1) ∧ (∀ k, k < N → (T k).1 = C)
theorem zc_0 : z_cls 0 RX0 TX0 8 tyX0 := ⟨rfl, by decide, by decide +kernel, tyX0_ok, nmX0, by decide +kernel⟩
theorem zc_1 : z_cls 1 RX1 TX1 3 tyX1 := ⟨rfl, by decide, by decide +kernel, tyX1_ok, nmX1, by decide +kernel⟩
theorem zc_2 : z_cls 2 RX2 TX2 5 tyX2 := ⟨rfl, by decide, by decide +kernel, tyX2_ok, nmX2, by decide +kernel⟩
theorem zc_3 : z_cls 3 RX3 TX3 4 tyX3 := ⟨rfl, by decide, by decide +kernel, tyX3_ok, nmX3, by decide +kernel⟩
theorem zc_4 : z_cls 4 RX4 TX4 6 tyX4 := ⟨rfl, by decide, by decide +kernel, tyX4_ok, nmX4, by decide +kernel⟩
theorem zc_5 : z_cls 5 RX5 TX5 10 tyX5 := ⟨rfl, by decide, by decide +kernel, tyX5_ok, nmX5, by decide +kernel⟩
theorem zc_6 : z_cls 6 RX6 TX6 3 tyX6 := ⟨rfl, by decide, by decide +kernel, tyX6_ok, nmX6, by decide +kernel⟩
theorem zc_7 : z_cls 7 RX7 TX7 1 tyX7 := ⟨rfl, by decide, by decide +kernel, tyX7_ok, nmX7, by decide +kernel⟩
theorem zc_8 : z_cls 8 RX8 TX8 5 tyX8 := ⟨rfl, by decide, by decide +kernel, tyX8_ok, nmX8, by decide +kernel⟩
theorem zc_9 : z_cls 9 RX9 TX9 29 tyX9 := ⟨rfl, by decide, by decide +kernel, tyX9_ok, nmX9, by decide +kernel⟩
section ZW
variable (p : Program) (l : Launch) (e : Env) (R : Room) (s : State) (m : MethodId) (args : Array Value) (below : List Frame) (meth : Method) (c : Code)
/-- what stays the same in a method's walk -/
def z_C (cc : ByteArray) (own : String) (nL : Nat) (ret : Option FieldType) (D : zD) : Prop := p.tables.exec = Jvm.exec ∧ c.code = cc ∧ c.maxLocals = nL ∧ s.vm.findClass own = some m.cls ∧ (∀ w ∈ z_tbl, w.before args s = true) ∧ meth.sig.returnType = ret ∧ meth.locks = false ∧ z_K D s
/-- the machine at frame g, with any heap that holds the picture -/
def z_W (D : zD) (b0 : Nat) (S : zS) (I : zI) (cells slots : Nat) (Q : State → Prop) (g : JFrame) : Prop := ∀ (H : Heap) (locs : List Loc), z_H D b0 S I H → va_S (fun q => b0 ≤ q) s.heap H locs → W p l e R s m args below meth c H locs cells slots Q g
end ZW
/-- a method's contract at one picture: what it answers and the picture behind it -/
def z_M (l : Launch) (D : zD) (b0 : Nat) (y : MethodName) (cc : ByteArray) (nL : Nat) (ret : Option FieldType) (rm : Room) (av : List Value) (S : zS) (I : zI) (rv : Option Value) (S' : zS) (I' : zI) : Prop :=
  Met l y (Cond.code y cc nL ret :: z_tbl) rm (va_Pc av (z_U D b0 S I)) (fun _ st oc t => oc = .returned rv ∧ z_U D b0 S' I' t ∧ va_F (fun q => b0 ≤ q) st t) rm.cells rm.slots (fun q => b0 ≤ q)
def z_Q (D : zD) (b0 : Nat) (rv : Option Value) (S' : zS) (I' : zI) : Array Value → State → Outcome → State → Prop := fun _ st oc t => oc = .returned rv ∧ z_U D b0 S' I' t ∧ va_F (fun q => b0 ≤ q) st t
end
section
theorem zz_end : True := trivial
end
