section
-- ===== PART A: goes FIRST, ahead of the names: the tables' words, and 'selects' of the private methods out of them =====
/-- a private method of a class that the tables say can be made, by its rows of tables_1 -/
def lw_okq (q : MethodName × Nat) : Prop := (q.1.cls ≠ "java/lang/invoke/MethodHandle" ∧ q.1.cls ≠ "java/lang/invoke/VarHandle") ∧ Cond.instantiable q.1.cls q.2 ∈ tables_1 ∧ Cond.privateMethod q.1 ∈ tables_1 ∧ Cond.instanceMethod q.1 ∈ tables_1
theorem lw_p0 : lw_okq (⟨"FenceBench$Meadow", "canTakeSide", "(I)Z"⟩, 17) := ⟨⟨by decide +kernel, by decide +kernel⟩, List.mem_of_getElem? (i := 26) (by decide +kernel), List.mem_of_getElem? (i := 306) (by decide +kernel), List.mem_of_getElem? (i := 307) (by decide +kernel)⟩
theorem lw_p1 : lw_okq (⟨"FenceBench$Meadow", "attach", "(I)V"⟩, 17) := ⟨⟨by decide +kernel, by decide +kernel⟩, List.mem_of_getElem? (i := 26) (by decide +kernel), List.mem_of_getElem? (i := 314) (by decide +kernel), List.mem_of_getElem? (i := 315) (by decide +kernel)⟩
theorem lw_p2 : lw_okq (⟨"FenceBench$Meadow", "addBetween", "(II)V"⟩, 17) := ⟨⟨by decide +kernel, by decide +kernel⟩, List.mem_of_getElem? (i := 26) (by decide +kernel), List.mem_of_getElem? (i := 328) (by decide +kernel), List.mem_of_getElem? (i := 329) (by decide +kernel)⟩
theorem lw_p3 : lw_okq (⟨"FenceBench$Meadow", "take", "(I)I"⟩, 17) := ⟨⟨by decide +kernel, by decide +kernel⟩, List.mem_of_getElem? (i := 26) (by decide +kernel), List.mem_of_getElem? (i := 349) (by decide +kernel), List.mem_of_getElem? (i := 350) (by decide +kernel)⟩
theorem lw_p4 : lw_okq (⟨"FenceBench$Meadow", "fence", "(I)V"⟩, 17) := ⟨⟨by decide +kernel, by decide +kernel⟩, List.mem_of_getElem? (i := 26) (by decide +kernel), List.mem_of_getElem? (i := 358) (by decide +kernel), List.mem_of_getElem? (i := 359) (by decide +kernel)⟩
theorem lw_p5 : lw_okq (⟨"FenceBench$Meadow", "reopen", "(I)V"⟩, 17) := ⟨⟨by decide +kernel, by decide +kernel⟩, List.mem_of_getElem? (i := 26) (by decide +kernel), List.mem_of_getElem? (i := 370) (by decide +kernel), List.mem_of_getElem? (i := 371) (by decide +kernel)⟩
theorem lw_p6 : lw_okq (⟨"FenceBench", "surveyed", "()LFenceBench$Parts;"⟩, 5) := ⟨⟨by decide +kernel, by decide +kernel⟩, List.mem_of_getElem? (i := 18) (by decide +kernel), List.mem_of_getElem? (i := 391) (by decide +kernel), List.mem_of_getElem? (i := 392) (by decide +kernel)⟩
theorem lw_p7 : lw_okq (⟨"FenceBench$Parts", "gather", "(LFenceBench$Meadow;I)V"⟩, 12) := ⟨⟨by decide +kernel, by decide +kernel⟩, List.mem_of_getElem? (i := 110) (by decide +kernel), List.mem_of_getElem? (i := 402) (by decide +kernel), List.mem_of_getElem? (i := 403) (by decide +kernel)⟩
theorem lw_p8 : lw_okq (⟨"FenceBench$Parts", "join", "(I)V"⟩, 12) := ⟨⟨by decide +kernel, by decide +kernel⟩, List.mem_of_getElem? (i := 110) (by decide +kernel), List.mem_of_getElem? (i := 406) (by decide +kernel), List.mem_of_getElem? (i := 407) (by decide +kernel)⟩
theorem lw_p9 : lw_okq (⟨"FenceBench$Parts", "describe", "(LFenceBench$Meadow;)V"⟩, 12) := ⟨⟨by decide +kernel, by decide +kernel⟩, List.mem_of_getElem? (i := 110) (by decide +kernel), List.mem_of_getElem? (i := 418) (by decide +kernel), List.mem_of_getElem? (i := 419) (by decide +kernel)⟩
theorem lw_p10 : lw_okq (⟨"FenceBench$Parts", "openOutside", "(LFenceBench$Meadow;I)I"⟩, 12) := ⟨⟨by decide +kernel, by decide +kernel⟩, List.mem_of_getElem? (i := 110) (by decide +kernel), List.mem_of_getElem? (i := 422) (by decide +kernel), List.mem_of_getElem? (i := 423) (by decide +kernel)⟩
theorem lw_p11 : lw_okq (⟨"FenceBench$Parts", "queueIfLast", "(I)V"⟩, 12) := ⟨⟨by decide +kernel, by decide +kernel⟩, List.mem_of_getElem? (i := 110) (by decide +kernel), List.mem_of_getElem? (i := 447) (by decide +kernel), List.mem_of_getElem? (i := 448) (by decide +kernel)⟩
theorem lw_p12 : lw_okq (⟨"FenceBench$Parts", "closeOne", "(LFenceBench$Meadow;I)I"⟩, 12) := ⟨⟨by decide +kernel, by decide +kernel⟩, List.mem_of_getElem? (i := 110) (by decide +kernel), List.mem_of_getElem? (i := 451) (by decide +kernel), List.mem_of_getElem? (i := 452) (by decide +kernel)⟩
theorem lw_p13 : lw_okq (⟨"FenceBench$Parts", "neighbourLeft", "(LFenceBench$Meadow;I)I"⟩, 12) := ⟨⟨by decide +kernel, by decide +kernel⟩, List.mem_of_getElem? (i := 110) (by decide +kernel), List.mem_of_getElem? (i := 455) (by decide +kernel), List.mem_of_getElem? (i := 456) (by decide +kernel)⟩
theorem lw_p14 : lw_okq (⟨"FenceBench", "isTooWide", "()Z"⟩, 5) := ⟨⟨by decide +kernel, by decide +kernel⟩, List.mem_of_getElem? (i := 18) (by decide +kernel), List.mem_of_getElem? (i := 463) (by decide +kernel), List.mem_of_getElem? (i := 464) (by decide +kernel)⟩
theorem lw_p15 : lw_okq (⟨"FenceBench$Ways", "openSet", "(LFenceBench$Meadow;)I"⟩, 5) := ⟨⟨by decide +kernel, by decide +kernel⟩, List.mem_of_getElem? (i := 167) (by decide +kernel), List.mem_of_getElem? (i := 471) (by decide +kernel), List.mem_of_getElem? (i := 472) (by decide +kernel)⟩
def lw_privs_1 : List (MethodName × Nat) := [(⟨"FenceBench$Meadow", "canTakeSide", "(I)Z"⟩, 17), (⟨"FenceBench$Meadow", "attach", "(I)V"⟩, 17), (⟨"FenceBench$Meadow", "addBetween", "(II)V"⟩, 17), (⟨"FenceBench$Meadow", "take", "(I)I"⟩, 17), (⟨"FenceBench$Meadow", "fence", "(I)V"⟩, 17), (⟨"FenceBench$Meadow", "reopen", "(I)V"⟩, 17), (⟨"FenceBench", "surveyed", "()LFenceBench$Parts;"⟩, 5), (⟨"FenceBench$Parts", "gather", "(LFenceBench$Meadow;I)V"⟩, 12), (⟨"FenceBench$Parts", "join", "(I)V"⟩, 12), (⟨"FenceBench$Parts", "describe", "(LFenceBench$Meadow;)V"⟩, 12), (⟨"FenceBench$Parts", "openOutside", "(LFenceBench$Meadow;I)I"⟩, 12), (⟨"FenceBench$Parts", "queueIfLast", "(I)V"⟩, 12), (⟨"FenceBench$Parts", "closeOne", "(LFenceBench$Meadow;I)I"⟩, 12), (⟨"FenceBench$Parts", "neighbourLeft", "(LFenceBench$Meadow;I)I"⟩, 12), (⟨"FenceBench", "isTooWide", "()Z"⟩, 5), (⟨"FenceBench$Ways", "openSet", "(LFenceBench$Meadow;)I"⟩, 5)]
theorem lw_r1 : ∀ q ∈ lw_privs_1, lw_okq q := List.forall_mem_cons.mpr ⟨lw_p0, List.forall_mem_cons.mpr ⟨lw_p1, List.forall_mem_cons.mpr ⟨lw_p2, List.forall_mem_cons.mpr ⟨lw_p3, List.forall_mem_cons.mpr ⟨lw_p4, List.forall_mem_cons.mpr ⟨lw_p5, List.forall_mem_cons.mpr ⟨lw_p6, List.forall_mem_cons.mpr ⟨lw_p7, List.forall_mem_cons.mpr ⟨lw_p8, List.forall_mem_cons.mpr ⟨lw_p9, List.forall_mem_cons.mpr ⟨lw_p10, List.forall_mem_cons.mpr ⟨lw_p11, List.forall_mem_cons.mpr ⟨lw_p12, List.forall_mem_cons.mpr ⟨lw_p13, List.forall_mem_cons.mpr ⟨lw_p14, List.forall_mem_cons.mpr ⟨lw_p15, fun _ h => absurd h List.not_mem_nil⟩⟩⟩⟩⟩⟩⟩⟩⟩⟩⟩⟩⟩⟩⟩⟩
theorem lw_p16 : lw_okq (⟨"FenceBench$Ways", "openInBase", "(LFenceBench$Meadow;)I"⟩, 5) := ⟨⟨by decide +kernel, by decide +kernel⟩, List.mem_of_getElem? (i := 167) (by decide +kernel), List.mem_of_getElem? (i := 475) (by decide +kernel), List.mem_of_getElem? (i := 476) (by decide +kernel)⟩
theorem lw_p17 : lw_okq (⟨"FenceBench$Ways", "keptOfBase", "(LFenceBench$Meadow;)I"⟩, 5) := ⟨⟨by decide +kernel, by decide +kernel⟩, List.mem_of_getElem? (i := 167) (by decide +kernel), List.mem_of_getElem? (i := 486) (by decide +kernel), List.mem_of_getElem? (i := 487) (by decide +kernel)⟩
theorem lw_p18 : lw_okq (⟨"FenceBench$Ways", "widen", "(LFenceBench$Meadow;I)V"⟩, 5) := ⟨⟨by decide +kernel, by decide +kernel⟩, List.mem_of_getElem? (i := 167) (by decide +kernel), List.mem_of_getElem? (i := 490) (by decide +kernel), List.mem_of_getElem? (i := 491) (by decide +kernel)⟩
theorem lw_p19 : lw_okq (⟨"FenceBench$Ways", "isKept", "(II)Z"⟩, 5) := ⟨⟨by decide +kernel, by decide +kernel⟩, List.mem_of_getElem? (i := 167) (by decide +kernel), List.mem_of_getElem? (i := 494) (by decide +kernel), List.mem_of_getElem? (i := 495) (by decide +kernel)⟩
theorem lw_p20 : lw_okq (⟨"FenceBench$Ways", "setOf", "(LFenceBench$Meadow;I)I"⟩, 5) := ⟨⟨by decide +kernel, by decide +kernel⟩, List.mem_of_getElem? (i := 167) (by decide +kernel), List.mem_of_getElem? (i := 498) (by decide +kernel), List.mem_of_getElem? (i := 499) (by decide +kernel)⟩
theorem lw_p21 : lw_okq (⟨"FenceBench$Ways", "fill", "(I)V"⟩, 5) := ⟨⟨by decide +kernel, by decide +kernel⟩, List.mem_of_getElem? (i := 167) (by decide +kernel), List.mem_of_getElem? (i := 502) (by decide +kernel), List.mem_of_getElem? (i := 503) (by decide +kernel)⟩
theorem lw_p22 : lw_okq (⟨"FenceBench$Ways", "bestOfSet", "(I)I"⟩, 5) := ⟨⟨by decide +kernel, by decide +kernel⟩, List.mem_of_getElem? (i := 167) (by decide +kernel), List.mem_of_getElem? (i := 522) (by decide +kernel), List.mem_of_getElem? (i := 523) (by decide +kernel)⟩
theorem lw_p23 : lw_okq (⟨"FenceBench$Ways", "worthOfDraw", "(II)I"⟩, 5) := ⟨⟨by decide +kernel, by decide +kernel⟩, List.mem_of_getElem? (i := 167) (by decide +kernel), List.mem_of_getElem? (i := 527) (by decide +kernel), List.mem_of_getElem? (i := 528) (by decide +kernel)⟩
theorem lw_p24 : lw_okq (⟨"FenceBench$Ways", "worthOfSet", "(I)I"⟩, 5) := ⟨⟨by decide +kernel, by decide +kernel⟩, List.mem_of_getElem? (i := 167) (by decide +kernel), List.mem_of_getElem? (i := 531) (by decide +kernel), List.mem_of_getElem? (i := 532) (by decide +kernel)⟩
theorem lw_p25 : lw_okq (⟨"FenceBench$Ways", "worthInSet", "(II)I"⟩, 5) := ⟨⟨by decide +kernel, by decide +kernel⟩, List.mem_of_getElem? (i := 167) (by decide +kernel), List.mem_of_getElem? (i := 543) (by decide +kernel), List.mem_of_getElem? (i := 544) (by decide +kernel)⟩
theorem lw_p26 : lw_okq (⟨"FenceBench", "reckoned", "()LFenceBench$Ends;"⟩, 5) := ⟨⟨by decide +kernel, by decide +kernel⟩, List.mem_of_getElem? (i := 18) (by decide +kernel), List.mem_of_getElem? (i := 559) (by decide +kernel), List.mem_of_getElem? (i := 560) (by decide +kernel)⟩
theorem lw_p27 : lw_okq (⟨"FenceBench$Ends", "takeLoose", "(II)V"⟩, 7) := ⟨⟨by decide +kernel, by decide +kernel⟩, List.mem_of_getElem? (i := 190) (by decide +kernel), List.mem_of_getElem? (i := 572) (by decide +kernel), List.mem_of_getElem? (i := 573) (by decide +kernel)⟩
theorem lw_p28 : lw_okq (⟨"FenceBench$Lengths", "placeOf", "(ZI)I"⟩, 11) := ⟨⟨by decide +kernel, by decide +kernel⟩, List.mem_of_getElem? (i := 196) (by decide +kernel), List.mem_of_getElem? (i := 580) (by decide +kernel), List.mem_of_getElem? (i := 581) (by decide +kernel)⟩
theorem lw_p29 : lw_okq (⟨"FenceBench$Lengths", "layOut", "()V"⟩, 11) := ⟨⟨by decide +kernel, by decide +kernel⟩, List.mem_of_getElem? (i := 196) (by decide +kernel), List.mem_of_getElem? (i := 592) (by decide +kernel), List.mem_of_getElem? (i := 593) (by decide +kernel)⟩
theorem lw_p30 : lw_okq (⟨"FenceBench$Lengths", "layOutKind", "(I)V"⟩, 11) := ⟨⟨by decide +kernel, by decide +kernel⟩, List.mem_of_getElem? (i := 196) (by decide +kernel), List.mem_of_getElem? (i := 596) (by decide +kernel), List.mem_of_getElem? (i := 597) (by decide +kernel)⟩
theorem lw_p31 : lw_okq (⟨"FenceBench$Lengths", "isRing", "(I)Z"⟩, 11) := ⟨⟨by decide +kernel, by decide +kernel⟩, List.mem_of_getElem? (i := 196) (by decide +kernel), List.mem_of_getElem? (i := 600) (by decide +kernel), List.mem_of_getElem? (i := 601) (by decide +kernel)⟩
def lw_privs_2 : List (MethodName × Nat) := [(⟨"FenceBench$Ways", "openInBase", "(LFenceBench$Meadow;)I"⟩, 5), (⟨"FenceBench$Ways", "keptOfBase", "(LFenceBench$Meadow;)I"⟩, 5), (⟨"FenceBench$Ways", "widen", "(LFenceBench$Meadow;I)V"⟩, 5), (⟨"FenceBench$Ways", "isKept", "(II)Z"⟩, 5), (⟨"FenceBench$Ways", "setOf", "(LFenceBench$Meadow;I)I"⟩, 5), (⟨"FenceBench$Ways", "fill", "(I)V"⟩, 5), (⟨"FenceBench$Ways", "bestOfSet", "(I)I"⟩, 5), (⟨"FenceBench$Ways", "worthOfDraw", "(II)I"⟩, 5), (⟨"FenceBench$Ways", "worthOfSet", "(I)I"⟩, 5), (⟨"FenceBench$Ways", "worthInSet", "(II)I"⟩, 5), (⟨"FenceBench", "reckoned", "()LFenceBench$Ends;"⟩, 5), (⟨"FenceBench$Ends", "takeLoose", "(II)V"⟩, 7), (⟨"FenceBench$Lengths", "placeOf", "(ZI)I"⟩, 11), (⟨"FenceBench$Lengths", "layOut", "()V"⟩, 11), (⟨"FenceBench$Lengths", "layOutKind", "(I)V"⟩, 11), (⟨"FenceBench$Lengths", "isRing", "(I)Z"⟩, 11)]
theorem lw_r2 : ∀ q ∈ lw_privs_2, lw_okq q := List.forall_mem_cons.mpr ⟨lw_p16, List.forall_mem_cons.mpr ⟨lw_p17, List.forall_mem_cons.mpr ⟨lw_p18, List.forall_mem_cons.mpr ⟨lw_p19, List.forall_mem_cons.mpr ⟨lw_p20, List.forall_mem_cons.mpr ⟨lw_p21, List.forall_mem_cons.mpr ⟨lw_p22, List.forall_mem_cons.mpr ⟨lw_p23, List.forall_mem_cons.mpr ⟨lw_p24, List.forall_mem_cons.mpr ⟨lw_p25, List.forall_mem_cons.mpr ⟨lw_p26, List.forall_mem_cons.mpr ⟨lw_p27, List.forall_mem_cons.mpr ⟨lw_p28, List.forall_mem_cons.mpr ⟨lw_p29, List.forall_mem_cons.mpr ⟨lw_p30, List.forall_mem_cons.mpr ⟨lw_p31, fun _ h => absurd h List.not_mem_nil⟩⟩⟩⟩⟩⟩⟩⟩⟩⟩⟩⟩⟩⟩⟩⟩
theorem lw_p32 : lw_okq (⟨"FenceBench$Lengths", "fillAll", "()V"⟩, 11) := ⟨⟨by decide +kernel, by decide +kernel⟩, List.mem_of_getElem? (i := 196) (by decide +kernel), List.mem_of_getElem? (i := 604) (by decide +kernel), List.mem_of_getElem? (i := 605) (by decide +kernel)⟩
theorem lw_p33 : lw_okq (⟨"FenceBench$Lengths", "countUp", "()V"⟩, 11) := ⟨⟨by decide +kernel, by decide +kernel⟩, List.mem_of_getElem? (i := 196) (by decide +kernel), List.mem_of_getElem? (i := 612) (by decide +kernel), List.mem_of_getElem? (i := 613) (by decide +kernel)⟩
theorem lw_p34 : lw_okq (⟨"FenceBench$Lengths", "bestAt", "(I)I"⟩, 11) := ⟨⟨by decide +kernel, by decide +kernel⟩, List.mem_of_getElem? (i := 196) (by decide +kernel), List.mem_of_getElem? (i := 616) (by decide +kernel), List.mem_of_getElem? (i := 617) (by decide +kernel)⟩
theorem lw_p35 : lw_okq (⟨"FenceBench$Lengths", "openingAt", "(II)I"⟩, 11) := ⟨⟨by decide +kernel, by decide +kernel⟩, List.mem_of_getElem? (i := 196) (by decide +kernel), List.mem_of_getElem? (i := 621) (by decide +kernel), List.mem_of_getElem? (i := 622) (by decide +kernel)⟩
theorem lw_p36 : lw_okq (⟨"FenceBench$Ends", "closingAll", "()I"⟩, 7) := ⟨⟨by decide +kernel, by decide +kernel⟩, List.mem_of_getElem? (i := 190) (by decide +kernel), List.mem_of_getElem? (i := 629) (by decide +kernel), List.mem_of_getElem? (i := 630) (by decide +kernel)⟩
theorem lw_p37 : lw_okq (⟨"FenceBench$Ends", "canLeave", "()Z"⟩, 7) := ⟨⟨by decide +kernel, by decide +kernel⟩, List.mem_of_getElem? (i := 190) (by decide +kernel), List.mem_of_getElem? (i := 637) (by decide +kernel), List.mem_of_getElem? (i := 638) (by decide +kernel)⟩
theorem lw_p38 : lw_okq (⟨"FenceBench$Ends", "leavingSome", "()I"⟩, 7) := ⟨⟨by decide +kernel, by decide +kernel⟩, List.mem_of_getElem? (i := 190) (by decide +kernel), List.mem_of_getElem? (i := 641) (by decide +kernel), List.mem_of_getElem? (i := 642) (by decide +kernel)⟩
theorem lw_p39 : lw_okq (⟨"java/lang/Throwable", "fillInStackTrace", "(I)Ljava/lang/Throwable;"⟩, 6) := ⟨⟨by decide +kernel, by decide +kernel⟩, List.mem_of_getElem? (i := 739) (by decide +kernel), List.mem_of_getElem? (i := 737) (by decide +kernel), List.mem_of_getElem? (i := 738) (by decide +kernel)⟩
theorem lw_p40 : lw_okq (⟨"FenceBenchModel", "isField", "(I)Z"⟩, 37) := ⟨⟨by decide +kernel, by decide +kernel⟩, List.mem_of_getElem? (i := 794) (by decide +kernel), List.mem_of_getElem? (i := 929) (by decide +kernel), List.mem_of_getElem? (i := 930) (by decide +kernel)⟩
theorem lw_p41 : lw_okq (⟨"FenceBenchModel", "sideOf", "(II)V"⟩, 37) := ⟨⟨by decide +kernel, by decide +kernel⟩, List.mem_of_getElem? (i := 794) (by decide +kernel), List.mem_of_getElem? (i := 938) (by decide +kernel), List.mem_of_getElem? (i := 939) (by decide +kernel)⟩
theorem lw_p42 : lw_okq (⟨"FenceBenchModel", "play", "()V"⟩, 37) := ⟨⟨by decide +kernel, by decide +kernel⟩, List.mem_of_getElem? (i := 794) (by decide +kernel), List.mem_of_getElem? (i := 946) (by decide +kernel), List.mem_of_getElem? (i := 947) (by decide +kernel)⟩
theorem lw_p43 : lw_okq (⟨"FenceBenchModel", "closes", "(I)I"⟩, 37) := ⟨⟨by decide +kernel, by decide +kernel⟩, List.mem_of_getElem? (i := 794) (by decide +kernel), List.mem_of_getElem? (i := 950) (by decide +kernel), List.mem_of_getElem? (i := 951) (by decide +kernel)⟩
theorem lw_p44 : lw_okq (⟨"FenceBenchModel", "openSides", "(I)I"⟩, 37) := ⟨⟨by decide +kernel, by decide +kernel⟩, List.mem_of_getElem? (i := 794) (by decide +kernel), List.mem_of_getElem? (i := 954) (by decide +kernel), List.mem_of_getElem? (i := 955) (by decide +kernel)⟩
theorem lw_p45 : lw_okq (⟨"FenceBenchModel", "isOf", "(II)Z"⟩, 37) := ⟨⟨by decide +kernel, by decide +kernel⟩, List.mem_of_getElem? (i := 794) (by decide +kernel), List.mem_of_getElem? (i := 958) (by decide +kernel), List.mem_of_getElem? (i := 959) (by decide +kernel)⟩
theorem lw_p46 : lw_okq (⟨"FenceBenchModel", "isSide", "(I)Z"⟩, 37) := ⟨⟨by decide +kernel, by decide +kernel⟩, List.mem_of_getElem? (i := 794) (by decide +kernel), List.mem_of_getElem? (i := 962) (by decide +kernel), List.mem_of_getElem? (i := 963) (by decide +kernel)⟩
theorem lw_p47 : lw_okq (⟨"FenceBenchModel", "open", "()I"⟩, 37) := ⟨⟨by decide +kernel, by decide +kernel⟩, List.mem_of_getElem? (i := 794) (by decide +kernel), List.mem_of_getElem? (i := 978) (by decide +kernel), List.mem_of_getElem? (i := 979) (by decide +kernel)⟩
def lw_privs_3 : List (MethodName × Nat) := [(⟨"FenceBench$Lengths", "fillAll", "()V"⟩, 11), (⟨"FenceBench$Lengths", "countUp", "()V"⟩, 11), (⟨"FenceBench$Lengths", "bestAt", "(I)I"⟩, 11), (⟨"FenceBench$Lengths", "openingAt", "(II)I"⟩, 11), (⟨"FenceBench$Ends", "closingAll", "()I"⟩, 7), (⟨"FenceBench$Ends", "canLeave", "()Z"⟩, 7), (⟨"FenceBench$Ends", "leavingSome", "()I"⟩, 7), (⟨"java/lang/Throwable", "fillInStackTrace", "(I)Ljava/lang/Throwable;"⟩, 6), (⟨"FenceBenchModel", "isField", "(I)Z"⟩, 37), (⟨"FenceBenchModel", "sideOf", "(II)V"⟩, 37), (⟨"FenceBenchModel", "play", "()V"⟩, 37), (⟨"FenceBenchModel", "closes", "(I)I"⟩, 37), (⟨"FenceBenchModel", "openSides", "(I)I"⟩, 37), (⟨"FenceBenchModel", "isOf", "(II)Z"⟩, 37), (⟨"FenceBenchModel", "isSide", "(I)Z"⟩, 37), (⟨"FenceBenchModel", "open", "()I"⟩, 37)]
theorem lw_r3 : ∀ q ∈ lw_privs_3, lw_okq q := List.forall_mem_cons.mpr ⟨lw_p32, List.forall_mem_cons.mpr ⟨lw_p33, List.forall_mem_cons.mpr ⟨lw_p34, List.forall_mem_cons.mpr ⟨lw_p35, List.forall_mem_cons.mpr ⟨lw_p36, List.forall_mem_cons.mpr ⟨lw_p37, List.forall_mem_cons.mpr ⟨lw_p38, List.forall_mem_cons.mpr ⟨lw_p39, List.forall_mem_cons.mpr ⟨lw_p40, List.forall_mem_cons.mpr ⟨lw_p41, List.forall_mem_cons.mpr ⟨lw_p42, List.forall_mem_cons.mpr ⟨lw_p43, List.forall_mem_cons.mpr ⟨lw_p44, List.forall_mem_cons.mpr ⟨lw_p45, List.forall_mem_cons.mpr ⟨lw_p46, List.forall_mem_cons.mpr ⟨lw_p47, fun _ h => absurd h List.not_mem_nil⟩⟩⟩⟩⟩⟩⟩⟩⟩⟩⟩⟩⟩⟩⟩⟩
theorem lw_p48 : lw_okq (⟨"FenceBenchModel", "cut", "()V"⟩, 37) := ⟨⟨by decide +kernel, by decide +kernel⟩, List.mem_of_getElem? (i := 794) (by decide +kernel), List.mem_of_getElem? (i := 986) (by decide +kernel), List.mem_of_getElem? (i := 987) (by decide +kernel)⟩
theorem lw_p49 : lw_okq (⟨"FenceBenchModel", "about", "(I)V"⟩, 37) := ⟨⟨by decide +kernel, by decide +kernel⟩, List.mem_of_getElem? (i := 794) (by decide +kernel), List.mem_of_getElem? (i := 991) (by decide +kernel), List.mem_of_getElem? (i := 992) (by decide +kernel)⟩
theorem lw_p50 : lw_okq (⟨"FenceBenchModel", "tries", "()Z"⟩, 37) := ⟨⟨by decide +kernel, by decide +kernel⟩, List.mem_of_getElem? (i := 794) (by decide +kernel), List.mem_of_getElem? (i := 1016) (by decide +kernel), List.mem_of_getElem? (i := 1017) (by decide +kernel)⟩
theorem lw_p51 : lw_okq (⟨"FenceBenchModel", "behind", "(II)I"⟩, 37) := ⟨⟨by decide +kernel, by decide +kernel⟩, List.mem_of_getElem? (i := 794) (by decide +kernel), List.mem_of_getElem? (i := 1021) (by decide +kernel), List.mem_of_getElem? (i := 1022) (by decide +kernel)⟩
theorem lw_p52 : lw_okq (⟨"FenceBenchModel", "worthAt", "(I)I"⟩, 37) := ⟨⟨by decide +kernel, by decide +kernel⟩, List.mem_of_getElem? (i := 794) (by decide +kernel), List.mem_of_getElem? (i := 1029) (by decide +kernel), List.mem_of_getElem? (i := 1030) (by decide +kernel)⟩
theorem lw_p53 : lw_okq (⟨"FenceBenchModel", "lengths", "()Z"⟩, 37) := ⟨⟨by decide +kernel, by decide +kernel⟩, List.mem_of_getElem? (i := 794) (by decide +kernel), List.mem_of_getElem? (i := 1041) (by decide +kernel), List.mem_of_getElem? (i := 1042) (by decide +kernel)⟩
theorem lw_p54 : lw_okq (⟨"FenceBenchModel", "isSimple", "()Z"⟩, 37) := ⟨⟨by decide +kernel, by decide +kernel⟩, List.mem_of_getElem? (i := 794) (by decide +kernel), List.mem_of_getElem? (i := 1045) (by decide +kernel), List.mem_of_getElem? (i := 1046) (by decide +kernel)⟩
theorem lw_p55 : lw_okq (⟨"FenceBenchModel", "values", "([I[I)Z"⟩, 37) := ⟨⟨by decide +kernel, by decide +kernel⟩, List.mem_of_getElem? (i := 794) (by decide +kernel), List.mem_of_getElem? (i := 1049) (by decide +kernel), List.mem_of_getElem? (i := 1050) (by decide +kernel)⟩
theorem lw_p56 : lw_okq (⟨"FenceBenchModel", "opened", "(II)I"⟩, 37) := ⟨⟨by decide +kernel, by decide +kernel⟩, List.mem_of_getElem? (i := 794) (by decide +kernel), List.mem_of_getElem? (i := 1053) (by decide +kernel), List.mem_of_getElem? (i := 1054) (by decide +kernel)⟩
theorem lw_p57 : lw_okq (⟨"FenceBenchModel", "left", "()I"⟩, 37) := ⟨⟨by decide +kernel, by decide +kernel⟩, List.mem_of_getElem? (i := 794) (by decide +kernel), List.mem_of_getElem? (i := 1057) (by decide +kernel), List.mem_of_getElem? (i := 1058) (by decide +kernel)⟩
theorem lw_p58 : lw_okq (⟨"FenceBenchModel", "opens", "(I)I"⟩, 37) := ⟨⟨by decide +kernel, by decide +kernel⟩, List.mem_of_getElem? (i := 794) (by decide +kernel), List.mem_of_getElem? (i := 1072) (by decide +kernel), List.mem_of_getElem? (i := 1073) (by decide +kernel)⟩
def lw_privs_4 : List (MethodName × Nat) := [(⟨"FenceBenchModel", "cut", "()V"⟩, 37), (⟨"FenceBenchModel", "about", "(I)V"⟩, 37), (⟨"FenceBenchModel", "tries", "()Z"⟩, 37), (⟨"FenceBenchModel", "behind", "(II)I"⟩, 37), (⟨"FenceBenchModel", "worthAt", "(I)I"⟩, 37), (⟨"FenceBenchModel", "lengths", "()Z"⟩, 37), (⟨"FenceBenchModel", "isSimple", "()Z"⟩, 37), (⟨"FenceBenchModel", "values", "([I[I)Z"⟩, 37), (⟨"FenceBenchModel", "opened", "(II)I"⟩, 37), (⟨"FenceBenchModel", "left", "()I"⟩, 37), (⟨"FenceBenchModel", "opens", "(I)I"⟩, 37)]
theorem lw_r4 : ∀ q ∈ lw_privs_4, lw_okq q := List.forall_mem_cons.mpr ⟨lw_p48, List.forall_mem_cons.mpr ⟨lw_p49, List.forall_mem_cons.mpr ⟨lw_p50, List.forall_mem_cons.mpr ⟨lw_p51, List.forall_mem_cons.mpr ⟨lw_p52, List.forall_mem_cons.mpr ⟨lw_p53, List.forall_mem_cons.mpr ⟨lw_p54, List.forall_mem_cons.mpr ⟨lw_p55, List.forall_mem_cons.mpr ⟨lw_p56, List.forall_mem_cons.mpr ⟨lw_p57, List.forall_mem_cons.mpr ⟨lw_p58, fun _ h => absurd h List.not_mem_nil⟩⟩⟩⟩⟩⟩⟩⟩⟩⟩⟩
def lw_privs : List (MethodName × Nat) := lw_privs_1 ++ (lw_privs_2 ++ (lw_privs_3 ++ (lw_privs_4)))
def lw_tbl : List Cond := k2_sels lw_privs ++ tables_1
theorem lw_privs_ok : ∀ q ∈ lw_privs, lw_okq q := by
  show ∀ q ∈ lw_privs_1 ++ (lw_privs_2 ++ (lw_privs_3 ++ (lw_privs_4))), lw_okq q
  exact List.forall_mem_append.mpr ⟨lw_r1, List.forall_mem_append.mpr ⟨lw_r2, List.forall_mem_append.mpr ⟨lw_r3, lw_r4⟩⟩⟩
-- ===== end of PART A; then your names; then what follows =====
end
section
/-! ===== BEGIN words of one list among another's, by their places ===== -/
theorem goodIn_r {big : List Cond} (ws : List Cond) (ps : List Nat) (hp : ws = ps.filterMap (fun i => big[i]?)) (h : ws.all goodWord = true) : GoodIn big ws := by
  intro w hw
  have h1 := List.all_eq_true.mp h w hw
  rw [hp] at hw
  obtain ⟨i, -, hi⟩ := List.mem_filterMap.mp hw
  have hm : w ∈ big := by first | exact List.mem_of_getElem? hi | exact List.getElem?_mem hi
  exact ⟨hm, good_of_word h1⟩
theorem goodIn_app {big a b : List Cond} (ha : GoodIn big a) (hb : GoodIn big b) : GoodIn big (a ++ b) := fun w h => (List.mem_append.mp h).elim (ha w) (hb w)
theorem goodIn_ca {big a b : List Cond} {c : Cond} (ha : GoodIn big (c :: a)) (hb : GoodIn big b) : GoodIn big (c :: (a ++ b)) := fun w h => (List.mem_cons.mp h).elim (fun e => ha w (List.mem_cons.mpr (Or.inl e))) (fun h => (List.mem_append.mp h).elim (fun h => ha w (List.mem_cons.mpr (Or.inr h))) (hb w))
theorem goodIn_sub {big ws : List Cond} (hm : ∀ w ∈ ws, w ∈ big) (h : ws.all goodWord = true) : GoodIn big ws := fun w hw => ⟨hm w hw, good_of_word (List.all_eq_true.mp h w hw)⟩
/-! ===== END ===== -/

/-! ===== BEGIN exceptions that leave a method, and their catching by the caller (launches without stack traces) ===== -/
section VXA
/-! The laws vx_back, vx_callV, vx_callS, vx_callSW, vx_throw0, vx_throwS follow proofs of the library, with one case more: JvmDerived/Free/Laws.lean (Back.of_free), Shelf42/LK1.lean (callV, callS), Shelf/KitTraced.lean (throwNew0V, throwNewS). -/
/-- where a method has thrown q: the class by its name, the cell, what was written, the world -/
def vx_T (XC : String → State → State → Prop) (st : State) (q : Addr) (t : State) (mc ms : Nat) (free : Addr → Prop) : Prop :=
  ∃ (E : String) (ce : Cell) (L : List Loc), XC E st t ∧ t.heap[q]? = some ce ∧ ce.vm = .none ∧ st.vm.findClass E = some ce.cls ∧ st.WarmedH t.vm ∧ st.sameButNew ({ t with vm := st.vm } : State) L mc ms ∧ ∀ z ∈ L, free z.base
def vx_Q (Qc : Array Value → State → Outcome → State → Prop) (XC : String → State → State → Prop) (mc ms : Nat) (free : Addr → Prop) : Array Value → State → Outcome → State → Prop := fun a st o t =>
  (Qc a st o t ∧ ∃ L, FrameEnd st o t L mc ms ∧ ∀ q ∈ L, free q.base) ∨ ∃ q, o = .threw q ∧ vx_T XC st q t mc ms free
/-- a callee that returns or throws -/
def vx_Met (l : Launch) (y : MethodName) (ws : List Cond) (rm : Room) (Pc : Array Value → State → Prop) (Qc : Array Value → State → Outcome → State → Prop) (XC : String → State → State → Prop) (mc ms : Nat) (free : Addr → Prop) : Prop :=
  MetFree l y (headSpec ws rm) Pc (fun _ _ _ _ _ => True) (vx_Q Qc XC mc ms free)
def vx_Post (XC : String → State → State → Prop) (mc ms : Nat) (free : Addr → Prop) : Pt → Array Value → Addr → Pt → Prop := fun A a q B =>
  ∃ (g : JFrame) (mk : MethodId) (t : State) (L : List Loc) (E : String) (ce : Cell), B.U.heap = t.heap ∧ B.U.vm = t.vm ∧ XC E (A.U.calling g mk a) t ∧ t.heap[q]? = some ce ∧ ce.vm = .none ∧ A.U.vm.findClass E = some ce.cls ∧ B.locs = A.locs ++ L ∧ (∀ z ∈ L, free z.base) ∧ B.cells = A.cells + mc ∧ B.slots = A.slots + ms
def vx_Back (l : Launch) (R : Room) (p : Program) (e : Env) (below : List Frame) (s : State) (sargs : Array Value) (y : MethodName) (len W9 : Nat)
    (Pre : Pt → Array Value → Prop) (Post : Pt → Array Value → Option Value → Pt → Prop) (PostX : Pt → Array Value → Addr → Pt → Prop) : Prop :=
  ∀ (m : MethodId) (meth : Method) (c : Code) (A : Pt) (g : JFrame) (ig : Instr) (mk : MethodId) (a : Array Value),
    Stand p l e R s m sargs below meth c A.U A.locs A.cells A.slots → g.method = m → g.locals.size = c.maxLocals → decode c.code g.pc = .ok (ig, len) →
    2 * g.monitorRoom + (g.stack.map fun v => v.category).sum ≤ W9 → A.U.methodNamed? y = some mk → Pre A a →
    (∃ (v : Option Value) (B : Pt), Stand p l e R s m sargs below meth c B.U B.locs B.cells B.slots ∧ Post A a v B ∧
      Steps p.tables e below (doInvoke e (A.U.setTop g) [] mk a).1 (B.U.setTop { g with pc := g.pc + len, stack := v.toList ++ g.stack })) ∨
    (∃ (q : Addr) (B : Pt), Stand p l e R s m sargs below meth c B.U B.locs B.cells B.slots ∧ PostX A a q B ∧
      Steps p.tables e below (doInvoke e (A.U.setTop g) [] mk a).1 ((B.U.setTop g).pushFrame (.throwing q)))
section Payer
variable {l : Launch} {R : Room} {p : Program} {e : Env} {below : List Frame} {s : State} {sargs : Array Value} {y : MethodName} {len W9 : Nat}
theorem vx_back {ws : List Cond} {rm : Room} {Pc : Array Value → State → Prop} {Qc : Array Value → State → Outcome → State → Prop} {XC : String → State → State → Prop} {mc ms : Nat} {free : Addr → Prop} {bytes : ByteArray} {maxL : Nat} {ret : Option FieldType}
    (hM : vx_Met l y ws rm Pc Qc XC mc ms free) (hblind : FrameBlind Pc) (hrc : rm.cells = mc) (hrs : rm.slots = ms)
    (hframes : rm.frames + 1 ≤ R.frames) (hlocals : W9 + (maxL + 11) + rm.locals ≤ R.locals)
    (hws : ∀ w ∈ ws, ∀ a' U, s.WarmedH U.vm → w.before a' U = true) (hcode : Cond.code y bytes maxL ret ∈ ws) (hinit : ∀ a' U, s.WarmedH U.vm → (Cond.initialized y.cls).before a' U = true) :
    vx_Back l R p e below s sargs y len W9 (PreOf R mc ms Pc) (PostOf Qc mc ms free) (vx_Post XC mc ms free) := by
  intro m meth c A g ig mk a X hg hsize hdg hW hn hp
  have h1 : (headSpec ws rm).pre.before a A.U = true := atoms_intro fun w hw => hws w hw _ _ X.warmed
  have h2 : (Cond.code y bytes maxL ret).before a A.U = true := hws _ hcode _ _ X.warmed
  have h3 : (Cond.initialized y.cls).before a A.U = true := hinit _ _ X.warmed
  have h4 : A.cells + (headSpec ws rm).room.cells ≤ R.cells := by rw [show (headSpec ws rm).room.cells = mc from hrc]; exact hp.1
  have h5 : A.slots + (headSpec ws rm).room.slots ≤ R.slots := by rw [show (headSpec ws rm).room.slots = ms from hrs]; exact hp.2.1
  have hPc : Pc a (A.U.calling g mk a) := hblind _ _ _ _ hp.2.2
  obtain ⟨U, Ls, c0, s0⟩ := A
  dsimp only [Pt.U, Pt.locs, Pt.cells, Pt.slots] at h1 h2 h3 h4 h5 X hn hPc ⊢
  obtain ⟨methY, cY, hmY, hcY, -, hlY, -, -, -, -⟩ := Cond.code_spec hn h2
  obtain ⟨kY, hkY, -⟩ := className_of_methodNamed hn
  have hinitY : kY.init = .initialized := Cond.initialized_spec (findClass_of_methodNamed hn) hkY h3
  have h : At U g.method c below := by rw [hg]; exact X.here
  have hlocals9 : W9 + (maxL + 11) + (headSpec ws rm).room.locals ≤ R.locals := hlocals
  have happ : (headSpec ws rm).appliesLoose y e.platform (U.calling g mk a) = true :=
    Spec.appliesLoose_calling (g := g) h hdg hn hkY hinitY
      (X.room_calling (g := g) (R' := (headSpec ws rm).room) hsize hmY hcY hframes (by rw [hlY]; omega) h4 h5) h1
  obtain ⟨mid, hmid⟩ := h.above
  have hfr : (U.setTop g).frames = (.java g :: mid) ++ below := by rw [State.frames_setTop' g h.top, hmid]; rfl
  obtain ⟨o, s₂, hsteps, -, hend, hq⟩ := Steps.callFree hM p X.admits X.cas X.clock (acts := []) hfr happ hPc trivial
  have hq' : vx_Q Qc XC mc ms free a (U.calling g mk a) o s₂ := hq
  rw [State.frames_setTop' g h.top] at hend
  obtain ⟨g₀, hg0⟩ := Option.isSome_iff_exists.mp h.top
  obtain ⟨r, hr⟩ := State.topJava?_eq_some.mp hg0
  have hr' : (({ U with heap := s₂.heap, slotsUsed := s₂.slotsUsed } : State).setVm s₂.vm).frames = .java g₀ :: r := hr
  rcases hq' with ⟨hqc, L, hfe, hL⟩ | ⟨q, rfl, E, ce, L, hx, hce, hcv, hcl, hW₂, hsm, hL⟩
  · obtain ⟨⟨v, rfl⟩, hW₂, e2, q2, q3, q4, q5, q6⟩ := id hfe
    have e3 : s₂ = ({ (U.calling g mk a).setFrames s₂.frames with heap := s₂.heap, slotsUsed := s₂.slotsUsed } : State).setVm s₂.vm := by
      have : s₂ = ({ s₂ with vm := (U.calling g mk a).vm } : State).setVm s₂.vm := rfl
      rw [e2] at this
      exact this
    obtain ⟨c₂, i₂, len₂, hc₂, hd₂, hf₂⟩ := hend
    have hW' : U.WarmedH s₂.vm := hW₂
    have hcc : c₂ = c := by
      have h1 : s₂.code? g.method = U.code? g.method := by
        rw [State.code?_eq, State.code?_eq, hW'.alike.method?]
      exact Option.some.inj (hc₂.symm.trans (h1.trans h.code))
    subst hcc
    have hlen : len₂ = len := by rw [hdg] at hd₂; cases hd₂; rfl
    subst hlen
    have hs₂ : s₂ = (({ U with heap := s₂.heap, slotsUsed := s₂.slotsUsed } : State).setVm s₂.vm).setTop { g with pc := g.pc + len₂, stack := v.toList ++ g.stack } := by
      refine e3.trans ?_
      rw [hf₂, State.calling_eq h.top, State.setFrames_setFrames, State.setTop_of_frames _ hr', hr]
      rfl
    have hsame : U.sameButNew ({ U with heap := s₂.heap, slotsUsed := s₂.slotsUsed } : State) L mc ms := by
      refine ⟨?_, q2, q3, q4, q5, q6⟩
      obtain ⟨t, ht, -⟩ := State.frames_cons hr
      show ({ U with heap := s₂.heap, slotsUsed := s₂.slotsUsed } : State) = { U.setFrames U.frames with heap := s₂.heap, slotsUsed := s₂.slotsUsed }
      rw [State.setFrames_self ht]
    subst hg
    refine Or.inl ⟨v, ⟨(({ U with heap := s₂.heap, slotsUsed := s₂.slotsUsed } : State).setVm s₂.vm), Ls ++ L, c0 + mc, s0 + ms⟩,
      ⟨X.admits, X.cas, X.clock, X.frames, X.room, X.hears, X.method, X.code, (X.here.setHeapUsed s₂.heap s₂.slotsUsed).setVm hW'.alike, X.tail, State.WarmedH.trans X.warmed hW', X.limits, X.bytes, X.same.trans (hsame.setVm s.vm)⟩,
      ⟨g, mk, s₂, L, rfl, rfl, hqc, rfl, hL, rfl, rfl⟩, ?_⟩
    show Steps p.tables e below _ ((({ U with heap := s₂.heap, slotsUsed := s₂.slotsUsed } : State).setVm s₂.vm).setTop { g with pc := g.pc + len₂, stack := v.toList ++ g.stack })
    rw [← hs₂]
    exact hsteps
  · obtain ⟨e2, q2, q3, q4, q5, q6⟩ := id hsm
    have e3 : s₂ = ({ (U.calling g mk a).setFrames s₂.frames with heap := s₂.heap, slotsUsed := s₂.slotsUsed } : State).setVm s₂.vm := by
      have : s₂ = ({ s₂ with vm := (U.calling g mk a).vm } : State).setVm s₂.vm := rfl
      rw [e2] at this
      exact this
    have hf₂ : s₂.frames = .throwing q :: .java g :: U.frames.tail := hend
    have hW' : U.WarmedH s₂.vm := hW₂
    have hs₂ : s₂ = ((({ U with heap := s₂.heap, slotsUsed := s₂.slotsUsed } : State).setVm s₂.vm).setTop g).pushFrame (.throwing q) := by
      refine e3.trans ?_
      rw [hf₂, State.calling_eq h.top, State.setFrames_setFrames, State.pushFrame, State.frames_setTop _ hr', State.setTop_of_frames _ hr', State.setFrames_setFrames, hr]
      rfl
    have hsame : U.sameButNew ({ U with heap := s₂.heap, slotsUsed := s₂.slotsUsed } : State) L mc ms := by
      refine ⟨?_, q2, q3, q4, q5, q6⟩
      obtain ⟨t, ht, -⟩ := State.frames_cons hr
      show ({ U with heap := s₂.heap, slotsUsed := s₂.slotsUsed } : State) = { U.setFrames U.frames with heap := s₂.heap, slotsUsed := s₂.slotsUsed }
      rw [State.setFrames_self ht]
    subst hg
    refine Or.inr ⟨q, ⟨(({ U with heap := s₂.heap, slotsUsed := s₂.slotsUsed } : State).setVm s₂.vm), Ls ++ L, c0 + mc, s0 + ms⟩,
      ⟨X.admits, X.cas, X.clock, X.frames, X.room, X.hears, X.method, X.code, (X.here.setHeapUsed s₂.heap s₂.slotsUsed).setVm hW'.alike, X.tail, State.WarmedH.trans X.warmed hW', X.limits, X.bytes, X.same.trans (hsame.setVm s.vm)⟩,
      ⟨g, mk, s₂, L, E, ce, rfl, rfl, hx, hce, hcv, hcl, rfl, hL, rfl, rfl⟩, ?_⟩
    show Steps p.tables e below _ (((({ U with heap := s₂.heap, slotsUsed := s₂.slotsUsed } : State).setVm s₂.vm).setTop g).pushFrame (.throwing q))
    rw [← hs₂]
    exact hsteps
end Payer
section Calls
variable {p : Program} {l : Launch} {e : Env} {R : Room} {s : State} {m : MethodId} {args : Array Value} {below : List Frame} {meth : Method} {c : Code} {T : State} {locs : List Loc} {cells slots : Nat}
theorem vx_callV (X : Stand p l e R s m args below meth c T locs cells slots) (hexec : p.tables.exec = Jvm.exec) {own C : String} {index : Nat} {y : MethodName} {bytes : ByteArray} {maxL : Nat} {ret : Option FieldType}
    (hown : s.vm.findClass own = some m.cls) (hlink : (Cond.methodLink own index y).before args s = true) (hinst : (Cond.instanceMethod y).before args s = true) (hsel : (Cond.selects C y y).before args s = true)
    (hcode : (Cond.code y bytes maxL ret).before args s = true) (hy : y.cls ≠ "java/lang/invoke/MethodHandle" ∧ y.cls ≠ "java/lang/invoke/VarHandle")
    {W9 : Nat} {Pre : Pt → Array Value → Prop} {Post : Pt → Array Value → Option Value → Pt → Prop} {PostX : Pt → Array Value → Addr → Pt → Prop} (hK : vx_Back l R p e below s args y 3 W9 Pre Post PostX)
    {b : Addr} {cellB : Cell} (hcell : T.heap[b]? = some cellB) (hobj : cellB.vm.isStatics = false) (hcls : s.vm.findClass C = some cellB.cls)
    {g : JFrame} (hg : g.method = m) (hsize : g.locals.size = c.maxLocals) {argsL rest : List Value} (hlen : ∀ sig, parseMethodDescriptor y.desc = some sig → argsL.length = sig.parameters.length)
    (hstack : g.stack = argsL.reverse ++ .ref b :: rest) (hW : 2 * g.monitorRoom + (rest.map fun v => v.category).sum ≤ W9) (hdg : decode c.code g.pc = .ok (.invokevirtual index, 3))
    (hpre : ∀ vm₁, s.WarmedH vm₁ → Pre ⟨T.setVm vm₁, locs, cells, slots⟩ (Value.ref b :: argsL).toArray) :
    (∃ (v : Option Value) (vm₁ : Vm) (B : Pt), s.WarmedH vm₁ ∧ Stand p l e R s m args below meth c B.U B.locs B.cells B.slots ∧ Post ⟨T.setVm vm₁, locs, cells, slots⟩ (Value.ref b :: argsL).toArray v B ∧
      ∀ target, Steps p.tables e below (B.U.setTop { g with pc := g.pc + 3, stack := v.toList ++ rest }) target → Steps p.tables e below (T.setTop g) target) ∨
    (∃ (q : Addr) (vm₁ : Vm) (B : Pt), s.WarmedH vm₁ ∧ Stand p l e R s m args below meth c B.U B.locs B.cells B.slots ∧ PostX ⟨T.setVm vm₁, locs, cells, slots⟩ (Value.ref b :: argsL).toArray q B ∧
      Steps p.tables e below (T.setTop g) ((B.U.setTop { g with stack := rest }).pushFrame (.throwing q))) := by
  obtain ⟨mk, methM, hnamed, hmethM, hstM, habM⟩ := Cond.instanceMethod_spec hinst
  obtain ⟨methM', cM, hmethM', -, -, -, -, -, -, hsigM⟩ := Cond.code_spec hnamed hcode
  cases hmethM.symm.trans hmethM'
  obtain ⟨c2, r2, m2, q1, q2, q3, q4, kP, hkP, hkPi⟩ := Cond.selects_spec hsel
  cases hcls.symm.trans q1
  cases (State.methodFound?_of_named hnamed hy).symm.trans q2
  cases hnamed.symm.trans q3
  have hselP : selectMethod e.platform s.vm cellB.cls mk = .method mk := by rw [Launch.admits_selectMethod X.admits]; exact q4
  obtain ⟨vm₁, X₁, hstep₁⟩ := X.invokevirtual hexec hown hlink hnamed hmethM hstM hkP hkPi hy (a := b) (cell := cellB) hcell
    (fun z h => by rw [h] at hobj; cases hobj) hselP hmethM habM hkP hkPi (g := g) hg (argsL := argsL) (rest := rest) (hlen _ hsigM) hstack hdg
  rcases hK m meth c ⟨T.setVm vm₁, locs, cells, slots⟩ { g with stack := rest } (.invokevirtual index) mk (Value.ref b :: argsL).toArray X₁ hg hsize hdg hW (X₁.named hnamed) (hpre vm₁ X₁.warmed) with ⟨v, B, X', hpost, hsteps⟩ | ⟨q, B, X', hpost, hsteps⟩
  · exact Or.inl ⟨v, vm₁, B, X₁.warmed, X', hpost, fun target h => hstep₁ _ fun acts => by rw [doInvoke_state]; exact hsteps.trans h⟩
  · exact Or.inr ⟨q, vm₁, B, X₁.warmed, X', hpost, hstep₁ _ fun acts => by rw [doInvoke_state]; exact hsteps⟩
theorem vx_callS (X : Stand p l e R s m args below meth c T locs cells slots) (hexec : p.tables.exec = Jvm.exec) {own : String} {index : Nat} {y : MethodName} {bytes : ByteArray} {maxL : Nat} {ret : Option FieldType}
    (hown : s.vm.findClass own = some m.cls) (hlink : (Cond.methodLink own index y).before args s = true) (hstat : (Cond.static y).before args s = true) (hinit : (Cond.initialized y.cls).before args s = true)
    (hcode : (Cond.code y bytes maxL ret).before args s = true) (hy : y.cls ≠ "java/lang/invoke/MethodHandle" ∧ y.cls ≠ "java/lang/invoke/VarHandle")
    {W9 : Nat} {Pre : Pt → Array Value → Prop} {Post : Pt → Array Value → Option Value → Pt → Prop} {PostX : Pt → Array Value → Addr → Pt → Prop} (hK : vx_Back l R p e below s args y 3 W9 Pre Post PostX)
    {g : JFrame} (hg : g.method = m) (hsize : g.locals.size = c.maxLocals) {argsL rest : List Value} (hlen : ∀ sig, parseMethodDescriptor y.desc = some sig → argsL.length = sig.parameters.length)
    (hstack : g.stack = argsL.reverse ++ rest) (hW : 2 * g.monitorRoom + (rest.map fun v => v.category).sum ≤ W9) (hdg : decode c.code g.pc = .ok (.invokestatic index, 3))
    (hpre : ∀ vm₁, s.WarmedH vm₁ → Pre ⟨T.setVm vm₁, locs, cells, slots⟩ argsL.toArray) :
    (∃ (v : Option Value) (vm₁ : Vm) (B : Pt), s.WarmedH vm₁ ∧ Stand p l e R s m args below meth c B.U B.locs B.cells B.slots ∧ Post ⟨T.setVm vm₁, locs, cells, slots⟩ argsL.toArray v B ∧
      ∀ target, Steps p.tables e below (B.U.setTop { g with pc := g.pc + 3, stack := v.toList ++ rest }) target → Steps p.tables e below (T.setTop g) target) ∨
    (∃ (q : Addr) (vm₁ : Vm) (B : Pt), s.WarmedH vm₁ ∧ Stand p l e R s m args below meth c B.U B.locs B.cells B.slots ∧ PostX ⟨T.setVm vm₁, locs, cells, slots⟩ argsL.toArray q B ∧
      Steps p.tables e below (T.setTop g) ((B.U.setTop { g with stack := rest }).pushFrame (.throwing q))) := by
  obtain ⟨mk, hnamed⟩ := Cond.code_named hcode
  obtain ⟨methM, cM, hmethM, -, -, -, -, -, -, hsigM⟩ := Cond.code_spec hnamed hcode
  have hstatic : methM.isStatic = true := Cond.static_spec hnamed hmethM hstat
  obtain ⟨kP, hkP, -⟩ := className_of_methodNamed hnamed
  have hinitP : kP.init = .initialized := Cond.initialized_spec (findClass_of_methodNamed hnamed) hkP hinit
  obtain ⟨vm₁, X₁, hstep₁⟩ := X.invokestatic hexec hown hlink hnamed hmethM hstatic hkP hinitP hy (g := g) hg (argsL := argsL) (rest := rest) (hlen _ hsigM) hstack hdg
  rcases hK m meth c ⟨T.setVm vm₁, locs, cells, slots⟩ { g with stack := rest } (.invokestatic index) mk argsL.toArray X₁ hg hsize hdg hW (X₁.named hnamed) (hpre vm₁ X₁.warmed) with ⟨v, B, X', hpost, hsteps⟩ | ⟨q, B, X', hpost, hsteps⟩
  · exact Or.inl ⟨v, vm₁, B, X₁.warmed, X', hpost, fun target h => hstep₁ _ fun acts => by rw [doInvoke_state]; exact hsteps.trans h⟩
  · exact Or.inr ⟨q, vm₁, B, X₁.warmed, X', hpost, hstep₁ _ fun acts => by rw [doInvoke_state]; exact hsteps⟩
end Calls
theorem vx_cls {s : State} {T : State} {vm₁ : Vm} {E : String} {k : ClassId} (hW : s.WarmedH vm₁) (h : (T.setVm vm₁).vm.findClass E = some k) : s.vm.findClass E = some k := by
  have h1 : vm₁.findClass E = some k := h
  rw [hW.alike.findClass] at h1
  exact h1
/-- the method's frame g, with q thrown over it -/
def vx_W (p : Program) (l : Launch) (e : Env) (R : Room) (s : State) (m : MethodId) (args : Array Value) (below : List Frame) (meth : Method) (c : Code) (H : Heap) (locs : List Loc) (cells slots : Nat) (Q : State → Prop) (g : JFrame) (q : Addr) : Prop :=
  ∀ T : State, T.heap = H → Stand p l e R s m args below meth c T locs cells slots → ∃ t, Steps p.tables e below ((T.setTop g).pushFrame (.throwing q)) t ∧ Q t
def vx_Run (p : Program) (l : Launch) (e : Env) (R : Room) (s : State) (m : MethodId) (args : Array Value) (below : List Frame) (meth : Method) (c : Code) (H : Heap) (locs : List Loc) (cells slots mc ms : Nat) (g : JFrame) (rest : List Value) (Qa : State → Outcome → State → Prop) (XC : String → State → State → Prop) (free : Addr → Prop) : Prop :=
  ∀ T : State, T.heap = H → Stand p l e R s m args below meth c T locs cells slots →
    (∃ (v : Option Value) (st₀ t T' : State) (L : List Loc), st₀.heap = H ∧ Stand p l e R s m args below meth c T' (locs ++ L) (cells + mc) (slots + ms) ∧ (∀ q ∈ L, free q.base) ∧ T'.heap = t.heap ∧ T'.vm = t.vm ∧ Qa st₀ (.returned v) t ∧
      Goes p e below T g T' { g with pc := g.pc + 3, stack := v.toList ++ rest }) ∨
    (∃ (q : Addr) (st₀ t T' : State) (L : List Loc) (E : String) (ce : Cell), st₀.heap = H ∧ Stand p l e R s m args below meth c T' (locs ++ L) (cells + mc) (slots + ms) ∧ (∀ z ∈ L, free z.base) ∧ T'.heap = t.heap ∧ T'.vm = t.vm ∧ XC E st₀ t ∧ t.heap[q]? = some ce ∧ ce.vm = .none ∧ s.vm.findClass E = some ce.cls ∧
      Steps p.tables e below (T.setTop g) ((T'.setTop { g with stack := rest }).pushFrame (.throwing q)))
def vx_X {S : Type} (px : S → Prop) (B : String → S → State → Prop) (A : Nat → Prop) : String → State → State → Prop := fun E st t => ∃ u : S, px u ∧ B E u t ∧ va_F A st t
section Runs
variable {p : Program} {l : Launch} {e : Env} {R : Room} {s : State} {m : MethodId} {args : Array Value} {below : List Frame} {meth : Method} {c : Code} {H : Heap} {locs : List Loc} {cells slots : Nat}
variable {y : MethodName} {bytes cc : ByteArray} {maxL nL mc ms n index : Nat} {ret : Option FieldType} {ws : List Cond} {rm : Room} {Pc : Array Value → State → Prop} {Qc : Array Value → State → Outcome → State → Prop} {XC : String → State → State → Prop} {free : Addr → Prop} {Ts : List Cond} {own C : String} {b : Addr} {As rest : List Value} {g : JFrame}
theorem vx_callBack (cb : CallB R s args own index y bytes maxL ret ws rm mc ms n) (hM : vx_Met l y ws rm Pc Qc XC mc ms free) (hbl : FrameBlind Pc) : vx_Back l R p e below s args y 3 8 (PreOf R mc ms Pc) (PostOf Qc mc ms free) (vx_Post XC mc ms free) := by
  obtain ⟨hrc, hrs, hfr, hlo, hws, hcw, -, hini, -⟩ := cb
  exact vx_back (bytes := bytes) (maxL := maxL) (ret := ret) hM hbl hrc hrs hfr hlo hws hcw (fun a' U hW => word_at hW (Or.inl (by first | rfl | simp [Cond.onTables, Cond.keeps, Cond.steady])) hini)
theorem vx_runV (S : CallFix p m c cc nL s args Ts own) (hM : vx_Met l y ws rm Pc Qc XC mc ms free) (cw : CallW R s args own C index y bytes maxL ret ws rm mc ms n) (hp : PreV s H C b Pc As)
    (hg : g.method = m) (hn : As.length = n) (hsize : g.locals.size = nL) (hstack : g.stack = As.reverse ++ .ref b :: rest) (hW : 2 * g.monitorRoom + (rest.map fun v => v.category).sum ≤ 8) (hdg : decode cc g.pc = .ok (.invokevirtual index, 3)) (hf : cells + mc ≤ R.cells ∧ slots + ms ≤ R.slots) :
    vx_Run p l e R s m args below meth c H locs cells slots mc ms g rest (Qc (Value.ref b :: As).toArray) XC free := by
  have hK : vx_Back l R p e below s args y 3 8 (PreOf R mc ms Pc) (PostOf Qc mc ms free) (vx_Post XC mc ms free) := vx_callBack cw.1 hM hp.1
  obtain ⟨⟨-, -, -, -, -, -, hcode, -, hy, hlen, hl⟩, hin, hse⟩ := cw
  obtain ⟨hx, hb, hml, ho, -⟩ := S
  obtain ⟨-, ⟨cellB, hcB, hoB, hclB⟩, hPc⟩ := hp
  intro T hT X
  rcases vx_callV X hx (C := C) (bytes := bytes) (maxL := maxL) (ret := ret) ho hl hin hse hcode hy hK (by rw [hT]; exact hcB) hoB hclB hg (hsize.trans hml.symm) (argsL := As) (rest := rest) (fun sig h => hn.trans (hlen sig h)) hstack hW (by rw [hb]; exact hdg)
    (fun vm₁ hW₁ => ⟨hf.1, hf.2, hPc (T.setVm vm₁) hT hW₁⟩) with ⟨v, vm₁, ⟨U', l2, c2, s2⟩, hW₁, X', ⟨g', mk, t, L, e1, e2, hq, h1, hL, h2, h3⟩, st⟩ | ⟨q, vm₁, ⟨U', l2, c2, s2⟩, hW₁, X', ⟨g', mk, t, L, E, ce, e1, e2, hq, hce, hcv, hcl, h1, hL, h2, h3⟩, st⟩
  · dsimp only [Pt.U, Pt.locs, Pt.cells, Pt.slots] at X' e1 e2 h1 h2 h3 st
    subst h1; subst h2; subst h3
    exact Or.inl ⟨v, (T.setVm vm₁).calling g' mk (Value.ref b :: As).toArray, t, U', L, hT, X', hL, e1, e2, hq, st⟩
  · dsimp only [Pt.U, Pt.locs, Pt.cells, Pt.slots] at X' e1 e2 h1 h2 h3 st hcl
    subst h1; subst h2; subst h3
    exact Or.inr ⟨q, (T.setVm vm₁).calling g' mk (Value.ref b :: As).toArray, t, U', L, E, ce, hT, X', hL, e1, e2, hq, hce, hcv, vx_cls hW₁ hcl, st⟩
theorem vx_runS (S : CallFix p m c cc nL s args Ts own) (hM : vx_Met l y ws rm Pc Qc XC mc ms free) (cw : CallB R s args own index y bytes maxL ret ws rm mc ms n ∧ (Cond.static y).before args s = true) (hp : PreS s H Pc As)
    (hg : g.method = m) (hn : As.length = n) (hsize : g.locals.size = nL) (hstack : g.stack = As.reverse ++ rest) (hW : 2 * g.monitorRoom + (rest.map fun v => v.category).sum ≤ 8) (hdg : decode cc g.pc = .ok (.invokestatic index, 3)) (hf : cells + mc ≤ R.cells ∧ slots + ms ≤ R.slots) :
    vx_Run p l e R s m args below meth c H locs cells slots mc ms g rest (Qc As.toArray) XC free := by
  have hK : vx_Back l R p e below s args y 3 8 (PreOf R mc ms Pc) (PostOf Qc mc ms free) (vx_Post XC mc ms free) := vx_callBack cw.1 hM hp.1
  obtain ⟨⟨-, -, -, -, -, -, hcode, hini, hy, hlen, hl⟩, hstt⟩ := cw
  obtain ⟨hx, hb, hml, ho, -⟩ := S
  intro T hT X
  rcases vx_callS X hx (bytes := bytes) (maxL := maxL) (ret := ret) ho hl hstt hini hcode hy hK hg (hsize.trans hml.symm) (argsL := As) (rest := rest) (fun sig h => hn.trans (hlen sig h)) hstack hW (by rw [hb]; exact hdg)
    (fun vm₁ hW₁ => ⟨hf.1, hf.2, hp.2 (T.setVm vm₁) hT hW₁⟩) with ⟨v, vm₁, ⟨U', l2, c2, s2⟩, hW₁, X', ⟨g', mk, t, L, e1, e2, hq, h1, hL, h2, h3⟩, st⟩ | ⟨q, vm₁, ⟨U', l2, c2, s2⟩, hW₁, X', ⟨g', mk, t, L, E, ce, e1, e2, hq, hce, hcv, hcl, h1, hL, h2, h3⟩, st⟩
  · dsimp only [Pt.U, Pt.locs, Pt.cells, Pt.slots] at X' e1 e2 h1 h2 h3 st
    subst h1; subst h2; subst h3
    exact Or.inl ⟨v, (T.setVm vm₁).calling g' mk As.toArray, t, U', L, hT, X', hL, e1, e2, hq, st⟩
  · dsimp only [Pt.U, Pt.locs, Pt.cells, Pt.slots] at X' e1 e2 h1 h2 h3 st hcl
    subst h1; subst h2; subst h3
    exact Or.inr ⟨q, (T.setVm vm₁).calling g' mk As.toArray, t, U', L, E, ce, hT, X', hL, e1, e2, hq, hce, hcv, vx_cls hW₁ hcl, st⟩
end Runs
section Rows
variable {p : Program} {l : Launch} {e : Env} {R : Room} {s : State} {m : MethodId} {args : Array Value} {below : List Frame} {meth : Method} {c : Code} {H : Heap} {locs : List Loc} {cells slots : Nat} {Q : State → Prop}
variable {mc ms : Nat} {free : Addr → Prop} {A0 A1 : Nat → Prop} {H0 : Heap} {a : Array Value} {pc : Nat} {ls : Array Slot} {st0 rest : List Value}
theorem vx_keep {st₀ t T' : State} {L : List Loc} (h0 : st₀.heap = H) (e1 : T'.heap = t.heap) (hS : va_S A0 H0 H locs) (hA : ∀ q, q < H.size → A1 q → A0 q) (hf : ∀ q, free q → A0 q) (hL : ∀ q ∈ L, free q.base) (hF : va_F A1 st₀ t) :
    H.size ≤ T'.heap.size ∧ (∀ q : Nat, q < H.size → ¬ A1 q → T'.heap[q]? = H[q]?) ∧ va_S A0 H0 T'.heap (locs ++ L) := by
  obtain ⟨hz, hk⟩ := hF
  rw [h0] at hz hk
  exact ⟨by rw [e1]; exact hz, fun q h1 h2 => by rw [e1]; exact hk q h1 h2,
    ⟨Nat.le_trans hS.1 (by rw [e1]; exact hz), fun q h1 h2 => by rw [e1, hk q (Nat.lt_of_lt_of_le h1 hS.1) (fun z => h2 (hA q (Nat.lt_of_lt_of_le h1 hS.1) z))]; exact hS.2.1 q h1 h2, fun q hq => by
      rcases List.mem_append.mp hq with h | h
      · exact hS.2.2 q h
      · exact hf _ (hL q h)⟩⟩
theorem vx_calli {S SX : Type} {post : Int32 → S → Prop} {px : SX → Prop} {B : S → State → Prop} {BX : String → SX → State → Prop} {AX : Nat → Prop} (hr : vx_Run p l e R s m args below meth c H locs cells slots mc ms (F0 m pc ls st0) rest (va_Qi post B A1 a) (vx_X px BX AX) free) (hS : va_S A0 H0 H locs) (hA : ∀ q, q < H.size → A1 q → A0 q) (hf : ∀ q, free q → A0 q) (hAX : ∀ q, q < H.size → AX q → A0 q)
    (kx : ∀ (E : String) (ce : Cell) (q9 : Addr) (u : SX) (t : State) (H1 : Heap) (locs1 : List Loc), t.heap = H1 → s.vm.Alike t.vm → px u → BX E u t → H.size ≤ H1.size → (∀ q : Nat, q < H.size → ¬ AX q → H1[q]? = H[q]?) → va_S A0 H0 H1 locs1 → H1[q9]? = some ce → ce.vm = .none → s.vm.findClass E = some ce.cls → vx_W p l e R s m args below meth c H1 locs1 (cells + mc) (slots + ms) Q (F0 m pc ls rest) q9)
    (kk : ∀ (r : Int32) (u : S) (t : State) (H1 : Heap) (locs1 : List Loc), t.heap = H1 → s.vm.Alike t.vm → post r u → B u t → H.size ≤ H1.size → (∀ q : Nat, q < H.size → ¬ A1 q → H1[q]? = H[q]?) → va_S A0 H0 H1 locs1 → W p l e R s m args below meth c H1 locs1 (cells + mc) (slots + ms) Q (F0 m (pc + 3) ls (.int r :: rest))) : W p l e R s m args below meth c H locs cells slots Q (F0 m pc ls st0) := by
  intro T hT X
  rcases hr T hT X with ⟨v, st₀, t, T', L, h0, X', hL, e1, e2, ⟨⟨r, u, hv, hp, hb⟩, hF⟩, st⟩ | ⟨q, st₀, t, T', L, E, ce, h0, X', hL, e1, e2, ⟨u, hp, hb, hF⟩, hce, hcv, hcl, st⟩
  · cases hv
    obtain ⟨k1, k2, k3⟩ := vx_keep h0 e1 hS hA hf hL hF
    obtain ⟨t2, a1, b1⟩ := kk r u t T'.heap (locs ++ L) e1.symm (by rw [← e2]; exact X'.warmed.alike) hp hb k1 k2 k3 T' rfl X'
    exact ⟨t2, st t2 a1, b1⟩
  · obtain ⟨k1, k2, k3⟩ := vx_keep h0 e1 hS hAX hf hL hF
    obtain ⟨t2, a1, b1⟩ := kx E ce q u t T'.heap (locs ++ L) e1.symm (by rw [← e2]; exact X'.warmed.alike) hp hb k1 k2 k3 (by rw [e1]; exact hce) hcv hcl T' rfl X'
    exact ⟨t2, st.trans a1, b1⟩
theorem vx_calll {S SX : Type} {post : Int64 → S → Prop} {px : SX → Prop} {B : S → State → Prop} {BX : String → SX → State → Prop} {AX : Nat → Prop} (hr : vx_Run p l e R s m args below meth c H locs cells slots mc ms (F0 m pc ls st0) rest (va_Ql post B A1 a) (vx_X px BX AX) free) (hS : va_S A0 H0 H locs) (hA : ∀ q, q < H.size → A1 q → A0 q) (hf : ∀ q, free q → A0 q) (hAX : ∀ q, q < H.size → AX q → A0 q)
    (kx : ∀ (E : String) (ce : Cell) (q9 : Addr) (u : SX) (t : State) (H1 : Heap) (locs1 : List Loc), t.heap = H1 → s.vm.Alike t.vm → px u → BX E u t → H.size ≤ H1.size → (∀ q : Nat, q < H.size → ¬ AX q → H1[q]? = H[q]?) → va_S A0 H0 H1 locs1 → H1[q9]? = some ce → ce.vm = .none → s.vm.findClass E = some ce.cls → vx_W p l e R s m args below meth c H1 locs1 (cells + mc) (slots + ms) Q (F0 m pc ls rest) q9)
    (kk : ∀ (r : Int64) (u : S) (t : State) (H1 : Heap) (locs1 : List Loc), t.heap = H1 → s.vm.Alike t.vm → post r u → B u t → H.size ≤ H1.size → (∀ q : Nat, q < H.size → ¬ A1 q → H1[q]? = H[q]?) → va_S A0 H0 H1 locs1 → W p l e R s m args below meth c H1 locs1 (cells + mc) (slots + ms) Q (F0 m (pc + 3) ls (.long r :: rest))) : W p l e R s m args below meth c H locs cells slots Q (F0 m pc ls st0) := by
  intro T hT X
  rcases hr T hT X with ⟨v, st₀, t, T', L, h0, X', hL, e1, e2, ⟨⟨r, u, hv, hp, hb⟩, hF⟩, st⟩ | ⟨q, st₀, t, T', L, E, ce, h0, X', hL, e1, e2, ⟨u, hp, hb, hF⟩, hce, hcv, hcl, st⟩
  · cases hv
    obtain ⟨k1, k2, k3⟩ := vx_keep h0 e1 hS hA hf hL hF
    obtain ⟨t2, a1, b1⟩ := kk r u t T'.heap (locs ++ L) e1.symm (by rw [← e2]; exact X'.warmed.alike) hp hb k1 k2 k3 T' rfl X'
    exact ⟨t2, st t2 a1, b1⟩
  · obtain ⟨k1, k2, k3⟩ := vx_keep h0 e1 hS hAX hf hL hF
    obtain ⟨t2, a1, b1⟩ := kx E ce q u t T'.heap (locs ++ L) e1.symm (by rw [← e2]; exact X'.warmed.alike) hp hb k1 k2 k3 (by rw [e1]; exact hce) hcv hcl T' rfl X'
    exact ⟨t2, st.trans a1, b1⟩
theorem vx_callf {S SX : Type} {post : UInt32 → S → Prop} {px : SX → Prop} {B : S → State → Prop} {BX : String → SX → State → Prop} {AX : Nat → Prop} (hr : vx_Run p l e R s m args below meth c H locs cells slots mc ms (F0 m pc ls st0) rest (va_Qf post B A1 a) (vx_X px BX AX) free) (hS : va_S A0 H0 H locs) (hA : ∀ q, q < H.size → A1 q → A0 q) (hf : ∀ q, free q → A0 q) (hAX : ∀ q, q < H.size → AX q → A0 q)
    (kx : ∀ (E : String) (ce : Cell) (q9 : Addr) (u : SX) (t : State) (H1 : Heap) (locs1 : List Loc), t.heap = H1 → s.vm.Alike t.vm → px u → BX E u t → H.size ≤ H1.size → (∀ q : Nat, q < H.size → ¬ AX q → H1[q]? = H[q]?) → va_S A0 H0 H1 locs1 → H1[q9]? = some ce → ce.vm = .none → s.vm.findClass E = some ce.cls → vx_W p l e R s m args below meth c H1 locs1 (cells + mc) (slots + ms) Q (F0 m pc ls rest) q9)
    (kk : ∀ (r : UInt32) (u : S) (t : State) (H1 : Heap) (locs1 : List Loc), t.heap = H1 → s.vm.Alike t.vm → post r u → B u t → H.size ≤ H1.size → (∀ q : Nat, q < H.size → ¬ A1 q → H1[q]? = H[q]?) → va_S A0 H0 H1 locs1 → W p l e R s m args below meth c H1 locs1 (cells + mc) (slots + ms) Q (F0 m (pc + 3) ls (.float r :: rest))) : W p l e R s m args below meth c H locs cells slots Q (F0 m pc ls st0) := by
  intro T hT X
  rcases hr T hT X with ⟨v, st₀, t, T', L, h0, X', hL, e1, e2, ⟨⟨r, u, hv, hp, hb⟩, hF⟩, st⟩ | ⟨q, st₀, t, T', L, E, ce, h0, X', hL, e1, e2, ⟨u, hp, hb, hF⟩, hce, hcv, hcl, st⟩
  · cases hv
    obtain ⟨k1, k2, k3⟩ := vx_keep h0 e1 hS hA hf hL hF
    obtain ⟨t2, a1, b1⟩ := kk r u t T'.heap (locs ++ L) e1.symm (by rw [← e2]; exact X'.warmed.alike) hp hb k1 k2 k3 T' rfl X'
    exact ⟨t2, st t2 a1, b1⟩
  · obtain ⟨k1, k2, k3⟩ := vx_keep h0 e1 hS hAX hf hL hF
    obtain ⟨t2, a1, b1⟩ := kx E ce q u t T'.heap (locs ++ L) e1.symm (by rw [← e2]; exact X'.warmed.alike) hp hb k1 k2 k3 (by rw [e1]; exact hce) hcv hcl T' rfl X'
    exact ⟨t2, st.trans a1, b1⟩
theorem vx_calld {S SX : Type} {post : UInt64 → S → Prop} {px : SX → Prop} {B : S → State → Prop} {BX : String → SX → State → Prop} {AX : Nat → Prop} (hr : vx_Run p l e R s m args below meth c H locs cells slots mc ms (F0 m pc ls st0) rest (va_Qd post B A1 a) (vx_X px BX AX) free) (hS : va_S A0 H0 H locs) (hA : ∀ q, q < H.size → A1 q → A0 q) (hf : ∀ q, free q → A0 q) (hAX : ∀ q, q < H.size → AX q → A0 q)
    (kx : ∀ (E : String) (ce : Cell) (q9 : Addr) (u : SX) (t : State) (H1 : Heap) (locs1 : List Loc), t.heap = H1 → s.vm.Alike t.vm → px u → BX E u t → H.size ≤ H1.size → (∀ q : Nat, q < H.size → ¬ AX q → H1[q]? = H[q]?) → va_S A0 H0 H1 locs1 → H1[q9]? = some ce → ce.vm = .none → s.vm.findClass E = some ce.cls → vx_W p l e R s m args below meth c H1 locs1 (cells + mc) (slots + ms) Q (F0 m pc ls rest) q9)
    (kk : ∀ (r : UInt64) (u : S) (t : State) (H1 : Heap) (locs1 : List Loc), t.heap = H1 → s.vm.Alike t.vm → post r u → B u t → H.size ≤ H1.size → (∀ q : Nat, q < H.size → ¬ A1 q → H1[q]? = H[q]?) → va_S A0 H0 H1 locs1 → W p l e R s m args below meth c H1 locs1 (cells + mc) (slots + ms) Q (F0 m (pc + 3) ls (.double r :: rest))) : W p l e R s m args below meth c H locs cells slots Q (F0 m pc ls st0) := by
  intro T hT X
  rcases hr T hT X with ⟨v, st₀, t, T', L, h0, X', hL, e1, e2, ⟨⟨r, u, hv, hp, hb⟩, hF⟩, st⟩ | ⟨q, st₀, t, T', L, E, ce, h0, X', hL, e1, e2, ⟨u, hp, hb, hF⟩, hce, hcv, hcl, st⟩
  · cases hv
    obtain ⟨k1, k2, k3⟩ := vx_keep h0 e1 hS hA hf hL hF
    obtain ⟨t2, a1, b1⟩ := kk r u t T'.heap (locs ++ L) e1.symm (by rw [← e2]; exact X'.warmed.alike) hp hb k1 k2 k3 T' rfl X'
    exact ⟨t2, st t2 a1, b1⟩
  · obtain ⟨k1, k2, k3⟩ := vx_keep h0 e1 hS hAX hf hL hF
    obtain ⟨t2, a1, b1⟩ := kx E ce q u t T'.heap (locs ++ L) e1.symm (by rw [← e2]; exact X'.warmed.alike) hp hb k1 k2 k3 (by rw [e1]; exact hce) hcv hcl T' rfl X'
    exact ⟨t2, st.trans a1, b1⟩
theorem vx_callv {S SX : Type} {post : S → Prop} {px : SX → Prop} {B : S → State → Prop} {BX : String → SX → State → Prop} {AX : Nat → Prop} (hr : vx_Run p l e R s m args below meth c H locs cells slots mc ms (F0 m pc ls st0) rest (va_Qv post B A1 a) (vx_X px BX AX) free) (hS : va_S A0 H0 H locs) (hA : ∀ q, q < H.size → A1 q → A0 q) (hf : ∀ q, free q → A0 q) (hAX : ∀ q, q < H.size → AX q → A0 q)
    (kx : ∀ (E : String) (ce : Cell) (q9 : Addr) (u : SX) (t : State) (H1 : Heap) (locs1 : List Loc), t.heap = H1 → s.vm.Alike t.vm → px u → BX E u t → H.size ≤ H1.size → (∀ q : Nat, q < H.size → ¬ AX q → H1[q]? = H[q]?) → va_S A0 H0 H1 locs1 → H1[q9]? = some ce → ce.vm = .none → s.vm.findClass E = some ce.cls → vx_W p l e R s m args below meth c H1 locs1 (cells + mc) (slots + ms) Q (F0 m pc ls rest) q9)
    (kk : ∀ (u : S) (t : State) (H1 : Heap) (locs1 : List Loc), t.heap = H1 → s.vm.Alike t.vm → post u → B u t → H.size ≤ H1.size → (∀ q : Nat, q < H.size → ¬ A1 q → H1[q]? = H[q]?) → va_S A0 H0 H1 locs1 → W p l e R s m args below meth c H1 locs1 (cells + mc) (slots + ms) Q (F0 m (pc + 3) ls (rest))) : W p l e R s m args below meth c H locs cells slots Q (F0 m pc ls st0) := by
  intro T hT X
  rcases hr T hT X with ⟨v, st₀, t, T', L, h0, X', hL, e1, e2, ⟨⟨u, hv, hp, hb⟩, hF⟩, st⟩ | ⟨q, st₀, t, T', L, E, ce, h0, X', hL, e1, e2, ⟨u, hp, hb, hF⟩, hce, hcv, hcl, st⟩
  · cases hv
    obtain ⟨k1, k2, k3⟩ := vx_keep h0 e1 hS hA hf hL hF
    obtain ⟨t2, a1, b1⟩ := kk u t T'.heap (locs ++ L) e1.symm (by rw [← e2]; exact X'.warmed.alike) hp hb k1 k2 k3 T' rfl X'
    exact ⟨t2, st t2 a1, b1⟩
  · obtain ⟨k1, k2, k3⟩ := vx_keep h0 e1 hS hAX hf hL hF
    obtain ⟨t2, a1, b1⟩ := kx E ce q u t T'.heap (locs ++ L) e1.symm (by rw [← e2]; exact X'.warmed.alike) hp hb k1 k2 k3 (by rw [e1]; exact hce) hcv hcl T' rfl X'
    exact ⟨t2, st.trans a1, b1⟩
end Rows
section Ends
variable {p : Program} {l : Launch} {e : Env} {R : Room} {s : State} {m : MethodId} {args : Array Value} {below : List Frame} {meth : Method} {c : Code} {H : Heap} {locs : List Loc} {cells slots : Nat} {Q : State → Prop}
variable {mc ms : Nat} {free : Addr → Prop} {A0 A1 : Nat → Prop} {H0 : Heap} {a : Array Value} {ls : Array Slot} {st0 rest : List Value}
variable {Qc : Array Value → State → Outcome → State → Prop} {XC : String → State → State → Prop}
/-- what a body that may throw owes at its end -/
def vx_MQ (below : List Frame) (Qc : Array Value → State → Outcome → State → Prop) (XC : String → State → State → Prop) (a : Array Value) (s : State) (mc ms : Nat) (free : Addr → Prop) : State → Prop := fun t =>
  ∃ o, t.status = .running ∧ Ended t below o ∧ vx_Q Qc XC mc ms free a s o t
theorem vx_ret {g : JFrame} {mc ms : Nat} (k : W p l e R s m args below meth c H locs cells slots (MQ below Qc args s mc ms free) g) : W p l e R s m args below meth c H locs cells slots (vx_MQ below Qc XC args s mc ms free) g := by
  intro T hT X
  obtain ⟨t, a1, o, b1, b2, b3, b4⟩ := k T hT X
  exact ⟨t, a1, o, b1, b2, Or.inl ⟨b3, b4⟩⟩
/-- not caught here: it goes on to the caller -/
theorem vx_widen {g : JFrame} {q : Addr} {k n : Nat} (h1 : cells ≤ k) (h2 : slots ≤ n) (kk : vx_W p l e R s m args below meth c H locs k n Q g q) : vx_W p l e R s m args below meth c H locs cells slots Q g q := fun T hT X => kk T hT (stand_widen X h1 h2)
theorem vx_out {pc : Nat} {E : String} {ce : Cell} {q : Addr} {mc ms : Nat} (hout : ∀ x ∈ c.exceptionTable.toList, covers x pc = false) (hlocks : meth.locks = false) (hcell : H[q]? = some ce) (hv : ce.vm = .none) (hcl : s.vm.findClass E = some ce.cls)
    (hx : ∀ t : State, t.heap = H → s.vm.Alike t.vm → XC E s t) (hf : ∀ z ∈ locs, free z.base) (hc : cells ≤ mc) (hs : slots ≤ ms) :
    vx_W p l e R s m args below meth c H locs cells slots (vx_MQ below Qc XC args s mc ms free) (F0 m pc ls rest) q := by
  intro T hT X
  obtain ⟨st1, hrun, hend, hW, hsm⟩ := X.leaveThrown q (g := F0 m pc ls rest) rfl rfl rfl hout hlocks
  have hcell9 : (T.setFrames (.throwing q :: below)).heap[q]? = some ce := by
    show T.heap[q]? = some ce
    rw [hT]; exact hcell
  exact ⟨_, st1, .threw q, hrun, hend, Or.inr ⟨q, rfl, E, ce, locs, hx _ hT hW.alike, hcell9, hv, hcl, hW, hsm.mono hc hs, hf⟩⟩
theorem vx_frame {U : State} {k n : Nat} (h : s.sameButNew ({ U with vm := s.vm } : State) locs k n) : s.heap.size ≤ U.heap.size ∧ ∀ q : Nat, q < s.heap.size → (∀ z ∈ locs, z.base ≠ q) → U.heap[q]? = s.heap[q]? := by
  obtain ⟨-, h2, -, -, -, h6⟩ := h
  refine ⟨h2, fun q hq hz => ?_⟩
  obtain ⟨c9, e1, e2, e3, e4⟩ := h6 q _ (Array.getElem?_eq_getElem hq)
  have hs : c9.slots = (s.heap[q]).slots := Array.ext_getElem? fun i => e4 i fun hm => hz _ hm rfl
  have h9 : c9 = s.heap[q] := by
    rw [hs] at e2
    exact e2
  have e5 : U.heap[q]? = some c9 := e1
  rw [e5, h9, Array.getElem?_eq_getElem hq]
/-- the words of a throw but the four that speak of the heap -/
def vx_no (w : Cond) : Bool := decide (w ≠ .isRef (.static Bundle.tN "UNASSIGNED_STACK" Bundle.steD)) && decide (w ≠ .isRef (.static Bundle.tN "SUPPRESSED_SENTINEL" Bundle.listD)) && decide (w ≠ .laysStatic Bundle.tN "UNASSIGNED_STACK" Bundle.steD) && decide (w ≠ .laysStatic Bundle.tN "SUPPRESSED_SENTINEL" Bundle.listD)
def vx_at0 (own : String) (ic : Nat) (X : String) (names : List String) : List Cond := (Bundle.ownAtoms0 own ic X names).filter vx_no
def vx_atS (own : String) (ic : Nat) (X : String) (names : List String) : List Cond := (Bundle.ownAtoms own ic X names).filter vx_no
/-- a word that the tables alone decide, or a good one -/
def vx_ot (w : Cond) : Bool := w.onTables || goodWord w
theorem vx_ot_at {args a' : Array Value} {s U : State} {w : Cond} (hW : s.WarmedH U.vm) (hvm : s.vm = U.vm) (hg : vx_ot w = true) (h : w.before args s = true) : w.before a' U = true := by
  simp only [vx_ot, Bool.or_eq_true] at hg
  rcases hg with hg | hg
  · exact va_tabs hg hvm h
  · exact word_at hW (good_of_word hg) h
/-- a list's words: the good ones out of the method's own list, the others by premises of their own -/
theorem vx_hat {args : Array Value} {s : State} {L B : List Cond} (h1 : ∀ w ∈ L.filter goodWord, w.before args s = true) (h2 : ∀ w ∈ L.filter (fun w => !goodWord w), w ∈ B) (h3 : ∀ w ∈ B, w.before args s = true) : ∀ w ∈ L, w.before args s = true := by
  intro w hw
  by_cases g : goodWord w = true
  · exact h1 w (List.mem_filter.mpr ⟨hw, g⟩)
  · refine h3 w (h2 w (List.mem_filter.mpr ⟨hw, ?_⟩))
    show (!goodWord w) = true
    cases hgw : goodWord w
    · rfl
    · exact absurd hgw g
theorem vx_c {args : Array Value} {s : State} {w : Cond} {B : List Cond} (h : w.before args s = true) (t : ∀ w ∈ B, w.before args s = true) : ∀ w' ∈ w :: B, w'.before args s = true := fun w' h' => (List.mem_cons.mp h').elim (fun e => by rw [e]; exact h) (t w')
theorem vx_n {args : Array Value} {s : State} : ∀ w ∈ ([] : List Cond), w.before args s = true := fun _ h => nomatch h
theorem vx_own {args : Array Value} {s : State} {L : List Cond} (h1 : ∀ w ∈ L.filter vx_no, w.before args s = true)
    (hU : (Cond.isRef (.static Bundle.tN "UNASSIGNED_STACK" Bundle.steD)).before args s = true) (hN : (Cond.isRef (.static Bundle.tN "SUPPRESSED_SENTINEL" Bundle.listD)).before args s = true)
    (lU : (Cond.laysStatic Bundle.tN "UNASSIGNED_STACK" Bundle.steD).before args s = true) (lN : (Cond.laysStatic Bundle.tN "SUPPRESSED_SENTINEL" Bundle.listD).before args s = true) : ∀ w ∈ L, w.before args s = true := by
  intro w hw
  by_cases e1 : w = .isRef (.static Bundle.tN "UNASSIGNED_STACK" Bundle.steD)
  · rw [e1]; exact hU
  · by_cases e2 : w = .isRef (.static Bundle.tN "SUPPRESSED_SENTINEL" Bundle.listD)
    · rw [e2]; exact hN
    · by_cases e3 : w = .laysStatic Bundle.tN "UNASSIGNED_STACK" Bundle.steD
      · rw [e3]; exact lU
      · by_cases e4 : w = .laysStatic Bundle.tN "SUPPRESSED_SENTINEL" Bundle.listD
        · rw [e4]; exact lN
        · exact h1 w (List.mem_filter.mpr ⟨hw, by unfold vx_no; rw [decide_eq_true e1, decide_eq_true e2, decide_eq_true e3, decide_eq_true e4]; rfl⟩)
/-- where a static field lies, its class's statics cell in H -/
def vx_L (C n d : String) (A : Nat → Prop) (U : State) (H : Heap) : Prop := ∃ (c : ClassId) (k : Class) (i : Nat) (f : Field) (a : Nat) (cell : Cell), U.vm.findClass C = some c ∧ U.fieldFound? C n d = some (c, k, i, f) ∧ f.isStatic = true ∧ k.statics = some a ∧ H[a]? = some cell ∧ cell.vm.isStatics = true ∧ cell.cls = c ∧ f.slot < cell.slots.size ∧ k.staticTypes[f.slot]? = some f.type ∧ ¬ A a
theorem vx_L.moved {C n d : String} {A : Nat → Prop} {u U : State} {H : Heap} (hvm : u.vm.Alike U.vm) (h : vx_L C n d A u H) : vx_L C n d A U H := by
  obtain ⟨c, k, i, f, a, cell, h1, h2, h3, h4, h5, h6, h7, h8, h9, h10⟩ := h
  obtain ⟨k', hi', he⟩ := State.fieldFound?_setVm hvm h2
  exact ⟨c, k', i, f, a, cell, by rw [hvm.findClass]; exact h1, hi', h3, by rw [he]; exact h4, h5, h6, h7, h8, by rw [he]; exact h9, h10⟩
theorem vx_L.kept {C n d : String} {A : Nat → Prop} {U : State} {H H1 : Heap} (h : vx_L C n d A U H) (hq : ∀ a : Nat, a < H.size → ¬ A a → H1[a]? = H[a]?) : vx_L C n d A U H1 := by
  obtain ⟨c, k, i, f, a, cell, h1, h2, h3, h4, h5, h6, h7, h8, h9, h10⟩ := h
  exact ⟨c, k, i, f, a, cell, h1, h2, h3, h4, by rw [hq a (Array.getElem?_eq_some_iff.mp h5).1 h10]; exact h5, h6, h7, h8, h9, h10⟩
theorem vx_L.narrow {C n d : String} {A B : Nat → Prop} {U : State} {H : Heap} (h : vx_L C n d A U H) (hAB : ∀ q, B q → A q) : vx_L C n d B U H := by
  obtain ⟨c, k, i, f, a, cell, h1, h2, h3, h4, h5, h6, h7, h8, h9, h10⟩ := h
  exact ⟨c, k, i, f, a, cell, h1, h2, h3, h4, h5, h6, h7, h8, h9, fun z => h10 (hAB _ z)⟩
theorem vx_L.word {C n d : String} {A : Nat → Prop} {s : State} {args : Array Value} (h : vx_L C n d A s s.heap) : (Cond.laysStatic C n d).before args s = true := by
  obtain ⟨c, k, i, f, a, cell, h1, h2, h3, h4, h5, h6, h7, h8, h9, -⟩ := h
  show (Cond.laysStatic C n d).holds args s none s [] = true
  exact Cond.laysStatic_of h1 h2 h3 h4 h5 h6 h7 h8 h9
/-- .. and what it holds: null or some reference -/
def vx_Zq (C n d : String) (A : Nat → Prop) (U : State) (H : Heap) : Prop := va_Zq C n d A U H ∧ vx_L C n d A U H
theorem vx_Zq.moved {C n d : String} {A : Nat → Prop} {u U : State} {H : Heap} (hvm : u.vm.Alike U.vm) (h : vx_Zq C n d A u H) : vx_Zq C n d A U H := ⟨va_Zq.moved hvm h.1, vx_L.moved hvm h.2⟩
theorem vx_Zq.kept {C n d : String} {A : Nat → Prop} {U : State} {H H1 : Heap} (h : vx_Zq C n d A U H) (hq : ∀ a : Nat, a < H.size → ¬ A a → H1[a]? = H[a]?) : vx_Zq C n d A U H1 := ⟨va_Zq.kept h.1 hq, vx_L.kept h.2 hq⟩
theorem vx_Zq.narrow {C n d : String} {A B : Nat → Prop} {U : State} {H : Heap} (h : vx_Zq C n d A U H) (hAB : ∀ q, B q → A q) : vx_Zq C n d B U H := ⟨va_Zq.narrow h.1 hAB, vx_L.narrow h.2 hAB⟩
theorem vx_Zqof {args : Array Value} {s : State} {C n d : String} {A : Nat → Prop} (hl : (Cond.laysStatic C n d).before args s = true) (hini : (Cond.initialized C).before args s = true) (h : (Cond.isRef (.static C n d)).before args s = true) (hA : ∀ a : Nat, a < s.heap.size → ¬ A a) : vx_Zq C n d A s s.heap := by
  refine ⟨va_Zqof hl hini h hA, ?_⟩
  obtain ⟨c, k, i, f, a, cell, h1, h2, h3, h4, h5, h6, h7, h8, h9⟩ := Cond.laysStatic_spec hl
  exact ⟨c, k, i, f, a, cell, h1, h2, h3, h4, h5, h6, h7, h8, h9, hA a (Array.getElem?_eq_some_iff.mp h5).1⟩
theorem vx_isRef {C n d : String} {v : Value} {A : Nat → Prop} {s : State} {args : Array Value} (h : va_Z C n d v A s s.heap) (hv : v.isRef = true) : (Cond.isRef (.static C n d)).before args s = true := by
  obtain ⟨cf, kf, fi, f, a, cell, h1, h2, h3, h4, h5, h6, h7, -⟩ := h
  have he : (Term.static C n d).eval args s none [] s = some v := by
    simp [Term.eval, State.fieldNamed?, h1, h2, h4, h5, h6, h7]
  simp only [Cond.before, Cond.holds, Cond.value, he]
  cases v <;> simp_all [Value.isRef]
theorem vx_isRefq {C n d : String} {A : Nat → Prop} {s : State} {args : Array Value} (h : va_Zq C n d A s s.heap) : (Cond.isRef (.static C n d)).before args s = true := by
  rcases h with h | ⟨t, h⟩
  · exact vx_isRef h rfl
  · exact vx_isRef h rfl
/-- the same frame, seen from here: as if the method were called anew in this heap -/
theorem vx_rebase {T : State} (X : Stand p l e R s m args below meth c T locs cells slots) {R' : Room} (hf : R'.frames ≤ R.frames) (hl : R'.locals ≤ R.locals) (hc : cells + R'.cells ≤ R.cells) (hs : slots + R'.slots ≤ R.slots) :
    Stand p l e R' ((T.setVm s.vm).setFrames (.invoking m args :: below)) m args below meth c T [] 0 0 := by
  have htop : (T.setVm s.vm).topJava?.isSome := X.here.top
  have hF : ((T.setVm s.vm).setFrames (.invoking m args :: below)).frames = .invoking m args :: below := State.frames_setFrames _ (State.cur_lt_of_top htop)
  obtain ⟨g₀, hg0⟩ := Option.isSome_iff_exists.mp htop
  obtain ⟨r, hr⟩ := State.topJava?_eq_some.mp hg0
  have hl9 : e.platform.stackLimits (T.setVm s.vm).me = e.platform.stackLimits s.me := X.limits
  have hb9 : (T.setVm s.vm).me.stackBytes = s.me.stackBytes := X.bytes
  refine ⟨X.admits, X.cas, X.clock, hF, ?_, X.hears, X.method, X.code, X.here, X.tail, X.warmed, ?_, ?_, ?_⟩
  · have h := X.room
    have hU : ((T.setVm s.vm).setFrames (.invoking m args :: below)).localsInUse = s.localsInUse := by
      rw [State.localsInUse_invoking hF (meth := meth) (c := c) X.method X.code, State.localsInUse_invoking X.frames X.method X.code]
    simp only [State.hasRoom, Bool.and_eq_true, decide_eq_true_eq] at h ⊢
    obtain ⟨⟨⟨⟨h1, h2, h3, h4, h5, h6⟩, h7⟩, h8⟩, h9⟩ := h
    rw [X.frames, List.length_cons] at h2 h3
    have q1 := X.heapSize
    have q2 := X.used
    simp only [hF, hU, List.length_cons, State.stackLimits_setFrames, State.stackBytes_setFrames, hl9, hb9]
    refine ⟨⟨⟨⟨by omega, by omega, by omega, by omega, by omega, h6⟩, ?_⟩, ?_⟩, X.book⟩
    · show T.heap.size + R'.cells ≤ e.platform.maxCells
      omega
    · show T.slotsUsed + R'.slots ≤ e.platform.maxSlots
      omega
  · rw [State.stackLimits_setFrames]; rfl
  · rw [State.stackBytes_setFrames]; rfl
  · refine ⟨?_, Nat.le_refl _, Nat.le_refl _, ?_, ?_, fun a c9 h9 => ⟨c9, h9, rfl, rfl, fun _ _ => rfl⟩⟩
    · obtain ⟨t, ht, -⟩ := State.frames_cons hr
      show T.setVm s.vm = { ((T.setVm s.vm).setFrames (.invoking m args :: below)).setFrames (T.setVm s.vm).frames with heap := T.heap, slotsUsed := T.slotsUsed }
      rw [State.setFrames_setFrames, State.setFrames_self ht]
      rfl
    · show T.slotsUsed = T.slotsUsed + ((T.heap.toList.drop T.heap.size).map (·.slots.size)).sum
      rw [List.drop_eq_nil_of_le (Nat.le_of_eq Array.length_toList)]
      rfl
    · show ((T.heap.toList.drop T.heap.size).map (·.slots.size)).sum ≤ 0
      rw [List.drop_eq_nil_of_le (Nat.le_of_eq Array.length_toList)]
      exact Nat.le_refl _
/-- 'throw new E()': new; dup; invokespecial; athrow -/
theorem vx_throw0 {cc : ByteArray} {pc : Nat} (hexec : p.tables.exec = Jvm.exec) (hb : c.code = cc) (hl : l.stackTraces = false) {own cls : String} {names : List String} {ik ic mc ms : Nat} {A : Nat → Prop}
    (hown : s.vm.findClass own = some m.cls) (hcls : Bundle.fit cls = true) (hnames : ∀ n ∈ names, Bundle.fit n = true)
    (hk : (Cond.classLink own ik cls).before args s = true) (hini : (Cond.initialized cls).before args s = true) (hat : ∀ w ∈ vx_at0 own ic cls names, w.before args s = true)
    (hgood : ∀ w ∈ Cond.classLink own ik cls :: Cond.initialized cls :: vx_at0 own ic cls names, vx_ot w = true)
    (hU : vx_Zq Bundle.tN "UNASSIGNED_STACK" Bundle.steD A s s.heap) (hN : vx_Zq Bundle.tN "SUPPRESSED_SENTINEL" Bundle.listD A s s.heap) (hS : va_S A s.heap H locs) (hsize : ls.size = c.maxLocals)
    (d0 : decode cc pc = .ok (.new ik, 3)) (d3 : decode cc (pc + 3) = .ok (.dup, 1)) (d4 : decode cc (pc + 4) = .ok (.invokespecial ic, 3)) (d7 : decode cc (pc + 7) = .ok (.athrow, 1))
    (hout : ∀ x ∈ c.exceptionTable.toList, covers x (pc + 7) = false)
    (hRframes : names.length + 3 < R.frames) (hRlocals : (rest.map fun v => v.category).sum + (13 * (names.length + 1) + 42) ≤ R.locals) (hRcells : cells + 1 ≤ R.cells) (hRslots : slots + 6 ≤ R.slots) (hlocks : meth.locks = false)
    (hx : ∀ t : State, s.vm.Alike t.vm → H.size ≤ t.heap.size → (∀ q : Nat, q < H.size → t.heap[q]? = H[q]?) → XC cls s t)
    (hf : ∀ z ∈ locs, free z.base) (hc : cells + 1 ≤ mc) (hs : slots + 6 ≤ ms) :
    W p l e R s m args below meth c H locs cells slots (vx_MQ below Qc XC args s mc ms free) (F0 m pc ls rest) := by
  intro T hT X
  have htr : e.platform.stackTraces = false := (show e.platform.stackTraces = l.stackTraces by rw [X.admits.platform]).trans hl
  have Y := vx_rebase X (R' := { frames := R.frames, locals := R.locals, cells := 1, slots := 6 }) (Nat.le_refl _) (Nat.le_refl _) hRcells hRslots
  obtain ⟨s', hA⟩ : ∃ z, z = (T.setVm s.vm).setFrames (.invoking m args :: below) := ⟨_, rfl⟩
  rw [← hA] at Y
  have hvm : s'.vm = s.vm := by rw [hA]; rfl
  have hhp : s'.heap = H := by rw [hA]; exact hT
  have hW0 : s.WarmedH s'.vm := by rw [hvm]; exact State.WarmedH.refl s
  have hat' : ∀ w ∈ vx_at0 own ic cls names, w.before args s' = true := fun w hw => vx_ot_at hW0 hvm.symm (hgood w (List.mem_cons_of_mem _ (List.mem_cons_of_mem _ hw))) (hat w hw)
  have hk' : (Cond.classLink own ik cls).before args s' = true := vx_ot_at hW0 hvm.symm (hgood _ List.mem_cons_self) hk
  have hini' : (Cond.initialized cls).before args s' = true := vx_ot_at hW0 hvm.symm (hgood _ (List.mem_cons_of_mem _ List.mem_cons_self)) hini
  have hU' : vx_Zq Bundle.tN "UNASSIGNED_STACK" Bundle.steD A s' s'.heap := by rw [hhp]; exact vx_Zq.moved hW0.alike (hU.kept hS.2.1)
  have hN' : vx_Zq Bundle.tN "SUPPRESSED_SENTINEL" Bundle.listD A s' s'.heap := by rw [hhp]; exact vx_Zq.moved hW0.alike (hN.kept hS.2.1)
  have h : ∀ w ∈ Bundle.ownAtoms0 own ic cls names, w.before args s' = true := vx_own hat' (vx_isRefq hU'.1) (vx_isRefq hN'.1) hU'.2.word hN'.2.word
  have hown' : s'.vm.findClass own = some m.cls := by rw [hvm]; exact hown
  have hins : (Cond.instantiable cls 6).before args s' = true := h _ (by simp [Bundle.ownAtoms0])
  obtain ⟨vm₁, cX, kX, hfX, hkX, -, -, X₁, st1⟩ := Y.newCold hexec (own := own) (C := cls) (index := ik) (n := 6) hown' hk' hins hini'
    (g := F0 m pc ls rest) rfl (by rw [hb]; exact d0) (Nat.le_refl _) (Nat.le_refl _)
  generalize hT1 : (T.setVm vm₁).pushCell { cls := cX, slots := kX.instanceTypes.map defaultValue, vm := .none } = T1 at X₁ st1
  have hcat : (Value.ref T.heap.size).category = 1 := rfl
  have hcellA : T1.heap[T.heap.size]? = some (freshCell cX kX) := by rw [← hT1]; exact State.heap_pushCell_size _ _
  have d3' : decode c.code (pc + 3) = .ok (.dup, 1) := by rw [hb]; exact d3
  obtain ⟨U, hsteps, hrun, hend, hW, hsame, ce, hce, hO⟩ := X₁.ctorThrow0 hexec htr (own := own) (cls := cls) (names := names) (ic := ic) hown' hcls hnames h (fun x hx => nomatch hx) hfX hkX hcellA (by rw [hhp, hT]; exact Nat.le_refl _)
    (g := { method := m, pc := pc + 4, locals := ls, stack := .ref T.heap.size :: .ref T.heap.size :: rest, locked := none }) rfl hsize rfl rfl (rest := rest) rfl
    (by rw [hb]; exact d4) (by rw [hb]; exact d7) hout hRframes (by simp only [List.map_cons, List.sum_cons, hcat]; omega) hlocks
  obtain ⟨f1, f2⟩ := vx_frame hsame
  rw [hhp] at f1 f2
  have hWs : s.WarmedH U.vm := State.WarmedH.trans hW0 hW
  have hcl : s.vm.findClass cls = some ce.cls := by
    have h9 := hO.cls
    rw [hvm] at h9
    exact h9
  have hall : s.sameButNew ({ U with vm := s.vm } : State) locs mc ms := by
    subst hA
    obtain ⟨e1, e2⟩ := hsame
    rw [State.setFrames_setFrames] at e1
    have h2 : (T.setVm s.vm).sameButNew ({ U with vm := s.vm } : State) [] (0 + 1) (0 + 6) := ⟨e1, e2⟩
    have h3 := X.same.trans h2
    rw [List.append_nil] at h3
    exact h3.mono hc hs
  refine ⟨U, ?_, .threw T.heap.size, hrun, hend, Or.inr ⟨T.heap.size, rfl, cls, ce, locs, hx U hWs.alike f1 (fun q hq => f2 q hq (fun z hz => nomatch hz)), hce, hO.vm, hcl, hWs, hall, hf⟩⟩
  refine st1 _ ?_
  show Steps p.tables e below (T1.setTop { method := m, pc := pc + 3, locals := ls, stack := .ref T.heap.size :: rest, locked := none }) _
  jvm_step X₁.here [X₁.here.top, hexec, d3', Value.category]
  exact hsteps
/-- 'throw new E("text")': new; dup; ldc; invokespecial; athrow -/
theorem vx_throwS {cc : ByteArray} {pc : Nat} (hexec : p.tables.exec = Jvm.exec) (hb : c.code = cc) (hl : l.stackTraces = false) {own cls text : String} {names : List String} {ik is ic mc ms sa : Nat} {A : Nat → Prop}
    (hown : s.vm.findClass own = some m.cls) (hcls : Bundle.fit cls = true) (hnames : ∀ n ∈ names, Bundle.fit n = true)
    (hk : (Cond.classLink own ik cls).before args s = true) (hini : (Cond.initialized cls).before args s = true) (hstr : vk_R own is text sa s) (hat : ∀ w ∈ vx_atS own ic cls names, w.before args s = true)
    (hgood : ∀ w ∈ Cond.classLink own ik cls :: Cond.initialized cls :: vx_atS own ic cls names, vx_ot w = true)
    (hU : vx_Zq Bundle.tN "UNASSIGNED_STACK" Bundle.steD A s s.heap) (hN : vx_Zq Bundle.tN "SUPPRESSED_SENTINEL" Bundle.listD A s s.heap) (hS : va_S A s.heap H locs) (hsize : ls.size = c.maxLocals)
    (d0 : decode cc pc = .ok (.new ik, 3)) (d3 : decode cc (pc + 3) = .ok (.dup, 1)) (d4 : decode cc (pc + 4) = .ok (.ldc is, 2)) (d6 : decode cc (pc + 6) = .ok (.invokespecial ic, 3)) (d9 : decode cc (pc + 9) = .ok (.athrow, 1))
    (hout : ∀ x ∈ c.exceptionTable.toList, covers x (pc + 9) = false)
    (hRframes : names.length + 3 < R.frames) (hRlocals : (rest.map fun v => v.category).sum + (13 * (names.length + 1) + 43) ≤ R.locals) (hRcells : cells + 1 ≤ R.cells) (hRslots : slots + 6 ≤ R.slots) (hlocks : meth.locks = false)
    (hx : ∀ t : State, s.vm.Alike t.vm → H.size ≤ t.heap.size → (∀ q : Nat, q < H.size → t.heap[q]? = H[q]?) → XC cls s t)
    (hf : ∀ z ∈ locs, free z.base) (hc : cells + 1 ≤ mc) (hs : slots + 6 ≤ ms) :
    W p l e R s m args below meth c H locs cells slots (vx_MQ below Qc XC args s mc ms free) (F0 m pc ls rest) := by
  intro T hT X
  have htr : e.platform.stackTraces = false := (show e.platform.stackTraces = l.stackTraces by rw [X.admits.platform]).trans hl
  have Y := vx_rebase X (R' := { frames := R.frames, locals := R.locals, cells := 1, slots := 6 }) (Nat.le_refl _) (Nat.le_refl _) hRcells hRslots
  obtain ⟨s', hA⟩ : ∃ z, z = (T.setVm s.vm).setFrames (.invoking m args :: below) := ⟨_, rfl⟩
  rw [← hA] at Y
  have hvm : s'.vm = s.vm := by rw [hA]; rfl
  have hhp : s'.heap = H := by rw [hA]; exact hT
  have hW0 : s.WarmedH s'.vm := by rw [hvm]; exact State.WarmedH.refl s
  have hat' : ∀ w ∈ vx_atS own ic cls names, w.before args s' = true := fun w hw => vx_ot_at hW0 hvm.symm (hgood w (List.mem_cons_of_mem _ (List.mem_cons_of_mem _ hw))) (hat w hw)
  have hk' : (Cond.classLink own ik cls).before args s' = true := vx_ot_at hW0 hvm.symm (hgood _ List.mem_cons_self) hk
  have hini' : (Cond.initialized cls).before args s' = true := vx_ot_at hW0 hvm.symm (hgood _ (List.mem_cons_of_mem _ List.mem_cons_self)) hini
  have hU' : vx_Zq Bundle.tN "UNASSIGNED_STACK" Bundle.steD A s' s'.heap := by rw [hhp]; exact vx_Zq.moved hW0.alike (hU.kept hS.2.1)
  have hN' : vx_Zq Bundle.tN "SUPPRESSED_SENTINEL" Bundle.listD A s' s'.heap := by rw [hhp]; exact vx_Zq.moved hW0.alike (hN.kept hS.2.1)
  have h : ∀ w ∈ Bundle.ownAtoms own ic cls names, w.before args s' = true := vx_own hat' (vx_isRefq hU'.1) (vx_isRefq hN'.1) hU'.2.word hN'.2.word
  have hown' : s'.vm.findClass own = some m.cls := by rw [hvm]; exact hown
  have hins : (Cond.instantiable cls 6).before args s' = true := h _ (by simp [Bundle.ownAtoms])
  obtain ⟨vm₁, cX, kX, hfX, hkX, -, -, X₁, st1⟩ := Y.newCold hexec (own := own) (C := cls) (index := ik) (n := 6) hown' hk' hins hini'
    (g := F0 m pc ls rest) rfl (by rw [hb]; exact d0) (Nat.le_refl _) (Nat.le_refl _)
  generalize hT1 : (T.setVm vm₁).pushCell { cls := cX, slots := kX.instanceTypes.map defaultValue, vm := .none } = T1 at X₁ st1
  have hcat : (Value.ref T.heap.size).category = 1 := rfl
  have hcellA : T1.heap[T.heap.size]? = some (freshCell cX kX) := by rw [← hT1]; exact State.heap_pushCell_size _ _
  have d3' : decode c.code (pc + 3) = .ok (.dup, 1) := by rw [hb]; exact d3
  have d4' : decode c.code (pc + 4) = .ok (.ldc is, 2) := by rw [hb]; exact d4
  have hstr' : vk_R own is text sa s' := vk_R.warm hW0 hstr
  obtain ⟨U, hsteps, hrun, hend, hW, hsame, ce, hce, hO⟩ := X₁.ctorThrowS hexec htr (own := own) (cls := cls) (names := names) (ic := ic) hown' hcls hnames h (fun x hx => nomatch hx) hfX hkX hcellA (by rw [hhp, hT]; exact Nat.le_refl _) (msg := .ref sa) rfl
    (g := { method := m, pc := pc + 6, locals := ls, stack := .ref sa :: .ref T.heap.size :: .ref T.heap.size :: rest, locked := none }) rfl hsize rfl rfl (rest := rest) rfl
    (by rw [hb]; exact d6) (by rw [hb]; exact d9) hout hRframes (by simp only [List.map_cons, List.sum_cons, hcat]; omega) hlocks
  obtain ⟨f1, f2⟩ := vx_frame hsame
  rw [hhp] at f1 f2
  have hWs : s.WarmedH U.vm := State.WarmedH.trans hW0 hW
  have hcl : s.vm.findClass cls = some ce.cls := by
    have h9 := hO.cls
    rw [hvm] at h9
    exact h9
  have hall : s.sameButNew ({ U with vm := s.vm } : State) locs mc ms := by
    subst hA
    obtain ⟨e1, e2⟩ := hsame
    rw [State.setFrames_setFrames] at e1
    have h2 : (T.setVm s.vm).sameButNew ({ U with vm := s.vm } : State) [] (0 + 1) (0 + 6) := ⟨e1, e2⟩
    have h3 := X.same.trans h2
    rw [List.append_nil] at h3
    exact h3.mono hc hs
  refine ⟨U, ?_, .threw T.heap.size, hrun, hend, Or.inr ⟨T.heap.size, rfl, cls, ce, locs, hx U hWs.alike f1 (fun q hq => f2 q hq (fun z hz => nomatch hz)), hce, hO.vm, hcl, hWs, hall, hf⟩⟩
  refine st1 _ ?_
  show Steps p.tables e below (T1.setTop { method := m, pc := pc + 3, locals := ls, stack := .ref T.heap.size :: rest, locked := none }) _
  jvm_step X₁.here [X₁.here.top, hexec, d3', Value.category]
  exact X₁.ldcString hexec (own := own) (text := text) (index := is) (a := sa) hown' hstr'.1 hstr'.2
    (g := { method := m, pc := pc + 4, locals := ls, stack := .ref T.heap.size :: .ref T.heap.size :: rest, locked := none }) rfl d4' _ hsteps
/-- 'throw new E("text")', the text by a wide index -/
theorem vx_throwSW {cc : ByteArray} {pc : Nat} (hexec : p.tables.exec = Jvm.exec) (hb : c.code = cc) (hl : l.stackTraces = false) {own cls text : String} {names : List String} {ik is ic mc ms sa : Nat} {A : Nat → Prop}
    (hown : s.vm.findClass own = some m.cls) (hcls : Bundle.fit cls = true) (hnames : ∀ n ∈ names, Bundle.fit n = true)
    (hk : (Cond.classLink own ik cls).before args s = true) (hini : (Cond.initialized cls).before args s = true) (hstr : vk_R own is text sa s) (hat : ∀ w ∈ vx_atS own ic cls names, w.before args s = true)
    (hgood : ∀ w ∈ Cond.classLink own ik cls :: Cond.initialized cls :: vx_atS own ic cls names, vx_ot w = true)
    (hU : vx_Zq Bundle.tN "UNASSIGNED_STACK" Bundle.steD A s s.heap) (hN : vx_Zq Bundle.tN "SUPPRESSED_SENTINEL" Bundle.listD A s s.heap) (hS : va_S A s.heap H locs) (hsize : ls.size = c.maxLocals)
    (d0 : decode cc pc = .ok (.new ik, 3)) (d3 : decode cc (pc + 3) = .ok (.dup, 1)) (d4 : decode cc (pc + 4) = .ok (.ldc_w is, 3)) (d7 : decode cc (pc + 7) = .ok (.invokespecial ic, 3)) (d10 : decode cc (pc + 10) = .ok (.athrow, 1))
    (hout : ∀ x ∈ c.exceptionTable.toList, covers x (pc + 10) = false)
    (hRframes : names.length + 3 < R.frames) (hRlocals : (rest.map fun v => v.category).sum + (13 * (names.length + 1) + 43) ≤ R.locals) (hRcells : cells + 1 ≤ R.cells) (hRslots : slots + 6 ≤ R.slots) (hlocks : meth.locks = false)
    (hx : ∀ t : State, s.vm.Alike t.vm → H.size ≤ t.heap.size → (∀ q : Nat, q < H.size → t.heap[q]? = H[q]?) → XC cls s t)
    (hf : ∀ z ∈ locs, free z.base) (hc : cells + 1 ≤ mc) (hs : slots + 6 ≤ ms) :
    W p l e R s m args below meth c H locs cells slots (vx_MQ below Qc XC args s mc ms free) (F0 m pc ls rest) := by
  intro T hT X
  have htr : e.platform.stackTraces = false := (show e.platform.stackTraces = l.stackTraces by rw [X.admits.platform]).trans hl
  have Y := vx_rebase X (R' := { frames := R.frames, locals := R.locals, cells := 1, slots := 6 }) (Nat.le_refl _) (Nat.le_refl _) hRcells hRslots
  obtain ⟨s', hA⟩ : ∃ z, z = (T.setVm s.vm).setFrames (.invoking m args :: below) := ⟨_, rfl⟩
  rw [← hA] at Y
  have hvm : s'.vm = s.vm := by rw [hA]; rfl
  have hhp : s'.heap = H := by rw [hA]; exact hT
  have hW0 : s.WarmedH s'.vm := by rw [hvm]; exact State.WarmedH.refl s
  have hat' : ∀ w ∈ vx_atS own ic cls names, w.before args s' = true := fun w hw => vx_ot_at hW0 hvm.symm (hgood w (List.mem_cons_of_mem _ (List.mem_cons_of_mem _ hw))) (hat w hw)
  have hk' : (Cond.classLink own ik cls).before args s' = true := vx_ot_at hW0 hvm.symm (hgood _ List.mem_cons_self) hk
  have hini' : (Cond.initialized cls).before args s' = true := vx_ot_at hW0 hvm.symm (hgood _ (List.mem_cons_of_mem _ List.mem_cons_self)) hini
  have hU' : vx_Zq Bundle.tN "UNASSIGNED_STACK" Bundle.steD A s' s'.heap := by rw [hhp]; exact vx_Zq.moved hW0.alike (hU.kept hS.2.1)
  have hN' : vx_Zq Bundle.tN "SUPPRESSED_SENTINEL" Bundle.listD A s' s'.heap := by rw [hhp]; exact vx_Zq.moved hW0.alike (hN.kept hS.2.1)
  have h : ∀ w ∈ Bundle.ownAtoms own ic cls names, w.before args s' = true := vx_own hat' (vx_isRefq hU'.1) (vx_isRefq hN'.1) hU'.2.word hN'.2.word
  have hown' : s'.vm.findClass own = some m.cls := by rw [hvm]; exact hown
  have hins : (Cond.instantiable cls 6).before args s' = true := h _ (by simp [Bundle.ownAtoms])
  obtain ⟨vm₁, cX, kX, hfX, hkX, -, -, X₁, st1⟩ := Y.newCold hexec (own := own) (C := cls) (index := ik) (n := 6) hown' hk' hins hini'
    (g := F0 m pc ls rest) rfl (by rw [hb]; exact d0) (Nat.le_refl _) (Nat.le_refl _)
  generalize hT1 : (T.setVm vm₁).pushCell { cls := cX, slots := kX.instanceTypes.map defaultValue, vm := .none } = T1 at X₁ st1
  have hcat : (Value.ref T.heap.size).category = 1 := rfl
  have hcellA : T1.heap[T.heap.size]? = some (freshCell cX kX) := by rw [← hT1]; exact State.heap_pushCell_size _ _
  have d3' : decode c.code (pc + 3) = .ok (.dup, 1) := by rw [hb]; exact d3
  have d4' : decode c.code (pc + 4) = .ok (.ldc_w is, 3) := by rw [hb]; exact d4
  have hstr' : vk_R own is text sa s' := vk_R.warm hW0 hstr
  obtain ⟨U, hsteps, hrun, hend, hW, hsame, ce, hce, hO⟩ := X₁.ctorThrowS hexec htr (own := own) (cls := cls) (names := names) (ic := ic) hown' hcls hnames h (fun x hx => nomatch hx) hfX hkX hcellA (by rw [hhp, hT]; exact Nat.le_refl _) (msg := .ref sa) rfl
    (g := { method := m, pc := pc + 7, locals := ls, stack := .ref sa :: .ref T.heap.size :: .ref T.heap.size :: rest, locked := none }) rfl hsize rfl rfl (rest := rest) rfl
    (by rw [hb]; exact d7) (by rw [hb]; exact d10) hout hRframes (by simp only [List.map_cons, List.sum_cons, hcat]; omega) hlocks
  obtain ⟨f1, f2⟩ := vx_frame hsame
  rw [hhp] at f1 f2
  have hWs : s.WarmedH U.vm := State.WarmedH.trans hW0 hW
  have hcl : s.vm.findClass cls = some ce.cls := by
    have h9 := hO.cls
    rw [hvm] at h9
    exact h9
  have hall : s.sameButNew ({ U with vm := s.vm } : State) locs mc ms := by
    subst hA
    obtain ⟨e1, e2⟩ := hsame
    rw [State.setFrames_setFrames] at e1
    have h2 : (T.setVm s.vm).sameButNew ({ U with vm := s.vm } : State) [] (0 + 1) (0 + 6) := ⟨e1, e2⟩
    have h3 := X.same.trans h2
    rw [List.append_nil] at h3
    exact h3.mono hc hs
  refine ⟨U, ?_, .threw T.heap.size, hrun, hend, Or.inr ⟨T.heap.size, rfl, cls, ce, locs, hx U hWs.alike f1 (fun q hq => f2 q hq (fun z hz => nomatch hz)), hce, hO.vm, hcl, hWs, hall, hf⟩⟩
  refine st1 _ ?_
  show Steps p.tables e below (T1.setTop { method := m, pc := pc + 3, locals := ls, stack := .ref T.heap.size :: rest, locked := none }) _
  jvm_step X₁.here [X₁.here.top, hexec, d3', Value.category]
  exact X₁.ldcStringW hexec (own := own) (text := text) (index := is) (a := sa) hown' hstr'.1 hstr'.2
    (g := { method := m, pc := pc + 4, locals := ls, stack := .ref T.heap.size :: .ref T.heap.size :: rest, locked := none }) rfl d4' _ hsteps
end Ends
section Bodies
variable {l : Launch}
theorem vx_ofW {y : MethodName} {ws ws' : List Cond} {rm : Room} {Pc : Array Value → State → Prop} {Qc : Array Value → State → Outcome → State → Prop} {XC : String → State → State → Prop} {mc ms : Nat} {free : Addr → Prop} {cc : ByteArray} {maxL : Nat} {ret : Option FieldType}
    (hy : plainName y.cls = true) (hw : ws = Cond.code y cc maxL ret :: ws')
    (body : ∀ p e s m args below meth c s₁, BodyLoose p l y (headSpec ws rm) cc maxL ret e s m args below meth c s₁ → c.maxLocals = maxL → (∀ x ∈ c.exceptionTable.toList, False) → Pc args s →
      W p l e (headSpec ws rm).room s m args below meth c s.heap [] 0 0 (vx_MQ below Qc XC args s mc ms free) (entryFrame m args maxL)) : vx_Met l y ws rm Pc Qc XC mc ms free := by
  refine MetFree.of_bodyS (code := cc) (maxLocals := maxL) (ret := ret) hy ?_ ?_
  · intro args s m h hn
    obtain ⟨meth, c, h1, h2, h3, h4, h5, h6, -, -⟩ := Cond.code_spec hn (atoms_spec (ws := ws) h _ (by rw [hw]; exact List.mem_cons_self))
    exact ⟨meth, c, h1, h2, h3, h4, h5, h6⟩
  · intro p e s m args below meth c s₁ B hml hP _
    have hh0 : s₁.heap = s.heap := by rw [B.state]; rfl
    have ht : ∀ x ∈ c.exceptionTable.toList, False := by
      obtain ⟨meth9, c9, h1, h2, -, -, -, -, h7, -⟩ := Cond.code_spec B.named (atoms_spec (ws := ws) B.pre _ (by rw [hw]; exact List.mem_cons_self))
      cases Option.some.inj (h1.symm.trans B.method)
      cases Option.some.inj (h2.symm.trans (Stand.of_body B).code)
      intro x hx
      rw [Array.isEmpty_iff.mp h7] at hx
      cases hx
    obtain ⟨t, a1, o, b1, b2, b3⟩ := body p e s m args below meth c s₁ B hml ht hP s₁ hh0 (Stand.of_body B)
    exact ⟨t, o, a1, b1, b2, b3⟩
/-- the table of a body with handlers -/
theorem vx_table {p : Program} {x y : MethodName} {S : Spec} {cc bytes : ByteArray} {maxL maxL' : Nat} {ret ret' : Option FieldType} {e : Env} {s s₁ : State} {m : MethodId} {args : Array Value} {below : List Frame} {meth : Method} {c : Code} {hh : List (Nat × Nat × Nat × Nat)}
    (B : BodyLoose p l y S cc maxL ret e s m args below meth c s₁) (h : (Cond.codeWith y bytes maxL' ret' hh).before args s = true) : c.exceptionTable.toList = tableOf hh := by
  obtain ⟨m9, meth9, c9, hn9, h1, h2, -, -, h6, -⟩ := Cond.codeWith_spec h
  cases Option.some.inj (hn9.symm.trans B.named)
  cases Option.some.inj (h1.symm.trans B.method)
  cases Option.some.inj (h2.symm.trans (Stand.of_body B).code)
  rw [← h6, table_eq]
end Bodies
end VXA
/-! ===== END ===== -/
/-! ===== BEGIN a static call of a method with an exception table ===== -/
section VXS
variable {p : Program} {l : Launch} {e : Env} {R : Room} {s : State} {m : MethodId} {args : Array Value} {below : List Frame} {meth : Method} {c : Code} {T : State} {H : Heap} {locs : List Loc} {cells slots : Nat}
abbrev vx_CSW (R : Room) (s : State) (args : Array Value) (own : String) (index : Nat) (y : MethodName) (bytes : ByteArray) (maxL : Nat) (ret : Option FieldType) (hh : List (Nat × Nat × Nat × Nat)) (ws : List Cond) (rm : Room) (mc ms n : Nat) : Prop :=
  (rm.cells = mc ∧ rm.slots = ms ∧ rm.frames + 1 ≤ R.frames ∧ 8 + (maxL + 11) + rm.locals ≤ R.locals ∧ (∀ w ∈ ws, ∀ (a' : Array Value) (U : State), s.WarmedH U.vm → w.before a' U = true) ∧ Cond.codeWith y bytes maxL ret hh ∈ ws) ∧
  (Cond.codeWith y bytes maxL ret hh).before args s = true ∧ (Cond.initialized y.cls).before args s = true ∧ (y.cls ≠ "java/lang/invoke/MethodHandle" ∧ y.cls ≠ "java/lang/invoke/VarHandle") ∧
  (∀ sig, parseMethodDescriptor y.desc = some sig → n = sig.parameters.length) ∧ (Cond.methodLink own index y).before args s = true ∧ (Cond.static y).before args s = true
theorem vx_cwSW {own : String} {index maxL mc ms : Nat} {y : MethodName} {bytes : ByteArray} {ret : Option FieldType} {hh : List (Nat × Nat × Nat × Nat)} {Ts ws ws' : List Cond} {rm : Room} (n : Nat) (ht : ∀ w ∈ Ts, w.before args s = true) (hT : GoodIn Ts (va_wsS own index y ws)) (hw : ws = Cond.codeWith y bytes maxL ret hh :: ws') (hrc : rm.cells = mc) (hrs : rm.slots = ms)
    (hd : y.cls ≠ "java/lang/invoke/MethodHandle" ∧ y.cls ≠ "java/lang/invoke/VarHandle" ∧ (parseMethodDescriptor y.desc).map (fun d => d.parameters.length) = some n) (hR : rm.frames + 1 ≤ R.frames ∧ 8 + (maxL + 11) + rm.locals ≤ R.locals) :
    vx_CSW R s args own index y bytes maxL ret hh ws rm mc ms n := by
  have ok : ∀ w ∈ va_wsS own index y ws, w.before args s = true := fun w h => ht w (hT w h).1
  have hG : GoodIn Ts ws := fun w h => hT w (by unfold va_wsS; exact List.mem_append_right _ h)
  have hc : Cond.codeWith y bytes maxL ret hh ∈ ws := by rw [hw]; exact List.mem_cons_self
  refine ⟨⟨hrc, hrs, hR.1, hR.2, pay_in ht hG, hc⟩, ht _ (hG _ hc).1, ok _ (by simp [va_wsS]), ⟨hd.1, hd.2.1⟩, fun sig h => ?_, ok _ (by simp [va_wsS]), ok _ (by simp [va_wsS])⟩
  have h2 := hd.2.2
  rw [h] at h2
  exact (Option.some.inj h2).symm
theorem vx_callSW (X : Stand p l e R s m args below meth c T locs cells slots) (hexec : p.tables.exec = Jvm.exec) {own : String} {index : Nat} {y : MethodName} {bytes : ByteArray} {maxL : Nat} {ret : Option FieldType} {hh : List (Nat × Nat × Nat × Nat)}
    (hown : s.vm.findClass own = some m.cls) (hlink : (Cond.methodLink own index y).before args s = true) (hstat : (Cond.static y).before args s = true) (hinit : (Cond.initialized y.cls).before args s = true)
    (hcode : (Cond.codeWith y bytes maxL ret hh).before args s = true) (hy : y.cls ≠ "java/lang/invoke/MethodHandle" ∧ y.cls ≠ "java/lang/invoke/VarHandle")
    {W9 : Nat} {Pre : Pt → Array Value → Prop} {Post : Pt → Array Value → Option Value → Pt → Prop} (hK : Back l R p e below s args y 3 W9 Pre Post)
    {g : JFrame} (hg : g.method = m) (hsize : g.locals.size = c.maxLocals) {argsL rest : List Value} (hlen : ∀ sig, parseMethodDescriptor y.desc = some sig → argsL.length = sig.parameters.length)
    (hstack : g.stack = argsL.reverse ++ rest) (hW : 2 * g.monitorRoom + (rest.map fun v => v.category).sum ≤ W9) (hdg : decode c.code g.pc = .ok (.invokestatic index, 3))
    (hpre : ∀ vm₁, s.WarmedH vm₁ → Pre ⟨T.setVm vm₁, locs, cells, slots⟩ argsL.toArray) :
    ∃ (v : Option Value) (vm₁ : Vm) (B : Pt), s.WarmedH vm₁ ∧ Stand p l e R s m args below meth c B.U B.locs B.cells B.slots ∧ Post ⟨T.setVm vm₁, locs, cells, slots⟩ argsL.toArray v B ∧
      ∀ target, Steps p.tables e below (B.U.setTop { g with pc := g.pc + 3, stack := v.toList ++ rest }) target → Steps p.tables e below (T.setTop g) target := by
  obtain ⟨mk, methM, cM, hnamed, hmethM, -, -, -, -, -, -, hsigM⟩ := Cond.codeWith_spec hcode
  have hstatic : methM.isStatic = true := Cond.static_spec hnamed hmethM hstat
  obtain ⟨kP, hkP, -⟩ := className_of_methodNamed hnamed
  have hinitP : kP.init = .initialized := Cond.initialized_spec (findClass_of_methodNamed hnamed) hkP hinit
  obtain ⟨vm₁, X₁, hstep₁⟩ := X.invokestatic hexec hown hlink hnamed hmethM hstatic hkP hinitP hy (g := g) hg (argsL := argsL) (rest := rest) (hlen _ hsigM) hstack hdg
  obtain ⟨v, B, X', hpost, hsteps⟩ := hK m meth c ⟨T.setVm vm₁, locs, cells, slots⟩ { g with stack := rest } (.invokestatic index) mk argsL.toArray X₁ hg hsize hdg hW (X₁.named hnamed) (hpre vm₁ X₁.warmed)
  exact ⟨v, vm₁, B, X₁.warmed, X', hpost, fun target h => hstep₁ _ fun acts => by rw [doInvoke_state]; exact hsteps.trans h⟩
theorem vx_runSW {y : MethodName} {bytes cc : ByteArray} {maxL nL mc ms n index : Nat} {ret : Option FieldType} {hh : List (Nat × Nat × Nat × Nat)} {ws : List Cond} {rm : Room} {Pc : Array Value → State → Prop} {Qc : Array Value → State → Outcome → State → Prop} {free : Addr → Prop} {Ts : List Cond} {own : String} {As rest : List Value} {g : JFrame}
    (S : CallFix p m c cc nL s args Ts own) (hM : Met l y ws rm Pc Qc mc ms free) (cw : vx_CSW R s args own index y bytes maxL ret hh ws rm mc ms n) (hp : PreS s H Pc As)
    (hg : g.method = m) (hn : As.length = n) (hsize : g.locals.size = nL) (hstack : g.stack = As.reverse ++ rest) (hW : 2 * g.monitorRoom + (rest.map fun v => v.category).sum ≤ 8) (hdg : decode cc g.pc = .ok (.invokestatic index, 3)) (hf : cells + mc ≤ R.cells ∧ slots + ms ≤ R.slots) :
    va_Run p l e R s m args below meth c H locs cells slots mc ms g rest (Qc As.toArray) (free) := by
  obtain ⟨⟨hrc, hrs, hfr, hlo, hws, hcw⟩, hcode, hini, hy, hlen, hl, hstt⟩ := cw
  have hK : Back l R p e below s args y 3 8 (PreOf R mc ms Pc) (PostOf Qc mc ms free) := va_backW (hh := hh) (bytes := bytes) (maxL := maxL) (ret := ret) hM hp.1 hrc hrs hfr hlo hws hcw (fun a' U hW => word_at hW (Or.inl (by first | rfl | simp [Cond.onTables, Cond.keeps, Cond.steady])) hini)
  obtain ⟨hx, hb, hml, ho, -⟩ := S
  intro T hT X
  obtain ⟨v, vm₁, ⟨U', l2, c2, s2⟩, hW₁, X', ⟨g', mk, t, L, e1, e2, hq, h1, hL, h2, h3⟩, st⟩ := vx_callSW X hx (hh := hh) (bytes := bytes) (maxL := maxL) (ret := ret) ho hl hstt hini hcode hy hK hg (hsize.trans hml.symm) (argsL := As) (rest := rest) (fun sig h => hn.trans (hlen sig h)) hstack hW (by rw [hb]; exact hdg)
    (fun vm₁ hW₁ => ⟨hf.1, hf.2, hp.2 (T.setVm vm₁) hT hW₁⟩)
  dsimp only [Pt.U, Pt.locs, Pt.cells, Pt.slots] at X' e1 e2 h1 h2 h3 st
  subst h1; subst h2; subst h3
  exact ⟨v, (T.setVm vm₁).calling g' mk As.toArray, t, U', L, hT, X', hL, e1, e2, hq, st⟩
/-- a thing of a world lies in the heap -/
theorem vx_lt {D : va_G} {cl : List vw_C} {ws : va_W} {H1 : Heap} (h : va_P D cl ws H1) {k : Nat} {q : Nat × va_E} (hk : ws[k]? = some q) : q.1 < H1.size := (h k q hk).lt
end VXS
/-! ===== END ===== -/
/-! ===== BEGIN methods with a table of their own: called by a name, returning or throwing ===== -/
section VXH
/-! vx_backW, vx_callVX, vx_callSX, vx_callVW, vx_runVW, vx_runVX, vx_runSX, vx_ofWH follow the same proofs as their sisters above (Free/Laws.lean, Shelf42/LK1.lean); vx_outP calls Shelf42/NT130.lean (outThrough). -/
section
variable {l : Launch} {R : Room} {p : Program} {e : Env} {below : List Frame} {s : State} {sargs : Array Value} {y : MethodName} {len W9 : Nat}
theorem vx_backW {ws : List Cond} {rm : Room} {Pc : Array Value → State → Prop} {Qc : Array Value → State → Outcome → State → Prop} {XC : String → State → State → Prop} {mc ms : Nat} {free : Addr → Prop} {bytes : ByteArray} {maxL : Nat} {ret : Option FieldType} {hh : List (Nat × Nat × Nat × Nat)}
    (hM : vx_Met l y ws rm Pc Qc XC mc ms free) (hblind : FrameBlind Pc) (hrc : rm.cells = mc) (hrs : rm.slots = ms)
    (hframes : rm.frames + 1 ≤ R.frames) (hlocals : W9 + (maxL + 11) + rm.locals ≤ R.locals)
    (hws : ∀ w ∈ ws, ∀ a' U, s.WarmedH U.vm → w.before a' U = true) (hcode : Cond.codeWith y bytes maxL ret hh ∈ ws) (hinit : ∀ a' U, s.WarmedH U.vm → (Cond.initialized y.cls).before a' U = true) :
    vx_Back l R p e below s sargs y len W9 (PreOf R mc ms Pc) (PostOf Qc mc ms free) (vx_Post XC mc ms free) := by
  intro m meth c A g ig mk a X hg hsize hdg hW hn hp
  have h1 : (headSpec ws rm).pre.before a A.U = true := atoms_intro fun w hw => hws w hw _ _ X.warmed
  have h2 : (Cond.codeWith y bytes maxL ret hh).before a A.U = true := hws _ hcode _ _ X.warmed
  have h3 : (Cond.initialized y.cls).before a A.U = true := hinit _ _ X.warmed
  have h4 : A.cells + (headSpec ws rm).room.cells ≤ R.cells := by rw [show (headSpec ws rm).room.cells = mc from hrc]; exact hp.1
  have h5 : A.slots + (headSpec ws rm).room.slots ≤ R.slots := by rw [show (headSpec ws rm).room.slots = ms from hrs]; exact hp.2.1
  have hPc : Pc a (A.U.calling g mk a) := hblind _ _ _ _ hp.2.2
  obtain ⟨U, Ls, c0, s0⟩ := A
  dsimp only [Pt.U, Pt.locs, Pt.cells, Pt.slots] at h1 h2 h3 h4 h5 X hn hPc ⊢
  obtain ⟨m9, methY, cY, hn9, hmY, hcY, -, hlY, -⟩ := Cond.codeWith_spec h2
  cases Option.some.inj (hn9.symm.trans hn)
  obtain ⟨kY, hkY, -⟩ := className_of_methodNamed hn
  have hinitY : kY.init = .initialized := Cond.initialized_spec (findClass_of_methodNamed hn) hkY h3
  have h : At U g.method c below := by rw [hg]; exact X.here
  have hlocals9 : W9 + (maxL + 11) + (headSpec ws rm).room.locals ≤ R.locals := hlocals
  have happ : (headSpec ws rm).appliesLoose y e.platform (U.calling g mk a) = true :=
    Spec.appliesLoose_calling (g := g) h hdg hn hkY hinitY
      (X.room_calling (g := g) (R' := (headSpec ws rm).room) hsize hmY hcY hframes (by rw [hlY]; omega) h4 h5) h1
  obtain ⟨mid, hmid⟩ := h.above
  have hfr : (U.setTop g).frames = (.java g :: mid) ++ below := by rw [State.frames_setTop' g h.top, hmid]; rfl
  obtain ⟨o, s₂, hsteps, -, hend, hq⟩ := Steps.callFree hM p X.admits X.cas X.clock (acts := []) hfr happ hPc trivial
  have hq' : vx_Q Qc XC mc ms free a (U.calling g mk a) o s₂ := hq
  rw [State.frames_setTop' g h.top] at hend
  obtain ⟨g₀, hg0⟩ := Option.isSome_iff_exists.mp h.top
  obtain ⟨r, hr⟩ := State.topJava?_eq_some.mp hg0
  have hr' : (({ U with heap := s₂.heap, slotsUsed := s₂.slotsUsed } : State).setVm s₂.vm).frames = .java g₀ :: r := hr
  rcases hq' with ⟨hqc, L, hfe, hL⟩ | ⟨q, rfl, E, ce, L, hx, hce, hcv, hcl, hW₂, hsm, hL⟩
  · obtain ⟨⟨v, rfl⟩, hW₂, e2, q2, q3, q4, q5, q6⟩ := id hfe
    have e3 : s₂ = ({ (U.calling g mk a).setFrames s₂.frames with heap := s₂.heap, slotsUsed := s₂.slotsUsed } : State).setVm s₂.vm := by
      have : s₂ = ({ s₂ with vm := (U.calling g mk a).vm } : State).setVm s₂.vm := rfl
      rw [e2] at this
      exact this
    obtain ⟨c₂, i₂, len₂, hc₂, hd₂, hf₂⟩ := hend
    have hW' : U.WarmedH s₂.vm := hW₂
    have hcc : c₂ = c := by
      have h1 : s₂.code? g.method = U.code? g.method := by
        rw [State.code?_eq, State.code?_eq, hW'.alike.method?]
      exact Option.some.inj (hc₂.symm.trans (h1.trans h.code))
    subst hcc
    have hlen : len₂ = len := by rw [hdg] at hd₂; cases hd₂; rfl
    subst hlen
    have hs₂ : s₂ = (({ U with heap := s₂.heap, slotsUsed := s₂.slotsUsed } : State).setVm s₂.vm).setTop { g with pc := g.pc + len₂, stack := v.toList ++ g.stack } := by
      refine e3.trans ?_
      rw [hf₂, State.calling_eq h.top, State.setFrames_setFrames, State.setTop_of_frames _ hr', hr]
      rfl
    have hsame : U.sameButNew ({ U with heap := s₂.heap, slotsUsed := s₂.slotsUsed } : State) L mc ms := by
      refine ⟨?_, q2, q3, q4, q5, q6⟩
      obtain ⟨t, ht, -⟩ := State.frames_cons hr
      show ({ U with heap := s₂.heap, slotsUsed := s₂.slotsUsed } : State) = { U.setFrames U.frames with heap := s₂.heap, slotsUsed := s₂.slotsUsed }
      rw [State.setFrames_self ht]
    subst hg
    refine Or.inl ⟨v, ⟨(({ U with heap := s₂.heap, slotsUsed := s₂.slotsUsed } : State).setVm s₂.vm), Ls ++ L, c0 + mc, s0 + ms⟩,
      ⟨X.admits, X.cas, X.clock, X.frames, X.room, X.hears, X.method, X.code, (X.here.setHeapUsed s₂.heap s₂.slotsUsed).setVm hW'.alike, X.tail, State.WarmedH.trans X.warmed hW', X.limits, X.bytes, X.same.trans (hsame.setVm s.vm)⟩,
      ⟨g, mk, s₂, L, rfl, rfl, hqc, rfl, hL, rfl, rfl⟩, ?_⟩
    show Steps p.tables e below _ ((({ U with heap := s₂.heap, slotsUsed := s₂.slotsUsed } : State).setVm s₂.vm).setTop { g with pc := g.pc + len₂, stack := v.toList ++ g.stack })
    rw [← hs₂]
    exact hsteps
  · obtain ⟨e2, q2, q3, q4, q5, q6⟩ := id hsm
    have e3 : s₂ = ({ (U.calling g mk a).setFrames s₂.frames with heap := s₂.heap, slotsUsed := s₂.slotsUsed } : State).setVm s₂.vm := by
      have : s₂ = ({ s₂ with vm := (U.calling g mk a).vm } : State).setVm s₂.vm := rfl
      rw [e2] at this
      exact this
    have hf₂ : s₂.frames = .throwing q :: .java g :: U.frames.tail := hend
    have hW' : U.WarmedH s₂.vm := hW₂
    have hs₂ : s₂ = ((({ U with heap := s₂.heap, slotsUsed := s₂.slotsUsed } : State).setVm s₂.vm).setTop g).pushFrame (.throwing q) := by
      refine e3.trans ?_
      rw [hf₂, State.calling_eq h.top, State.setFrames_setFrames, State.pushFrame, State.frames_setTop _ hr', State.setTop_of_frames _ hr', State.setFrames_setFrames, hr]
      rfl
    have hsame : U.sameButNew ({ U with heap := s₂.heap, slotsUsed := s₂.slotsUsed } : State) L mc ms := by
      refine ⟨?_, q2, q3, q4, q5, q6⟩
      obtain ⟨t, ht, -⟩ := State.frames_cons hr
      show ({ U with heap := s₂.heap, slotsUsed := s₂.slotsUsed } : State) = { U.setFrames U.frames with heap := s₂.heap, slotsUsed := s₂.slotsUsed }
      rw [State.setFrames_self ht]
    subst hg
    refine Or.inr ⟨q, ⟨(({ U with heap := s₂.heap, slotsUsed := s₂.slotsUsed } : State).setVm s₂.vm), Ls ++ L, c0 + mc, s0 + ms⟩,
      ⟨X.admits, X.cas, X.clock, X.frames, X.room, X.hears, X.method, X.code, (X.here.setHeapUsed s₂.heap s₂.slotsUsed).setVm hW'.alike, X.tail, State.WarmedH.trans X.warmed hW', X.limits, X.bytes, X.same.trans (hsame.setVm s.vm)⟩,
      ⟨g, mk, s₂, L, E, ce, rfl, rfl, hx, hce, hcv, hcl, rfl, hL, rfl, rfl⟩, ?_⟩
    show Steps p.tables e below _ (((({ U with heap := s₂.heap, slotsUsed := s₂.slotsUsed } : State).setVm s₂.vm).setTop g).pushFrame (.throwing q))
    rw [← hs₂]
    exact hsteps
end
variable {p : Program} {l : Launch} {e : Env} {R : Room} {s : State} {m : MethodId} {args : Array Value} {below : List Frame} {meth : Method} {c : Code} {T : State} {H : Heap} {locs : List Loc} {cells slots : Nat}
theorem vx_callVX (X : Stand p l e R s m args below meth c T locs cells slots) (hexec : p.tables.exec = Jvm.exec) {own C : String} {index : Nat} {y : MethodName} {bytes : ByteArray} {maxL : Nat} {ret : Option FieldType} {hh : List (Nat × Nat × Nat × Nat)}
    (hown : s.vm.findClass own = some m.cls) (hlink : (Cond.methodLink own index y).before args s = true) (hinst : (Cond.instanceMethod y).before args s = true) (hsel : (Cond.selects C y y).before args s = true)
    (hcode : (Cond.codeWith y bytes maxL ret hh).before args s = true) (hy : y.cls ≠ "java/lang/invoke/MethodHandle" ∧ y.cls ≠ "java/lang/invoke/VarHandle")
    {W9 : Nat} {Pre : Pt → Array Value → Prop} {Post : Pt → Array Value → Option Value → Pt → Prop} {PostX : Pt → Array Value → Addr → Pt → Prop} (hK : vx_Back l R p e below s args y 3 W9 Pre Post PostX)
    {b : Addr} {cellB : Cell} (hcell : T.heap[b]? = some cellB) (hobj : cellB.vm.isStatics = false) (hcls : s.vm.findClass C = some cellB.cls)
    {g : JFrame} (hg : g.method = m) (hsize : g.locals.size = c.maxLocals) {argsL rest : List Value} (hlen : ∀ sig, parseMethodDescriptor y.desc = some sig → argsL.length = sig.parameters.length)
    (hstack : g.stack = argsL.reverse ++ .ref b :: rest) (hW : 2 * g.monitorRoom + (rest.map fun v => v.category).sum ≤ W9) (hdg : decode c.code g.pc = .ok (.invokevirtual index, 3))
    (hpre : ∀ vm₁, s.WarmedH vm₁ → Pre ⟨T.setVm vm₁, locs, cells, slots⟩ (Value.ref b :: argsL).toArray) :
    (∃ (v : Option Value) (vm₁ : Vm) (B : Pt), s.WarmedH vm₁ ∧ Stand p l e R s m args below meth c B.U B.locs B.cells B.slots ∧ Post ⟨T.setVm vm₁, locs, cells, slots⟩ (Value.ref b :: argsL).toArray v B ∧
      ∀ target, Steps p.tables e below (B.U.setTop { g with pc := g.pc + 3, stack := v.toList ++ rest }) target → Steps p.tables e below (T.setTop g) target) ∨
    (∃ (q : Addr) (vm₁ : Vm) (B : Pt), s.WarmedH vm₁ ∧ Stand p l e R s m args below meth c B.U B.locs B.cells B.slots ∧ PostX ⟨T.setVm vm₁, locs, cells, slots⟩ (Value.ref b :: argsL).toArray q B ∧
      Steps p.tables e below (T.setTop g) ((B.U.setTop { g with stack := rest }).pushFrame (.throwing q))) := by
  obtain ⟨mk, methM, hnamed, hmethM, hstM, habM⟩ := Cond.instanceMethod_spec hinst
  obtain ⟨m8, methM', cM, hn8, hmethM', -, -, -, -, -, -, hsigM⟩ := Cond.codeWith_spec hcode
  cases Option.some.inj (hn8.symm.trans hnamed)
  cases hmethM.symm.trans hmethM'
  obtain ⟨c2, r2, m2, q1, q2, q3, q4, kP, hkP, hkPi⟩ := Cond.selects_spec hsel
  cases hcls.symm.trans q1
  cases (State.methodFound?_of_named hnamed hy).symm.trans q2
  cases hnamed.symm.trans q3
  have hselP : selectMethod e.platform s.vm cellB.cls mk = .method mk := by rw [Launch.admits_selectMethod X.admits]; exact q4
  obtain ⟨vm₁, X₁, hstep₁⟩ := X.invokevirtual hexec hown hlink hnamed hmethM hstM hkP hkPi hy (a := b) (cell := cellB) hcell
    (fun z h => by rw [h] at hobj; cases hobj) hselP hmethM habM hkP hkPi (g := g) hg (argsL := argsL) (rest := rest) (hlen _ hsigM) hstack hdg
  rcases hK m meth c ⟨T.setVm vm₁, locs, cells, slots⟩ { g with stack := rest } (.invokevirtual index) mk (Value.ref b :: argsL).toArray X₁ hg hsize hdg hW (X₁.named hnamed) (hpre vm₁ X₁.warmed) with ⟨v, B, X', hpost, hsteps⟩ | ⟨q, B, X', hpost, hsteps⟩
  · exact Or.inl ⟨v, vm₁, B, X₁.warmed, X', hpost, fun target h => hstep₁ _ fun acts => by rw [doInvoke_state]; exact hsteps.trans h⟩
  · exact Or.inr ⟨q, vm₁, B, X₁.warmed, X', hpost, hstep₁ _ fun acts => by rw [doInvoke_state]; exact hsteps⟩
theorem vx_callSX (X : Stand p l e R s m args below meth c T locs cells slots) (hexec : p.tables.exec = Jvm.exec) {own : String} {index : Nat} {y : MethodName} {bytes : ByteArray} {maxL : Nat} {ret : Option FieldType} {hh : List (Nat × Nat × Nat × Nat)}
    (hown : s.vm.findClass own = some m.cls) (hlink : (Cond.methodLink own index y).before args s = true) (hstat : (Cond.static y).before args s = true) (hinit : (Cond.initialized y.cls).before args s = true)
    (hcode : (Cond.codeWith y bytes maxL ret hh).before args s = true) (hy : y.cls ≠ "java/lang/invoke/MethodHandle" ∧ y.cls ≠ "java/lang/invoke/VarHandle")
    {W9 : Nat} {Pre : Pt → Array Value → Prop} {Post : Pt → Array Value → Option Value → Pt → Prop} {PostX : Pt → Array Value → Addr → Pt → Prop} (hK : vx_Back l R p e below s args y 3 W9 Pre Post PostX)
    {g : JFrame} (hg : g.method = m) (hsize : g.locals.size = c.maxLocals) {argsL rest : List Value} (hlen : ∀ sig, parseMethodDescriptor y.desc = some sig → argsL.length = sig.parameters.length)
    (hstack : g.stack = argsL.reverse ++ rest) (hW : 2 * g.monitorRoom + (rest.map fun v => v.category).sum ≤ W9) (hdg : decode c.code g.pc = .ok (.invokestatic index, 3))
    (hpre : ∀ vm₁, s.WarmedH vm₁ → Pre ⟨T.setVm vm₁, locs, cells, slots⟩ argsL.toArray) :
    (∃ (v : Option Value) (vm₁ : Vm) (B : Pt), s.WarmedH vm₁ ∧ Stand p l e R s m args below meth c B.U B.locs B.cells B.slots ∧ Post ⟨T.setVm vm₁, locs, cells, slots⟩ argsL.toArray v B ∧
      ∀ target, Steps p.tables e below (B.U.setTop { g with pc := g.pc + 3, stack := v.toList ++ rest }) target → Steps p.tables e below (T.setTop g) target) ∨
    (∃ (q : Addr) (vm₁ : Vm) (B : Pt), s.WarmedH vm₁ ∧ Stand p l e R s m args below meth c B.U B.locs B.cells B.slots ∧ PostX ⟨T.setVm vm₁, locs, cells, slots⟩ argsL.toArray q B ∧
      Steps p.tables e below (T.setTop g) ((B.U.setTop { g with stack := rest }).pushFrame (.throwing q))) := by
  obtain ⟨mk, methM, cM, hnamed, hmethM, -, -, -, -, -, -, hsigM⟩ := Cond.codeWith_spec hcode
  have hstatic : methM.isStatic = true := Cond.static_spec hnamed hmethM hstat
  obtain ⟨kP, hkP, -⟩ := className_of_methodNamed hnamed
  have hinitP : kP.init = .initialized := Cond.initialized_spec (findClass_of_methodNamed hnamed) hkP hinit
  obtain ⟨vm₁, X₁, hstep₁⟩ := X.invokestatic hexec hown hlink hnamed hmethM hstatic hkP hinitP hy (g := g) hg (argsL := argsL) (rest := rest) (hlen _ hsigM) hstack hdg
  rcases hK m meth c ⟨T.setVm vm₁, locs, cells, slots⟩ { g with stack := rest } (.invokestatic index) mk argsL.toArray X₁ hg hsize hdg hW (X₁.named hnamed) (hpre vm₁ X₁.warmed) with ⟨v, B, X', hpost, hsteps⟩ | ⟨q, B, X', hpost, hsteps⟩
  · exact Or.inl ⟨v, vm₁, B, X₁.warmed, X', hpost, fun target h => hstep₁ _ fun acts => by rw [doInvoke_state]; exact hsteps.trans h⟩
  · exact Or.inr ⟨q, vm₁, B, X₁.warmed, X', hpost, hstep₁ _ fun acts => by rw [doInvoke_state]; exact hsteps⟩
theorem vx_callVW (X : Stand p l e R s m args below meth c T locs cells slots) (hexec : p.tables.exec = Jvm.exec) {own C : String} {index : Nat} {y : MethodName} {bytes : ByteArray} {maxL : Nat} {ret : Option FieldType} {hh : List (Nat × Nat × Nat × Nat)}
    (hown : s.vm.findClass own = some m.cls) (hlink : (Cond.methodLink own index y).before args s = true) (hinst : (Cond.instanceMethod y).before args s = true) (hsel : (Cond.selects C y y).before args s = true)
    (hcode : (Cond.codeWith y bytes maxL ret hh).before args s = true) (hy : y.cls ≠ "java/lang/invoke/MethodHandle" ∧ y.cls ≠ "java/lang/invoke/VarHandle")
    {W9 : Nat} {Pre : Pt → Array Value → Prop} {Post : Pt → Array Value → Option Value → Pt → Prop} (hK : Back l R p e below s args y 3 W9 Pre Post)
    {b : Addr} {cellB : Cell} (hcell : T.heap[b]? = some cellB) (hobj : cellB.vm.isStatics = false) (hcls : s.vm.findClass C = some cellB.cls)
    {g : JFrame} (hg : g.method = m) (hsize : g.locals.size = c.maxLocals) {argsL rest : List Value} (hlen : ∀ sig, parseMethodDescriptor y.desc = some sig → argsL.length = sig.parameters.length)
    (hstack : g.stack = argsL.reverse ++ .ref b :: rest) (hW : 2 * g.monitorRoom + (rest.map fun v => v.category).sum ≤ W9) (hdg : decode c.code g.pc = .ok (.invokevirtual index, 3))
    (hpre : ∀ vm₁, s.WarmedH vm₁ → Pre ⟨T.setVm vm₁, locs, cells, slots⟩ (Value.ref b :: argsL).toArray) :
    ∃ (v : Option Value) (vm₁ : Vm) (B : Pt), s.WarmedH vm₁ ∧ Stand p l e R s m args below meth c B.U B.locs B.cells B.slots ∧ Post ⟨T.setVm vm₁, locs, cells, slots⟩ (Value.ref b :: argsL).toArray v B ∧
      ∀ target, Steps p.tables e below (B.U.setTop { g with pc := g.pc + 3, stack := v.toList ++ rest }) target → Steps p.tables e below (T.setTop g) target := by
  obtain ⟨mk, methM, hnamed, hmethM, hstM, habM⟩ := Cond.instanceMethod_spec hinst
  obtain ⟨m8, methM', cM, hn8, hmethM', -, -, -, -, -, -, hsigM⟩ := Cond.codeWith_spec hcode
  cases Option.some.inj (hn8.symm.trans hnamed)
  cases hmethM.symm.trans hmethM'
  obtain ⟨c2, r2, m2, q1, q2, q3, q4, kP, hkP, hkPi⟩ := Cond.selects_spec hsel
  cases hcls.symm.trans q1
  cases (State.methodFound?_of_named hnamed hy).symm.trans q2
  cases hnamed.symm.trans q3
  have hselP : selectMethod e.platform s.vm cellB.cls mk = .method mk := by rw [Launch.admits_selectMethod X.admits]; exact q4
  obtain ⟨vm₁, X₁, hstep₁⟩ := X.invokevirtual hexec hown hlink hnamed hmethM hstM hkP hkPi hy (a := b) (cell := cellB) hcell
    (fun z h => by rw [h] at hobj; cases hobj) hselP hmethM habM hkP hkPi (g := g) hg (argsL := argsL) (rest := rest) (hlen _ hsigM) hstack hdg
  obtain ⟨v, B, X', hpost, hsteps⟩ := hK m meth c ⟨T.setVm vm₁, locs, cells, slots⟩ { g with stack := rest } (.invokevirtual index) mk (Value.ref b :: argsL).toArray X₁ hg hsize hdg hW (X₁.named hnamed) (hpre vm₁ X₁.warmed)
  exact ⟨v, vm₁, B, X₁.warmed, X', hpost, fun target h => hstep₁ _ fun acts => by rw [doInvoke_state]; exact hsteps.trans h⟩
abbrev vx_CVW (R : Room) (s : State) (args : Array Value) (own C : String) (index : Nat) (y : MethodName) (bytes : ByteArray) (maxL : Nat) (ret : Option FieldType) (hh : List (Nat × Nat × Nat × Nat)) (ws : List Cond) (rm : Room) (mc ms n : Nat) : Prop :=
  (rm.cells = mc ∧ rm.slots = ms ∧ rm.frames + 1 ≤ R.frames ∧ 8 + (maxL + 11) + rm.locals ≤ R.locals ∧ (∀ w ∈ ws, ∀ (a' : Array Value) (U : State), s.WarmedH U.vm → w.before a' U = true) ∧ Cond.codeWith y bytes maxL ret hh ∈ ws) ∧
  (Cond.codeWith y bytes maxL ret hh).before args s = true ∧ (Cond.initialized y.cls).before args s = true ∧ (y.cls ≠ "java/lang/invoke/MethodHandle" ∧ y.cls ≠ "java/lang/invoke/VarHandle") ∧
  (∀ sig, parseMethodDescriptor y.desc = some sig → n = sig.parameters.length) ∧ (Cond.methodLink own index y).before args s = true ∧ (Cond.instanceMethod y).before args s = true ∧ (Cond.selects C y y).before args s = true
theorem vx_cwVW {own C : String} {index maxL mc ms : Nat} {y : MethodName} {bytes : ByteArray} {ret : Option FieldType} {hh : List (Nat × Nat × Nat × Nat)} {Ts ws ws' : List Cond} {rm : Room} (n : Nat) (ht : ∀ w ∈ Ts, w.before args s = true) (hT : GoodIn Ts (wsV own index C y ws)) (hw : ws = Cond.codeWith y bytes maxL ret hh :: ws') (hrc : rm.cells = mc) (hrs : rm.slots = ms)
    (hd : y.cls = C ∧ y.cls ≠ "java/lang/invoke/MethodHandle" ∧ y.cls ≠ "java/lang/invoke/VarHandle" ∧ (parseMethodDescriptor y.desc).map (fun d => d.parameters.length) = some n) (hR : rm.frames + 1 ≤ R.frames ∧ 8 + (maxL + 11) + rm.locals ≤ R.locals) :
    vx_CVW R s args own C index y bytes maxL ret hh ws rm mc ms n := by
  obtain ⟨hC, hd⟩ := hd
  subst hC
  have ok : ∀ w ∈ wsV own index y.cls y ws, w.before args s = true := fun w h => ht w (hT w h).1
  have hG : GoodIn Ts ws := fun w h => hT w (by unfold wsV; exact List.mem_append_right _ h)
  have hc : Cond.codeWith y bytes maxL ret hh ∈ ws := by rw [hw]; exact List.mem_cons_self
  refine ⟨⟨hrc, hrs, hR.1, hR.2, pay_in ht hG, hc⟩, ht _ (hG _ hc).1, ok _ (by simp [wsV]), ⟨hd.1, hd.2.1⟩, fun sig h => ?_, ok _ (by simp [wsV]), ok _ (by simp [wsV]), ok _ (by simp [wsV])⟩
  have h2 := hd.2.2
  rw [h] at h2
  exact (Option.some.inj h2).symm
theorem vx_runVW {y : MethodName} {bytes cc : ByteArray} {maxL nL mc ms n index : Nat} {ret : Option FieldType} {hh : List (Nat × Nat × Nat × Nat)} {ws : List Cond} {rm : Room} {Pc : Array Value → State → Prop} {Qc : Array Value → State → Outcome → State → Prop} {free : Addr → Prop} {Ts : List Cond} {own C : String} {b : Addr} {As rest : List Value} {g : JFrame}
    (S : CallFix p m c cc nL s args Ts own) (hM : Met l y ws rm Pc Qc mc ms free) (cw : vx_CVW R s args own C index y bytes maxL ret hh ws rm mc ms n) (hp : PreV s H C b Pc As)
    (hg : g.method = m) (hn : As.length = n) (hsize : g.locals.size = nL) (hstack : g.stack = As.reverse ++ .ref b :: rest) (hW : 2 * g.monitorRoom + (rest.map fun v => v.category).sum ≤ 8) (hdg : decode cc g.pc = .ok (.invokevirtual index, 3)) (hf : cells + mc ≤ R.cells ∧ slots + ms ≤ R.slots) :
    va_Run p l e R s m args below meth c H locs cells slots mc ms g rest (Qc (Value.ref b :: As).toArray) free := by
  obtain ⟨⟨hrc, hrs, hfr, hlo, hws, hcw⟩, hcode, hini, hy, hlen, hl, hin, hse⟩ := cw
  have hK : Back l R p e below s args y 3 8 (PreOf R mc ms Pc) (PostOf Qc mc ms free) := va_backW (hh := hh) (bytes := bytes) (maxL := maxL) (ret := ret) hM hp.1 hrc hrs hfr hlo hws hcw (fun a' U hW => word_at hW (Or.inl (by first | rfl | simp [Cond.onTables, Cond.keeps, Cond.steady])) hini)
  obtain ⟨hx, hb, hml, ho, -⟩ := S
  obtain ⟨-, ⟨cellB, hcB, hoB, hclB⟩, hPc⟩ := hp
  intro T hT X
  obtain ⟨v, vm₁, ⟨U', l2, c2, s2⟩, hW₁, X', ⟨g', mk, t, L, e1, e2, hq, h1, hL, h2, h3⟩, st⟩ := vx_callVW X hx (C := C) (hh := hh) (bytes := bytes) (maxL := maxL) (ret := ret) ho hl hin hse hcode hy hK (by rw [hT]; exact hcB) hoB hclB hg (hsize.trans hml.symm) (argsL := As) (rest := rest) (fun sig h => hn.trans (hlen sig h)) hstack hW (by rw [hb]; exact hdg)
    (fun vm₁ hW₁ => ⟨hf.1, hf.2, hPc (T.setVm vm₁) hT hW₁⟩)
  dsimp only [Pt.U, Pt.locs, Pt.cells, Pt.slots] at X' e1 e2 h1 h2 h3 st
  subst h1; subst h2; subst h3
  exact ⟨v, (T.setVm vm₁).calling g' mk (Value.ref b :: As).toArray, t, U', L, hT, X', hL, e1, e2, hq, st⟩
section
variable {y : MethodName} {bytes cc : ByteArray} {maxL nL mc ms n index : Nat} {ret : Option FieldType} {ws : List Cond} {rm : Room} {Pc : Array Value → State → Prop} {Qc : Array Value → State → Outcome → State → Prop} {XC : String → State → State → Prop} {free : Addr → Prop} {Ts : List Cond} {own C : String} {b : Addr} {As rest : List Value} {g : JFrame}
theorem vx_runVX {hh : List (Nat × Nat × Nat × Nat)} (S : CallFix p m c cc nL s args Ts own) (hM : vx_Met l y ws rm Pc Qc XC mc ms free) (cw : vx_CVW R s args own C index y bytes maxL ret hh ws rm mc ms n) (hp : PreV s H C b Pc As)
    (hg : g.method = m) (hn : As.length = n) (hsize : g.locals.size = nL) (hstack : g.stack = As.reverse ++ .ref b :: rest) (hW : 2 * g.monitorRoom + (rest.map fun v => v.category).sum ≤ 8) (hdg : decode cc g.pc = .ok (.invokevirtual index, 3)) (hf : cells + mc ≤ R.cells ∧ slots + ms ≤ R.slots) :
    vx_Run p l e R s m args below meth c H locs cells slots mc ms g rest (Qc (Value.ref b :: As).toArray) XC free := by
  obtain ⟨⟨hrc, hrs, hfr, hlo, hws, hcw⟩, hcode, hini, hy, hlen, hl, hin, hse⟩ := cw
  have hK : vx_Back l R p e below s args y 3 8 (PreOf R mc ms Pc) (PostOf Qc mc ms free) (vx_Post XC mc ms free) := vx_backW (hh := hh) (bytes := bytes) (maxL := maxL) (ret := ret) hM hp.1 hrc hrs hfr hlo hws hcw (fun a' U hW => word_at hW (Or.inl (by first | rfl | simp [Cond.onTables, Cond.keeps, Cond.steady])) hini)
  obtain ⟨hx, hb, hml, ho, -⟩ := S
  obtain ⟨-, ⟨cellB, hcB, hoB, hclB⟩, hPc⟩ := hp
  intro T hT X
  rcases vx_callVX X hx (C := C) (hh := hh) (bytes := bytes) (maxL := maxL) (ret := ret) ho hl hin hse hcode hy hK (by rw [hT]; exact hcB) hoB hclB hg (hsize.trans hml.symm) (argsL := As) (rest := rest) (fun sig h => hn.trans (hlen sig h)) hstack hW (by rw [hb]; exact hdg)
    (fun vm₁ hW₁ => ⟨hf.1, hf.2, hPc (T.setVm vm₁) hT hW₁⟩) with ⟨v, vm₁, ⟨U', l2, c2, s2⟩, hW₁, X', ⟨g', mk, t, L, e1, e2, hq, h1, hL, h2, h3⟩, st⟩ | ⟨q, vm₁, ⟨U', l2, c2, s2⟩, hW₁, X', ⟨g', mk, t, L, E, ce, e1, e2, hq, hce, hcv, hcl, h1, hL, h2, h3⟩, st⟩
  · dsimp only [Pt.U, Pt.locs, Pt.cells, Pt.slots] at X' e1 e2 h1 h2 h3 st
    subst h1; subst h2; subst h3
    exact Or.inl ⟨v, (T.setVm vm₁).calling g' mk (Value.ref b :: As).toArray, t, U', L, hT, X', hL, e1, e2, hq, st⟩
  · dsimp only [Pt.U, Pt.locs, Pt.cells, Pt.slots] at X' e1 e2 h1 h2 h3 st hcl
    subst h1; subst h2; subst h3
    exact Or.inr ⟨q, (T.setVm vm₁).calling g' mk (Value.ref b :: As).toArray, t, U', L, E, ce, hT, X', hL, e1, e2, hq, hce, hcv, vx_cls hW₁ hcl, st⟩
theorem vx_runSX {hh : List (Nat × Nat × Nat × Nat)} (S : CallFix p m c cc nL s args Ts own) (hM : vx_Met l y ws rm Pc Qc XC mc ms free) (cw : vx_CSW R s args own index y bytes maxL ret hh ws rm mc ms n) (hp : PreS s H Pc As)
    (hg : g.method = m) (hn : As.length = n) (hsize : g.locals.size = nL) (hstack : g.stack = As.reverse ++ rest) (hW : 2 * g.monitorRoom + (rest.map fun v => v.category).sum ≤ 8) (hdg : decode cc g.pc = .ok (.invokestatic index, 3)) (hf : cells + mc ≤ R.cells ∧ slots + ms ≤ R.slots) :
    vx_Run p l e R s m args below meth c H locs cells slots mc ms g rest (Qc As.toArray) XC free := by
  obtain ⟨⟨hrc, hrs, hfr, hlo, hws, hcw⟩, hcode, hini, hy, hlen, hl, hstt⟩ := cw
  have hK : vx_Back l R p e below s args y 3 8 (PreOf R mc ms Pc) (PostOf Qc mc ms free) (vx_Post XC mc ms free) := vx_backW (hh := hh) (bytes := bytes) (maxL := maxL) (ret := ret) hM hp.1 hrc hrs hfr hlo hws hcw (fun a' U hW => word_at hW (Or.inl (by first | rfl | simp [Cond.onTables, Cond.keeps, Cond.steady])) hini)
  obtain ⟨hx, hb, hml, ho, -⟩ := S
  intro T hT X
  rcases vx_callSX X hx (hh := hh) (bytes := bytes) (maxL := maxL) (ret := ret) ho hl hstt hini hcode hy hK hg (hsize.trans hml.symm) (argsL := As) (rest := rest) (fun sig h => hn.trans (hlen sig h)) hstack hW (by rw [hb]; exact hdg)
    (fun vm₁ hW₁ => ⟨hf.1, hf.2, hp.2 (T.setVm vm₁) hT hW₁⟩) with ⟨v, vm₁, ⟨U', l2, c2, s2⟩, hW₁, X', ⟨g', mk, t, L, e1, e2, hq, h1, hL, h2, h3⟩, st⟩ | ⟨q, vm₁, ⟨U', l2, c2, s2⟩, hW₁, X', ⟨g', mk, t, L, E, ce, e1, e2, hq, hce, hcv, hcl, h1, hL, h2, h3⟩, st⟩
  · dsimp only [Pt.U, Pt.locs, Pt.cells, Pt.slots] at X' e1 e2 h1 h2 h3 st
    subst h1; subst h2; subst h3
    exact Or.inl ⟨v, (T.setVm vm₁).calling g' mk As.toArray, t, U', L, hT, X', hL, e1, e2, hq, st⟩
  · dsimp only [Pt.U, Pt.locs, Pt.cells, Pt.slots] at X' e1 e2 h1 h2 h3 st hcl
    subst h1; subst h2; subst h3
    exact Or.inr ⟨q, (T.setVm vm₁).calling g' mk As.toArray, t, U', L, E, ce, hT, X', hL, e1, e2, hq, hce, hcv, vx_cls hW₁ hcl, st⟩
end
end VXH
theorem vx_ofWH {l : Launch} {y : MethodName} {ws ws' : List Cond} {rm : Room} {Pc : Array Value → State → Prop} {Qc : Array Value → State → Outcome → State → Prop} {XC : String → State → State → Prop} {mc ms : Nat} {free : Addr → Prop} {cc : ByteArray} {maxL : Nat} {ret : Option FieldType} {hh : List (Nat × Nat × Nat × Nat)}
    (hy : plainName y.cls = true) (hw : ws = Cond.codeWith y cc maxL ret hh :: ws')
    (body : ∀ p e s m args below meth c s₁, BodyLoose p l y (headSpec ws rm) cc maxL ret e s m args below meth c s₁ → c.maxLocals = maxL → Pc args s →
      W p l e (headSpec ws rm).room s m args below meth c s.heap [] 0 0 (vx_MQ below Qc XC args s mc ms free) (entryFrame m args maxL)) : vx_Met l y ws rm Pc Qc XC mc ms free := by
  refine MetFree.of_bodyS (code := cc) (maxLocals := maxL) (ret := ret) hy ?_ ?_
  · intro args s m h hn
    obtain ⟨m9, meth, c, hn9, h1, h2, h3, h4, -, h5, h6, -⟩ := Cond.codeWith_spec (atoms_spec (ws := ws) h _ (by rw [hw]; exact List.mem_cons_self))
    cases hn.symm.trans hn9
    exact ⟨meth, c, h1, h2, h3, h4, h5, h6⟩
  · intro p e s m args below meth c s₁ B hml hP _
    have hh0 : s₁.heap = s.heap := by rw [B.state]; rfl
    obtain ⟨t, a1, o, b1, b2, b3⟩ := body p e s m args below meth c s₁ B hml hP s₁ hh0 (Stand.of_body B)
    exact ⟨t, o, a1, b1, b2, b3⟩
/-! ===== END ===== -/
end
section
def RX0 : String := "FenceBench$Ends"
def TX0 : u_T := fun k => match k with
  | 0 => ("FenceBench$Ends", "others", "LFenceBench$Lengths;", true)
  | 1 => ("FenceBench$Ends", "isSimple", "Z", false)
  | 2 => ("FenceBench$Ends", "hasLoose", "Z", false)
  | 3 => ("FenceBench$Ends", "canLeaveTwo", "Z", false)
  | 4 => ("FenceBench$Ends", "canLeaveFour", "Z", false)
  | 5 => ("FenceBench$Ends", "looseFields", "I", false)
  | _ => ("FenceBench$Ends", "seen", "I", false)
def tyX0 : Nat → FieldType := fun k => match k with
  | 0 => .object "FenceBench$Lengths"
  | 1 => .boolean
  | 2 => .boolean
  | 3 => .boolean
  | 4 => .boolean
  | 5 => .int
  | _ => .int
theorem nmX0 : ∀ a, a < 7 → ∀ b, b < 7 → a ≠ b → (TX0 a).2.1 ≠ (TX0 b).2.1 := by decide +kernel
theorem tyX0_ok : ∀ k, k < 7 → parseFieldDescriptor (TX0 k).2.2.1 = some (tyX0 k) := by decide +kernel
abbrev cX0_init : ByteArray := prog_2_method_1_code
def yX0_init : MethodName := ⟨RX0, "<init>", "()V"⟩
abbrev cX0_reckon : ByteArray := prog_2_method_2_code
def yX0_reckon : MethodName := ⟨RX0, "reckon", "(LFenceBench$Parts;)V"⟩
abbrev cX0_takeLoose : ByteArray := prog_2_method_3_code
def yX0_takeLoose : MethodName := ⟨RX0, "takeLoose", "(II)V"⟩
abbrev cX0_isTold : ByteArray := prog_2_method_4_code
def yX0_isTold : MethodName := ⟨RX0, "isTold", "()Z"⟩
abbrev cX0_worthByLengths : ByteArray := prog_2_method_5_code
def yX0_worthByLengths : MethodName := ⟨RX0, "worthByLengths", "()I"⟩
abbrev cX0_keepOrLeave : ByteArray := prog_2_method_6_code
def yX0_keepOrLeave : MethodName := ⟨RX0, "keepOrLeave", "()I"⟩
abbrev cX0_canLeave : ByteArray := prog_2_method_7_code
def yX0_canLeave : MethodName := ⟨RX0, "canLeave", "()Z"⟩
abbrev cX0_closingAll : ByteArray := prog_2_method_8_code
def yX0_closingAll : MethodName := ⟨RX0, "closingAll", "()I"⟩
abbrev cX0_leavingSome : ByteArray := prog_2_method_9_code
def yX0_leavingSome : MethodName := ⟨RX0, "leavingSome", "()I"⟩
def RX1 : String := "FenceBench$Lengths"
def TX1 : u_T := fun k => match k with
  | 0 => ("FenceBench$Lengths", "numbers", "[I", true)
  | 1 => ("FenceBench$Lengths", "place", "[I", true)
  | 2 => ("FenceBench$Lengths", "length", "[I", true)
  | 3 => ("FenceBench$Lengths", "cost", "[I", true)
  | 4 => ("FenceBench$Lengths", "step", "[I", true)
  | 5 => ("FenceBench$Lengths", "digit", "[I", true)
  | 6 => ("FenceBench$Lengths", "different", "I", false)
  | 7 => ("FenceBench$Lengths", "kinds", "I", false)
  | 8 => ("FenceBench$Lengths", "heaps", "I", false)
  | 9 => ("FenceBench$Lengths", "fresh", "Z", false)
  | _ => ("FenceBench$Lengths", "v", "[I", false)
def tyX1 : Nat → FieldType := fun k => match k with
  | 0 => .array .int
  | 1 => .array .int
  | 2 => .array .int
  | 3 => .array .int
  | 4 => .array .int
  | 5 => .array .int
  | 6 => .int
  | 7 => .int
  | 8 => .int
  | 9 => .boolean
  | _ => .array .int
theorem nmX1 : ∀ a, a < 11 → ∀ b, b < 11 → a ≠ b → (TX1 a).2.1 ≠ (TX1 b).2.1 := by decide +kernel
theorem tyX1_ok : ∀ k, k < 11 → parseFieldDescriptor (TX1 k).2.2.1 = some (tyX1 k) := by decide +kernel
abbrev cX1_init : ByteArray := prog_3_method_1_code
def yX1_init : MethodName := ⟨RX1, "<init>", "()V"⟩
abbrev cX1_wipe : ByteArray := prog_3_method_2_code
def yX1_wipe : MethodName := ⟨RX1, "wipe", "()V"⟩
abbrev cX1_placeOf : ByteArray := prog_3_method_3_code
def yX1_placeOf : MethodName := ⟨RX1, "placeOf", "(ZI)I"⟩
abbrev cX1_isRing : ByteArray := prog_3_method_4_code
def yX1_isRing : MethodName := ⟨RX1, "isRing", "(I)Z"⟩
abbrev cX1_hasRoom : ByteArray := prog_3_method_5_code
def yX1_hasRoom : MethodName := ⟨RX1, "hasRoom", "(ZII)Z"⟩
abbrev cX1_put : ByteArray := prog_3_method_6_code
def yX1_put : MethodName := ⟨RX1, "put", "(ZII)I"⟩
abbrev cX1_isTold : ByteArray := prog_3_method_7_code
def yX1_isTold : MethodName := ⟨RX1, "isTold", "()Z"⟩
abbrev cX1_whole : ByteArray := prog_3_method_8_code
def yX1_whole : MethodName := ⟨RX1, "whole", "()I"⟩
abbrev cX1_bestKind : ByteArray := prog_3_method_9_code
def yX1_bestKind : MethodName := ⟨RX1, "bestKind", "(I)I"⟩
abbrev cX1_layOut : ByteArray := prog_3_method_10_code
def yX1_layOut : MethodName := ⟨RX1, "layOut", "()V"⟩
abbrev cX1_layOutKind : ByteArray := prog_3_method_11_code
def yX1_layOutKind : MethodName := ⟨RX1, "layOutKind", "(I)V"⟩
abbrev cX1_fillAll : ByteArray := prog_3_method_12_code
def yX1_fillAll : MethodName := ⟨RX1, "fillAll", "()V"⟩
abbrev cX1_countUp : ByteArray := prog_3_method_13_code
def yX1_countUp : MethodName := ⟨RX1, "countUp", "()V"⟩
abbrev cX1_bestAt : ByteArray := prog_3_method_14_code
def yX1_bestAt : MethodName := ⟨RX1, "bestAt", "(I)I"⟩
abbrev cX1_openingAt : ByteArray := prog_3_method_15_code
def yX1_openingAt : MethodName := ⟨RX1, "openingAt", "(II)I"⟩
def RX2 : String := "FenceBench$Meadow"
def TX2 : u_T := fun k => match k with
  | 0 => ("FenceBench$Meadow", "first", "[I", true)
  | 1 => ("FenceBench$Meadow", "second", "[I", true)
  | 2 => ("FenceBench$Meadow", "unfenced", "[Z", true)
  | 3 => ("FenceBench$Meadow", "line", "[I", true)
  | 4 => ("FenceBench$Meadow", "drawer", "[I", true)
  | 5 => ("FenceBench$Meadow", "sidesAt", "[I", true)
  | 6 => ("FenceBench$Meadow", "sideCount", "[I", true)
  | 7 => ("FenceBench$Meadow", "openCount", "[I", true)
  | 8 => ("FenceBench$Meadow", "owner", "[I", true)
  | 9 => ("FenceBench$Meadow", "owned", "[I", true)
  | 10 => ("FenceBench$Meadow", "fields", "I", false)
  | 11 => ("FenceBench$Meadow", "sides", "I", false)
  | 12 => ("FenceBench$Meadow", "openSides", "I", false)
  | 13 => ("FenceBench$Meadow", "done", "I", false)
  | 14 => ("FenceBench$Meadow", "known", "I", false)
  | 15 => ("FenceBench$Meadow", "turn", "I", false)
  | _ => ("FenceBench$Meadow", "changes", "I", false)
def tyX2 : Nat → FieldType := fun k => match k with
  | 0 => .array .int
  | 1 => .array .int
  | 2 => .array .boolean
  | 3 => .array .int
  | 4 => .array .int
  | 5 => .array .int
  | 6 => .array .int
  | 7 => .array .int
  | 8 => .array .int
  | 9 => .array .int
  | 10 => .int
  | 11 => .int
  | 12 => .int
  | 13 => .int
  | 14 => .int
  | 15 => .int
  | _ => .int
theorem nmX2 : ∀ a, a < 17 → ∀ b, b < 17 → a ≠ b → (TX2 a).2.1 ≠ (TX2 b).2.1 := by decide +kernel
theorem tyX2_ok : ∀ k, k < 17 → parseFieldDescriptor (TX2 k).2.2.1 = some (tyX2 k) := by decide +kernel
abbrev cX2_init : ByteArray := prog_4_method_1_code
def yX2_init : MethodName := ⟨RX2, "<init>", "()V"⟩
abbrev cX2_wipe : ByteArray := prog_4_method_2_code
def yX2_wipe : MethodName := ⟨RX2, "wipe", "()V"⟩
abbrev cX2_hasField : ByteArray := prog_4_method_3_code
def yX2_hasField : MethodName := ⟨RX2, "hasField", "(I)Z"⟩
abbrev cX2_hasSide : ByteArray := prog_4_method_4_code
def yX2_hasSide : MethodName := ⟨RX2, "hasSide", "(I)Z"⟩
abbrev cX2_isOpen : ByteArray := prog_4_method_5_code
def yX2_isOpen : MethodName := ⟨RX2, "isOpen", "(I)Z"⟩
abbrev cX2_addField : ByteArray := prog_4_method_6_code
def yX2_addField : MethodName := ⟨RX2, "addField", "()I"⟩
abbrev cX2_addSide : ByteArray := prog_4_method_7_code
def yX2_addSide : MethodName := ⟨RX2, "addSide", "(II)I"⟩
abbrev cX2_canTakeSide : ByteArray := prog_4_method_8_code
def yX2_canTakeSide : MethodName := ⟨RX2, "canTakeSide", "(I)Z"⟩
abbrev cX2_attach : ByteArray := prog_4_method_9_code
def yX2_attach : MethodName := ⟨RX2, "attach", "(I)V"⟩
abbrev cX2_layGrid : ByteArray := prog_4_method_10_code
def yX2_layGrid : MethodName := ⟨RX2, "layGrid", "(II)V"⟩
abbrev cX2_addBetween : ByteArray := prog_4_method_11_code
def yX2_addBetween : MethodName := ⟨RX2, "addBetween", "(II)V"⟩
abbrev cX2_sideAt : ByteArray := prog_4_method_12_code
def yX2_sideAt : MethodName := ⟨RX2, "sideAt", "(II)I"⟩
abbrev cX2_across : ByteArray := prog_4_method_13_code
def yX2_across : MethodName := ⟨RX2, "across", "(II)I"⟩
abbrev cX2_closedBy : ByteArray := prog_4_method_14_code
def yX2_closedBy : MethodName := ⟨RX2, "closedBy", "(I)I"⟩
abbrev cX2_takeNew : ByteArray := prog_4_method_15_code
def yX2_takeNew : MethodName := ⟨RX2, "takeNew", "(I)I"⟩
abbrev cX2_takeAgain : ByteArray := prog_4_method_16_code
def yX2_takeAgain : MethodName := ⟨RX2, "takeAgain", "()I"⟩
abbrev cX2_takeBack : ByteArray := prog_4_method_17_code
def yX2_takeBack : MethodName := ⟨RX2, "takeBack", "()I"⟩
abbrev cX2_take : ByteArray := prog_4_method_18_code
def yX2_take : MethodName := ⟨RX2, "take", "(I)I"⟩
abbrev cX2_fence : ByteArray := prog_4_method_19_code
def yX2_fence : MethodName := ⟨RX2, "fence", "(I)V"⟩
abbrev cX2_reopen : ByteArray := prog_4_method_20_code
def yX2_reopen : MethodName := ⟨RX2, "reopen", "(I)V"⟩
def RX3 : String := "FenceBench$Parts"
def TX3 : u_T := fun k => match k with
  | 0 => ("FenceBench$Parts", "partOf", "[I", true)
  | 1 => ("FenceBench$Parts", "kind", "[I", true)
  | 2 => ("FenceBench$Parts", "fields", "[I", true)
  | 3 => ("FenceBench$Parts", "sides", "[I", true)
  | 4 => ("FenceBench$Parts", "loose", "[I", true)
  | 5 => ("FenceBench$Parts", "least", "[I", true)
  | 6 => ("FenceBench$Parts", "queue", "[I", true)
  | 7 => ("FenceBench$Parts", "left", "[I", true)
  | 8 => ("FenceBench$Parts", "queued", "I", false)
  | 9 => ("FenceBench$Parts", "count", "I", false)
  | 10 => ("FenceBench$Parts", "knots", "I", false)
  | _ => ("FenceBench$Parts", "seen", "I", false)
def tyX3 : Nat → FieldType := fun k => match k with
  | 0 => .array .int
  | 1 => .array .int
  | 2 => .array .int
  | 3 => .array .int
  | 4 => .array .int
  | 5 => .array .int
  | 6 => .array .int
  | 7 => .array .int
  | 8 => .int
  | 9 => .int
  | 10 => .int
  | _ => .int
theorem nmX3 : ∀ a, a < 12 → ∀ b, b < 12 → a ≠ b → (TX3 a).2.1 ≠ (TX3 b).2.1 := by decide +kernel
theorem tyX3_ok : ∀ k, k < 12 → parseFieldDescriptor (TX3 k).2.2.1 = some (tyX3 k) := by decide +kernel
abbrev cX3_init : ByteArray := prog_5_method_1_code
def yX3_init : MethodName := ⟨RX3, "<init>", "()V"⟩
abbrev cX3_survey : ByteArray := prog_5_method_2_code
def yX3_survey : MethodName := ⟨RX3, "survey", "(LFenceBench$Meadow;)V"⟩
abbrev cX3_gather : ByteArray := prog_5_method_3_code
def yX3_gather : MethodName := ⟨RX3, "gather", "(LFenceBench$Meadow;I)V"⟩
abbrev cX3_join : ByteArray := prog_5_method_4_code
def yX3_join : MethodName := ⟨RX3, "join", "(I)V"⟩
abbrev cX3_describe : ByteArray := prog_5_method_5_code
def yX3_describe : MethodName := ⟨RX3, "describe", "(LFenceBench$Meadow;)V"⟩
abbrev cX3_openOutside : ByteArray := prog_5_method_6_code
def yX3_openOutside : MethodName := ⟨RX3, "openOutside", "(LFenceBench$Meadow;I)I"⟩
abbrev cX3_countLongs : ByteArray := prog_5_method_7_code
def yX3_countLongs : MethodName := ⟨RX3, "countLongs", "()I"⟩
abbrev cX3_closable : ByteArray := prog_5_method_8_code
def yX3_closable : MethodName := ⟨RX3, "closable", "(LFenceBench$Meadow;)I"⟩
abbrev cX3_queueIfLast : ByteArray := prog_5_method_9_code
def yX3_queueIfLast : MethodName := ⟨RX3, "queueIfLast", "(I)V"⟩
abbrev cX3_closeOne : ByteArray := prog_5_method_10_code
def yX3_closeOne : MethodName := ⟨RX3, "closeOne", "(LFenceBench$Meadow;I)I"⟩
abbrev cX3_neighbourLeft : ByteArray := prog_5_method_11_code
def yX3_neighbourLeft : MethodName := ⟨RX3, "neighbourLeft", "(LFenceBench$Meadow;I)I"⟩
def RX4 : String := "FenceBench$Ways"
def TX4 : u_T := fun k => match k with
  | 0 => ("FenceBench$Ways", "base", "[I", true)
  | 1 => ("FenceBench$Ways", "firstField", "[I", true)
  | 2 => ("FenceBench$Ways", "secondField", "[I", true)
  | 3 => ("FenceBench$Ways", "size", "I", false)
  | _ => ("FenceBench$Ways", "table", "[J", false)
def tyX4 : Nat → FieldType := fun k => match k with
  | 0 => .array .int
  | 1 => .array .int
  | 2 => .array .int
  | 3 => .int
  | _ => .array .long
theorem nmX4 : ∀ a, a < 5 → ∀ b, b < 5 → a ≠ b → (TX4 a).2.1 ≠ (TX4 b).2.1 := by decide +kernel
theorem tyX4_ok : ∀ k, k < 5 → parseFieldDescriptor (TX4 k).2.2.1 = some (tyX4 k) := by decide +kernel
abbrev cX4_init : ByteArray := prog_6_method_1_code
def yX4_init : MethodName := ⟨RX4, "<init>", "()V"⟩
abbrev cX4_forget : ByteArray := prog_6_method_2_code
def yX4_forget : MethodName := ⟨RX4, "forget", "()V"⟩
abbrev cX4_worthOfAll : ByteArray := prog_6_method_3_code
def yX4_worthOfAll : MethodName := ⟨RX4, "worthOfAll", "(LFenceBench$Meadow;)I"⟩
abbrev cX4_worthOfOne : ByteArray := prog_6_method_4_code
def yX4_worthOfOne : MethodName := ⟨RX4, "worthOfOne", "(LFenceBench$Meadow;I)I"⟩
abbrev cX4_bestSide : ByteArray := prog_6_method_5_code
def yX4_bestSide : MethodName := ⟨RX4, "bestSide", "(LFenceBench$Meadow;I)I"⟩
abbrev cX4_worthInSet : ByteArray := prog_6_method_6_code
def yX4_worthInSet : MethodName := ⟨RX4, "worthInSet", "(II)I"⟩
abbrev cX4_openSet : ByteArray := prog_6_method_7_code
def yX4_openSet : MethodName := ⟨RX4, "openSet", "(LFenceBench$Meadow;)I"⟩
abbrev cX4_openInBase : ByteArray := prog_6_method_8_code
def yX4_openInBase : MethodName := ⟨RX4, "openInBase", "(LFenceBench$Meadow;)I"⟩
abbrev cX4_keptOfBase : ByteArray := prog_6_method_9_code
def yX4_keptOfBase : MethodName := ⟨RX4, "keptOfBase", "(LFenceBench$Meadow;)I"⟩
abbrev cX4_widen : ByteArray := prog_6_method_10_code
def yX4_widen : MethodName := ⟨RX4, "widen", "(LFenceBench$Meadow;I)V"⟩
abbrev cX4_isKept : ByteArray := prog_6_method_11_code
def yX4_isKept : MethodName := ⟨RX4, "isKept", "(II)Z"⟩
abbrev cX4_setOf : ByteArray := prog_6_method_12_code
def yX4_setOf : MethodName := ⟨RX4, "setOf", "(LFenceBench$Meadow;I)I"⟩
abbrev cX4_fill : ByteArray := prog_6_method_13_code
def yX4_fill : MethodName := ⟨RX4, "fill", "(I)V"⟩
abbrev cX4_bestOfSet : ByteArray := prog_6_method_14_code
def yX4_bestOfSet : MethodName := ⟨RX4, "bestOfSet", "(I)I"⟩
abbrev cX4_worthOfDraw : ByteArray := prog_6_method_15_code
def yX4_worthOfDraw : MethodName := ⟨RX4, "worthOfDraw", "(II)I"⟩
abbrev cX4_worthOfSet : ByteArray := prog_6_method_16_code
def yX4_worthOfSet : MethodName := ⟨RX4, "worthOfSet", "(I)I"⟩
def RX5 : String := "FenceBench"
def TX5 : u_T := fun k => match k with
  | 0 => ("FenceBench", "meadow", "LFenceBench$Meadow;", true)
  | 1 => ("FenceBench", "parts", "LFenceBench$Parts;", true)
  | 2 => ("FenceBench", "ways", "LFenceBench$Ways;", true)
  | 3 => ("FenceBench", "ends", "LFenceBench$Ends;", true)
  | _ => ("FenceBench", "lengths", "LFenceBench$Lengths;", true)
def tyX5 : Nat → FieldType := fun k => match k with
  | 0 => .object "FenceBench$Meadow"
  | 1 => .object "FenceBench$Parts"
  | 2 => .object "FenceBench$Ways"
  | 3 => .object "FenceBench$Ends"
  | _ => .object "FenceBench$Lengths"
theorem nmX5 : ∀ a, a < 5 → ∀ b, b < 5 → a ≠ b → (TX5 a).2.1 ≠ (TX5 b).2.1 := by decide +kernel
theorem tyX5_ok : ∀ k, k < 5 → parseFieldDescriptor (TX5 k).2.2.1 = some (tyX5 k) := by decide +kernel
abbrev cX5_init : ByteArray := prog_1_method_1_code
def yX5_init : MethodName := ⟨RX5, "<init>", "()V"⟩
abbrev cX5_clear : ByteArray := prog_1_method_2_code
def yX5_clear : MethodName := ⟨RX5, "clear", "()V"⟩
abbrev cX5_field : ByteArray := prog_1_method_3_code
def yX5_field : MethodName := ⟨RX5, "field", "()I"⟩
abbrev cX5_side : ByteArray := prog_1_method_4_code
def yX5_side : MethodName := ⟨RX5, "side", "(II)I"⟩
abbrev cX5_grid : ByteArray := prog_1_method_5_code
def yX5_grid : MethodName := ⟨RX5, "grid", "(II)Z"⟩
abbrev cX5_draw : ByteArray := prog_1_method_6_code
def yX5_draw : MethodName := ⟨RX5, "draw", "(I)I"⟩
abbrev cX5_undo : ByteArray := prog_1_method_7_code
def yX5_undo : MethodName := ⟨RX5, "undo", "()I"⟩
abbrev cX5_redo : ByteArray := prog_1_method_8_code
def yX5_redo : MethodName := ⟨RX5, "redo", "()I"⟩
abbrev cX5_whose : ByteArray := prog_1_method_9_code
def yX5_whose : MethodName := ⟨RX5, "whose", "()I"⟩
abbrev cX5_look : ByteArray := prog_1_method_10_code
def yX5_look : MethodName := ⟨RX5, "look", "(II)I"⟩
abbrev cX5_ask : ByteArray := prog_1_method_11_code
def yX5_ask : MethodName := ⟨RX5, "ask", "(II)I"⟩
abbrev cX5_drawn : ByteArray := prog_1_method_12_code
def yX5_drawn : MethodName := ⟨RX5, "drawn", "(I)I"⟩
abbrev cX5_part : ByteArray := prog_1_method_13_code
def yX5_part : MethodName := ⟨RX5, "part", "(II)I"⟩
abbrev cX5_loose : ByteArray := prog_1_method_14_code
def yX5_loose : MethodName := ⟨RX5, "loose", "()I"⟩
abbrev cX5_worth : ByteArray := prog_1_method_15_code
def yX5_worth : MethodName := ⟨RX5, "worth", "()I"⟩
abbrev cX5_worthOf : ByteArray := prog_1_method_16_code
def yX5_worthOf : MethodName := ⟨RX5, "worthOf", "(I)I"⟩
abbrev cX5_best : ByteArray := prog_1_method_17_code
def yX5_best : MethodName := ⟨RX5, "best", "(I)I"⟩
abbrev cX5_simple : ByteArray := prog_1_method_18_code
def yX5_simple : MethodName := ⟨RX5, "simple", "()I"⟩
abbrev cX5_keep : ByteArray := prog_1_method_19_code
def yX5_keep : MethodName := ⟨RX5, "keep", "()I"⟩
abbrev cX5_give : ByteArray := prog_1_method_20_code
def yX5_give : MethodName := ⟨RX5, "give", "(I)I"⟩
abbrev cX5_longs : ByteArray := prog_1_method_21_code
def yX5_longs : MethodName := ⟨RX5, "longs", "()I"⟩
abbrev cX5_count : ByteArray := prog_1_method_22_code
def yX5_count : MethodName := ⟨RX5, "count", "(I)I"⟩
abbrev cX5_empty : ByteArray := prog_1_method_23_code
def yX5_empty : MethodName := ⟨RX5, "empty", "()V"⟩
abbrev cX5_heap : ByteArray := prog_1_method_24_code
def yX5_heap : MethodName := ⟨RX5, "heap", "(ZII)I"⟩
abbrev cX5_value : ByteArray := prog_1_method_25_code
def yX5_value : MethodName := ⟨RX5, "value", "()I"⟩
abbrev cX5_open : ByteArray := prog_1_method_26_code
def yX5_open : MethodName := ⟨RX5, "open", "(I)I"⟩
abbrev cX5_isTooWide : ByteArray := prog_1_method_27_code
def yX5_isTooWide : MethodName := ⟨RX5, "isTooWide", "()Z"⟩
abbrev cX5_surveyed : ByteArray := prog_1_method_28_code
def yX5_surveyed : MethodName := ⟨RX5, "surveyed", "()LFenceBench$Parts;"⟩
abbrev cX5_reckoned : ByteArray := prog_1_method_29_code
def yX5_reckoned : MethodName := ⟨RX5, "reckoned", "()LFenceBench$Ends;"⟩
def RX6 : String := "FenceBenchModel"
def TX6 : u_T := fun k => match k with
  | 0 => ("FenceBenchModel", "thrown", "I", false)
  | 1 => ("FenceBenchModel", "fields", "I", false)
  | 2 => ("FenceBenchModel", "sides", "I", false)
  | 3 => ("FenceBenchModel", "drawn", "I", false)
  | 4 => ("FenceBenchModel", "all", "I", false)
  | 5 => ("FenceBenchModel", "one", "[I", true)
  | 6 => ("FenceBenchModel", "two", "[I", true)
  | 7 => ("FenceBenchModel", "many", "[I", true)
  | 8 => ("FenceBenchModel", "draws", "[I", true)
  | 9 => ("FenceBenchModel", "isOpen", "[Z", true)
  | 10 => ("FenceBenchModel", "owner", "[I", true)
  | 11 => ("FenceBenchModel", "turn", "I", false)
  | 12 => ("FenceBenchModel", "partOf", "[I", true)
  | 13 => ("FenceBenchModel", "partFields", "[I", true)
  | 14 => ("FenceBenchModel", "partSides", "[I", true)
  | 15 => ("FenceBenchModel", "partLoose", "[I", true)
  | 16 => ("FenceBenchModel", "partKind", "[I", true)
  | 17 => ("FenceBenchModel", "partLeast", "[I", true)
  | 18 => ("FenceBenchModel", "parts", "I", false)
  | 19 => ("FenceBenchModel", "worths", "[I", true)
  | 20 => ("FenceBenchModel", "openAt", "[I", true)
  | 21 => ("FenceBenchModel", "holds", "[I", true)
  | 22 => ("FenceBenchModel", "ways", "I", false)
  | 23 => ("FenceBenchModel", "length", "[I", true)
  | 24 => ("FenceBenchModel", "number", "[I", true)
  | 25 => ("FenceBenchModel", "step", "[I", true)
  | 26 => ("FenceBenchModel", "ring", "[Z", true)
  | 27 => ("FenceBenchModel", "kinds", "I", false)
  | 28 => ("FenceBenchModel", "values", "[I", true)
  | 29 => ("FenceBenchModel", "chains", "[I", true)
  | 30 => ("FenceBenchModel", "rings", "[I", true)
  | 31 => ("FenceBenchModel", "heapChains", "[I", true)
  | 32 => ("FenceBenchModel", "heapRings", "[I", true)
  | 33 => ("FenceBenchModel", "top", "I", false)
  | 34 => ("FenceBenchModel", "looseFields", "I", false)
  | 35 => ("FenceBenchModel", "leavesTwo", "Z", false)
  | _ => ("FenceBenchModel", "leavesFour", "Z", false)
def tyX6 : Nat → FieldType := fun k => match k with
  | 0 => .int
  | 1 => .int
  | 2 => .int
  | 3 => .int
  | 4 => .int
  | 5 => .array .int
  | 6 => .array .int
  | 7 => .array .int
  | 8 => .array .int
  | 9 => .array .boolean
  | 10 => .array .int
  | 11 => .int
  | 12 => .array .int
  | 13 => .array .int
  | 14 => .array .int
  | 15 => .array .int
  | 16 => .array .int
  | 17 => .array .int
  | 18 => .int
  | 19 => .array .int
  | 20 => .array .int
  | 21 => .array .int
  | 22 => .int
  | 23 => .array .int
  | 24 => .array .int
  | 25 => .array .int
  | 26 => .array .boolean
  | 27 => .int
  | 28 => .array .int
  | 29 => .array .int
  | 30 => .array .int
  | 31 => .array .int
  | 32 => .array .int
  | 33 => .int
  | 34 => .int
  | 35 => .boolean
  | _ => .boolean
theorem nmX6 : ∀ a, a < 37 → ∀ b, b < 37 → a ≠ b → (TX6 a).2.1 ≠ (TX6 b).2.1 := by decide +kernel
theorem tyX6_ok : ∀ k, k < 37 → parseFieldDescriptor (TX6 k).2.2.1 = some (tyX6 k) := by decide +kernel
abbrev cX6_init : ByteArray := prog_8_method_1_code
def yX6_init : MethodName := ⟨RX6, "<init>", "()V"⟩
abbrev cX6_thrown : ByteArray := prog_8_method_2_code
def yX6_thrown : MethodName := ⟨RX6, "thrown", "()I"⟩
abbrev cX6_isField : ByteArray := prog_8_method_3_code
def yX6_isField : MethodName := ⟨RX6, "isField", "(I)Z"⟩
abbrev cX6_isSide : ByteArray := prog_8_method_4_code
def yX6_isSide : MethodName := ⟨RX6, "isSide", "(I)Z"⟩
abbrev cX6_isOf : ByteArray := prog_8_method_5_code
def yX6_isOf : MethodName := ⟨RX6, "isOf", "(II)Z"⟩
abbrev cX6_openSides : ByteArray := prog_8_method_6_code
def yX6_openSides : MethodName := ⟨RX6, "openSides", "(I)I"⟩
abbrev cX6_closes : ByteArray := prog_8_method_7_code
def yX6_closes : MethodName := ⟨RX6, "closes", "(I)I"⟩
abbrev cX6_play : ByteArray := prog_8_method_8_code
def yX6_play : MethodName := ⟨RX6, "play", "()V"⟩
abbrev cX6_clear : ByteArray := prog_8_method_9_code
def yX6_clear : MethodName := ⟨RX6, "clear", "()V"⟩
abbrev cX6_field : ByteArray := prog_8_method_10_code
def yX6_field : MethodName := ⟨RX6, "field", "()I"⟩
abbrev cX6_side : ByteArray := prog_8_method_11_code
def yX6_side : MethodName := ⟨RX6, "side", "(II)I"⟩
abbrev cX6_sideOf : ByteArray := prog_8_method_12_code
def yX6_sideOf : MethodName := ⟨RX6, "sideOf", "(II)V"⟩
abbrev cX6_grid : ByteArray := prog_8_method_13_code
def yX6_grid : MethodName := ⟨RX6, "grid", "(II)Z"⟩
abbrev cX6_draw : ByteArray := prog_8_method_14_code
def yX6_draw : MethodName := ⟨RX6, "draw", "(I)I"⟩
abbrev cX6_undo : ByteArray := prog_8_method_15_code
def yX6_undo : MethodName := ⟨RX6, "undo", "()I"⟩
abbrev cX6_redo : ByteArray := prog_8_method_16_code
def yX6_redo : MethodName := ⟨RX6, "redo", "()I"⟩
abbrev cX6_open : ByteArray := prog_8_method_17_code
def yX6_open : MethodName := ⟨RX6, "open", "()I"⟩
abbrev cX6_whose : ByteArray := prog_8_method_18_code
def yX6_whose : MethodName := ⟨RX6, "whose", "()I"⟩
abbrev cX6_cut : ByteArray := prog_8_method_19_code
def yX6_cut : MethodName := ⟨RX6, "cut", "()V"⟩
abbrev cX6_about : ByteArray := prog_8_method_20_code
def yX6_about : MethodName := ⟨RX6, "about", "(I)V"⟩
abbrev cX6_look : ByteArray := prog_8_method_21_code
def yX6_look : MethodName := ⟨RX6, "look", "(II)I"⟩
abbrev cX6_ask : ByteArray := prog_8_method_22_code
def yX6_ask : MethodName := ⟨RX6, "ask", "(II)I"⟩
abbrev cX6_drawn : ByteArray := prog_8_method_23_code
def yX6_drawn : MethodName := ⟨RX6, "drawn", "(I)I"⟩
abbrev cX6_part : ByteArray := prog_8_method_24_code
def yX6_part : MethodName := ⟨RX6, "part", "(II)I"⟩
abbrev cX6_loose : ByteArray := prog_8_method_25_code
def yX6_loose : MethodName := ⟨RX6, "loose", "()I"⟩
abbrev cX6_tries : ByteArray := prog_8_method_26_code
def yX6_tries : MethodName := ⟨RX6, "tries", "()Z"⟩
abbrev cX6_behind : ByteArray := prog_8_method_27_code
def yX6_behind : MethodName := ⟨RX6, "behind", "(II)I"⟩
abbrev cX6_worth : ByteArray := prog_8_method_28_code
def yX6_worth : MethodName := ⟨RX6, "worth", "()I"⟩
abbrev cX6_worthAt : ByteArray := prog_8_method_29_code
def yX6_worthAt : MethodName := ⟨RX6, "worthAt", "(I)I"⟩
abbrev cX6_worthOf : ByteArray := prog_8_method_30_code
def yX6_worthOf : MethodName := ⟨RX6, "worthOf", "(I)I"⟩
abbrev cX6_best : ByteArray := prog_8_method_31_code
def yX6_best : MethodName := ⟨RX6, "best", "(I)I"⟩
abbrev cX6_values : ByteArray := prog_8_method_32_code
def yX6_values : MethodName := ⟨RX6, "values", "([I[I)Z"⟩
abbrev cX6_opened : ByteArray := prog_8_method_33_code
def yX6_opened : MethodName := ⟨RX6, "opened", "(II)I"⟩
abbrev cX6_opens : ByteArray := prog_8_method_34_code
def yX6_opens : MethodName := ⟨RX6, "opens", "(I)I"⟩
abbrev cX6_isSimple : ByteArray := prog_8_method_35_code
def yX6_isSimple : MethodName := ⟨RX6, "isSimple", "()Z"⟩
abbrev cX6_lengths : ByteArray := prog_8_method_36_code
def yX6_lengths : MethodName := ⟨RX6, "lengths", "()Z"⟩
abbrev cX6_left : ByteArray := prog_8_method_37_code
def yX6_left : MethodName := ⟨RX6, "left", "()I"⟩
abbrev cX6_simple : ByteArray := prog_8_method_38_code
def yX6_simple : MethodName := ⟨RX6, "simple", "()I"⟩
abbrev cX6_keep : ByteArray := prog_8_method_39_code
def yX6_keep : MethodName := ⟨RX6, "keep", "()I"⟩
abbrev cX6_give : ByteArray := prog_8_method_40_code
def yX6_give : MethodName := ⟨RX6, "give", "(I)I"⟩
abbrev cX6_longs : ByteArray := prog_8_method_41_code
def yX6_longs : MethodName := ⟨RX6, "longs", "()I"⟩
abbrev cX6_count : ByteArray := prog_8_method_42_code
def yX6_count : MethodName := ⟨RX6, "count", "(I)I"⟩
abbrev cX6_empty : ByteArray := prog_8_method_43_code
def yX6_empty : MethodName := ⟨RX6, "empty", "()V"⟩
abbrev cX6_heap : ByteArray := prog_8_method_44_code
def yX6_heap : MethodName := ⟨RX6, "heap", "(ZII)I"⟩
abbrev cX6_value : ByteArray := prog_8_method_45_code
def yX6_value : MethodName := ⟨RX6, "value", "()I"⟩
abbrev cX6_open_ : ByteArray := prog_8_method_46_code
def yX6_open_ : MethodName := ⟨RX6, "open", "(I)I"⟩
def RJx8e188 : String := "java/lang/Cloneable"
def RJ6 : String := "java/lang/Integer"
abbrev cJ6_compare_7cf53 : ByteArray := prog_12_method_40_code
def yJ6_compare_7cf53 : MethodName := ⟨RJ6, "compare", "(II)I"⟩
abbrev cJ6_bitCount_0f7a4 : ByteArray := prog_12_method_49_code
def yJ6_bitCount_0f7a4 : MethodName := ⟨RJ6, "bitCount", "(I)I"⟩
def RJ9 : String := "java/lang/Math"
abbrev cJ9_max_7cf53 : ByteArray := prog_13_method_65_code
def yJ9_max_7cf53 : MethodName := ⟨RJ9, "max", "(II)I"⟩
abbrev cJ9_min_7cf53 : ByteArray := prog_13_method_69_code
def yJ9_min_7cf53 : MethodName := ⟨RJ9, "min", "(II)I"⟩
def RJ0 : String := "java/lang/String"
def RJ10 : String := "java/lang/System"
def RJ7 : String := "java/util/Arrays"
abbrev cJ7_fill_53178 : ByteArray := prog_18_method_103_code
def yJ7_fill_53178 : MethodName := ⟨RJ7, "fill", "([II)V"⟩
abbrev cJ7_copyOf_c38d5 : ByteArray := prog_18_method_124_code
def yJ7_copyOf_c38d5 : MethodName := ⟨RJ7, "copyOf", "([JI)[J"⟩
def RL : String := "FenceBenchLaw"
abbrev cL_drawn : ByteArray := method_3_code
def yL_drawn : MethodName := ⟨RL, "drawn", "(LFenceBench;I[J)I"⟩
abbrev cL_value : ByteArray := method_4_code
def yL_value : MethodName := ⟨RL, "value", "(LFenceBench;[J)I"⟩
abbrev cL_law : ByteArray := code
def yL_law : MethodName := ⟨RL, "law", "([I)Z"⟩
abbrev vwCl : List vw_C := [(RX0, TX0, 7), (RX1, TX1, 11), (RX2, TX2, 17), (RX3, TX3, 12), (RX4, TX4, 5), (RX5, TX5, 5), (RX6, TX6, 37)]
end
section
/-! THE WORDS: one list for all methods; a word is known by its place in the tables -/
def T0 : List Cond := lw_tbl.filter goodWord
theorem mT {w : Cond} {i : Nat} (h : lw_tbl[i]? = some w) (g : goodWord w = true) : w ∈ T0 := List.mem_filter.mpr ⟨List.mem_of_getElem? h, g⟩
theorem mN {w : Cond} {i : Nat} (h : lw_tbl[i]? = some w) : w ∈ lw_tbl := List.mem_of_getElem? h
theorem mT_all {ws : List Cond} {ps : List Nat} (h : ws = ps.filterMap (fun i => lw_tbl[i]?)) (g : ws.all goodWord = true) : ∀ w ∈ ws, w ∈ T0 := by
  intro w hw
  have h1 := List.all_eq_true.mp g w hw
  rw [h] at hw
  obtain ⟨i, -, hi⟩ := List.mem_filterMap.mp hw
  exact mT hi h1
abbrev wd (y : MethodName) (c : ByteArray) (n : Nat) (r : Option FieldType) : List Cond := Cond.code y c n r :: T0
theorem gd {y : MethodName} {c : ByteArray} {n : Nat} {r : Option FieldType} (h : Cond.code y c n r ∈ T0) : GoodIn T0 (wd y c n r) := fun w hw => by
  have hw0 : w ∈ T0 := (List.mem_cons.mp hw).elim (fun e => e ▸ h) id
  exact ⟨hw0, good_of_word (List.mem_filter.mp hw0).2⟩
theorem k_0 : (Cond.selects RX2 yX2_canTakeSide yX2_canTakeSide) ∈ T0 := mT (i := 0) (by decide +kernel) (by decide +kernel)
theorem k_1 : (Cond.selects RX2 yX2_attach yX2_attach) ∈ T0 := mT (i := 1) (by decide +kernel) (by decide +kernel)
theorem k_2 : (Cond.selects RX2 yX2_addBetween yX2_addBetween) ∈ T0 := mT (i := 2) (by decide +kernel) (by decide +kernel)
theorem k_3 : (Cond.selects RX2 yX2_take yX2_take) ∈ T0 := mT (i := 3) (by decide +kernel) (by decide +kernel)
theorem k_4 : (Cond.selects RX2 yX2_fence yX2_fence) ∈ T0 := mT (i := 4) (by decide +kernel) (by decide +kernel)
theorem k_5 : (Cond.selects RX2 yX2_reopen yX2_reopen) ∈ T0 := mT (i := 5) (by decide +kernel) (by decide +kernel)
theorem k_6 : (Cond.selects RX5 yX5_surveyed yX5_surveyed) ∈ T0 := mT (i := 6) (by decide +kernel) (by decide +kernel)
theorem k_7 : (Cond.selects RX3 yX3_gather yX3_gather) ∈ T0 := mT (i := 7) (by decide +kernel) (by decide +kernel)
theorem k_8 : (Cond.selects RX3 yX3_join yX3_join) ∈ T0 := mT (i := 8) (by decide +kernel) (by decide +kernel)
theorem k_9 : (Cond.selects RX3 yX3_describe yX3_describe) ∈ T0 := mT (i := 9) (by decide +kernel) (by decide +kernel)
theorem k_10 : (Cond.selects RX3 yX3_openOutside yX3_openOutside) ∈ T0 := mT (i := 10) (by decide +kernel) (by decide +kernel)
theorem k_11 : (Cond.selects RX3 yX3_queueIfLast yX3_queueIfLast) ∈ T0 := mT (i := 11) (by decide +kernel) (by decide +kernel)
theorem k_12 : (Cond.selects RX3 yX3_closeOne yX3_closeOne) ∈ T0 := mT (i := 12) (by decide +kernel) (by decide +kernel)
theorem k_13 : (Cond.selects RX3 yX3_neighbourLeft yX3_neighbourLeft) ∈ T0 := mT (i := 13) (by decide +kernel) (by decide +kernel)
theorem k_14 : (Cond.selects RX5 yX5_isTooWide yX5_isTooWide) ∈ T0 := mT (i := 14) (by decide +kernel) (by decide +kernel)
theorem k_15 : (Cond.selects RX4 yX4_openSet yX4_openSet) ∈ T0 := mT (i := 15) (by decide +kernel) (by decide +kernel)
theorem k_16 : (Cond.selects RX4 yX4_openInBase yX4_openInBase) ∈ T0 := mT (i := 16) (by decide +kernel) (by decide +kernel)
theorem k_17 : (Cond.selects RX4 yX4_keptOfBase yX4_keptOfBase) ∈ T0 := mT (i := 17) (by decide +kernel) (by decide +kernel)
theorem k_18 : (Cond.selects RX4 yX4_widen yX4_widen) ∈ T0 := mT (i := 18) (by decide +kernel) (by decide +kernel)
theorem k_19 : (Cond.selects RX4 yX4_isKept yX4_isKept) ∈ T0 := mT (i := 19) (by decide +kernel) (by decide +kernel)
theorem k_20 : (Cond.selects RX4 yX4_setOf yX4_setOf) ∈ T0 := mT (i := 20) (by decide +kernel) (by decide +kernel)
theorem k_21 : (Cond.selects RX4 yX4_fill yX4_fill) ∈ T0 := mT (i := 21) (by decide +kernel) (by decide +kernel)
theorem k_22 : (Cond.selects RX4 yX4_bestOfSet yX4_bestOfSet) ∈ T0 := mT (i := 22) (by decide +kernel) (by decide +kernel)
theorem k_23 : (Cond.selects RX4 yX4_worthOfDraw yX4_worthOfDraw) ∈ T0 := mT (i := 23) (by decide +kernel) (by decide +kernel)
theorem k_24 : (Cond.selects RX4 yX4_worthOfSet yX4_worthOfSet) ∈ T0 := mT (i := 24) (by decide +kernel) (by decide +kernel)
theorem k_25 : (Cond.selects RX4 yX4_worthInSet yX4_worthInSet) ∈ T0 := mT (i := 25) (by decide +kernel) (by decide +kernel)
theorem k_26 : (Cond.selects RX5 yX5_reckoned yX5_reckoned) ∈ T0 := mT (i := 26) (by decide +kernel) (by decide +kernel)
theorem k_27 : (Cond.selects RX0 yX0_takeLoose yX0_takeLoose) ∈ T0 := mT (i := 27) (by decide +kernel) (by decide +kernel)
theorem k_28 : (Cond.selects RX1 yX1_placeOf yX1_placeOf) ∈ T0 := mT (i := 28) (by decide +kernel) (by decide +kernel)
theorem k_29 : (Cond.selects RX1 yX1_layOut yX1_layOut) ∈ T0 := mT (i := 29) (by decide +kernel) (by decide +kernel)
theorem k_30 : (Cond.selects RX1 yX1_layOutKind yX1_layOutKind) ∈ T0 := mT (i := 30) (by decide +kernel) (by decide +kernel)
theorem k_31 : (Cond.selects RX1 yX1_isRing yX1_isRing) ∈ T0 := mT (i := 31) (by decide +kernel) (by decide +kernel)
theorem k_32 : (Cond.selects RX1 yX1_fillAll yX1_fillAll) ∈ T0 := mT (i := 32) (by decide +kernel) (by decide +kernel)
theorem k_33 : (Cond.selects RX1 yX1_countUp yX1_countUp) ∈ T0 := mT (i := 33) (by decide +kernel) (by decide +kernel)
theorem k_34 : (Cond.selects RX1 yX1_bestAt yX1_bestAt) ∈ T0 := mT (i := 34) (by decide +kernel) (by decide +kernel)
theorem k_35 : (Cond.selects RX1 yX1_openingAt yX1_openingAt) ∈ T0 := mT (i := 35) (by decide +kernel) (by decide +kernel)
theorem k_36 : (Cond.selects RX0 yX0_closingAll yX0_closingAll) ∈ T0 := mT (i := 36) (by decide +kernel) (by decide +kernel)
theorem k_37 : (Cond.selects RX0 yX0_canLeave yX0_canLeave) ∈ T0 := mT (i := 37) (by decide +kernel) (by decide +kernel)
theorem k_38 : (Cond.selects RX0 yX0_leavingSome yX0_leavingSome) ∈ T0 := mT (i := 38) (by decide +kernel) (by decide +kernel)
theorem k_39 : (Cond.selects "java/lang/Throwable" ⟨"java/lang/Throwable", "fillInStackTrace", "(I)Ljava/lang/Throwable;"⟩ ⟨"java/lang/Throwable", "fillInStackTrace", "(I)Ljava/lang/Throwable;"⟩) ∈ T0 := mT (i := 39) (by decide +kernel) (by decide +kernel)
theorem k_40 : (Cond.selects RX6 yX6_isField yX6_isField) ∈ T0 := mT (i := 40) (by decide +kernel) (by decide +kernel)
theorem k_41 : (Cond.selects RX6 yX6_sideOf yX6_sideOf) ∈ T0 := mT (i := 41) (by decide +kernel) (by decide +kernel)
theorem k_42 : (Cond.selects RX6 yX6_play yX6_play) ∈ T0 := mT (i := 42) (by decide +kernel) (by decide +kernel)
theorem k_43 : (Cond.selects RX6 yX6_closes yX6_closes) ∈ T0 := mT (i := 43) (by decide +kernel) (by decide +kernel)
theorem k_44 : (Cond.selects RX6 yX6_openSides yX6_openSides) ∈ T0 := mT (i := 44) (by decide +kernel) (by decide +kernel)
theorem k_45 : (Cond.selects RX6 yX6_isOf yX6_isOf) ∈ T0 := mT (i := 45) (by decide +kernel) (by decide +kernel)
theorem k_46 : (Cond.selects RX6 yX6_isSide yX6_isSide) ∈ T0 := mT (i := 46) (by decide +kernel) (by decide +kernel)
theorem k_47 : (Cond.selects RX6 yX6_open yX6_open) ∈ T0 := mT (i := 47) (by decide +kernel) (by decide +kernel)
theorem k_48 : (Cond.selects RX6 yX6_cut yX6_cut) ∈ T0 := mT (i := 48) (by decide +kernel) (by decide +kernel)
theorem k_49 : (Cond.selects RX6 yX6_about yX6_about) ∈ T0 := mT (i := 49) (by decide +kernel) (by decide +kernel)
theorem k_50 : (Cond.selects RX6 yX6_tries yX6_tries) ∈ T0 := mT (i := 50) (by decide +kernel) (by decide +kernel)
theorem k_51 : (Cond.selects RX6 yX6_behind yX6_behind) ∈ T0 := mT (i := 51) (by decide +kernel) (by decide +kernel)
theorem k_52 : (Cond.selects RX6 yX6_worthAt yX6_worthAt) ∈ T0 := mT (i := 52) (by decide +kernel) (by decide +kernel)
theorem k_53 : (Cond.selects RX6 yX6_lengths yX6_lengths) ∈ T0 := mT (i := 53) (by decide +kernel) (by decide +kernel)
theorem k_54 : (Cond.selects RX6 yX6_isSimple yX6_isSimple) ∈ T0 := mT (i := 54) (by decide +kernel) (by decide +kernel)
theorem k_55 : (Cond.selects RX6 yX6_values yX6_values) ∈ T0 := mT (i := 55) (by decide +kernel) (by decide +kernel)
theorem k_56 : (Cond.selects RX6 yX6_opened yX6_opened) ∈ T0 := mT (i := 56) (by decide +kernel) (by decide +kernel)
theorem k_57 : (Cond.selects RX6 yX6_left yX6_left) ∈ T0 := mT (i := 57) (by decide +kernel) (by decide +kernel)
theorem k_58 : (Cond.selects RX6 yX6_opens yX6_opens) ∈ T0 := mT (i := 58) (by decide +kernel) (by decide +kernel)
theorem k_59 : (Cond.initialized RL) ∈ T0 := mT (i := 59) (by decide +kernel) (by decide +kernel)
theorem k_60 : (Cond.initialized RX5) ∈ T0 := mT (i := 60) (by decide +kernel) (by decide +kernel)
theorem k_61 : (Cond.initialized RX2) ∈ T0 := mT (i := 61) (by decide +kernel) (by decide +kernel)
theorem k_62 : (Cond.initialized RX3) ∈ T0 := mT (i := 62) (by decide +kernel) (by decide +kernel)
theorem k_63 : (Cond.initialized RX4) ∈ T0 := mT (i := 63) (by decide +kernel) (by decide +kernel)
theorem k_64 : (Cond.initialized RX0) ∈ T0 := mT (i := 64) (by decide +kernel) (by decide +kernel)
theorem k_65 : (Cond.initialized RX1) ∈ T0 := mT (i := 65) (by decide +kernel) (by decide +kernel)
theorem k_66 : (Cond.initialized RX6) ∈ T0 := mT (i := 66) (by decide +kernel) (by decide +kernel)
theorem k_67 : (Cond.initialized "java/util/Arrays") ∈ T0 := mT (i := 67) (by decide +kernel) (by decide +kernel)
theorem k_68 : (Cond.initialized "java/lang/Math") ∈ T0 := mT (i := 68) (by decide +kernel) (by decide +kernel)
theorem k_69 : (Cond.initialized "java/lang/Throwable") ∈ T0 := mT (i := 69) (by decide +kernel) (by decide +kernel)
theorem k_70 : (Cond.initialized "java/lang/Exception") ∈ T0 := mT (i := 70) (by decide +kernel) (by decide +kernel)
theorem k_71 : (Cond.initialized "java/lang/RuntimeException") ∈ T0 := mT (i := 71) (by decide +kernel) (by decide +kernel)
theorem k_72 : (Cond.initialized "java/util/NoSuchElementException") ∈ T0 := mT (i := 72) (by decide +kernel) (by decide +kernel)
theorem k_73 : (Cond.initialized "java/lang/System") ∈ T0 := mT (i := 73) (by decide +kernel) (by decide +kernel)
theorem k_74 : (Cond.initialized "java/lang/Integer") ∈ T0 := mT (i := 74) (by decide +kernel) (by decide +kernel)
theorem k_75 : (Cond.initialized "java/lang/IllegalStateException") ∈ T0 := mT (i := 75) (by decide +kernel) (by decide +kernel)
theorem k_76 : (Cond.classLink RL 8 RX5) ∈ T0 := mT (i := 76) (by decide +kernel) (by decide +kernel)
theorem k_77 : (Cond.instantiable RX5 5) ∈ T0 := mT (i := 77) (by decide +kernel) (by decide +kernel)
theorem k_78 : (Cond.methodLink RL 21 yX5_init) ∈ T0 := mT (i := 78) (by decide +kernel) (by decide +kernel)
theorem k_79 : (Cond.instanceMethod yX5_init) ∈ T0 := mT (i := 79) (by decide +kernel) (by decide +kernel)
theorem k_80 : (Cond.code yX5_init cX5_init 1 (Option.none : Option FieldType)) ∈ T0 := mT (i := 80) (by decide +kernel) (by decide +kernel)
theorem k_81 : (Cond.methodLink RX5 1 ⟨"java/lang/Object", "<init>", "()V"⟩) ∈ T0 := mT (i := 81) (by decide +kernel) (by decide +kernel)
theorem k_82 : (Cond.instanceMethod ⟨"java/lang/Object", "<init>", "()V"⟩) ∈ T0 := mT (i := 82) (by decide +kernel) (by decide +kernel)
theorem k_83 : (Cond.code ⟨"java/lang/Object", "<init>", "()V"⟩ object_method_1_code 1 (Option.none : Option FieldType)) ∈ T0 := mT (i := 83) (by decide +kernel) (by decide +kernel)
theorem k_84 : (Cond.classLink RX5 7 RX2) ∈ T0 := mT (i := 84) (by decide +kernel) (by decide +kernel)
theorem k_85 : (Cond.instantiable RX2 17) ∈ T0 := mT (i := 85) (by decide +kernel) (by decide +kernel)
theorem k_86 : (Cond.methodLinkNest RX5 9 yX2_init "FenceBench") ∈ lw_tbl := mN (i := 86) (by decide +kernel)
theorem k_87 : (Cond.instanceMethod yX2_init) ∈ T0 := mT (i := 87) (by decide +kernel) (by decide +kernel)
theorem k_88 : (Cond.code yX2_init cX2_init 1 (Option.none : Option FieldType)) ∈ T0 := mT (i := 88) (by decide +kernel) (by decide +kernel)
theorem k_89 : (Cond.methodLink RX2 3 ⟨"java/lang/Object", "<init>", "()V"⟩) ∈ T0 := mT (i := 89) (by decide +kernel) (by decide +kernel)
theorem k_90 : (Cond.fieldLink RX2 9 "FenceBench$Meadow" "first" "[I") ∈ T0 := mT (i := 90) (by decide +kernel) (by decide +kernel)
theorem k_91 : (Cond.fieldLinkNest RX4 83 "FenceBench$Meadow" "first" "[I" "FenceBench") ∈ lw_tbl := mN (i := 91) (by decide +kernel)
theorem k_92 : (Cond.fieldLinkNest RX5 106 "FenceBench$Meadow" "first" "[I" "FenceBench") ∈ lw_tbl := mN (i := 92) (by decide +kernel)
theorem k_93 : (Cond.fieldLink RX2 15 "FenceBench$Meadow" "second" "[I") ∈ T0 := mT (i := 93) (by decide +kernel) (by decide +kernel)
theorem k_94 : (Cond.fieldLinkNest RX3 95 "FenceBench$Meadow" "second" "[I" "FenceBench") ∈ lw_tbl := mN (i := 94) (by decide +kernel)
theorem k_95 : (Cond.fieldLinkNest RX4 90 "FenceBench$Meadow" "second" "[I" "FenceBench") ∈ lw_tbl := mN (i := 95) (by decide +kernel)
theorem k_96 : (Cond.fieldLinkNest RX5 109 "FenceBench$Meadow" "second" "[I" "FenceBench") ∈ lw_tbl := mN (i := 96) (by decide +kernel)
theorem k_97 : (Cond.fieldLink RX2 18 "FenceBench$Meadow" "unfenced" "[Z") ∈ T0 := mT (i := 97) (by decide +kernel) (by decide +kernel)
theorem k_98 : (Cond.fieldLinkNest RX3 87 "FenceBench$Meadow" "unfenced" "[Z" "FenceBench") ∈ lw_tbl := mN (i := 98) (by decide +kernel)
theorem k_99 : (Cond.fieldLinkNest RX4 46 "FenceBench$Meadow" "unfenced" "[Z" "FenceBench") ∈ lw_tbl := mN (i := 99) (by decide +kernel)
theorem k_100 : (Cond.fieldLink RX2 22 "FenceBench$Meadow" "line" "[I") ∈ T0 := mT (i := 100) (by decide +kernel) (by decide +kernel)
theorem k_101 : (Cond.fieldLinkNest RX5 125 "FenceBench$Meadow" "line" "[I" "FenceBench") ∈ lw_tbl := mN (i := 101) (by decide +kernel)
theorem k_102 : (Cond.fieldLink RX2 25 "FenceBench$Meadow" "drawer" "[I") ∈ T0 := mT (i := 102) (by decide +kernel) (by decide +kernel)
theorem k_103 : (Cond.fieldLink RX2 28 "FenceBench$Meadow" "sidesAt" "[I") ∈ T0 := mT (i := 103) (by decide +kernel) (by decide +kernel)
theorem k_104 : (Cond.fieldLink RX2 31 "FenceBench$Meadow" "sideCount" "[I") ∈ T0 := mT (i := 104) (by decide +kernel) (by decide +kernel)
theorem k_105 : (Cond.fieldLinkNest RX3 77 "FenceBench$Meadow" "sideCount" "[I" "FenceBench") ∈ lw_tbl := mN (i := 105) (by decide +kernel)
theorem k_106 : (Cond.fieldLinkNest RX5 90 "FenceBench$Meadow" "sideCount" "[I" "FenceBench") ∈ lw_tbl := mN (i := 106) (by decide +kernel)
theorem k_107 : (Cond.fieldLink RX2 34 "FenceBench$Meadow" "openCount" "[I") ∈ T0 := mT (i := 107) (by decide +kernel) (by decide +kernel)
theorem k_108 : (Cond.fieldLinkNest RX3 59 "FenceBench$Meadow" "openCount" "[I" "FenceBench") ∈ lw_tbl := mN (i := 108) (by decide +kernel)
theorem k_109 : (Cond.fieldLinkNest RX5 86 "FenceBench$Meadow" "openCount" "[I" "FenceBench") ∈ lw_tbl := mN (i := 109) (by decide +kernel)
theorem k_110 : (Cond.fieldLink RX2 37 "FenceBench$Meadow" "owner" "[I") ∈ T0 := mT (i := 110) (by decide +kernel) (by decide +kernel)
theorem k_111 : (Cond.fieldLinkNest RX5 93 "FenceBench$Meadow" "owner" "[I" "FenceBench") ∈ lw_tbl := mN (i := 111) (by decide +kernel)
theorem k_112 : (Cond.fieldLink RX2 40 "FenceBench$Meadow" "owned" "[I") ∈ T0 := mT (i := 112) (by decide +kernel) (by decide +kernel)
theorem k_113 : (Cond.fieldLinkNest RX5 194 "FenceBench$Meadow" "owned" "[I" "FenceBench") ∈ lw_tbl := mN (i := 113) (by decide +kernel)
theorem k_114 : (Cond.fieldLink RX2 43 "FenceBench$Meadow" "fields" "I") ∈ T0 := mT (i := 114) (by decide +kernel) (by decide +kernel)
theorem k_115 : (Cond.fieldLinkNest RX3 57 "FenceBench$Meadow" "fields" "I" "FenceBench") ∈ lw_tbl := mN (i := 115) (by decide +kernel)
theorem k_116 : (Cond.fieldLinkNest RX5 190 "FenceBench$Meadow" "fields" "I" "FenceBench") ∈ lw_tbl := mN (i := 116) (by decide +kernel)
theorem k_117 : (Cond.fieldLink RX2 47 "FenceBench$Meadow" "sides" "I") ∈ T0 := mT (i := 117) (by decide +kernel) (by decide +kernel)
theorem k_118 : (Cond.fieldLinkNest RX4 41 "FenceBench$Meadow" "sides" "I" "FenceBench") ∈ lw_tbl := mN (i := 118) (by decide +kernel)
theorem k_119 : (Cond.fieldLinkNest RX5 192 "FenceBench$Meadow" "sides" "I" "FenceBench") ∈ lw_tbl := mN (i := 119) (by decide +kernel)
theorem k_120 : (Cond.fieldLink RX2 50 "FenceBench$Meadow" "openSides" "I") ∈ T0 := mT (i := 120) (by decide +kernel) (by decide +kernel)
theorem k_121 : (Cond.fieldLinkNest RX4 61 "FenceBench$Meadow" "openSides" "I" "FenceBench") ∈ lw_tbl := mN (i := 121) (by decide +kernel)
theorem k_122 : (Cond.fieldLinkNest RX5 76 "FenceBench$Meadow" "openSides" "I" "FenceBench") ∈ lw_tbl := mN (i := 122) (by decide +kernel)
theorem k_123 : (Cond.fieldLink RX2 53 "FenceBench$Meadow" "done" "I") ∈ T0 := mT (i := 123) (by decide +kernel) (by decide +kernel)
theorem k_124 : (Cond.fieldLinkNest RX5 115 "FenceBench$Meadow" "done" "I" "FenceBench") ∈ lw_tbl := mN (i := 124) (by decide +kernel)
theorem k_125 : (Cond.fieldLink RX2 56 "FenceBench$Meadow" "known" "I") ∈ T0 := mT (i := 125) (by decide +kernel) (by decide +kernel)
theorem k_126 : (Cond.fieldLinkNest RX5 197 "FenceBench$Meadow" "known" "I" "FenceBench") ∈ lw_tbl := mN (i := 126) (by decide +kernel)
theorem k_127 : (Cond.fieldLink RX2 59 "FenceBench$Meadow" "turn" "I") ∈ T0 := mT (i := 127) (by decide +kernel) (by decide +kernel)
theorem k_128 : (Cond.fieldLinkNest RX5 80 "FenceBench$Meadow" "turn" "I" "FenceBench") ∈ lw_tbl := mN (i := 128) (by decide +kernel)
theorem k_129 : (Cond.fieldLinkNest RX3 40 "FenceBench$Meadow" "changes" "I" "FenceBench") ∈ lw_tbl := mN (i := 129) (by decide +kernel)
theorem k_130 : (Cond.fieldLink RX2 62 "FenceBench$Meadow" "changes" "I") ∈ T0 := mT (i := 130) (by decide +kernel) (by decide +kernel)
theorem k_166 : (Cond.arrayClass FieldType.int) ∈ T0 := mT (i := 166) (by decide +kernel) (by decide +kernel)
theorem k_167 : (Cond.arrayClass FieldType.boolean) ∈ T0 := mT (i := 167) (by decide +kernel) (by decide +kernel)
theorem k_168 : (Cond.classLink RX5 16 RX3) ∈ T0 := mT (i := 168) (by decide +kernel) (by decide +kernel)
theorem k_169 : (Cond.instantiable RX3 12) ∈ T0 := mT (i := 169) (by decide +kernel) (by decide +kernel)
theorem k_170 : (Cond.methodLinkNest RX5 18 yX3_init "FenceBench") ∈ lw_tbl := mN (i := 170) (by decide +kernel)
theorem k_171 : (Cond.instanceMethod yX3_init) ∈ T0 := mT (i := 171) (by decide +kernel) (by decide +kernel)
theorem k_172 : (Cond.code yX3_init cX3_init 1 (Option.none : Option FieldType)) ∈ T0 := mT (i := 172) (by decide +kernel) (by decide +kernel)
theorem k_173 : (Cond.methodLink RX3 3 ⟨"java/lang/Object", "<init>", "()V"⟩) ∈ T0 := mT (i := 173) (by decide +kernel) (by decide +kernel)
theorem k_174 : (Cond.fieldLink RX3 9 "FenceBench$Parts" "partOf" "[I") ∈ T0 := mT (i := 174) (by decide +kernel) (by decide +kernel)
theorem k_175 : (Cond.fieldLinkNest RX5 100 "FenceBench$Parts" "partOf" "[I" "FenceBench") ∈ lw_tbl := mN (i := 175) (by decide +kernel)
theorem k_176 : (Cond.fieldLink RX3 15 "FenceBench$Parts" "kind" "[I") ∈ T0 := mT (i := 176) (by decide +kernel) (by decide +kernel)
theorem k_177 : (Cond.fieldLinkNest RX0 61 "FenceBench$Parts" "kind" "[I" "FenceBench") ∈ lw_tbl := mN (i := 177) (by decide +kernel)
theorem k_178 : (Cond.fieldLinkNest RX5 131 "FenceBench$Parts" "kind" "[I" "FenceBench") ∈ lw_tbl := mN (i := 178) (by decide +kernel)
theorem k_179 : (Cond.fieldLink RX3 18 "FenceBench$Parts" "fields" "[I") ∈ T0 := mT (i := 179) (by decide +kernel) (by decide +kernel)
theorem k_180 : (Cond.fieldLinkNest RX0 54 "FenceBench$Parts" "fields" "[I" "FenceBench") ∈ lw_tbl := mN (i := 180) (by decide +kernel)
theorem k_181 : (Cond.fieldLinkNest RX5 134 "FenceBench$Parts" "fields" "[I" "FenceBench") ∈ lw_tbl := mN (i := 181) (by decide +kernel)
theorem k_182 : (Cond.fieldLink RX3 21 "FenceBench$Parts" "sides" "[I") ∈ T0 := mT (i := 182) (by decide +kernel) (by decide +kernel)
theorem k_183 : (Cond.fieldLinkNest RX5 137 "FenceBench$Parts" "sides" "[I" "FenceBench") ∈ lw_tbl := mN (i := 183) (by decide +kernel)
theorem k_184 : (Cond.fieldLink RX3 24 "FenceBench$Parts" "loose" "[I") ∈ T0 := mT (i := 184) (by decide +kernel) (by decide +kernel)
theorem k_185 : (Cond.fieldLinkNest RX0 50 "FenceBench$Parts" "loose" "[I" "FenceBench") ∈ lw_tbl := mN (i := 185) (by decide +kernel)
theorem k_186 : (Cond.fieldLinkNest RX5 140 "FenceBench$Parts" "loose" "[I" "FenceBench") ∈ lw_tbl := mN (i := 186) (by decide +kernel)
theorem k_187 : (Cond.fieldLink RX3 27 "FenceBench$Parts" "least" "[I") ∈ T0 := mT (i := 187) (by decide +kernel) (by decide +kernel)
theorem k_188 : (Cond.fieldLinkNest RX5 143 "FenceBench$Parts" "least" "[I" "FenceBench") ∈ lw_tbl := mN (i := 188) (by decide +kernel)
theorem k_189 : (Cond.fieldLink RX3 30 "FenceBench$Parts" "queue" "[I") ∈ T0 := mT (i := 189) (by decide +kernel) (by decide +kernel)
theorem k_190 : (Cond.fieldLink RX3 33 "FenceBench$Parts" "left" "[I") ∈ T0 := mT (i := 190) (by decide +kernel) (by decide +kernel)
theorem k_191 : (Cond.fieldLink RX3 70 "FenceBench$Parts" "queued" "I") ∈ T0 := mT (i := 191) (by decide +kernel) (by decide +kernel)
theorem k_192 : (Cond.fieldLink RX3 45 "FenceBench$Parts" "count" "I") ∈ T0 := mT (i := 192) (by decide +kernel) (by decide +kernel)
theorem k_193 : (Cond.fieldLinkNest RX0 47 "FenceBench$Parts" "count" "I" "FenceBench") ∈ lw_tbl := mN (i := 193) (by decide +kernel)
theorem k_194 : (Cond.fieldLinkNest RX5 128 "FenceBench$Parts" "count" "I" "FenceBench") ∈ lw_tbl := mN (i := 194) (by decide +kernel)
theorem k_195 : (Cond.fieldLinkNest RX0 25 "FenceBench$Parts" "knots" "I" "FenceBench") ∈ lw_tbl := mN (i := 195) (by decide +kernel)
theorem k_196 : (Cond.fieldLink RX3 48 "FenceBench$Parts" "knots" "I") ∈ T0 := mT (i := 196) (by decide +kernel) (by decide +kernel)
theorem k_197 : (Cond.fieldLinkNest RX5 200 "FenceBench$Parts" "knots" "I" "FenceBench") ∈ lw_tbl := mN (i := 197) (by decide +kernel)
theorem k_198 : (Cond.fieldLink RX3 36 "FenceBench$Parts" "seen" "I") ∈ T0 := mT (i := 198) (by decide +kernel) (by decide +kernel)
theorem k_199 : (Cond.fieldLinkNest RX0 22 "FenceBench$Parts" "seen" "I" "FenceBench") ∈ lw_tbl := mN (i := 199) (by decide +kernel)
theorem k_225 : (Cond.classLink RX5 23 RX4) ∈ T0 := mT (i := 225) (by decide +kernel) (by decide +kernel)
theorem k_226 : (Cond.instantiable RX4 5) ∈ T0 := mT (i := 226) (by decide +kernel) (by decide +kernel)
theorem k_227 : (Cond.methodLinkNest RX5 25 yX4_init "FenceBench") ∈ lw_tbl := mN (i := 227) (by decide +kernel)
theorem k_228 : (Cond.instanceMethod yX4_init) ∈ T0 := mT (i := 228) (by decide +kernel) (by decide +kernel)
theorem k_229 : (Cond.code yX4_init cX4_init 1 (Option.none : Option FieldType)) ∈ T0 := mT (i := 229) (by decide +kernel) (by decide +kernel)
theorem k_230 : (Cond.methodLink RX4 3 ⟨"java/lang/Object", "<init>", "()V"⟩) ∈ T0 := mT (i := 230) (by decide +kernel) (by decide +kernel)
theorem k_231 : (Cond.fieldLink RX4 9 "FenceBench$Ways" "base" "[I") ∈ T0 := mT (i := 231) (by decide +kernel) (by decide +kernel)
theorem k_232 : (Cond.fieldLink RX4 15 "FenceBench$Ways" "firstField" "[I") ∈ T0 := mT (i := 232) (by decide +kernel) (by decide +kernel)
theorem k_233 : (Cond.fieldLink RX4 18 "FenceBench$Ways" "secondField" "[I") ∈ T0 := mT (i := 233) (by decide +kernel) (by decide +kernel)
theorem k_234 : (Cond.fieldLink RX4 25 "FenceBench$Ways" "size" "I") ∈ T0 := mT (i := 234) (by decide +kernel) (by decide +kernel)
theorem k_235 : (Cond.fieldLink RX4 21 "FenceBench$Ways" "table" "[J") ∈ T0 := mT (i := 235) (by decide +kernel) (by decide +kernel)
theorem k_247 : (Cond.arrayClass FieldType.long) ∈ T0 := mT (i := 247) (by decide +kernel) (by decide +kernel)
theorem k_248 : (Cond.classLink RX5 30 RX0) ∈ T0 := mT (i := 248) (by decide +kernel) (by decide +kernel)
theorem k_249 : (Cond.instantiable RX0 7) ∈ T0 := mT (i := 249) (by decide +kernel) (by decide +kernel)
theorem k_250 : (Cond.methodLinkNest RX5 32 yX0_init "FenceBench") ∈ lw_tbl := mN (i := 250) (by decide +kernel)
theorem k_251 : (Cond.instanceMethod yX0_init) ∈ T0 := mT (i := 251) (by decide +kernel) (by decide +kernel)
theorem k_252 : (Cond.code yX0_init cX0_init 1 (Option.none : Option FieldType)) ∈ T0 := mT (i := 252) (by decide +kernel) (by decide +kernel)
theorem k_253 : (Cond.methodLink RX0 3 ⟨"java/lang/Object", "<init>", "()V"⟩) ∈ T0 := mT (i := 253) (by decide +kernel) (by decide +kernel)
theorem k_254 : (Cond.classLink RX0 9 RX1) ∈ T0 := mT (i := 254) (by decide +kernel) (by decide +kernel)
theorem k_255 : (Cond.instantiable RX1 11) ∈ T0 := mT (i := 255) (by decide +kernel) (by decide +kernel)
theorem k_256 : (Cond.methodLinkNest RX0 11 yX1_init "FenceBench") ∈ lw_tbl := mN (i := 256) (by decide +kernel)
theorem k_257 : (Cond.instanceMethod yX1_init) ∈ T0 := mT (i := 257) (by decide +kernel) (by decide +kernel)
theorem k_258 : (Cond.code yX1_init cX1_init 1 (Option.none : Option FieldType)) ∈ T0 := mT (i := 258) (by decide +kernel) (by decide +kernel)
theorem k_259 : (Cond.methodLink RX1 3 ⟨"java/lang/Object", "<init>", "()V"⟩) ∈ T0 := mT (i := 259) (by decide +kernel) (by decide +kernel)
theorem k_260 : (Cond.fieldLink RX1 9 "FenceBench$Lengths" "numbers" "[I") ∈ T0 := mT (i := 260) (by decide +kernel) (by decide +kernel)
theorem k_261 : (Cond.fieldLink RX1 15 "FenceBench$Lengths" "place" "[I") ∈ T0 := mT (i := 261) (by decide +kernel) (by decide +kernel)
theorem k_262 : (Cond.fieldLink RX1 18 "FenceBench$Lengths" "length" "[I") ∈ T0 := mT (i := 262) (by decide +kernel) (by decide +kernel)
theorem k_263 : (Cond.fieldLink RX1 21 "FenceBench$Lengths" "cost" "[I") ∈ T0 := mT (i := 263) (by decide +kernel) (by decide +kernel)
theorem k_264 : (Cond.fieldLink RX1 24 "FenceBench$Lengths" "step" "[I") ∈ T0 := mT (i := 264) (by decide +kernel) (by decide +kernel)
theorem k_265 : (Cond.fieldLink RX1 27 "FenceBench$Lengths" "digit" "[I") ∈ T0 := mT (i := 265) (by decide +kernel) (by decide +kernel)
theorem k_266 : (Cond.fieldLink RX1 39 "FenceBench$Lengths" "different" "I") ∈ T0 := mT (i := 266) (by decide +kernel) (by decide +kernel)
theorem k_267 : (Cond.fieldLink RX1 60 "FenceBench$Lengths" "kinds" "I") ∈ T0 := mT (i := 267) (by decide +kernel) (by decide +kernel)
theorem k_268 : (Cond.fieldLink RX1 54 "FenceBench$Lengths" "heaps" "I") ∈ T0 := mT (i := 268) (by decide +kernel) (by decide +kernel)
theorem k_269 : (Cond.fieldLink RX1 43 "FenceBench$Lengths" "fresh" "Z") ∈ T0 := mT (i := 269) (by decide +kernel) (by decide +kernel)
theorem k_270 : (Cond.fieldLink RX1 30 "FenceBench$Lengths" "v" "[I") ∈ T0 := mT (i := 270) (by decide +kernel) (by decide +kernel)
theorem k_294 : (Cond.fieldLink RX0 12 "FenceBench$Ends" "others" "LFenceBench$Lengths;") ∈ T0 := mT (i := 294) (by decide +kernel) (by decide +kernel)
theorem k_295 : (Cond.fieldLinkNest RX5 181 "FenceBench$Ends" "others" "LFenceBench$Lengths;" "FenceBench") ∈ lw_tbl := mN (i := 295) (by decide +kernel)
theorem k_296 : (Cond.fieldLink RX0 28 "FenceBench$Ends" "isSimple" "Z") ∈ T0 := mT (i := 296) (by decide +kernel) (by decide +kernel)
theorem k_297 : (Cond.fieldLink RX0 32 "FenceBench$Ends" "hasLoose" "Z") ∈ T0 := mT (i := 297) (by decide +kernel) (by decide +kernel)
theorem k_298 : (Cond.fieldLinkNest RX5 174 "FenceBench$Ends" "hasLoose" "Z" "FenceBench") ∈ lw_tbl := mN (i := 298) (by decide +kernel)
theorem k_299 : (Cond.fieldLink RX0 35 "FenceBench$Ends" "canLeaveTwo" "Z") ∈ T0 := mT (i := 299) (by decide +kernel) (by decide +kernel)
theorem k_300 : (Cond.fieldLink RX0 38 "FenceBench$Ends" "canLeaveFour" "Z") ∈ T0 := mT (i := 300) (by decide +kernel) (by decide +kernel)
theorem k_301 : (Cond.fieldLink RX0 41 "FenceBench$Ends" "looseFields" "I") ∈ T0 := mT (i := 301) (by decide +kernel) (by decide +kernel)
theorem k_302 : (Cond.fieldLink RX0 18 "FenceBench$Ends" "seen" "I") ∈ T0 := mT (i := 302) (by decide +kernel) (by decide +kernel)
theorem k_318 : (Cond.classLink RX5 37 RX1) ∈ T0 := mT (i := 318) (by decide +kernel) (by decide +kernel)
theorem k_319 : (Cond.methodLinkNest RX5 39 yX1_init "FenceBench") ∈ lw_tbl := mN (i := 319) (by decide +kernel)
theorem k_320 : (Cond.fieldLink RX5 10 "FenceBench" "meadow" "LFenceBench$Meadow;") ∈ T0 := mT (i := 320) (by decide +kernel) (by decide +kernel)
theorem k_321 : (Cond.fieldLink RX5 19 "FenceBench" "parts" "LFenceBench$Parts;") ∈ T0 := mT (i := 321) (by decide +kernel) (by decide +kernel)
theorem k_322 : (Cond.fieldLink RX5 26 "FenceBench" "ways" "LFenceBench$Ways;") ∈ T0 := mT (i := 322) (by decide +kernel) (by decide +kernel)
theorem k_323 : (Cond.fieldLink RX5 33 "FenceBench" "ends" "LFenceBench$Ends;") ∈ T0 := mT (i := 323) (by decide +kernel) (by decide +kernel)
theorem k_324 : (Cond.fieldLink RX5 40 "FenceBench" "lengths" "LFenceBench$Lengths;") ∈ T0 := mT (i := 324) (by decide +kernel) (by decide +kernel)
theorem k_336 : (Cond.methodLink RL 25 yX5_clear) ∈ T0 := mT (i := 336) (by decide +kernel) (by decide +kernel)
theorem k_337 : (Cond.instanceMethod yX5_clear) ∈ T0 := mT (i := 337) (by decide +kernel) (by decide +kernel)
theorem k_338 : (Cond.selects RX5 yX5_clear yX5_clear) ∈ T0 := mT (i := 338) (by decide +kernel) (by decide +kernel)
theorem k_339 : (Cond.code yX5_clear cX5_clear 1 (Option.none : Option FieldType)) ∈ T0 := mT (i := 339) (by decide +kernel) (by decide +kernel)
theorem k_340 : (Cond.methodLink RX5 44 yX2_wipe) ∈ T0 := mT (i := 340) (by decide +kernel) (by decide +kernel)
theorem k_341 : (Cond.instanceMethod yX2_wipe) ∈ T0 := mT (i := 341) (by decide +kernel) (by decide +kernel)
theorem k_342 : (Cond.selects RX2 yX2_wipe yX2_wipe) ∈ T0 := mT (i := 342) (by decide +kernel) (by decide +kernel)
theorem k_343 : (Cond.code yX2_wipe cX2_wipe 1 (Option.none : Option FieldType)) ∈ T0 := mT (i := 343) (by decide +kernel) (by decide +kernel)
theorem k_344 : (Cond.methodLink RX5 47 yX4_forget) ∈ T0 := mT (i := 344) (by decide +kernel) (by decide +kernel)
theorem k_345 : (Cond.instanceMethod yX4_forget) ∈ T0 := mT (i := 345) (by decide +kernel) (by decide +kernel)
theorem k_346 : (Cond.selects RX4 yX4_forget yX4_forget) ∈ T0 := mT (i := 346) (by decide +kernel) (by decide +kernel)
theorem k_347 : (Cond.code yX4_forget cX4_forget 1 (Option.none : Option FieldType)) ∈ T0 := mT (i := 347) (by decide +kernel) (by decide +kernel)
theorem k_348 : (Cond.methodLink RL 29 yX5_field) ∈ T0 := mT (i := 348) (by decide +kernel) (by decide +kernel)
theorem k_349 : (Cond.instanceMethod yX5_field) ∈ T0 := mT (i := 349) (by decide +kernel) (by decide +kernel)
theorem k_350 : (Cond.selects RX5 yX5_field yX5_field) ∈ T0 := mT (i := 350) (by decide +kernel) (by decide +kernel)
theorem k_351 : (Cond.code yX5_field cX5_field 1 (Option.some FieldType.int)) ∈ T0 := mT (i := 351) (by decide +kernel) (by decide +kernel)
theorem k_352 : (Cond.methodLink RX5 50 yX2_addField) ∈ T0 := mT (i := 352) (by decide +kernel) (by decide +kernel)
theorem k_353 : (Cond.instanceMethod yX2_addField) ∈ T0 := mT (i := 353) (by decide +kernel) (by decide +kernel)
theorem k_354 : (Cond.selects RX2 yX2_addField yX2_addField) ∈ T0 := mT (i := 354) (by decide +kernel) (by decide +kernel)
theorem k_355 : (Cond.code yX2_addField cX2_addField 1 (Option.some FieldType.int)) ∈ T0 := mT (i := 355) (by decide +kernel) (by decide +kernel)
theorem k_356 : (Cond.methodLink RL 33 yX5_side) ∈ T0 := mT (i := 356) (by decide +kernel) (by decide +kernel)
theorem k_357 : (Cond.instanceMethod yX5_side) ∈ T0 := mT (i := 357) (by decide +kernel) (by decide +kernel)
theorem k_358 : (Cond.selects RX5 yX5_side yX5_side) ∈ T0 := mT (i := 358) (by decide +kernel) (by decide +kernel)
theorem k_359 : (Cond.code yX5_side cX5_side 3 (Option.some FieldType.int)) ∈ T0 := mT (i := 359) (by decide +kernel) (by decide +kernel)
theorem k_360 : (Cond.methodLink RX5 54 yX2_addSide) ∈ T0 := mT (i := 360) (by decide +kernel) (by decide +kernel)
theorem k_361 : (Cond.instanceMethod yX2_addSide) ∈ T0 := mT (i := 361) (by decide +kernel) (by decide +kernel)
theorem k_362 : (Cond.selects RX2 yX2_addSide yX2_addSide) ∈ T0 := mT (i := 362) (by decide +kernel) (by decide +kernel)
theorem k_363 : (Cond.code yX2_addSide cX2_addSide 4 (Option.some FieldType.int)) ∈ T0 := mT (i := 363) (by decide +kernel) (by decide +kernel)
theorem k_364 : (Cond.methodLink RX2 69 yX2_canTakeSide) ∈ T0 := mT (i := 364) (by decide +kernel) (by decide +kernel)
theorem k_366 : (Cond.instanceMethod yX2_canTakeSide) ∈ T0 := mT (i := 366) (by decide +kernel) (by decide +kernel)
theorem k_367 : (Cond.code yX2_canTakeSide cX2_canTakeSide 2 (Option.some FieldType.boolean)) ∈ T0 := mT (i := 367) (by decide +kernel) (by decide +kernel)
theorem k_368 : (Cond.methodLink RX2 76 yX2_hasField) ∈ T0 := mT (i := 368) (by decide +kernel) (by decide +kernel)
theorem k_369 : (Cond.instanceMethod yX2_hasField) ∈ T0 := mT (i := 369) (by decide +kernel) (by decide +kernel)
theorem k_370 : (Cond.selects RX2 yX2_hasField yX2_hasField) ∈ T0 := mT (i := 370) (by decide +kernel) (by decide +kernel)
theorem k_371 : (Cond.code yX2_hasField cX2_hasField 2 (Option.some FieldType.boolean)) ∈ T0 := mT (i := 371) (by decide +kernel) (by decide +kernel)
theorem k_372 : (Cond.methodLink RX2 72 yX2_attach) ∈ T0 := mT (i := 372) (by decide +kernel) (by decide +kernel)
theorem k_374 : (Cond.instanceMethod yX2_attach) ∈ T0 := mT (i := 374) (by decide +kernel) (by decide +kernel)
theorem k_375 : (Cond.code yX2_attach cX2_attach 2 (Option.none : Option FieldType)) ∈ T0 := mT (i := 375) (by decide +kernel) (by decide +kernel)
theorem k_376 : (Cond.methodLink RL 38 yX5_grid) ∈ T0 := mT (i := 376) (by decide +kernel) (by decide +kernel)
theorem k_377 : (Cond.instanceMethod yX5_grid) ∈ T0 := mT (i := 377) (by decide +kernel) (by decide +kernel)
theorem k_378 : (Cond.selects RX5 yX5_grid yX5_grid) ∈ T0 := mT (i := 378) (by decide +kernel) (by decide +kernel)
theorem k_379 : (Cond.code yX5_grid cX5_grid 3 (Option.some FieldType.boolean)) ∈ T0 := mT (i := 379) (by decide +kernel) (by decide +kernel)
theorem k_380 : (Cond.methodLink RX5 58 yX2_layGrid) ∈ T0 := mT (i := 380) (by decide +kernel) (by decide +kernel)
theorem k_381 : (Cond.instanceMethod yX2_layGrid) ∈ T0 := mT (i := 381) (by decide +kernel) (by decide +kernel)
theorem k_382 : (Cond.selects RX2 yX2_layGrid yX2_layGrid) ∈ T0 := mT (i := 382) (by decide +kernel) (by decide +kernel)
theorem k_383 : (Cond.code yX2_layGrid cX2_layGrid 6 (Option.none : Option FieldType)) ∈ T0 := mT (i := 383) (by decide +kernel) (by decide +kernel)
theorem k_384 : (Cond.methodLink RX2 79 yX2_wipe) ∈ T0 := mT (i := 384) (by decide +kernel) (by decide +kernel)
theorem k_385 : (Cond.methodLink RX2 82 yX2_addField) ∈ T0 := mT (i := 385) (by decide +kernel) (by decide +kernel)
theorem k_386 : (Cond.methodLink RX2 86 yX2_addBetween) ∈ T0 := mT (i := 386) (by decide +kernel) (by decide +kernel)
theorem k_388 : (Cond.instanceMethod yX2_addBetween) ∈ T0 := mT (i := 388) (by decide +kernel) (by decide +kernel)
theorem k_389 : (Cond.code yX2_addBetween cX2_addBetween 3 (Option.none : Option FieldType)) ∈ T0 := mT (i := 389) (by decide +kernel) (by decide +kernel)
theorem k_390 : (Cond.methodLink RX2 90 yX2_addSide) ∈ T0 := mT (i := 390) (by decide +kernel) (by decide +kernel)
theorem k_391 : (Cond.methodLink RL 43 yX5_draw) ∈ T0 := mT (i := 391) (by decide +kernel) (by decide +kernel)
theorem k_392 : (Cond.instanceMethod yX5_draw) ∈ T0 := mT (i := 392) (by decide +kernel) (by decide +kernel)
theorem k_393 : (Cond.selects RX5 yX5_draw yX5_draw) ∈ T0 := mT (i := 393) (by decide +kernel) (by decide +kernel)
theorem k_394 : (Cond.code yX5_draw cX5_draw 2 (Option.some FieldType.int)) ∈ T0 := mT (i := 394) (by decide +kernel) (by decide +kernel)
theorem k_395 : (Cond.methodLink RX5 62 yX2_isOpen) ∈ T0 := mT (i := 395) (by decide +kernel) (by decide +kernel)
theorem k_396 : (Cond.instanceMethod yX2_isOpen) ∈ T0 := mT (i := 396) (by decide +kernel) (by decide +kernel)
theorem k_397 : (Cond.selects RX2 yX2_isOpen yX2_isOpen) ∈ T0 := mT (i := 397) (by decide +kernel) (by decide +kernel)
theorem k_398 : (Cond.code yX2_isOpen cX2_isOpen 2 (Option.some FieldType.boolean)) ∈ T0 := mT (i := 398) (by decide +kernel) (by decide +kernel)
theorem k_399 : (Cond.methodLink RX2 65 yX2_hasSide) ∈ T0 := mT (i := 399) (by decide +kernel) (by decide +kernel)
theorem k_400 : (Cond.instanceMethod yX2_hasSide) ∈ T0 := mT (i := 400) (by decide +kernel) (by decide +kernel)
theorem k_401 : (Cond.selects RX2 yX2_hasSide yX2_hasSide) ∈ T0 := mT (i := 401) (by decide +kernel) (by decide +kernel)
theorem k_402 : (Cond.code yX2_hasSide cX2_hasSide 2 (Option.some FieldType.boolean)) ∈ T0 := mT (i := 402) (by decide +kernel) (by decide +kernel)
theorem k_403 : (Cond.methodLink RX5 66 yX2_takeNew) ∈ T0 := mT (i := 403) (by decide +kernel) (by decide +kernel)
theorem k_404 : (Cond.instanceMethod yX2_takeNew) ∈ T0 := mT (i := 404) (by decide +kernel) (by decide +kernel)
theorem k_405 : (Cond.selects RX2 yX2_takeNew yX2_takeNew) ∈ T0 := mT (i := 405) (by decide +kernel) (by decide +kernel)
theorem k_406 : (Cond.code yX2_takeNew cX2_takeNew 3 (Option.some FieldType.int)) ∈ T0 := mT (i := 406) (by decide +kernel) (by decide +kernel)
theorem k_407 : (Cond.methodLink RX2 97 yX2_take) ∈ T0 := mT (i := 407) (by decide +kernel) (by decide +kernel)
theorem k_409 : (Cond.instanceMethod yX2_take) ∈ T0 := mT (i := 409) (by decide +kernel) (by decide +kernel)
theorem k_410 : (Cond.code yX2_take cX2_take 3 (Option.some FieldType.int)) ∈ T0 := mT (i := 410) (by decide +kernel) (by decide +kernel)
theorem k_411 : (Cond.methodLink RX2 104 yX2_closedBy) ∈ T0 := mT (i := 411) (by decide +kernel) (by decide +kernel)
theorem k_412 : (Cond.instanceMethod yX2_closedBy) ∈ T0 := mT (i := 412) (by decide +kernel) (by decide +kernel)
theorem k_413 : (Cond.selects RX2 yX2_closedBy yX2_closedBy) ∈ T0 := mT (i := 413) (by decide +kernel) (by decide +kernel)
theorem k_414 : (Cond.code yX2_closedBy cX2_closedBy 3 (Option.some FieldType.int)) ∈ T0 := mT (i := 414) (by decide +kernel) (by decide +kernel)
theorem k_415 : (Cond.methodLink RX2 94 yX2_isOpen) ∈ T0 := mT (i := 415) (by decide +kernel) (by decide +kernel)
theorem k_416 : (Cond.methodLink RX2 107 yX2_fence) ∈ T0 := mT (i := 416) (by decide +kernel) (by decide +kernel)
theorem k_418 : (Cond.instanceMethod yX2_fence) ∈ T0 := mT (i := 418) (by decide +kernel) (by decide +kernel)
theorem k_419 : (Cond.code yX2_fence cX2_fence 2 (Option.none : Option FieldType)) ∈ T0 := mT (i := 419) (by decide +kernel) (by decide +kernel)
theorem k_420 : (Cond.methodLink RL 47 yX5_undo) ∈ T0 := mT (i := 420) (by decide +kernel) (by decide +kernel)
theorem k_421 : (Cond.instanceMethod yX5_undo) ∈ T0 := mT (i := 421) (by decide +kernel) (by decide +kernel)
theorem k_422 : (Cond.selects RX5 yX5_undo yX5_undo) ∈ T0 := mT (i := 422) (by decide +kernel) (by decide +kernel)
theorem k_423 : (Cond.code yX5_undo cX5_undo 1 (Option.some FieldType.int)) ∈ T0 := mT (i := 423) (by decide +kernel) (by decide +kernel)
theorem k_424 : (Cond.methodLink RX5 70 yX2_takeBack) ∈ T0 := mT (i := 424) (by decide +kernel) (by decide +kernel)
theorem k_425 : (Cond.instanceMethod yX2_takeBack) ∈ T0 := mT (i := 425) (by decide +kernel) (by decide +kernel)
theorem k_426 : (Cond.selects RX2 yX2_takeBack yX2_takeBack) ∈ T0 := mT (i := 426) (by decide +kernel) (by decide +kernel)
theorem k_427 : (Cond.code yX2_takeBack cX2_takeBack 2 (Option.some FieldType.int)) ∈ T0 := mT (i := 427) (by decide +kernel) (by decide +kernel)
theorem k_428 : (Cond.methodLink RX2 101 yX2_reopen) ∈ T0 := mT (i := 428) (by decide +kernel) (by decide +kernel)
theorem k_430 : (Cond.instanceMethod yX2_reopen) ∈ T0 := mT (i := 430) (by decide +kernel) (by decide +kernel)
theorem k_431 : (Cond.code yX2_reopen cX2_reopen 2 (Option.none : Option FieldType)) ∈ T0 := mT (i := 431) (by decide +kernel) (by decide +kernel)
theorem k_432 : (Cond.methodLink RL 51 yX5_redo) ∈ T0 := mT (i := 432) (by decide +kernel) (by decide +kernel)
theorem k_433 : (Cond.instanceMethod yX5_redo) ∈ T0 := mT (i := 433) (by decide +kernel) (by decide +kernel)
theorem k_434 : (Cond.selects RX5 yX5_redo yX5_redo) ∈ T0 := mT (i := 434) (by decide +kernel) (by decide +kernel)
theorem k_435 : (Cond.code yX5_redo cX5_redo 1 (Option.some FieldType.int)) ∈ T0 := mT (i := 435) (by decide +kernel) (by decide +kernel)
theorem k_436 : (Cond.methodLink RX5 73 yX2_takeAgain) ∈ T0 := mT (i := 436) (by decide +kernel) (by decide +kernel)
theorem k_437 : (Cond.instanceMethod yX2_takeAgain) ∈ T0 := mT (i := 437) (by decide +kernel) (by decide +kernel)
theorem k_438 : (Cond.selects RX2 yX2_takeAgain yX2_takeAgain) ∈ T0 := mT (i := 438) (by decide +kernel) (by decide +kernel)
theorem k_439 : (Cond.code yX2_takeAgain cX2_takeAgain 2 (Option.some FieldType.int)) ∈ T0 := mT (i := 439) (by decide +kernel) (by decide +kernel)
theorem k_440 : (Cond.methodLink RL 55 yX5_whose) ∈ T0 := mT (i := 440) (by decide +kernel) (by decide +kernel)
theorem k_441 : (Cond.instanceMethod yX5_whose) ∈ T0 := mT (i := 441) (by decide +kernel) (by decide +kernel)
theorem k_442 : (Cond.selects RX5 yX5_whose yX5_whose) ∈ T0 := mT (i := 442) (by decide +kernel) (by decide +kernel)
theorem k_443 : (Cond.code yX5_whose cX5_whose 1 (Option.some FieldType.int)) ∈ T0 := mT (i := 443) (by decide +kernel) (by decide +kernel)
theorem k_444 : (Cond.methodLink RL 59 yX5_look) ∈ T0 := mT (i := 444) (by decide +kernel) (by decide +kernel)
theorem k_445 : (Cond.instanceMethod yX5_look) ∈ T0 := mT (i := 445) (by decide +kernel) (by decide +kernel)
theorem k_446 : (Cond.selects RX5 yX5_look yX5_look) ∈ T0 := mT (i := 446) (by decide +kernel) (by decide +kernel)
theorem k_447 : (Cond.code yX5_look cX5_look 3 (Option.some FieldType.int)) ∈ T0 := mT (i := 447) (by decide +kernel) (by decide +kernel)
theorem k_448 : (Cond.methodLink RX5 83 yX2_hasField) ∈ T0 := mT (i := 448) (by decide +kernel) (by decide +kernel)
theorem k_449 : (Cond.methodLink RX5 96 yX5_surveyed) ∈ T0 := mT (i := 449) (by decide +kernel) (by decide +kernel)
theorem k_451 : (Cond.instanceMethod yX5_surveyed) ∈ T0 := mT (i := 451) (by decide +kernel) (by decide +kernel)
theorem k_452 : (Cond.code yX5_surveyed cX5_surveyed 1 (Option.some (FieldType.object "FenceBench$Parts"))) ∈ T0 := mT (i := 452) (by decide +kernel) (by decide +kernel)
theorem k_453 : (Cond.methodLink RX5 221 yX3_survey) ∈ T0 := mT (i := 453) (by decide +kernel) (by decide +kernel)
theorem k_454 : (Cond.instanceMethod yX3_survey) ∈ T0 := mT (i := 454) (by decide +kernel) (by decide +kernel)
theorem k_455 : (Cond.selects RX3 yX3_survey yX3_survey) ∈ T0 := mT (i := 455) (by decide +kernel) (by decide +kernel)
theorem k_456 : (Cond.code yX3_survey cX3_survey 3 (Option.none : Option FieldType)) ∈ T0 := mT (i := 456) (by decide +kernel) (by decide +kernel)
theorem k_457 : (Cond.methodLink RX3 51 ⟨"java/util/Arrays", "fill", "([II)V"⟩) ∈ T0 := mT (i := 457) (by decide +kernel) (by decide +kernel)
theorem k_458 : (Cond.static ⟨"java/util/Arrays", "fill", "([II)V"⟩) ∈ T0 := mT (i := 458) (by decide +kernel) (by decide +kernel)
theorem k_459 : (Cond.code ⟨"java/util/Arrays", "fill", "([II)V"⟩ cJ7_fill_53178 4 (Option.none : Option FieldType)) ∈ T0 := mT (i := 459) (by decide +kernel) (by decide +kernel)
theorem k_460 : (Cond.methodLink RX3 62 yX3_gather) ∈ T0 := mT (i := 460) (by decide +kernel) (by decide +kernel)
theorem k_462 : (Cond.instanceMethod yX3_gather) ∈ T0 := mT (i := 462) (by decide +kernel) (by decide +kernel)
theorem k_463 : (Cond.code yX3_gather cX3_gather 8 (Option.none : Option FieldType)) ∈ T0 := mT (i := 463) (by decide +kernel) (by decide +kernel)
theorem k_464 : (Cond.methodLink RX3 73 yX3_join) ∈ T0 := mT (i := 464) (by decide +kernel) (by decide +kernel)
theorem k_466 : (Cond.instanceMethod yX3_join) ∈ T0 := mT (i := 466) (by decide +kernel) (by decide +kernel)
theorem k_467 : (Cond.code yX3_join cX3_join 2 (Option.none : Option FieldType)) ∈ T0 := mT (i := 467) (by decide +kernel) (by decide +kernel)
theorem k_468 : (Cond.methodLink RX3 80 yX2_sideAt) ∈ T0 := mT (i := 468) (by decide +kernel) (by decide +kernel)
theorem k_469 : (Cond.instanceMethod yX2_sideAt) ∈ T0 := mT (i := 469) (by decide +kernel) (by decide +kernel)
theorem k_470 : (Cond.selects RX2 yX2_sideAt yX2_sideAt) ∈ T0 := mT (i := 470) (by decide +kernel) (by decide +kernel)
theorem k_471 : (Cond.code yX2_sideAt cX2_sideAt 3 (Option.some FieldType.int)) ∈ T0 := mT (i := 471) (by decide +kernel) (by decide +kernel)
theorem k_472 : (Cond.methodLink RX3 84 yX2_across) ∈ T0 := mT (i := 472) (by decide +kernel) (by decide +kernel)
theorem k_473 : (Cond.instanceMethod yX2_across) ∈ T0 := mT (i := 473) (by decide +kernel) (by decide +kernel)
theorem k_474 : (Cond.selects RX2 yX2_across yX2_across) ∈ T0 := mT (i := 474) (by decide +kernel) (by decide +kernel)
theorem k_475 : (Cond.code yX2_across cX2_across 3 (Option.some FieldType.int)) ∈ T0 := mT (i := 475) (by decide +kernel) (by decide +kernel)
theorem k_476 : (Cond.methodLink RX3 66 yX3_describe) ∈ T0 := mT (i := 476) (by decide +kernel) (by decide +kernel)
theorem k_478 : (Cond.instanceMethod yX3_describe) ∈ T0 := mT (i := 478) (by decide +kernel) (by decide +kernel)
theorem k_479 : (Cond.code yX3_describe cX3_describe 10 (Option.none : Option FieldType)) ∈ T0 := mT (i := 479) (by decide +kernel) (by decide +kernel)
theorem k_480 : (Cond.methodLink RX3 91 yX3_openOutside) ∈ T0 := mT (i := 480) (by decide +kernel) (by decide +kernel)
theorem k_482 : (Cond.instanceMethod yX3_openOutside) ∈ T0 := mT (i := 482) (by decide +kernel) (by decide +kernel)
theorem k_483 : (Cond.code yX3_openOutside cX3_openOutside 6 (Option.some FieldType.int)) ∈ T0 := mT (i := 483) (by decide +kernel) (by decide +kernel)
theorem k_484 : (Cond.methodLink RL 63 yX5_ask) ∈ T0 := mT (i := 484) (by decide +kernel) (by decide +kernel)
theorem k_485 : (Cond.instanceMethod yX5_ask) ∈ T0 := mT (i := 485) (by decide +kernel) (by decide +kernel)
theorem k_486 : (Cond.selects RX5 yX5_ask yX5_ask) ∈ T0 := mT (i := 486) (by decide +kernel) (by decide +kernel)
theorem k_487 : (Cond.code yX5_ask cX5_ask 3 (Option.some FieldType.int)) ∈ T0 := mT (i := 487) (by decide +kernel) (by decide +kernel)
theorem k_488 : (Cond.methodLink RX5 103 yX2_hasSide) ∈ T0 := mT (i := 488) (by decide +kernel) (by decide +kernel)
theorem k_489 : (Cond.methodLink RX5 112 yX2_closedBy) ∈ T0 := mT (i := 489) (by decide +kernel) (by decide +kernel)
theorem k_490 : (Cond.methodLink RL 76 yX5_part) ∈ T0 := mT (i := 490) (by decide +kernel) (by decide +kernel)
theorem k_491 : (Cond.instanceMethod yX5_part) ∈ T0 := mT (i := 491) (by decide +kernel) (by decide +kernel)
theorem k_492 : (Cond.selects RX5 yX5_part yX5_part) ∈ T0 := mT (i := 492) (by decide +kernel) (by decide +kernel)
theorem k_493 : (Cond.code yX5_part cX5_part 4 (Option.some FieldType.int)) ∈ T0 := mT (i := 493) (by decide +kernel) (by decide +kernel)
theorem k_494 : (Cond.methodLink RL 80 yX5_loose) ∈ T0 := mT (i := 494) (by decide +kernel) (by decide +kernel)
theorem k_495 : (Cond.instanceMethod yX5_loose) ∈ T0 := mT (i := 495) (by decide +kernel) (by decide +kernel)
theorem k_496 : (Cond.selects RX5 yX5_loose yX5_loose) ∈ T0 := mT (i := 496) (by decide +kernel) (by decide +kernel)
theorem k_497 : (Cond.code yX5_loose cX5_loose 1 (Option.some FieldType.int)) ∈ T0 := mT (i := 497) (by decide +kernel) (by decide +kernel)
theorem k_498 : (Cond.methodLink RX5 146 yX3_closable) ∈ T0 := mT (i := 498) (by decide +kernel) (by decide +kernel)
theorem k_499 : (Cond.instanceMethod yX3_closable) ∈ T0 := mT (i := 499) (by decide +kernel) (by decide +kernel)
theorem k_500 : (Cond.selects RX3 yX3_closable yX3_closable) ∈ T0 := mT (i := 500) (by decide +kernel) (by decide +kernel)
theorem k_501 : (Cond.code yX3_closable cX3_closable 4 (Option.some FieldType.int)) ∈ T0 := mT (i := 501) (by decide +kernel) (by decide +kernel)
theorem k_502 : (Cond.methodLink RX3 98 ⟨"java/lang/System", "arraycopy", "(Ljava/lang/Object;ILjava/lang/Object;II)V"⟩) ∈ T0 := mT (i := 502) (by decide +kernel) (by decide +kernel)
theorem k_503 : (Cond.static ⟨"java/lang/System", "arraycopy", "(Ljava/lang/Object;ILjava/lang/Object;II)V"⟩) ∈ T0 := mT (i := 503) (by decide +kernel) (by decide +kernel)
theorem k_504 : (Cond.native ⟨"java/lang/System", "arraycopy", "(Ljava/lang/Object;ILjava/lang/Object;II)V"⟩) ∈ T0 := mT (i := 504) (by decide +kernel) (by decide +kernel)
theorem k_505 : (Cond.methodLink RX3 104 yX3_queueIfLast) ∈ T0 := mT (i := 505) (by decide +kernel) (by decide +kernel)
theorem k_507 : (Cond.instanceMethod yX3_queueIfLast) ∈ T0 := mT (i := 507) (by decide +kernel) (by decide +kernel)
theorem k_508 : (Cond.code yX3_queueIfLast cX3_queueIfLast 2 (Option.none : Option FieldType)) ∈ T0 := mT (i := 508) (by decide +kernel) (by decide +kernel)
theorem k_509 : (Cond.methodLink RX3 107 yX3_closeOne) ∈ T0 := mT (i := 509) (by decide +kernel) (by decide +kernel)
theorem k_511 : (Cond.instanceMethod yX3_closeOne) ∈ T0 := mT (i := 511) (by decide +kernel) (by decide +kernel)
theorem k_512 : (Cond.code yX3_closeOne cX3_closeOne 4 (Option.some FieldType.int)) ∈ T0 := mT (i := 512) (by decide +kernel) (by decide +kernel)
theorem k_513 : (Cond.methodLink RX3 110 yX3_neighbourLeft) ∈ T0 := mT (i := 513) (by decide +kernel) (by decide +kernel)
theorem k_515 : (Cond.instanceMethod yX3_neighbourLeft) ∈ T0 := mT (i := 515) (by decide +kernel) (by decide +kernel)
theorem k_516 : (Cond.code yX3_neighbourLeft cX3_neighbourLeft 6 (Option.some FieldType.int)) ∈ T0 := mT (i := 516) (by decide +kernel) (by decide +kernel)
theorem k_517 : (Cond.methodLink RL 84 yX5_worth) ∈ T0 := mT (i := 517) (by decide +kernel) (by decide +kernel)
theorem k_518 : (Cond.instanceMethod yX5_worth) ∈ T0 := mT (i := 518) (by decide +kernel) (by decide +kernel)
theorem k_519 : (Cond.selects RX5 yX5_worth yX5_worth) ∈ T0 := mT (i := 519) (by decide +kernel) (by decide +kernel)
theorem k_520 : (Cond.code yX5_worth cX5_worth 1 (Option.some FieldType.int)) ∈ T0 := mT (i := 520) (by decide +kernel) (by decide +kernel)
theorem k_521 : (Cond.methodLink RX5 150 yX5_isTooWide) ∈ T0 := mT (i := 521) (by decide +kernel) (by decide +kernel)
theorem k_523 : (Cond.instanceMethod yX5_isTooWide) ∈ T0 := mT (i := 523) (by decide +kernel) (by decide +kernel)
theorem k_524 : (Cond.code yX5_isTooWide cX5_isTooWide 1 (Option.some FieldType.boolean)) ∈ T0 := mT (i := 524) (by decide +kernel) (by decide +kernel)
theorem k_525 : (Cond.methodLink RX5 154 yX4_worthOfAll) ∈ T0 := mT (i := 525) (by decide +kernel) (by decide +kernel)
theorem k_526 : (Cond.instanceMethod yX4_worthOfAll) ∈ T0 := mT (i := 526) (by decide +kernel) (by decide +kernel)
theorem k_527 : (Cond.selects RX4 yX4_worthOfAll yX4_worthOfAll) ∈ T0 := mT (i := 527) (by decide +kernel) (by decide +kernel)
theorem k_528 : (Cond.code yX4_worthOfAll cX4_worthOfAll 2 (Option.some FieldType.int)) ∈ T0 := mT (i := 528) (by decide +kernel) (by decide +kernel)
theorem k_529 : (Cond.methodLink RX4 29 yX4_openSet) ∈ T0 := mT (i := 529) (by decide +kernel) (by decide +kernel)
theorem k_531 : (Cond.instanceMethod yX4_openSet) ∈ T0 := mT (i := 531) (by decide +kernel) (by decide +kernel)
theorem k_532 : (Cond.code yX4_openSet cX4_openSet 4 (Option.some FieldType.int)) ∈ T0 := mT (i := 532) (by decide +kernel) (by decide +kernel)
theorem k_533 : (Cond.methodLink RX4 53 yX4_openInBase) ∈ T0 := mT (i := 533) (by decide +kernel) (by decide +kernel)
theorem k_535 : (Cond.instanceMethod yX4_openInBase) ∈ T0 := mT (i := 535) (by decide +kernel) (by decide +kernel)
theorem k_536 : (Cond.code yX4_openInBase cX4_openInBase 4 (Option.some FieldType.int)) ∈ T0 := mT (i := 536) (by decide +kernel) (by decide +kernel)
theorem k_537 : (Cond.methodLink RX4 75 yX2_isOpen) ∈ T0 := mT (i := 537) (by decide +kernel) (by decide +kernel)
theorem k_538 : (Cond.methodLink RX4 56 ⟨"java/lang/Integer", "bitCount", "(I)I"⟩) ∈ T0 := mT (i := 538) (by decide +kernel) (by decide +kernel)
theorem k_539 : (Cond.static ⟨"java/lang/Integer", "bitCount", "(I)I"⟩) ∈ T0 := mT (i := 539) (by decide +kernel) (by decide +kernel)
theorem k_540 : (Cond.code ⟨"java/lang/Integer", "bitCount", "(I)I"⟩ cJ6_bitCount_0f7a4 1 (Option.some FieldType.int)) ∈ T0 := mT (i := 540) (by decide +kernel) (by decide +kernel)
theorem k_541 : (Cond.constant "java/lang/Integer" 265 (1431655765 : Int32)) ∈ T0 := mT (i := 541) (by decide +kernel) (by decide +kernel)
theorem k_542 : (Cond.constant "java/lang/Integer" 266 (858993459 : Int32)) ∈ T0 := mT (i := 542) (by decide +kernel) (by decide +kernel)
theorem k_543 : (Cond.constant "java/lang/Integer" 267 (252645135 : Int32)) ∈ T0 := mT (i := 543) (by decide +kernel) (by decide +kernel)
theorem k_544 : (Cond.methodLink RX4 64 yX4_keptOfBase) ∈ T0 := mT (i := 544) (by decide +kernel) (by decide +kernel)
theorem k_546 : (Cond.instanceMethod yX4_keptOfBase) ∈ T0 := mT (i := 546) (by decide +kernel) (by decide +kernel)
theorem k_547 : (Cond.code yX4_keptOfBase cX4_keptOfBase 4 (Option.some FieldType.int)) ∈ T0 := mT (i := 547) (by decide +kernel) (by decide +kernel)
theorem k_548 : (Cond.methodLink RX4 67 yX4_widen) ∈ T0 := mT (i := 548) (by decide +kernel) (by decide +kernel)
theorem k_550 : (Cond.instanceMethod yX4_widen) ∈ T0 := mT (i := 550) (by decide +kernel) (by decide +kernel)
theorem k_551 : (Cond.code yX4_widen cX4_widen 4 (Option.none : Option FieldType)) ∈ T0 := mT (i := 551) (by decide +kernel) (by decide +kernel)
theorem k_552 : (Cond.methodLink RX4 79 yX4_isKept) ∈ T0 := mT (i := 552) (by decide +kernel) (by decide +kernel)
theorem k_554 : (Cond.instanceMethod yX4_isKept) ∈ T0 := mT (i := 554) (by decide +kernel) (by decide +kernel)
theorem k_555 : (Cond.code yX4_isKept cX4_isKept 4 (Option.some FieldType.boolean)) ∈ T0 := mT (i := 555) (by decide +kernel) (by decide +kernel)
theorem k_556 : (Cond.methodLink RX4 86 yX4_setOf) ∈ T0 := mT (i := 556) (by decide +kernel) (by decide +kernel)
theorem k_558 : (Cond.instanceMethod yX4_setOf) ∈ T0 := mT (i := 558) (by decide +kernel) (by decide +kernel)
theorem k_559 : (Cond.code yX4_setOf cX4_setOf 5 (Option.some FieldType.int)) ∈ T0 := mT (i := 559) (by decide +kernel) (by decide +kernel)
theorem k_560 : (Cond.methodLink RX4 71 yX4_fill) ∈ T0 := mT (i := 560) (by decide +kernel) (by decide +kernel)
theorem k_562 : (Cond.instanceMethod yX4_fill) ∈ T0 := mT (i := 562) (by decide +kernel) (by decide +kernel)
theorem k_563 : (Cond.code yX4_fill cX4_fill 8 (Option.none : Option FieldType)) ∈ T0 := mT (i := 563) (by decide +kernel) (by decide +kernel)
theorem k_564 : (Cond.methodLink RX4 93 ⟨"java/util/Arrays", "copyOf", "([JI)[J"⟩) ∈ T0 := mT (i := 564) (by decide +kernel) (by decide +kernel)
theorem k_565 : (Cond.static ⟨"java/util/Arrays", "copyOf", "([JI)[J"⟩) ∈ T0 := mT (i := 565) (by decide +kernel) (by decide +kernel)
theorem k_566 : (Cond.code ⟨"java/util/Arrays", "copyOf", "([JI)[J"⟩ cJ7_copyOf_c38d5 3 (Option.some (FieldType.array FieldType.long))) ∈ T0 := mT (i := 566) (by decide +kernel) (by decide +kernel)
theorem k_567 : (Cond.methodLink "java/util/Arrays" 319 ⟨"[J", "clone", "()Ljava/lang/Object;"⟩) ∈ T0 := mT (i := 567) (by decide +kernel) (by decide +kernel)
theorem k_568 : (Cond.sameMethod "[J" "java/lang/Object" "clone" "()Ljava/lang/Object;") ∈ T0 := mT (i := 568) (by decide +kernel) (by decide +kernel)
theorem k_569 : (Cond.native ⟨"java/lang/Object", "clone", "()Ljava/lang/Object;"⟩) ∈ T0 := mT (i := 569) (by decide +kernel) (by decide +kernel)
theorem k_570 : (Cond.instanceMethod ⟨"java/lang/Object", "clone", "()Ljava/lang/Object;"⟩) ∈ T0 := mT (i := 570) (by decide +kernel) (by decide +kernel)
theorem k_571 : (Cond.selects "[J" ⟨"[J", "clone", "()Ljava/lang/Object;"⟩ ⟨"java/lang/Object", "clone", "()Ljava/lang/Object;"⟩) ∈ T0 := mT (i := 571) (by decide +kernel) (by decide +kernel)
theorem k_573 : (Cond.classLink "java/util/Arrays" 320 "[J") ∈ T0 := mT (i := 573) (by decide +kernel) (by decide +kernel)
theorem k_574 : (Cond.methodLink "java/util/Arrays" 304 ⟨"java/lang/Math", "min", "(II)I"⟩) ∈ T0 := mT (i := 574) (by decide +kernel) (by decide +kernel)
theorem k_575 : (Cond.static ⟨"java/lang/Math", "min", "(II)I"⟩) ∈ T0 := mT (i := 575) (by decide +kernel) (by decide +kernel)
theorem k_576 : (Cond.code ⟨"java/lang/Math", "min", "(II)I"⟩ cJ9_min_7cf53 2 (Option.some FieldType.int)) ∈ T0 := mT (i := 576) (by decide +kernel) (by decide +kernel)
theorem k_577 : (Cond.methodLink "java/util/Arrays" 150 ⟨"java/lang/System", "arraycopy", "(Ljava/lang/Object;ILjava/lang/Object;II)V"⟩) ∈ T0 := mT (i := 577) (by decide +kernel) (by decide +kernel)
theorem k_578 : (Cond.constantLong RX4 99 (255 : Int64)) ∈ T0 := mT (i := 578) (by decide +kernel) (by decide +kernel)
theorem k_579 : (Cond.constantLong RX4 101 (-1 : Int64)) ∈ T0 := mT (i := 579) (by decide +kernel) (by decide +kernel)
theorem k_580 : (Cond.methodLink RX4 103 yX4_bestOfSet) ∈ T0 := mT (i := 580) (by decide +kernel) (by decide +kernel)
theorem k_582 : (Cond.instanceMethod yX4_bestOfSet) ∈ T0 := mT (i := 582) (by decide +kernel) (by decide +kernel)
theorem k_583 : (Cond.code yX4_bestOfSet cX4_bestOfSet 5 (Option.some FieldType.int)) ∈ T0 := mT (i := 583) (by decide +kernel) (by decide +kernel)
theorem k_584 : (Cond.constant RX4 106 (-1000000000 : Int32)) ∈ T0 := mT (i := 584) (by decide +kernel) (by decide +kernel)
theorem k_585 : (Cond.methodLink RX4 50 yX4_worthOfDraw) ∈ T0 := mT (i := 585) (by decide +kernel) (by decide +kernel)
theorem k_587 : (Cond.instanceMethod yX4_worthOfDraw) ∈ T0 := mT (i := 587) (by decide +kernel) (by decide +kernel)
theorem k_588 : (Cond.code yX4_worthOfDraw cX4_worthOfDraw 6 (Option.some FieldType.int)) ∈ T0 := mT (i := 588) (by decide +kernel) (by decide +kernel)
theorem k_589 : (Cond.methodLink RX4 33 yX4_worthOfSet) ∈ T0 := mT (i := 589) (by decide +kernel) (by decide +kernel)
theorem k_591 : (Cond.instanceMethod yX4_worthOfSet) ∈ T0 := mT (i := 591) (by decide +kernel) (by decide +kernel)
theorem k_592 : (Cond.code yX4_worthOfSet cX4_worthOfSet 2 (Option.some FieldType.int)) ∈ T0 := mT (i := 592) (by decide +kernel) (by decide +kernel)
theorem k_593 : (Cond.methodLink RL 88 yX5_worthOf) ∈ T0 := mT (i := 593) (by decide +kernel) (by decide +kernel)
theorem k_594 : (Cond.instanceMethod yX5_worthOf) ∈ T0 := mT (i := 594) (by decide +kernel) (by decide +kernel)
theorem k_595 : (Cond.selects RX5 yX5_worthOf yX5_worthOf) ∈ T0 := mT (i := 595) (by decide +kernel) (by decide +kernel)
theorem k_596 : (Cond.code yX5_worthOf cX5_worthOf 2 (Option.some FieldType.int)) ∈ T0 := mT (i := 596) (by decide +kernel) (by decide +kernel)
theorem k_597 : (Cond.methodLink RX5 157 yX4_worthOfOne) ∈ T0 := mT (i := 597) (by decide +kernel) (by decide +kernel)
theorem k_598 : (Cond.instanceMethod yX4_worthOfOne) ∈ T0 := mT (i := 598) (by decide +kernel) (by decide +kernel)
theorem k_599 : (Cond.selects RX4 yX4_worthOfOne yX4_worthOfOne) ∈ T0 := mT (i := 599) (by decide +kernel) (by decide +kernel)
theorem k_600 : (Cond.code yX4_worthOfOne cX4_worthOfOne 3 (Option.some FieldType.int)) ∈ T0 := mT (i := 600) (by decide +kernel) (by decide +kernel)
theorem k_601 : (Cond.methodLink RX4 37 yX4_worthInSet) ∈ T0 := mT (i := 601) (by decide +kernel) (by decide +kernel)
theorem k_603 : (Cond.instanceMethod yX4_worthInSet) ∈ T0 := mT (i := 603) (by decide +kernel) (by decide +kernel)
theorem k_604 : (Cond.code yX4_worthInSet cX4_worthInSet 4 (Option.some FieldType.int)) ∈ T0 := mT (i := 604) (by decide +kernel) (by decide +kernel)
theorem k_605 : (Cond.methodLink RL 92 yX5_best) ∈ T0 := mT (i := 605) (by decide +kernel) (by decide +kernel)
theorem k_606 : (Cond.instanceMethod yX5_best) ∈ T0 := mT (i := 606) (by decide +kernel) (by decide +kernel)
theorem k_607 : (Cond.selects RX5 yX5_best yX5_best) ∈ T0 := mT (i := 607) (by decide +kernel) (by decide +kernel)
theorem k_608 : (Cond.code yX5_best cX5_best 2 (Option.some FieldType.int)) ∈ T0 := mT (i := 608) (by decide +kernel) (by decide +kernel)
theorem k_609 : (Cond.methodLink RX5 161 yX4_bestSide) ∈ T0 := mT (i := 609) (by decide +kernel) (by decide +kernel)
theorem k_610 : (Cond.instanceMethod yX4_bestSide) ∈ T0 := mT (i := 610) (by decide +kernel) (by decide +kernel)
theorem k_611 : (Cond.selects RX4 yX4_bestSide yX4_bestSide) ∈ T0 := mT (i := 611) (by decide +kernel) (by decide +kernel)
theorem k_612 : (Cond.code yX4_bestSide cX4_bestSide 7 (Option.some FieldType.int)) ∈ T0 := mT (i := 612) (by decide +kernel) (by decide +kernel)
theorem k_613 : (Cond.methodLink RL 96 yX5_simple) ∈ T0 := mT (i := 613) (by decide +kernel) (by decide +kernel)
theorem k_614 : (Cond.instanceMethod yX5_simple) ∈ T0 := mT (i := 614) (by decide +kernel) (by decide +kernel)
theorem k_615 : (Cond.selects RX5 yX5_simple yX5_simple) ∈ T0 := mT (i := 615) (by decide +kernel) (by decide +kernel)
theorem k_616 : (Cond.code yX5_simple cX5_simple 2 (Option.some FieldType.int)) ∈ T0 := mT (i := 616) (by decide +kernel) (by decide +kernel)
theorem k_617 : (Cond.methodLink RX5 164 yX5_reckoned) ∈ T0 := mT (i := 617) (by decide +kernel) (by decide +kernel)
theorem k_619 : (Cond.instanceMethod yX5_reckoned) ∈ T0 := mT (i := 619) (by decide +kernel) (by decide +kernel)
theorem k_620 : (Cond.code yX5_reckoned cX5_reckoned 1 (Option.some (FieldType.object "FenceBench$Ends"))) ∈ T0 := mT (i := 620) (by decide +kernel) (by decide +kernel)
theorem k_621 : (Cond.methodLink RX5 225 yX0_reckon) ∈ T0 := mT (i := 621) (by decide +kernel) (by decide +kernel)
theorem k_622 : (Cond.instanceMethod yX0_reckon) ∈ T0 := mT (i := 622) (by decide +kernel) (by decide +kernel)
theorem k_623 : (Cond.selects RX0 yX0_reckon yX0_reckon) ∈ T0 := mT (i := 623) (by decide +kernel) (by decide +kernel)
theorem k_624 : (Cond.code yX0_reckon cX0_reckon 3 (Option.none : Option FieldType)) ∈ T0 := mT (i := 624) (by decide +kernel) (by decide +kernel)
theorem k_625 : (Cond.methodLink RX0 44 yX1_wipe) ∈ T0 := mT (i := 625) (by decide +kernel) (by decide +kernel)
theorem k_626 : (Cond.instanceMethod yX1_wipe) ∈ T0 := mT (i := 626) (by decide +kernel) (by decide +kernel)
theorem k_627 : (Cond.selects RX1 yX1_wipe yX1_wipe) ∈ T0 := mT (i := 627) (by decide +kernel) (by decide +kernel)
theorem k_628 : (Cond.code yX1_wipe cX1_wipe 1 (Option.none : Option FieldType)) ∈ T0 := mT (i := 628) (by decide +kernel) (by decide +kernel)
theorem k_629 : (Cond.methodLink RX1 33 ⟨"java/util/Arrays", "fill", "([II)V"⟩) ∈ T0 := mT (i := 629) (by decide +kernel) (by decide +kernel)
theorem k_630 : (Cond.methodLink RX0 57 yX0_takeLoose) ∈ T0 := mT (i := 630) (by decide +kernel) (by decide +kernel)
theorem k_632 : (Cond.instanceMethod yX0_takeLoose) ∈ T0 := mT (i := 632) (by decide +kernel) (by decide +kernel)
theorem k_633 : (Cond.code yX0_takeLoose cX0_takeLoose 3 (Option.none : Option FieldType)) ∈ T0 := mT (i := 633) (by decide +kernel) (by decide +kernel)
theorem k_634 : (Cond.methodLink RX0 64 yX1_put) ∈ T0 := mT (i := 634) (by decide +kernel) (by decide +kernel)
theorem k_635 : (Cond.instanceMethod yX1_put) ∈ T0 := mT (i := 635) (by decide +kernel) (by decide +kernel)
theorem k_636 : (Cond.selects RX1 yX1_put yX1_put) ∈ T0 := mT (i := 636) (by decide +kernel) (by decide +kernel)
theorem k_637 : (Cond.code yX1_put cX1_put 5 (Option.some FieldType.int)) ∈ T0 := mT (i := 637) (by decide +kernel) (by decide +kernel)
theorem k_638 : (Cond.methodLink RX1 47 yX1_placeOf) ∈ T0 := mT (i := 638) (by decide +kernel) (by decide +kernel)
theorem k_640 : (Cond.instanceMethod yX1_placeOf) ∈ T0 := mT (i := 640) (by decide +kernel) (by decide +kernel)
theorem k_641 : (Cond.code yX1_placeOf cX1_placeOf 3 (Option.some FieldType.int)) ∈ T0 := mT (i := 641) (by decide +kernel) (by decide +kernel)
theorem k_642 : (Cond.methodLink RX5 168 yX0_isTold) ∈ T0 := mT (i := 642) (by decide +kernel) (by decide +kernel)
theorem k_643 : (Cond.instanceMethod yX0_isTold) ∈ T0 := mT (i := 643) (by decide +kernel) (by decide +kernel)
theorem k_644 : (Cond.selects RX0 yX0_isTold yX0_isTold) ∈ T0 := mT (i := 644) (by decide +kernel) (by decide +kernel)
theorem k_645 : (Cond.code yX0_isTold cX0_isTold 1 (Option.some FieldType.boolean)) ∈ T0 := mT (i := 645) (by decide +kernel) (by decide +kernel)
theorem k_646 : (Cond.methodLink RX0 68 yX1_isTold) ∈ T0 := mT (i := 646) (by decide +kernel) (by decide +kernel)
theorem k_647 : (Cond.instanceMethod yX1_isTold) ∈ T0 := mT (i := 647) (by decide +kernel) (by decide +kernel)
theorem k_648 : (Cond.selects RX1 yX1_isTold yX1_isTold) ∈ T0 := mT (i := 648) (by decide +kernel) (by decide +kernel)
theorem k_649 : (Cond.code yX1_isTold cX1_isTold 1 (Option.some FieldType.boolean)) ∈ T0 := mT (i := 649) (by decide +kernel) (by decide +kernel)
theorem k_650 : (Cond.methodLink RX1 51 yX1_layOut) ∈ T0 := mT (i := 650) (by decide +kernel) (by decide +kernel)
theorem k_652 : (Cond.instanceMethod yX1_layOut) ∈ T0 := mT (i := 652) (by decide +kernel) (by decide +kernel)
theorem k_653 : (Cond.code yX1_layOut cX1_layOut 2 (Option.none : Option FieldType)) ∈ T0 := mT (i := 653) (by decide +kernel) (by decide +kernel)
theorem k_654 : (Cond.methodLink RX1 75 yX1_layOutKind) ∈ T0 := mT (i := 654) (by decide +kernel) (by decide +kernel)
theorem k_656 : (Cond.instanceMethod yX1_layOutKind) ∈ T0 := mT (i := 656) (by decide +kernel) (by decide +kernel)
theorem k_657 : (Cond.code yX1_layOutKind cX1_layOutKind 4 (Option.none : Option FieldType)) ∈ T0 := mT (i := 657) (by decide +kernel) (by decide +kernel)
theorem k_658 : (Cond.methodLink RX1 71 yX1_isRing) ∈ T0 := mT (i := 658) (by decide +kernel) (by decide +kernel)
theorem k_660 : (Cond.instanceMethod yX1_isRing) ∈ T0 := mT (i := 660) (by decide +kernel) (by decide +kernel)
theorem k_661 : (Cond.code yX1_isRing cX1_isRing 2 (Option.some FieldType.boolean)) ∈ T0 := mT (i := 661) (by decide +kernel) (by decide +kernel)
theorem k_662 : (Cond.methodLink RX1 57 yX1_fillAll) ∈ T0 := mT (i := 662) (by decide +kernel) (by decide +kernel)
theorem k_664 : (Cond.instanceMethod yX1_fillAll) ∈ T0 := mT (i := 664) (by decide +kernel) (by decide +kernel)
theorem k_665 : (Cond.code yX1_fillAll cX1_fillAll 2 (Option.none : Option FieldType)) ∈ T0 := mT (i := 665) (by decide +kernel) (by decide +kernel)
theorem k_666 : (Cond.methodLink RX1 79 ⟨"java/lang/Math", "max", "(II)I"⟩) ∈ T0 := mT (i := 666) (by decide +kernel) (by decide +kernel)
theorem k_667 : (Cond.static ⟨"java/lang/Math", "max", "(II)I"⟩) ∈ T0 := mT (i := 667) (by decide +kernel) (by decide +kernel)
theorem k_668 : (Cond.code ⟨"java/lang/Math", "max", "(II)I"⟩ cJ9_max_7cf53 2 (Option.some FieldType.int)) ∈ T0 := mT (i := 668) (by decide +kernel) (by decide +kernel)
theorem k_669 : (Cond.methodLink RX1 84 ⟨"java/lang/Math", "min", "(II)I"⟩) ∈ T0 := mT (i := 669) (by decide +kernel) (by decide +kernel)
theorem k_670 : (Cond.methodLink RX1 87 yX1_countUp) ∈ T0 := mT (i := 670) (by decide +kernel) (by decide +kernel)
theorem k_672 : (Cond.instanceMethod yX1_countUp) ∈ T0 := mT (i := 672) (by decide +kernel) (by decide +kernel)
theorem k_673 : (Cond.code yX1_countUp cX1_countUp 2 (Option.none : Option FieldType)) ∈ T0 := mT (i := 673) (by decide +kernel) (by decide +kernel)
theorem k_674 : (Cond.methodLink RX1 90 yX1_bestAt) ∈ T0 := mT (i := 674) (by decide +kernel) (by decide +kernel)
theorem k_676 : (Cond.instanceMethod yX1_bestAt) ∈ T0 := mT (i := 676) (by decide +kernel) (by decide +kernel)
theorem k_677 : (Cond.code yX1_bestAt cX1_bestAt 4 (Option.some FieldType.int)) ∈ T0 := mT (i := 677) (by decide +kernel) (by decide +kernel)
theorem k_678 : (Cond.constant RX1 94 (-1000000000 : Int32)) ∈ T0 := mT (i := 678) (by decide +kernel) (by decide +kernel)
theorem k_679 : (Cond.methodLink RX1 63 yX1_openingAt) ∈ T0 := mT (i := 679) (by decide +kernel) (by decide +kernel)
theorem k_681 : (Cond.instanceMethod yX1_openingAt) ∈ T0 := mT (i := 681) (by decide +kernel) (by decide +kernel)
theorem k_682 : (Cond.code yX1_openingAt cX1_openingAt 5 (Option.some FieldType.int)) ∈ T0 := mT (i := 682) (by decide +kernel) (by decide +kernel)
theorem k_683 : (Cond.methodLink RX5 171 yX0_worthByLengths) ∈ T0 := mT (i := 683) (by decide +kernel) (by decide +kernel)
theorem k_684 : (Cond.instanceMethod yX0_worthByLengths) ∈ T0 := mT (i := 684) (by decide +kernel) (by decide +kernel)
theorem k_685 : (Cond.selects RX0 yX0_worthByLengths yX0_worthByLengths) ∈ T0 := mT (i := 685) (by decide +kernel) (by decide +kernel)
theorem k_686 : (Cond.code yX0_worthByLengths cX0_worthByLengths 2 (Option.some FieldType.int)) ∈ T0 := mT (i := 686) (by decide +kernel) (by decide +kernel)
theorem k_687 : (Cond.methodLink RX0 72 yX0_closingAll) ∈ T0 := mT (i := 687) (by decide +kernel) (by decide +kernel)
theorem k_689 : (Cond.instanceMethod yX0_closingAll) ∈ T0 := mT (i := 689) (by decide +kernel) (by decide +kernel)
theorem k_690 : (Cond.code yX0_closingAll cX0_closingAll 1 (Option.some FieldType.int)) ∈ T0 := mT (i := 690) (by decide +kernel) (by decide +kernel)
theorem k_691 : (Cond.methodLink RX0 88 yX1_whole) ∈ T0 := mT (i := 691) (by decide +kernel) (by decide +kernel)
theorem k_692 : (Cond.instanceMethod yX1_whole) ∈ T0 := mT (i := 692) (by decide +kernel) (by decide +kernel)
theorem k_693 : (Cond.selects RX1 yX1_whole yX1_whole) ∈ T0 := mT (i := 693) (by decide +kernel) (by decide +kernel)
theorem k_694 : (Cond.code yX1_whole cX1_whole 1 (Option.some FieldType.int)) ∈ T0 := mT (i := 694) (by decide +kernel) (by decide +kernel)
theorem k_695 : (Cond.methodLink RX0 76 yX0_canLeave) ∈ T0 := mT (i := 695) (by decide +kernel) (by decide +kernel)
theorem k_697 : (Cond.instanceMethod yX0_canLeave) ∈ T0 := mT (i := 697) (by decide +kernel) (by decide +kernel)
theorem k_698 : (Cond.code yX0_canLeave cX0_canLeave 1 (Option.some FieldType.boolean)) ∈ T0 := mT (i := 698) (by decide +kernel) (by decide +kernel)
theorem k_699 : (Cond.methodLink RX0 79 yX0_leavingSome) ∈ T0 := mT (i := 699) (by decide +kernel) (by decide +kernel)
theorem k_701 : (Cond.instanceMethod yX0_leavingSome) ∈ T0 := mT (i := 701) (by decide +kernel) (by decide +kernel)
theorem k_702 : (Cond.code yX0_leavingSome cX0_leavingSome 1 (Option.some FieldType.int)) ∈ T0 := mT (i := 702) (by decide +kernel) (by decide +kernel)
theorem k_703 : (Cond.methodLink RX0 82 ⟨"java/lang/Math", "max", "(II)I"⟩) ∈ T0 := mT (i := 703) (by decide +kernel) (by decide +kernel)
theorem k_704 : (Cond.methodLink RL 100 yX5_keep) ∈ T0 := mT (i := 704) (by decide +kernel) (by decide +kernel)
theorem k_705 : (Cond.instanceMethod yX5_keep) ∈ T0 := mT (i := 705) (by decide +kernel) (by decide +kernel)
theorem k_706 : (Cond.selects RX5 yX5_keep yX5_keep) ∈ T0 := mT (i := 706) (by decide +kernel) (by decide +kernel)
theorem k_707 : (Cond.code yX5_keep cX5_keep 2 (Option.some FieldType.int)) ∈ T0 := mT (i := 707) (by decide +kernel) (by decide +kernel)
theorem k_708 : (Cond.methodLink RX5 178 yX0_keepOrLeave) ∈ T0 := mT (i := 708) (by decide +kernel) (by decide +kernel)
theorem k_709 : (Cond.instanceMethod yX0_keepOrLeave) ∈ T0 := mT (i := 709) (by decide +kernel) (by decide +kernel)
theorem k_710 : (Cond.selects RX0 yX0_keepOrLeave yX0_keepOrLeave) ∈ T0 := mT (i := 710) (by decide +kernel) (by decide +kernel)
theorem k_711 : (Cond.code yX0_keepOrLeave cX0_keepOrLeave 1 (Option.some FieldType.int)) ∈ T0 := mT (i := 711) (by decide +kernel) (by decide +kernel)
theorem k_712 : (Cond.methodLink RL 104 yX5_give) ∈ T0 := mT (i := 712) (by decide +kernel) (by decide +kernel)
theorem k_713 : (Cond.instanceMethod yX5_give) ∈ T0 := mT (i := 713) (by decide +kernel) (by decide +kernel)
theorem k_714 : (Cond.selects RX5 yX5_give yX5_give) ∈ T0 := mT (i := 714) (by decide +kernel) (by decide +kernel)
theorem k_715 : (Cond.code yX5_give cX5_give 3 (Option.some FieldType.int)) ∈ T0 := mT (i := 715) (by decide +kernel) (by decide +kernel)
theorem k_716 : (Cond.methodLink RX5 184 yX1_bestKind) ∈ T0 := mT (i := 716) (by decide +kernel) (by decide +kernel)
theorem k_717 : (Cond.instanceMethod yX1_bestKind) ∈ T0 := mT (i := 717) (by decide +kernel) (by decide +kernel)
theorem k_718 : (Cond.selects RX1 yX1_bestKind yX1_bestKind) ∈ T0 := mT (i := 718) (by decide +kernel) (by decide +kernel)
theorem k_719 : (Cond.code yX1_bestKind cX1_bestKind 4 (Option.some FieldType.int)) ∈ T0 := mT (i := 719) (by decide +kernel) (by decide +kernel)
theorem k_720 : (Cond.methodLink RX1 67 yX1_whole) ∈ T0 := mT (i := 720) (by decide +kernel) (by decide +kernel)
theorem k_721 : (Cond.methodLink RL 108 yX5_longs) ∈ T0 := mT (i := 721) (by decide +kernel) (by decide +kernel)
theorem k_722 : (Cond.instanceMethod yX5_longs) ∈ T0 := mT (i := 722) (by decide +kernel) (by decide +kernel)
theorem k_723 : (Cond.selects RX5 yX5_longs yX5_longs) ∈ T0 := mT (i := 723) (by decide +kernel) (by decide +kernel)
theorem k_724 : (Cond.code yX5_longs cX5_longs 1 (Option.some FieldType.int)) ∈ T0 := mT (i := 724) (by decide +kernel) (by decide +kernel)
theorem k_725 : (Cond.methodLink RX5 187 yX3_countLongs) ∈ T0 := mT (i := 725) (by decide +kernel) (by decide +kernel)
theorem k_726 : (Cond.instanceMethod yX3_countLongs) ∈ T0 := mT (i := 726) (by decide +kernel) (by decide +kernel)
theorem k_727 : (Cond.selects RX3 yX3_countLongs yX3_countLongs) ∈ T0 := mT (i := 727) (by decide +kernel) (by decide +kernel)
theorem k_728 : (Cond.code yX3_countLongs cX3_countLongs 4 (Option.some FieldType.int)) ∈ T0 := mT (i := 728) (by decide +kernel) (by decide +kernel)
theorem k_729 : (Cond.methodLink RL 112 yX5_count) ∈ T0 := mT (i := 729) (by decide +kernel) (by decide +kernel)
theorem k_730 : (Cond.instanceMethod yX5_count) ∈ T0 := mT (i := 730) (by decide +kernel) (by decide +kernel)
theorem k_731 : (Cond.selects RX5 yX5_count yX5_count) ∈ T0 := mT (i := 731) (by decide +kernel) (by decide +kernel)
theorem k_732 : (Cond.code yX5_count cX5_count 2 (Option.some FieldType.int)) ∈ T0 := mT (i := 732) (by decide +kernel) (by decide +kernel)
theorem k_733 : (Cond.methodLink RL 116 yX5_empty) ∈ T0 := mT (i := 733) (by decide +kernel) (by decide +kernel)
theorem k_734 : (Cond.instanceMethod yX5_empty) ∈ T0 := mT (i := 734) (by decide +kernel) (by decide +kernel)
theorem k_735 : (Cond.selects RX5 yX5_empty yX5_empty) ∈ T0 := mT (i := 735) (by decide +kernel) (by decide +kernel)
theorem k_736 : (Cond.code yX5_empty cX5_empty 1 (Option.none : Option FieldType)) ∈ T0 := mT (i := 736) (by decide +kernel) (by decide +kernel)
theorem k_737 : (Cond.methodLink RX5 203 yX1_wipe) ∈ T0 := mT (i := 737) (by decide +kernel) (by decide +kernel)
theorem k_738 : (Cond.methodLink RL 120 yX5_heap) ∈ T0 := mT (i := 738) (by decide +kernel) (by decide +kernel)
theorem k_739 : (Cond.instanceMethod yX5_heap) ∈ T0 := mT (i := 739) (by decide +kernel) (by decide +kernel)
theorem k_740 : (Cond.selects RX5 yX5_heap yX5_heap) ∈ T0 := mT (i := 740) (by decide +kernel) (by decide +kernel)
theorem k_741 : (Cond.code yX5_heap cX5_heap 5 (Option.some FieldType.int)) ∈ T0 := mT (i := 741) (by decide +kernel) (by decide +kernel)
theorem k_742 : (Cond.methodLink RX5 204 yX1_hasRoom) ∈ T0 := mT (i := 742) (by decide +kernel) (by decide +kernel)
theorem k_743 : (Cond.instanceMethod yX1_hasRoom) ∈ T0 := mT (i := 743) (by decide +kernel) (by decide +kernel)
theorem k_744 : (Cond.selects RX1 yX1_hasRoom yX1_hasRoom) ∈ T0 := mT (i := 744) (by decide +kernel) (by decide +kernel)
theorem k_745 : (Cond.code yX1_hasRoom cX1_hasRoom 5 (Option.some FieldType.boolean)) ∈ T0 := mT (i := 745) (by decide +kernel) (by decide +kernel)
theorem k_746 : (Cond.methodLink RX5 208 yX1_put) ∈ T0 := mT (i := 746) (by decide +kernel) (by decide +kernel)
theorem k_747 : (Cond.methodLink RL 129 yX5_open) ∈ T0 := mT (i := 747) (by decide +kernel) (by decide +kernel)
theorem k_748 : (Cond.instanceMethod yX5_open) ∈ T0 := mT (i := 748) (by decide +kernel) (by decide +kernel)
theorem k_749 : (Cond.selects RX5 yX5_open yX5_open) ∈ T0 := mT (i := 749) (by decide +kernel) (by decide +kernel)
theorem k_750 : (Cond.code yX5_open cX5_open 2 (Option.some FieldType.int)) ∈ T0 := mT (i := 750) (by decide +kernel) (by decide +kernel)
theorem k_751 : (Cond.methodLink RX5 212 yX1_isTold) ∈ T0 := mT (i := 751) (by decide +kernel) (by decide +kernel)
theorem k_752 : (Cond.methodLink RL 67 yL_drawn) ∈ T0 := mT (i := 752) (by decide +kernel) (by decide +kernel)
theorem k_753 : (Cond.static yL_drawn) ∈ T0 := mT (i := 753) (by decide +kernel) (by decide +kernel)
theorem k_754 : (Cond.codeWith yL_drawn method_3_code 4 (Option.some FieldType.int) [(0, 9, 12, 13)]) ∈ T0 := mT (i := 754) (by decide +kernel) (by decide +kernel)
theorem k_755 : (Cond.classLink RL 13 "java/util/NoSuchElementException") ∈ T0 := mT (i := 755) (by decide +kernel) (by decide +kernel)
theorem k_756 : (Cond.methodLink RL 7 yX5_drawn) ∈ T0 := mT (i := 756) (by decide +kernel) (by decide +kernel)
theorem k_757 : (Cond.instanceMethod yX5_drawn) ∈ T0 := mT (i := 757) (by decide +kernel) (by decide +kernel)
theorem k_758 : (Cond.selects RX5 yX5_drawn yX5_drawn) ∈ T0 := mT (i := 758) (by decide +kernel) (by decide +kernel)
theorem k_759 : (Cond.code yX5_drawn cX5_drawn 2 (Option.some FieldType.int)) ∈ T0 := mT (i := 759) (by decide +kernel) (by decide +kernel)
theorem k_760 : (Cond.classLink RX5 118 "java/util/NoSuchElementException") ∈ T0 := mT (i := 760) (by decide +kernel) (by decide +kernel)
theorem k_761 : (Cond.instantiable "java/util/NoSuchElementException" 6) ∈ T0 := mT (i := 761) (by decide +kernel) (by decide +kernel)
theorem k_769 : (Cond.selects "java/util/NoSuchElementException" ⟨"java/lang/Throwable", "fillInStackTrace", "(I)Ljava/lang/Throwable;"⟩ ⟨"java/lang/Throwable", "fillInStackTrace", "(I)Ljava/lang/Throwable;"⟩) ∈ T0 := mT (i := 769) (by decide +kernel) (by decide +kernel)
theorem k_770 : (Cond.selects "java/util/NoSuchElementException" ⟨"java/lang/Throwable", "fillInStackTrace", "()Ljava/lang/Throwable;"⟩ ⟨"java/lang/Throwable", "fillInStackTrace", "()Ljava/lang/Throwable;"⟩) ∈ T0 := mT (i := 770) (by decide +kernel) (by decide +kernel)
theorem k_781 : (Cond.fieldLink "java/lang/Throwable" 198 "java/lang/Throwable" "backtrace" "Ljava/lang/Object;") ∈ T0 := mT (i := 781) (by decide +kernel) (by decide +kernel)
theorem k_783 : (Cond.instanceMethod ⟨"java/lang/Throwable", "<init>", "()V"⟩) ∈ T0 := mT (i := 783) (by decide +kernel) (by decide +kernel)
theorem k_784 : (Cond.code ⟨"java/lang/Throwable", "<init>", "()V"⟩ prog_17_method_1_code 1 (Option.none : Option FieldType)) ∈ T0 := mT (i := 784) (by decide +kernel) (by decide +kernel)
theorem k_785 : (Cond.methodLink "java/lang/Throwable" 1 ⟨"java/lang/Object", "<init>", "()V"⟩) ∈ T0 := mT (i := 785) (by decide +kernel) (by decide +kernel)
theorem k_786 : (Cond.fieldLink "java/lang/Throwable" 13 "java/lang/Throwable" "UNASSIGNED_STACK" "[Ljava/lang/StackTraceElement;") ∈ T0 := mT (i := 786) (by decide +kernel) (by decide +kernel)
theorem k_788 : (Cond.fieldLink "java/lang/Throwable" 20 "java/lang/Throwable" "SUPPRESSED_SENTINEL" "Ljava/util/List;") ∈ T0 := mT (i := 788) (by decide +kernel) (by decide +kernel)
theorem k_790 : (Cond.methodLink "java/lang/Throwable" 27 ⟨"java/lang/Throwable", "fillInStackTrace", "()Ljava/lang/Throwable;"⟩) ∈ T0 := mT (i := 790) (by decide +kernel) (by decide +kernel)
theorem k_791 : (Cond.instanceMethod ⟨"java/lang/Throwable", "fillInStackTrace", "()Ljava/lang/Throwable;"⟩) ∈ T0 := mT (i := 791) (by decide +kernel) (by decide +kernel)
theorem k_792 : (Cond.sameMethod "java/lang/Throwable" "java/lang/Throwable" "fillInStackTrace" "()Ljava/lang/Throwable;") ∈ T0 := mT (i := 792) (by decide +kernel) (by decide +kernel)
theorem k_793 : (Cond.selects "java/lang/IllegalStateException" ⟨"java/lang/Throwable", "fillInStackTrace", "()Ljava/lang/Throwable;"⟩ ⟨"java/lang/Throwable", "fillInStackTrace", "()Ljava/lang/Throwable;"⟩) ∈ T0 := mT (i := 793) (by decide +kernel) (by decide +kernel)
theorem k_794 : (Cond.codeSync ⟨"java/lang/Throwable", "fillInStackTrace", "()Ljava/lang/Throwable;"⟩ prog_17_method_18_code 1 (Option.some (FieldType.object "java/lang/Throwable"))) ∈ T0 := mT (i := 794) (by decide +kernel) (by decide +kernel)
theorem k_795 : (Cond.methodLink "java/lang/Throwable" 202 ⟨"java/lang/Throwable", "fillInStackTrace", "(I)Ljava/lang/Throwable;"⟩) ∈ T0 := mT (i := 795) (by decide +kernel) (by decide +kernel)
theorem k_797 : (Cond.instanceMethod ⟨"java/lang/Throwable", "fillInStackTrace", "(I)Ljava/lang/Throwable;"⟩) ∈ T0 := mT (i := 797) (by decide +kernel) (by decide +kernel)
theorem k_798 : (Cond.instantiable "java/lang/Throwable" 6) ∈ T0 := mT (i := 798) (by decide +kernel) (by decide +kernel)
theorem k_799 : (Cond.native ⟨"java/lang/Throwable", "fillInStackTrace", "(I)Ljava/lang/Throwable;"⟩) ∈ T0 := mT (i := 799) (by decide +kernel) (by decide +kernel)
theorem k_801 : (Cond.methodLink RX5 122 ⟨"java/util/NoSuchElementException", "<init>", "(Ljava/lang/String;)V"⟩) ∈ T0 := mT (i := 801) (by decide +kernel) (by decide +kernel)
theorem k_802 : (Cond.instanceMethod ⟨"java/util/NoSuchElementException", "<init>", "(Ljava/lang/String;)V"⟩) ∈ T0 := mT (i := 802) (by decide +kernel) (by decide +kernel)
theorem k_803 : (Cond.code ⟨"java/util/NoSuchElementException", "<init>", "(Ljava/lang/String;)V"⟩ prog_19_method_4_code 2 (Option.none : Option FieldType)) ∈ T0 := mT (i := 803) (by decide +kernel) (by decide +kernel)
theorem k_804 : (Cond.methodLink "java/util/NoSuchElementException" 13 ⟨"java/lang/RuntimeException", "<init>", "(Ljava/lang/String;)V"⟩) ∈ T0 := mT (i := 804) (by decide +kernel) (by decide +kernel)
theorem k_805 : (Cond.instanceMethod ⟨"java/lang/RuntimeException", "<init>", "(Ljava/lang/String;)V"⟩) ∈ T0 := mT (i := 805) (by decide +kernel) (by decide +kernel)
theorem k_806 : (Cond.code ⟨"java/lang/RuntimeException", "<init>", "(Ljava/lang/String;)V"⟩ prog_14_method_2_code 2 (Option.none : Option FieldType)) ∈ T0 := mT (i := 806) (by decide +kernel) (by decide +kernel)
theorem k_807 : (Cond.methodLink "java/lang/RuntimeException" 7 ⟨"java/lang/Exception", "<init>", "(Ljava/lang/String;)V"⟩) ∈ T0 := mT (i := 807) (by decide +kernel) (by decide +kernel)
theorem k_808 : (Cond.instanceMethod ⟨"java/lang/Exception", "<init>", "(Ljava/lang/String;)V"⟩) ∈ T0 := mT (i := 808) (by decide +kernel) (by decide +kernel)
theorem k_809 : (Cond.code ⟨"java/lang/Exception", "<init>", "(Ljava/lang/String;)V"⟩ prog_10_method_2_code 2 (Option.none : Option FieldType)) ∈ T0 := mT (i := 809) (by decide +kernel) (by decide +kernel)
theorem k_810 : (Cond.methodLink "java/lang/Exception" 7 ⟨"java/lang/Throwable", "<init>", "(Ljava/lang/String;)V"⟩) ∈ T0 := mT (i := 810) (by decide +kernel) (by decide +kernel)
theorem k_811 : (Cond.instanceMethod ⟨"java/lang/Throwable", "<init>", "(Ljava/lang/String;)V"⟩) ∈ T0 := mT (i := 811) (by decide +kernel) (by decide +kernel)
theorem k_812 : (Cond.code ⟨"java/lang/Throwable", "<init>", "(Ljava/lang/String;)V"⟩ prog_17_method_2_code 2 (Option.none : Option FieldType)) ∈ T0 := mT (i := 812) (by decide +kernel) (by decide +kernel)
theorem k_814 : (Cond.fieldLink "java/lang/Throwable" 31 "java/lang/Throwable" "detailMessage" "Ljava/lang/String;") ∈ T0 := mT (i := 814) (by decide +kernel) (by decide +kernel)
theorem k_815 : (Cond.fieldLink "java/lang/Throwable" 7 "java/lang/Throwable" "cause" "Ljava/lang/Throwable;") ∈ T0 := mT (i := 815) (by decide +kernel) (by decide +kernel)
theorem k_816 : (Cond.fieldLink "java/lang/Throwable" 17 "java/lang/Throwable" "stackTrace" "[Ljava/lang/StackTraceElement;") ∈ T0 := mT (i := 816) (by decide +kernel) (by decide +kernel)
theorem k_817 : (Cond.fieldLink "java/lang/Throwable" 24 "java/lang/Throwable" "suppressedExceptions" "Ljava/util/List;") ∈ T0 := mT (i := 817) (by decide +kernel) (by decide +kernel)
theorem k_826 : (Cond.arrayClass FieldType.byte) ∈ T0 := mT (i := 826) (by decide +kernel) (by decide +kernel)
theorem k_827 : (Cond.methodLink RL 125 yL_value) ∈ T0 := mT (i := 827) (by decide +kernel) (by decide +kernel)
theorem k_828 : (Cond.static yL_value) ∈ T0 := mT (i := 828) (by decide +kernel) (by decide +kernel)
theorem k_829 : (Cond.codeWith yL_value method_4_code 3 (Option.some FieldType.int) [(0, 8, 11, 19)]) ∈ T0 := mT (i := 829) (by decide +kernel) (by decide +kernel)
theorem k_830 : (Cond.classLink RL 19 "java/lang/IllegalStateException") ∈ T0 := mT (i := 830) (by decide +kernel) (by decide +kernel)
theorem k_831 : (Cond.methodLink RL 15 yX5_value) ∈ T0 := mT (i := 831) (by decide +kernel) (by decide +kernel)
theorem k_832 : (Cond.instanceMethod yX5_value) ∈ T0 := mT (i := 832) (by decide +kernel) (by decide +kernel)
theorem k_833 : (Cond.selects RX5 yX5_value yX5_value) ∈ T0 := mT (i := 833) (by decide +kernel) (by decide +kernel)
theorem k_834 : (Cond.code yX5_value cX5_value 1 (Option.some FieldType.int)) ∈ T0 := mT (i := 834) (by decide +kernel) (by decide +kernel)
theorem k_835 : (Cond.classLink RX5 213 "java/lang/IllegalStateException") ∈ T0 := mT (i := 835) (by decide +kernel) (by decide +kernel)
theorem k_836 : (Cond.instantiable "java/lang/IllegalStateException" 6) ∈ T0 := mT (i := 836) (by decide +kernel) (by decide +kernel)
theorem k_838 : (Cond.selects "java/lang/IllegalStateException" ⟨"java/lang/Throwable", "fillInStackTrace", "(I)Ljava/lang/Throwable;"⟩ ⟨"java/lang/Throwable", "fillInStackTrace", "(I)Ljava/lang/Throwable;"⟩) ∈ T0 := mT (i := 838) (by decide +kernel) (by decide +kernel)
theorem k_845 : (Cond.methodLink RX5 217 ⟨"java/lang/IllegalStateException", "<init>", "(Ljava/lang/String;)V"⟩) ∈ T0 := mT (i := 845) (by decide +kernel) (by decide +kernel)
theorem k_846 : (Cond.instanceMethod ⟨"java/lang/IllegalStateException", "<init>", "(Ljava/lang/String;)V"⟩) ∈ T0 := mT (i := 846) (by decide +kernel) (by decide +kernel)
theorem k_847 : (Cond.code ⟨"java/lang/IllegalStateException", "<init>", "(Ljava/lang/String;)V"⟩ prog_11_method_2_code 2 (Option.none : Option FieldType)) ∈ T0 := mT (i := 847) (by decide +kernel) (by decide +kernel)
theorem k_848 : (Cond.methodLink "java/lang/IllegalStateException" 7 ⟨"java/lang/RuntimeException", "<init>", "(Ljava/lang/String;)V"⟩) ∈ T0 := mT (i := 848) (by decide +kernel) (by decide +kernel)
theorem k_851 : (Cond.methodLink RX5 218 yX1_whole) ∈ T0 := mT (i := 851) (by decide +kernel) (by decide +kernel)
theorem k_852 : (Cond.classLink RL 22 RX6) ∈ T0 := mT (i := 852) (by decide +kernel) (by decide +kernel)
theorem k_853 : (Cond.instantiable RX6 37) ∈ T0 := mT (i := 853) (by decide +kernel) (by decide +kernel)
theorem k_854 : (Cond.methodLink RL 24 yX6_init) ∈ T0 := mT (i := 854) (by decide +kernel) (by decide +kernel)
theorem k_855 : (Cond.instanceMethod yX6_init) ∈ T0 := mT (i := 855) (by decide +kernel) (by decide +kernel)
theorem k_856 : (Cond.code yX6_init cX6_init 1 (Option.none : Option FieldType)) ∈ T0 := mT (i := 856) (by decide +kernel) (by decide +kernel)
theorem k_857 : (Cond.methodLink RX6 1 ⟨"java/lang/Object", "<init>", "()V"⟩) ∈ T0 := mT (i := 857) (by decide +kernel) (by decide +kernel)
theorem k_858 : (Cond.constant RX6 47 (65536 : Int32)) ∈ T0 := mT (i := 858) (by decide +kernel) (by decide +kernel)
theorem k_859 : (Cond.fieldLink RX6 84 "FenceBenchModel" "thrown" "I") ∈ T0 := mT (i := 859) (by decide +kernel) (by decide +kernel)
theorem k_860 : (Cond.fieldLink RX6 88 "FenceBenchModel" "fields" "I") ∈ T0 := mT (i := 860) (by decide +kernel) (by decide +kernel)
theorem k_861 : (Cond.fieldLink RX6 91 "FenceBenchModel" "sides" "I") ∈ T0 := mT (i := 861) (by decide +kernel) (by decide +kernel)
theorem k_862 : (Cond.fieldLink RX6 105 "FenceBenchModel" "drawn" "I") ∈ T0 := mT (i := 862) (by decide +kernel) (by decide +kernel)
theorem k_863 : (Cond.fieldLink RX6 111 "FenceBenchModel" "all" "I") ∈ T0 := mT (i := 863) (by decide +kernel) (by decide +kernel)
theorem k_864 : (Cond.fieldLink RX6 9 "FenceBenchModel" "one" "[I") ∈ T0 := mT (i := 864) (by decide +kernel) (by decide +kernel)
theorem k_865 : (Cond.fieldLink RX6 13 "FenceBenchModel" "two" "[I") ∈ T0 := mT (i := 865) (by decide +kernel) (by decide +kernel)
theorem k_866 : (Cond.fieldLink RX6 16 "FenceBenchModel" "many" "[I") ∈ T0 := mT (i := 866) (by decide +kernel) (by decide +kernel)
theorem k_867 : (Cond.fieldLink RX6 19 "FenceBenchModel" "draws" "[I") ∈ T0 := mT (i := 867) (by decide +kernel) (by decide +kernel)
theorem k_868 : (Cond.fieldLink RX6 22 "FenceBenchModel" "isOpen" "[Z") ∈ T0 := mT (i := 868) (by decide +kernel) (by decide +kernel)
theorem k_869 : (Cond.fieldLink RX6 26 "FenceBenchModel" "owner" "[I") ∈ T0 := mT (i := 869) (by decide +kernel) (by decide +kernel)
theorem k_870 : (Cond.fieldLink RX6 102 "FenceBenchModel" "turn" "I") ∈ T0 := mT (i := 870) (by decide +kernel) (by decide +kernel)
theorem k_871 : (Cond.fieldLink RX6 29 "FenceBenchModel" "partOf" "[I") ∈ T0 := mT (i := 871) (by decide +kernel) (by decide +kernel)
theorem k_872 : (Cond.fieldLink RX6 32 "FenceBenchModel" "partFields" "[I") ∈ T0 := mT (i := 872) (by decide +kernel) (by decide +kernel)
theorem k_873 : (Cond.fieldLink RX6 35 "FenceBenchModel" "partSides" "[I") ∈ T0 := mT (i := 873) (by decide +kernel) (by decide +kernel)
theorem k_874 : (Cond.fieldLink RX6 38 "FenceBenchModel" "partLoose" "[I") ∈ T0 := mT (i := 874) (by decide +kernel) (by decide +kernel)
theorem k_875 : (Cond.fieldLink RX6 41 "FenceBenchModel" "partKind" "[I") ∈ T0 := mT (i := 875) (by decide +kernel) (by decide +kernel)
theorem k_876 : (Cond.fieldLink RX6 44 "FenceBenchModel" "partLeast" "[I") ∈ T0 := mT (i := 876) (by decide +kernel) (by decide +kernel)
theorem k_877 : (Cond.fieldLink RX6 135 "FenceBenchModel" "parts" "I") ∈ T0 := mT (i := 877) (by decide +kernel) (by decide +kernel)
theorem k_878 : (Cond.fieldLink RX6 48 "FenceBenchModel" "worths" "[I") ∈ T0 := mT (i := 878) (by decide +kernel) (by decide +kernel)
theorem k_879 : (Cond.fieldLink RX6 51 "FenceBenchModel" "openAt" "[I") ∈ T0 := mT (i := 879) (by decide +kernel) (by decide +kernel)
theorem k_880 : (Cond.fieldLink RX6 54 "FenceBenchModel" "holds" "[I") ∈ T0 := mT (i := 880) (by decide +kernel) (by decide +kernel)
theorem k_881 : (Cond.fieldLink RX6 154 "FenceBenchModel" "ways" "I") ∈ T0 := mT (i := 881) (by decide +kernel) (by decide +kernel)
theorem k_882 : (Cond.fieldLink RX6 57 "FenceBenchModel" "length" "[I") ∈ T0 := mT (i := 882) (by decide +kernel) (by decide +kernel)
theorem k_883 : (Cond.fieldLink RX6 60 "FenceBenchModel" "number" "[I") ∈ T0 := mT (i := 883) (by decide +kernel) (by decide +kernel)
theorem k_884 : (Cond.fieldLink RX6 63 "FenceBenchModel" "step" "[I") ∈ T0 := mT (i := 884) (by decide +kernel) (by decide +kernel)
theorem k_885 : (Cond.fieldLink RX6 66 "FenceBenchModel" "ring" "[Z") ∈ T0 := mT (i := 885) (by decide +kernel) (by decide +kernel)
theorem k_886 : (Cond.fieldLink RX6 170 "FenceBenchModel" "kinds" "I") ∈ T0 := mT (i := 886) (by decide +kernel) (by decide +kernel)
theorem k_887 : (Cond.fieldLink RX6 69 "FenceBenchModel" "values" "[I") ∈ T0 := mT (i := 887) (by decide +kernel) (by decide +kernel)
theorem k_888 : (Cond.fieldLink RX6 72 "FenceBenchModel" "chains" "[I") ∈ T0 := mT (i := 888) (by decide +kernel) (by decide +kernel)
theorem k_889 : (Cond.fieldLink RX6 75 "FenceBenchModel" "rings" "[I") ∈ T0 := mT (i := 889) (by decide +kernel) (by decide +kernel)
theorem k_890 : (Cond.fieldLink RX6 78 "FenceBenchModel" "heapChains" "[I") ∈ T0 := mT (i := 890) (by decide +kernel) (by decide +kernel)
theorem k_891 : (Cond.fieldLink RX6 81 "FenceBenchModel" "heapRings" "[I") ∈ T0 := mT (i := 891) (by decide +kernel) (by decide +kernel)
theorem k_892 : (Cond.fieldLink RX6 176 "FenceBenchModel" "top" "I") ∈ T0 := mT (i := 892) (by decide +kernel) (by decide +kernel)
theorem k_893 : (Cond.fieldLink RX6 182 "FenceBenchModel" "looseFields" "I") ∈ T0 := mT (i := 893) (by decide +kernel) (by decide +kernel)
theorem k_894 : (Cond.fieldLink RX6 185 "FenceBenchModel" "leavesTwo" "Z") ∈ T0 := mT (i := 894) (by decide +kernel) (by decide +kernel)
theorem k_895 : (Cond.fieldLink RX6 189 "FenceBenchModel" "leavesFour" "Z") ∈ T0 := mT (i := 895) (by decide +kernel) (by decide +kernel)
theorem k_971 : (Cond.methodLink RL 73 yX6_thrown) ∈ T0 := mT (i := 971) (by decide +kernel) (by decide +kernel)
theorem k_972 : (Cond.instanceMethod yX6_thrown) ∈ T0 := mT (i := 972) (by decide +kernel) (by decide +kernel)
theorem k_973 : (Cond.selects RX6 yX6_thrown yX6_thrown) ∈ T0 := mT (i := 973) (by decide +kernel) (by decide +kernel)
theorem k_974 : (Cond.code yX6_thrown cX6_thrown 1 (Option.some FieldType.int)) ∈ T0 := mT (i := 974) (by decide +kernel) (by decide +kernel)
theorem k_975 : (Cond.methodLink RL 28 yX6_clear) ∈ T0 := mT (i := 975) (by decide +kernel) (by decide +kernel)
theorem k_976 : (Cond.instanceMethod yX6_clear) ∈ T0 := mT (i := 976) (by decide +kernel) (by decide +kernel)
theorem k_977 : (Cond.selects RX6 yX6_clear yX6_clear) ∈ T0 := mT (i := 977) (by decide +kernel) (by decide +kernel)
theorem k_978 : (Cond.code yX6_clear cX6_clear 1 (Option.none : Option FieldType)) ∈ T0 := mT (i := 978) (by decide +kernel) (by decide +kernel)
theorem k_979 : (Cond.methodLink RL 32 yX6_field) ∈ T0 := mT (i := 979) (by decide +kernel) (by decide +kernel)
theorem k_980 : (Cond.instanceMethod yX6_field) ∈ T0 := mT (i := 980) (by decide +kernel) (by decide +kernel)
theorem k_981 : (Cond.selects RX6 yX6_field yX6_field) ∈ T0 := mT (i := 981) (by decide +kernel) (by decide +kernel)
theorem k_982 : (Cond.code yX6_field cX6_field 1 (Option.some FieldType.int)) ∈ T0 := mT (i := 982) (by decide +kernel) (by decide +kernel)
theorem k_983 : (Cond.methodLink RL 37 yX6_side) ∈ T0 := mT (i := 983) (by decide +kernel) (by decide +kernel)
theorem k_984 : (Cond.instanceMethod yX6_side) ∈ T0 := mT (i := 984) (by decide +kernel) (by decide +kernel)
theorem k_985 : (Cond.selects RX6 yX6_side yX6_side) ∈ T0 := mT (i := 985) (by decide +kernel) (by decide +kernel)
theorem k_986 : (Cond.code yX6_side cX6_side 3 (Option.some FieldType.int)) ∈ T0 := mT (i := 986) (by decide +kernel) (by decide +kernel)
theorem k_987 : (Cond.methodLink RX6 114 yX6_isField) ∈ T0 := mT (i := 987) (by decide +kernel) (by decide +kernel)
theorem k_989 : (Cond.instanceMethod yX6_isField) ∈ T0 := mT (i := 989) (by decide +kernel) (by decide +kernel)
theorem k_990 : (Cond.code yX6_isField cX6_isField 2 (Option.some FieldType.boolean)) ∈ T0 := mT (i := 990) (by decide +kernel) (by decide +kernel)
theorem k_991 : (Cond.methodLink RL 42 yX6_grid) ∈ T0 := mT (i := 991) (by decide +kernel) (by decide +kernel)
theorem k_992 : (Cond.instanceMethod yX6_grid) ∈ T0 := mT (i := 992) (by decide +kernel) (by decide +kernel)
theorem k_993 : (Cond.selects RX6 yX6_grid yX6_grid) ∈ T0 := mT (i := 993) (by decide +kernel) (by decide +kernel)
theorem k_994 : (Cond.code yX6_grid cX6_grid 5 (Option.some FieldType.boolean)) ∈ T0 := mT (i := 994) (by decide +kernel) (by decide +kernel)
theorem k_995 : (Cond.methodLink RX6 118 yX6_clear) ∈ T0 := mT (i := 995) (by decide +kernel) (by decide +kernel)
theorem k_996 : (Cond.methodLink RX6 121 yX6_sideOf) ∈ T0 := mT (i := 996) (by decide +kernel) (by decide +kernel)
theorem k_998 : (Cond.instanceMethod yX6_sideOf) ∈ T0 := mT (i := 998) (by decide +kernel) (by decide +kernel)
theorem k_999 : (Cond.code yX6_sideOf cX6_sideOf 3 (Option.none : Option FieldType)) ∈ T0 := mT (i := 999) (by decide +kernel) (by decide +kernel)
theorem k_1000 : (Cond.methodLink RL 46 yX6_draw) ∈ T0 := mT (i := 1000) (by decide +kernel) (by decide +kernel)
theorem k_1001 : (Cond.instanceMethod yX6_draw) ∈ T0 := mT (i := 1001) (by decide +kernel) (by decide +kernel)
theorem k_1002 : (Cond.selects RX6 yX6_draw yX6_draw) ∈ T0 := mT (i := 1002) (by decide +kernel) (by decide +kernel)
theorem k_1003 : (Cond.code yX6_draw cX6_draw 3 (Option.some FieldType.int)) ∈ T0 := mT (i := 1003) (by decide +kernel) (by decide +kernel)
theorem k_1004 : (Cond.methodLink RX6 125 yX6_play) ∈ T0 := mT (i := 1004) (by decide +kernel) (by decide +kernel)
theorem k_1006 : (Cond.instanceMethod yX6_play) ∈ T0 := mT (i := 1006) (by decide +kernel) (by decide +kernel)
theorem k_1007 : (Cond.code yX6_play cX6_play 4 (Option.none : Option FieldType)) ∈ T0 := mT (i := 1007) (by decide +kernel) (by decide +kernel)
theorem k_1008 : (Cond.methodLink RX6 108 yX6_closes) ∈ T0 := mT (i := 1008) (by decide +kernel) (by decide +kernel)
theorem k_1010 : (Cond.instanceMethod yX6_closes) ∈ T0 := mT (i := 1010) (by decide +kernel) (by decide +kernel)
theorem k_1011 : (Cond.code yX6_closes cX6_closes 3 (Option.some FieldType.int)) ∈ T0 := mT (i := 1011) (by decide +kernel) (by decide +kernel)
theorem k_1012 : (Cond.methodLink RX6 98 yX6_openSides) ∈ T0 := mT (i := 1012) (by decide +kernel) (by decide +kernel)
theorem k_1014 : (Cond.instanceMethod yX6_openSides) ∈ T0 := mT (i := 1014) (by decide +kernel) (by decide +kernel)
theorem k_1015 : (Cond.code yX6_openSides cX6_openSides 4 (Option.some FieldType.int)) ∈ T0 := mT (i := 1015) (by decide +kernel) (by decide +kernel)
theorem k_1016 : (Cond.methodLink RX6 94 yX6_isOf) ∈ T0 := mT (i := 1016) (by decide +kernel) (by decide +kernel)
theorem k_1018 : (Cond.instanceMethod yX6_isOf) ∈ T0 := mT (i := 1018) (by decide +kernel) (by decide +kernel)
theorem k_1019 : (Cond.code yX6_isOf cX6_isOf 3 (Option.some FieldType.boolean)) ∈ T0 := mT (i := 1019) (by decide +kernel) (by decide +kernel)
theorem k_1020 : (Cond.methodLink RX6 128 yX6_isSide) ∈ T0 := mT (i := 1020) (by decide +kernel) (by decide +kernel)
theorem k_1022 : (Cond.instanceMethod yX6_isSide) ∈ T0 := mT (i := 1022) (by decide +kernel) (by decide +kernel)
theorem k_1023 : (Cond.code yX6_isSide cX6_isSide 2 (Option.some FieldType.boolean)) ∈ T0 := mT (i := 1023) (by decide +kernel) (by decide +kernel)
theorem k_1024 : (Cond.methodLink RL 50 yX6_undo) ∈ T0 := mT (i := 1024) (by decide +kernel) (by decide +kernel)
theorem k_1025 : (Cond.instanceMethod yX6_undo) ∈ T0 := mT (i := 1025) (by decide +kernel) (by decide +kernel)
theorem k_1026 : (Cond.selects RX6 yX6_undo yX6_undo) ∈ T0 := mT (i := 1026) (by decide +kernel) (by decide +kernel)
theorem k_1027 : (Cond.code yX6_undo cX6_undo 1 (Option.some FieldType.int)) ∈ T0 := mT (i := 1027) (by decide +kernel) (by decide +kernel)
theorem k_1028 : (Cond.methodLink RL 54 yX6_redo) ∈ T0 := mT (i := 1028) (by decide +kernel) (by decide +kernel)
theorem k_1029 : (Cond.instanceMethod yX6_redo) ∈ T0 := mT (i := 1029) (by decide +kernel) (by decide +kernel)
theorem k_1030 : (Cond.selects RX6 yX6_redo yX6_redo) ∈ T0 := mT (i := 1030) (by decide +kernel) (by decide +kernel)
theorem k_1031 : (Cond.code yX6_redo cX6_redo 1 (Option.some FieldType.int)) ∈ T0 := mT (i := 1031) (by decide +kernel) (by decide +kernel)
theorem k_1032 : (Cond.methodLink RL 58 yX6_whose) ∈ T0 := mT (i := 1032) (by decide +kernel) (by decide +kernel)
theorem k_1033 : (Cond.instanceMethod yX6_whose) ∈ T0 := mT (i := 1033) (by decide +kernel) (by decide +kernel)
theorem k_1034 : (Cond.selects RX6 yX6_whose yX6_whose) ∈ T0 := mT (i := 1034) (by decide +kernel) (by decide +kernel)
theorem k_1035 : (Cond.code yX6_whose cX6_whose 1 (Option.some FieldType.int)) ∈ T0 := mT (i := 1035) (by decide +kernel) (by decide +kernel)
theorem k_1036 : (Cond.methodLink RX6 131 yX6_open) ∈ T0 := mT (i := 1036) (by decide +kernel) (by decide +kernel)
theorem k_1038 : (Cond.instanceMethod yX6_open) ∈ T0 := mT (i := 1038) (by decide +kernel) (by decide +kernel)
theorem k_1039 : (Cond.code yX6_open cX6_open 3 (Option.some FieldType.int)) ∈ T0 := mT (i := 1039) (by decide +kernel) (by decide +kernel)
theorem k_1040 : (Cond.methodLink RL 62 yX6_look) ∈ T0 := mT (i := 1040) (by decide +kernel) (by decide +kernel)
theorem k_1041 : (Cond.instanceMethod yX6_look) ∈ T0 := mT (i := 1041) (by decide +kernel) (by decide +kernel)
theorem k_1042 : (Cond.selects RX6 yX6_look yX6_look) ∈ T0 := mT (i := 1042) (by decide +kernel) (by decide +kernel)
theorem k_1043 : (Cond.code yX6_look cX6_look 3 (Option.some FieldType.int)) ∈ T0 := mT (i := 1043) (by decide +kernel) (by decide +kernel)
theorem k_1044 : (Cond.methodLink RX6 151 yX6_cut) ∈ T0 := mT (i := 1044) (by decide +kernel) (by decide +kernel)
theorem k_1046 : (Cond.instanceMethod yX6_cut) ∈ T0 := mT (i := 1046) (by decide +kernel) (by decide +kernel)
theorem k_1047 : (Cond.code yX6_cut cX6_cut 4 (Option.none : Option FieldType)) ∈ T0 := mT (i := 1047) (by decide +kernel) (by decide +kernel)
theorem k_1048 : (Cond.methodLink RX6 138 ⟨"java/lang/Math", "min", "(II)I"⟩) ∈ T0 := mT (i := 1048) (by decide +kernel) (by decide +kernel)
theorem k_1049 : (Cond.methodLink RX6 144 yX6_about) ∈ T0 := mT (i := 1049) (by decide +kernel) (by decide +kernel)
theorem k_1051 : (Cond.instanceMethod yX6_about) ∈ T0 := mT (i := 1051) (by decide +kernel) (by decide +kernel)
theorem k_1052 : (Cond.code yX6_about cX6_about 10 (Option.none : Option FieldType)) ∈ T0 := mT (i := 1052) (by decide +kernel) (by decide +kernel)
theorem k_1053 : (Cond.methodLink RX6 148 ⟨"java/lang/Math", "max", "(II)I"⟩) ∈ T0 := mT (i := 1053) (by decide +kernel) (by decide +kernel)
theorem k_1054 : (Cond.methodLink RL 66 yX6_ask) ∈ T0 := mT (i := 1054) (by decide +kernel) (by decide +kernel)
theorem k_1055 : (Cond.instanceMethod yX6_ask) ∈ T0 := mT (i := 1055) (by decide +kernel) (by decide +kernel)
theorem k_1056 : (Cond.selects RX6 yX6_ask yX6_ask) ∈ T0 := mT (i := 1056) (by decide +kernel) (by decide +kernel)
theorem k_1057 : (Cond.code yX6_ask cX6_ask 3 (Option.some FieldType.int)) ∈ T0 := mT (i := 1057) (by decide +kernel) (by decide +kernel)
theorem k_1058 : (Cond.methodLink RL 72 yX6_drawn) ∈ T0 := mT (i := 1058) (by decide +kernel) (by decide +kernel)
theorem k_1059 : (Cond.instanceMethod yX6_drawn) ∈ T0 := mT (i := 1059) (by decide +kernel) (by decide +kernel)
theorem k_1060 : (Cond.selects RX6 yX6_drawn yX6_drawn) ∈ T0 := mT (i := 1060) (by decide +kernel) (by decide +kernel)
theorem k_1061 : (Cond.code yX6_drawn cX6_drawn 2 (Option.some FieldType.int)) ∈ T0 := mT (i := 1061) (by decide +kernel) (by decide +kernel)
theorem k_1062 : (Cond.methodLink RL 79 yX6_part) ∈ T0 := mT (i := 1062) (by decide +kernel) (by decide +kernel)
theorem k_1063 : (Cond.instanceMethod yX6_part) ∈ T0 := mT (i := 1063) (by decide +kernel) (by decide +kernel)
theorem k_1064 : (Cond.selects RX6 yX6_part yX6_part) ∈ T0 := mT (i := 1064) (by decide +kernel) (by decide +kernel)
theorem k_1065 : (Cond.code yX6_part cX6_part 3 (Option.some FieldType.int)) ∈ T0 := mT (i := 1065) (by decide +kernel) (by decide +kernel)
theorem k_1066 : (Cond.methodLink RL 83 yX6_loose) ∈ T0 := mT (i := 1066) (by decide +kernel) (by decide +kernel)
theorem k_1067 : (Cond.instanceMethod yX6_loose) ∈ T0 := mT (i := 1067) (by decide +kernel) (by decide +kernel)
theorem k_1068 : (Cond.selects RX6 yX6_loose yX6_loose) ∈ T0 := mT (i := 1068) (by decide +kernel) (by decide +kernel)
theorem k_1069 : (Cond.code yX6_loose cX6_loose 5 (Option.some FieldType.int)) ∈ T0 := mT (i := 1069) (by decide +kernel) (by decide +kernel)
theorem k_1070 : (Cond.methodLink RL 87 yX6_worth) ∈ T0 := mT (i := 1070) (by decide +kernel) (by decide +kernel)
theorem k_1071 : (Cond.instanceMethod yX6_worth) ∈ T0 := mT (i := 1071) (by decide +kernel) (by decide +kernel)
theorem k_1072 : (Cond.selects RX6 yX6_worth yX6_worth) ∈ T0 := mT (i := 1072) (by decide +kernel) (by decide +kernel)
theorem k_1073 : (Cond.code yX6_worth cX6_worth 1 (Option.some FieldType.int)) ∈ T0 := mT (i := 1073) (by decide +kernel) (by decide +kernel)
theorem k_1074 : (Cond.methodLink RX6 163 yX6_tries) ∈ T0 := mT (i := 1074) (by decide +kernel) (by decide +kernel)
theorem k_1076 : (Cond.instanceMethod yX6_tries) ∈ T0 := mT (i := 1076) (by decide +kernel) (by decide +kernel)
theorem k_1077 : (Cond.code yX6_tries cX6_tries 4 (Option.some FieldType.boolean)) ∈ T0 := mT (i := 1077) (by decide +kernel) (by decide +kernel)
theorem k_1078 : (Cond.constant RX6 159 (-2147483648 : Int32)) ∈ T0 := mT (i := 1078) (by decide +kernel) (by decide +kernel)
theorem k_1079 : (Cond.methodLink RX6 160 yX6_behind) ∈ T0 := mT (i := 1079) (by decide +kernel) (by decide +kernel)
theorem k_1081 : (Cond.instanceMethod yX6_behind) ∈ T0 := mT (i := 1081) (by decide +kernel) (by decide +kernel)
theorem k_1082 : (Cond.code yX6_behind cX6_behind 6 (Option.some FieldType.int)) ∈ T0 := mT (i := 1082) (by decide +kernel) (by decide +kernel)
theorem k_1083 : (Cond.methodLink RL 91 yX6_worthOf) ∈ T0 := mT (i := 1083) (by decide +kernel) (by decide +kernel)
theorem k_1084 : (Cond.instanceMethod yX6_worthOf) ∈ T0 := mT (i := 1084) (by decide +kernel) (by decide +kernel)
theorem k_1085 : (Cond.selects RX6 yX6_worthOf yX6_worthOf) ∈ T0 := mT (i := 1085) (by decide +kernel) (by decide +kernel)
theorem k_1086 : (Cond.code yX6_worthOf cX6_worthOf 2 (Option.some FieldType.int)) ∈ T0 := mT (i := 1086) (by decide +kernel) (by decide +kernel)
theorem k_1087 : (Cond.methodLink RX6 167 yX6_worthAt) ∈ T0 := mT (i := 1087) (by decide +kernel) (by decide +kernel)
theorem k_1089 : (Cond.instanceMethod yX6_worthAt) ∈ T0 := mT (i := 1089) (by decide +kernel) (by decide +kernel)
theorem k_1090 : (Cond.code yX6_worthAt cX6_worthAt 3 (Option.some FieldType.int)) ∈ T0 := mT (i := 1090) (by decide +kernel) (by decide +kernel)
theorem k_1091 : (Cond.methodLink RL 95 yX6_best) ∈ T0 := mT (i := 1091) (by decide +kernel) (by decide +kernel)
theorem k_1092 : (Cond.instanceMethod yX6_best) ∈ T0 := mT (i := 1092) (by decide +kernel) (by decide +kernel)
theorem k_1093 : (Cond.selects RX6 yX6_best yX6_best) ∈ T0 := mT (i := 1093) (by decide +kernel) (by decide +kernel)
theorem k_1094 : (Cond.code yX6_best cX6_best 4 (Option.some FieldType.int)) ∈ T0 := mT (i := 1094) (by decide +kernel) (by decide +kernel)
theorem k_1095 : (Cond.methodLink RL 99 yX6_simple) ∈ T0 := mT (i := 1095) (by decide +kernel) (by decide +kernel)
theorem k_1096 : (Cond.instanceMethod yX6_simple) ∈ T0 := mT (i := 1096) (by decide +kernel) (by decide +kernel)
theorem k_1097 : (Cond.selects RX6 yX6_simple yX6_simple) ∈ T0 := mT (i := 1097) (by decide +kernel) (by decide +kernel)
theorem k_1098 : (Cond.code yX6_simple cX6_simple 2 (Option.some FieldType.int)) ∈ T0 := mT (i := 1098) (by decide +kernel) (by decide +kernel)
theorem k_1099 : (Cond.methodLink RX6 195 yX6_lengths) ∈ T0 := mT (i := 1099) (by decide +kernel) (by decide +kernel)
theorem k_1101 : (Cond.instanceMethod yX6_lengths) ∈ T0 := mT (i := 1101) (by decide +kernel) (by decide +kernel)
theorem k_1102 : (Cond.code yX6_lengths cX6_lengths 3 (Option.some FieldType.boolean)) ∈ T0 := mT (i := 1102) (by decide +kernel) (by decide +kernel)
theorem k_1103 : (Cond.methodLink RX6 179 yX6_isSimple) ∈ T0 := mT (i := 1103) (by decide +kernel) (by decide +kernel)
theorem k_1105 : (Cond.instanceMethod yX6_isSimple) ∈ T0 := mT (i := 1105) (by decide +kernel) (by decide +kernel)
theorem k_1106 : (Cond.code yX6_isSimple cX6_isSimple 3 (Option.some FieldType.boolean)) ∈ T0 := mT (i := 1106) (by decide +kernel) (by decide +kernel)
theorem k_1107 : (Cond.methodLink RX6 192 yX6_values) ∈ T0 := mT (i := 1107) (by decide +kernel) (by decide +kernel)
theorem k_1109 : (Cond.instanceMethod yX6_values) ∈ T0 := mT (i := 1109) (by decide +kernel) (by decide +kernel)
theorem k_1110 : (Cond.code yX6_values cX6_values 7 (Option.some FieldType.boolean)) ∈ T0 := mT (i := 1110) (by decide +kernel) (by decide +kernel)
theorem k_1111 : (Cond.methodLink RX6 173 yX6_opened) ∈ T0 := mT (i := 1111) (by decide +kernel) (by decide +kernel)
theorem k_1113 : (Cond.instanceMethod yX6_opened) ∈ T0 := mT (i := 1113) (by decide +kernel) (by decide +kernel)
theorem k_1114 : (Cond.code yX6_opened cX6_opened 6 (Option.some FieldType.int)) ∈ T0 := mT (i := 1114) (by decide +kernel) (by decide +kernel)
theorem k_1115 : (Cond.methodLink RX6 198 yX6_left) ∈ T0 := mT (i := 1115) (by decide +kernel) (by decide +kernel)
theorem k_1117 : (Cond.instanceMethod yX6_left) ∈ T0 := mT (i := 1117) (by decide +kernel) (by decide +kernel)
theorem k_1118 : (Cond.code yX6_left cX6_left 3 (Option.some FieldType.int)) ∈ T0 := mT (i := 1118) (by decide +kernel) (by decide +kernel)
theorem k_1119 : (Cond.methodLink RL 103 yX6_keep) ∈ T0 := mT (i := 1119) (by decide +kernel) (by decide +kernel)
theorem k_1120 : (Cond.instanceMethod yX6_keep) ∈ T0 := mT (i := 1120) (by decide +kernel) (by decide +kernel)
theorem k_1121 : (Cond.selects RX6 yX6_keep yX6_keep) ∈ T0 := mT (i := 1121) (by decide +kernel) (by decide +kernel)
theorem k_1122 : (Cond.code yX6_keep cX6_keep 1 (Option.some FieldType.int)) ∈ T0 := mT (i := 1122) (by decide +kernel) (by decide +kernel)
theorem k_1123 : (Cond.methodLink RX6 201 ⟨"java/lang/Integer", "compare", "(II)I"⟩) ∈ T0 := mT (i := 1123) (by decide +kernel) (by decide +kernel)
theorem k_1124 : (Cond.static ⟨"java/lang/Integer", "compare", "(II)I"⟩) ∈ T0 := mT (i := 1124) (by decide +kernel) (by decide +kernel)
theorem k_1125 : (Cond.code ⟨"java/lang/Integer", "compare", "(II)I"⟩ cJ6_compare_7cf53 2 (Option.some FieldType.int)) ∈ T0 := mT (i := 1125) (by decide +kernel) (by decide +kernel)
theorem k_1126 : (Cond.methodLink RL 107 yX6_give) ∈ T0 := mT (i := 1126) (by decide +kernel) (by decide +kernel)
theorem k_1127 : (Cond.instanceMethod yX6_give) ∈ T0 := mT (i := 1127) (by decide +kernel) (by decide +kernel)
theorem k_1128 : (Cond.selects RX6 yX6_give yX6_give) ∈ T0 := mT (i := 1128) (by decide +kernel) (by decide +kernel)
theorem k_1129 : (Cond.code yX6_give cX6_give 2 (Option.some FieldType.int)) ∈ T0 := mT (i := 1129) (by decide +kernel) (by decide +kernel)
theorem k_1130 : (Cond.methodLink RX6 204 yX6_opens) ∈ T0 := mT (i := 1130) (by decide +kernel) (by decide +kernel)
theorem k_1132 : (Cond.instanceMethod yX6_opens) ∈ T0 := mT (i := 1132) (by decide +kernel) (by decide +kernel)
theorem k_1133 : (Cond.code yX6_opens cX6_opens 4 (Option.some FieldType.int)) ∈ T0 := mT (i := 1133) (by decide +kernel) (by decide +kernel)
theorem k_1134 : (Cond.methodLink RL 111 yX6_longs) ∈ T0 := mT (i := 1134) (by decide +kernel) (by decide +kernel)
theorem k_1135 : (Cond.instanceMethod yX6_longs) ∈ T0 := mT (i := 1135) (by decide +kernel) (by decide +kernel)
theorem k_1136 : (Cond.selects RX6 yX6_longs yX6_longs) ∈ T0 := mT (i := 1136) (by decide +kernel) (by decide +kernel)
theorem k_1137 : (Cond.code yX6_longs cX6_longs 3 (Option.some FieldType.int)) ∈ T0 := mT (i := 1137) (by decide +kernel) (by decide +kernel)
theorem k_1138 : (Cond.methodLink RL 115 yX6_count) ∈ T0 := mT (i := 1138) (by decide +kernel) (by decide +kernel)
theorem k_1139 : (Cond.instanceMethod yX6_count) ∈ T0 := mT (i := 1139) (by decide +kernel) (by decide +kernel)
theorem k_1140 : (Cond.selects RX6 yX6_count yX6_count) ∈ T0 := mT (i := 1140) (by decide +kernel) (by decide +kernel)
theorem k_1141 : (Cond.code yX6_count cX6_count 4 (Option.some FieldType.int)) ∈ T0 := mT (i := 1141) (by decide +kernel) (by decide +kernel)
theorem k_1142 : (Cond.methodLink RL 119 yX6_empty) ∈ T0 := mT (i := 1142) (by decide +kernel) (by decide +kernel)
theorem k_1143 : (Cond.instanceMethod yX6_empty) ∈ T0 := mT (i := 1143) (by decide +kernel) (by decide +kernel)
theorem k_1144 : (Cond.selects RX6 yX6_empty yX6_empty) ∈ T0 := mT (i := 1144) (by decide +kernel) (by decide +kernel)
theorem k_1145 : (Cond.code yX6_empty cX6_empty 2 (Option.none : Option FieldType)) ∈ T0 := mT (i := 1145) (by decide +kernel) (by decide +kernel)
theorem k_1146 : (Cond.methodLink RL 124 yX6_heap) ∈ T0 := mT (i := 1146) (by decide +kernel) (by decide +kernel)
theorem k_1147 : (Cond.instanceMethod yX6_heap) ∈ T0 := mT (i := 1147) (by decide +kernel) (by decide +kernel)
theorem k_1148 : (Cond.selects RX6 yX6_heap yX6_heap) ∈ T0 := mT (i := 1148) (by decide +kernel) (by decide +kernel)
theorem k_1149 : (Cond.code yX6_heap cX6_heap 7 (Option.some FieldType.int)) ∈ T0 := mT (i := 1149) (by decide +kernel) (by decide +kernel)
theorem k_1150 : (Cond.methodLink RL 128 yX6_value) ∈ T0 := mT (i := 1150) (by decide +kernel) (by decide +kernel)
theorem k_1151 : (Cond.instanceMethod yX6_value) ∈ T0 := mT (i := 1151) (by decide +kernel) (by decide +kernel)
theorem k_1152 : (Cond.selects RX6 yX6_value yX6_value) ∈ T0 := mT (i := 1152) (by decide +kernel) (by decide +kernel)
theorem k_1153 : (Cond.code yX6_value cX6_value 2 (Option.some FieldType.int)) ∈ T0 := mT (i := 1153) (by decide +kernel) (by decide +kernel)
theorem k_1154 : (Cond.methodLink RL 132 yX6_open_) ∈ T0 := mT (i := 1154) (by decide +kernel) (by decide +kernel)
theorem k_1155 : (Cond.instanceMethod yX6_open_) ∈ T0 := mT (i := 1155) (by decide +kernel) (by decide +kernel)
theorem k_1156 : (Cond.selects RX6 yX6_open_ yX6_open_) ∈ T0 := mT (i := 1156) (by decide +kernel) (by decide +kernel)
theorem k_1157 : (Cond.code yX6_open_ cX6_open_ 2 (Option.some FieldType.int)) ∈ T0 := mT (i := 1157) (by decide +kernel) (by decide +kernel)
theorem k_1158 : (Cond.sameMethod "java/lang/Throwable" "java/lang/Throwable" "fillInStackTrace" "(I)Ljava/lang/Throwable;") ∈ T0 := mT (i := 1158) (by decide +kernel) (by decide +kernel)
theorem hiX0 : ∀ w ∈ u_ws RX0 TX0 7, w ∈ T0 := fun w hw => mT_all (ps := [303, 305, 307, 309, 311, 313, 315]) (by decide +kernel) (by decide +kernel) w hw
theorem hiX1 : ∀ w ∈ u_ws RX1 TX1 11, w ∈ T0 := fun w hw => mT_all (ps := [271, 273, 275, 277, 279, 281, 283, 285, 287, 289, 291]) (by decide +kernel) (by decide +kernel) w hw
theorem hiX2 : ∀ w ∈ u_ws RX2 TX2 17, w ∈ T0 := fun w hw => mT_all (ps := [131, 133, 135, 137, 139, 141, 143, 145, 147, 149, 151, 153, 155, 157, 159, 161, 163]) (by decide +kernel) (by decide +kernel) w hw
theorem hiX3 : ∀ w ∈ u_ws RX3 TX3 12, w ∈ T0 := fun w hw => mT_all (ps := [200, 202, 204, 206, 208, 210, 212, 214, 216, 218, 220, 222]) (by decide +kernel) (by decide +kernel) w hw
theorem hiX4 : ∀ w ∈ u_ws RX4 TX4 5, w ∈ T0 := fun w hw => mT_all (ps := [236, 238, 240, 242, 244]) (by decide +kernel) (by decide +kernel) w hw
theorem hiX5 : ∀ w ∈ u_ws RX5 TX5 5, w ∈ T0 := fun w hw => mT_all (ps := [325, 327, 329, 331, 333]) (by decide +kernel) (by decide +kernel) w hw
theorem hiX6 : ∀ w ∈ u_ws RX6 TX6 37, w ∈ T0 := fun w hw => mT_all (ps := [896, 898, 900, 902, 904, 906, 908, 910, 912, 914, 916, 918, 920, 922, 924, 926, 928, 930, 932, 934, 936, 938, 940, 942, 944, 946, 948, 950, 952, 954, 956, 958, 960, 962, 964, 966, 968]) (by decide +kernel) (by decide +kernel) w hw
end
section
/-! NUMBERS: an int of the machine as an integer; an int array as a function of an integer -/
def iN (z : Int) : Int32 := Int32.ofInt z
theorem iN_toInt {z : Int} (h : -2147483648 ≤ z ∧ z < 2147483648) : (iN z).toInt = z := Int32.toInt_ofInt_of_le (by omega) (by omega)
theorem iN_of (x : Int32) : iN x.toInt = x := Int32.ofInt_toInt x
theorem iN_bd (x : Int32) : -2147483648 ≤ x.toInt ∧ x.toInt < 2147483648 := ⟨by have := Int32.le_toInt x; omega, by have := Int32.toInt_lt x; omega⟩
theorem iN_ex (x : Int32) : ∃ z : Int, x = iN z ∧ -2147483648 ≤ z ∧ z < 2147483648 := ⟨x.toInt, (iN_of x).symm, iN_bd x⟩
theorem iN_add (a b : Int) : iN a + iN b = iN (a + b) := (Int32.ofInt_add a b).symm
theorem iN_sub (a b : Int) : iN a - iN b = iN (a - b) := (Int32.ofInt_sub a b).symm
theorem iN_mul (a b : Int) : iN a * iN b = iN (a * b) := (Int32.ofInt_mul a b).symm
theorem iN_neg (a : Int) : - iN a = iN (-a) := (Int32.ofInt_neg a).symm
theorem iN_lt {a b : Int} (ha : -2147483648 ≤ a ∧ a < 2147483648) (hb : -2147483648 ≤ b ∧ b < 2147483648) : iN a < iN b ↔ a < b := by rw [Int32.lt_iff_toInt_lt, iN_toInt ha, iN_toInt hb]
theorem iN_le {a b : Int} (ha : -2147483648 ≤ a ∧ a < 2147483648) (hb : -2147483648 ≤ b ∧ b < 2147483648) : iN a ≤ iN b ↔ a ≤ b := by rw [Int32.le_iff_toInt_le, iN_toInt ha, iN_toInt hb]
theorem iN_eq {a b : Int} (ha : -2147483648 ≤ a ∧ a < 2147483648) (hb : -2147483648 ≤ b ∧ b < 2147483648) : iN a = iN b ↔ a = b := by rw [← Int32.toInt_inj, iN_toInt ha, iN_toInt hb]
theorem iN_0 : iN 0 = 0 := rfl
theorem iN_cl {i : Int} (h : 0 ≤ i ∧ i < 2147483648) : (iN i).toNatClampNeg = i.toNat := Int32.toNatClampNeg_ofInt_of_le (by omega) (by omega)
theorem iN_nI (n : Nat) : iN (n : Int) = nI n := rfl
def ar (f : Int → Int) : Nat → Int32 := fun j => iN (f j)
def uI (f : Int → Int) (i x : Int) : Int → Int := fun j => if j = i then x else f j
theorem uI_eq (f : Int → Int) (i x : Int) : uI f i x i = x := if_pos rfl
theorem uI_ne {f : Int → Int} {i x j : Int} (h : j ≠ i) : uI f i x j = f j := if_neg h
theorem ar_at {f : Int → Int} {i : Int} (h : 0 ≤ i ∧ i < 2147483648) : ar f (iN i).toNatClampNeg = iN (f i) := by
  rw [iN_cl h]
  show iN (f ((i.toNat : Nat) : Int)) = _
  rw [Int.toNat_of_nonneg h.1]
theorem ar_up {f : Int → Int} {i x : Int} (h : 0 ≤ i ∧ i < 2147483648) : upd (ar f) (iN i).toNatClampNeg (iN x) = ar (uI f i x) := by
  rw [iN_cl h]
  funext j
  show (if j = i.toNat then iN x else iN (f j)) = iN (if (j : Int) = i then x else f j)
  by_cases e : j = i.toNat
  · rw [if_pos e, if_pos (by omega)]
  · rw [if_neg e, if_neg (by omega)]
theorem iN_in {i : Int} {n : Nat} (h : 0 ≤ i ∧ i < n) (hn : n < 2147483648) : vp_in (iN i) n := vp_in_iff.mpr (by rw [iN_toInt (by omega)]; exact h)
theorem iN_zn {x : Int} (h : x = 0 ∨ x = 1) : narrow .boolean (.int (iN x)) = .int (iN x) := by rcases h with rfl | rfl <;> rfl
theorem iN_zv {x : Int} (h : x = 0 ∨ x = 1) : vp_nar .boolean (iN x) = iN x := by rcases h with rfl | rfl <;> rfl
theorem iN_zf {x : Int} (h : x = 0 ∨ x = 1) : fits .boolean (.int (iN x)) = true := by rcases h with rfl | rfl <;> rfl
section IV
variable {p : Program} {l : Launch} {e : Env} {R : Room} {s : State} {m : MethodId} {args : Array Value} {below : List Frame} {meth : Method} {c : Code} {H : Heap} {locs : List Loc} {cells slots : Nat} {Q : State → Prop}
variable {cc : ByteArray} {pc : Nat} {ls : Array Slot} {rest : List Value} {D : va_G} {cl : List vw_C} {A : Nat → Prop} {a : Nat} {tys : List (ClassId × FieldType)} {ws : va_W} {H0 : Heap}
theorem iv_push {n : Int} {v : Int32} (h : v = iN n) (k : W p l e R s m args below meth c H locs cells slots Q (F0 m pc ls (.int (iN n) :: rest))) : W p l e R s m args below meth c H locs cells slots Q (F0 m pc ls (.int v :: rest)) := by rw [h]; exact k
theorem iv_iconst (hx : p.tables.exec = Jvm.exec) (hb : c.code = cc) {n : Int} (hdg : decode cc pc = .ok (.iconst n, 1)) (k : W p l e R s m args below meth c H locs cells slots Q (F0 m (pc + 1) ls (.int (iN n) :: rest))) : W p l e R s m args below meth c H locs cells slots Q (F0 m pc ls rest) := lv_iconst hx hb hdg rfl k
theorem iv_bipush (hx : p.tables.exec = Jvm.exec) (hb : c.code = cc) {n : Int} (hdg : decode cc pc = .ok (.bipush n, 2)) (hv : (Int8.ofInt n).toInt32 = iN n) (k : W p l e R s m args below meth c H locs cells slots Q (F0 m (pc + 2) ls (.int (iN n) :: rest))) : W p l e R s m args below meth c H locs cells slots Q (F0 m pc ls rest) := lv_bipush hx hb hdg hv k
theorem iv_sipush (hx : p.tables.exec = Jvm.exec) (hb : c.code = cc) {n : Int} (hdg : decode cc pc = .ok (.sipush n, 3)) (hv : (Int16.ofInt n).toInt32 = iN n) (k : W p l e R s m args below meth c H locs cells slots Q (F0 m (pc + 3) ls (.int (iN n) :: rest))) : W p l e R s m args below meth c H locs cells slots Q (F0 m pc ls rest) := lv_sipush hx hb hdg hv k
theorem iv_ldc (hx : p.tables.exec = Jvm.exec) (hb : c.code = cc) {own : String} {index : Nat} {n : Int} {v : Int32} (hv : v = iN n) (hown : s.vm.findClass own = some m.cls) (hconst : (Jvm.Cond.constant own index v).before args s = true) (hdg : decode cc pc = .ok (.ldc index, 2)) (k : W p l e R s m args below meth c H locs cells slots Q (F0 m (pc + 2) ls (.int (iN n) :: rest))) : W p l e R s m args below meth c H locs cells slots Q (F0 m pc ls rest) := lv_ldc hx hb hown hconst hdg (by rw [hv]; exact k)
theorem iv_iadd (hx : p.tables.exec = Jvm.exec) (hb : c.code = cc) {x y : Int} (hdg : decode cc pc = .ok (.iadd, 1)) (k : W p l e R s m args below meth c H locs cells slots Q (F0 m (pc + 1) ls (.int (iN (x + y)) :: rest))) : W p l e R s m args below meth c H locs cells slots Q (F0 m pc ls (.int (iN y) :: .int (iN x) :: rest)) := lv_iadd hx hb hdg (by rw [iN_add]; exact k)
theorem iv_isub (hx : p.tables.exec = Jvm.exec) (hb : c.code = cc) {x y : Int} (hdg : decode cc pc = .ok (.isub, 1)) (k : W p l e R s m args below meth c H locs cells slots Q (F0 m (pc + 1) ls (.int (iN (x - y)) :: rest))) : W p l e R s m args below meth c H locs cells slots Q (F0 m pc ls (.int (iN y) :: .int (iN x) :: rest)) := lv_isub hx hb hdg (by rw [iN_sub]; exact k)
theorem iv_imul (hx : p.tables.exec = Jvm.exec) (hb : c.code = cc) {x y : Int} (hdg : decode cc pc = .ok (.imul, 1)) (k : W p l e R s m args below meth c H locs cells slots Q (F0 m (pc + 1) ls (.int (iN (x * y)) :: rest))) : W p l e R s m args below meth c H locs cells slots Q (F0 m pc ls (.int (iN y) :: .int (iN x) :: rest)) := lv_imul hx hb hdg (by rw [iN_mul]; exact k)
theorem iv_ineg (hx : p.tables.exec = Jvm.exec) (hb : c.code = cc) {x : Int} (hdg : decode cc pc = .ok (.ineg, 1)) (k : W p l e R s m args below meth c H locs cells slots Q (F0 m (pc + 1) ls (.int (iN (-x)) :: rest))) : W p l e R s m args below meth c H locs cells slots Q (F0 m pc ls (.int (iN x) :: rest)) := lv_ineg hx hb hdg (by rw [iN_neg]; exact k)
theorem iv_icmp_lt (hx : p.tables.exec = Jvm.exec) (hb : c.code = cc) {x y : Int} {off : Int} {tgt : Nat} (hdg : decode cc pc = .ok (.if_icmp .lt off, 3)) (ht : (pc : Int) + off = (tgt : Int)) (h1 : -2147483648 ≤ x ∧ x < 2147483648) (h2 : -2147483648 ≤ y ∧ y < 2147483648) (kt : x < y → W p l e R s m args below meth c H locs cells slots Q (F0 m tgt ls rest)) (kf : ¬ x < y → W p l e R s m args below meth c H locs cells slots Q (F0 m (pc + 3) ls rest)) : W p l e R s m args below meth c H locs cells slots Q (F0 m pc ls (.int (iN y) :: .int (iN x) :: rest)) := lv_icmp_lt hx hb hdg ht (fun h => kt ((iN_lt h1 h2).mp h)) (fun h => kf (fun g => h ((iN_lt h1 h2).mpr g)))
theorem iv_icmp_ge (hx : p.tables.exec = Jvm.exec) (hb : c.code = cc) {x y : Int} {off : Int} {tgt : Nat} (hdg : decode cc pc = .ok (.if_icmp .ge off, 3)) (ht : (pc : Int) + off = (tgt : Int)) (h1 : -2147483648 ≤ x ∧ x < 2147483648) (h2 : -2147483648 ≤ y ∧ y < 2147483648) (kt : y ≤ x → W p l e R s m args below meth c H locs cells slots Q (F0 m tgt ls rest)) (kf : ¬ y ≤ x → W p l e R s m args below meth c H locs cells slots Q (F0 m (pc + 3) ls rest)) : W p l e R s m args below meth c H locs cells slots Q (F0 m pc ls (.int (iN y) :: .int (iN x) :: rest)) := lv_icmp_ge hx hb hdg ht (fun h => kt ((iN_le h2 h1).mp h)) (fun h => kf (fun g => h ((iN_le h2 h1).mpr g)))
theorem iv_icmp_gt (hx : p.tables.exec = Jvm.exec) (hb : c.code = cc) {x y : Int} {off : Int} {tgt : Nat} (hdg : decode cc pc = .ok (.if_icmp .gt off, 3)) (ht : (pc : Int) + off = (tgt : Int)) (h1 : -2147483648 ≤ x ∧ x < 2147483648) (h2 : -2147483648 ≤ y ∧ y < 2147483648) (kt : y < x → W p l e R s m args below meth c H locs cells slots Q (F0 m tgt ls rest)) (kf : ¬ y < x → W p l e R s m args below meth c H locs cells slots Q (F0 m (pc + 3) ls rest)) : W p l e R s m args below meth c H locs cells slots Q (F0 m pc ls (.int (iN y) :: .int (iN x) :: rest)) := lv_icmp_gt hx hb hdg ht (fun h => kt ((iN_lt h2 h1).mp h)) (fun h => kf (fun g => h ((iN_lt h2 h1).mpr g)))
theorem iv_icmp_le (hx : p.tables.exec = Jvm.exec) (hb : c.code = cc) {x y : Int} {off : Int} {tgt : Nat} (hdg : decode cc pc = .ok (.if_icmp .le off, 3)) (ht : (pc : Int) + off = (tgt : Int)) (h1 : -2147483648 ≤ x ∧ x < 2147483648) (h2 : -2147483648 ≤ y ∧ y < 2147483648) (kt : x ≤ y → W p l e R s m args below meth c H locs cells slots Q (F0 m tgt ls rest)) (kf : ¬ x ≤ y → W p l e R s m args below meth c H locs cells slots Q (F0 m (pc + 3) ls rest)) : W p l e R s m args below meth c H locs cells slots Q (F0 m pc ls (.int (iN y) :: .int (iN x) :: rest)) := lv_icmp_le hx hb hdg ht (fun h => kt ((iN_le h1 h2).mp h)) (fun h => kf (fun g => h ((iN_le h1 h2).mpr g)))
theorem iv_icmp_eq (hx : p.tables.exec = Jvm.exec) (hb : c.code = cc) {x y : Int} {off : Int} {tgt : Nat} (hdg : decode cc pc = .ok (.if_icmp .eq off, 3)) (ht : (pc : Int) + off = (tgt : Int)) (h1 : -2147483648 ≤ x ∧ x < 2147483648) (h2 : -2147483648 ≤ y ∧ y < 2147483648) (kt : x = y → W p l e R s m args below meth c H locs cells slots Q (F0 m tgt ls rest)) (kf : ¬ x = y → W p l e R s m args below meth c H locs cells slots Q (F0 m (pc + 3) ls rest)) : W p l e R s m args below meth c H locs cells slots Q (F0 m pc ls (.int (iN y) :: .int (iN x) :: rest)) := lv_icmp_eq hx hb hdg ht (fun h => kt ((iN_eq h1 h2).mp h)) (fun h => kf (fun g => h ((iN_eq h1 h2).mpr g)))
theorem iv_icmp_ne (hx : p.tables.exec = Jvm.exec) (hb : c.code = cc) {x y : Int} {off : Int} {tgt : Nat} (hdg : decode cc pc = .ok (.if_icmp .ne off, 3)) (ht : (pc : Int) + off = (tgt : Int)) (h1 : -2147483648 ≤ x ∧ x < 2147483648) (h2 : -2147483648 ≤ y ∧ y < 2147483648) (kt : ¬ x = y → W p l e R s m args below meth c H locs cells slots Q (F0 m tgt ls rest)) (kf : x = y → W p l e R s m args below meth c H locs cells slots Q (F0 m (pc + 3) ls rest)) : W p l e R s m args below meth c H locs cells slots Q (F0 m pc ls (.int (iN y) :: .int (iN x) :: rest)) := lv_icmp_ne hx hb hdg ht (fun h => kt (fun g => h ((iN_eq h1 h2).mpr g))) (fun h => kf ((iN_eq h1 h2).mp h))
theorem iv_if_lt (hx : p.tables.exec = Jvm.exec) (hb : c.code = cc) {x : Int} {off : Int} {tgt : Nat} (hdg : decode cc pc = .ok (.ifCond .lt off, 3)) (ht : (pc : Int) + off = (tgt : Int)) (h1 : -2147483648 ≤ x ∧ x < 2147483648) (kt : x < 0 → W p l e R s m args below meth c H locs cells slots Q (F0 m tgt ls rest)) (kf : ¬ x < 0 → W p l e R s m args below meth c H locs cells slots Q (F0 m (pc + 3) ls rest)) : W p l e R s m args below meth c H locs cells slots Q (F0 m pc ls (.int (iN x) :: rest)) := lv_if_lt hx hb hdg ht (fun h => kt ((iN_lt h1 (by omega)).mp h)) (fun h => kf (fun g => h ((iN_lt h1 (by omega)).mpr g)))
theorem iv_if_ge (hx : p.tables.exec = Jvm.exec) (hb : c.code = cc) {x : Int} {off : Int} {tgt : Nat} (hdg : decode cc pc = .ok (.ifCond .ge off, 3)) (ht : (pc : Int) + off = (tgt : Int)) (h1 : -2147483648 ≤ x ∧ x < 2147483648) (kt : 0 ≤ x → W p l e R s m args below meth c H locs cells slots Q (F0 m tgt ls rest)) (kf : ¬ 0 ≤ x → W p l e R s m args below meth c H locs cells slots Q (F0 m (pc + 3) ls rest)) : W p l e R s m args below meth c H locs cells slots Q (F0 m pc ls (.int (iN x) :: rest)) := lv_if_ge hx hb hdg ht (fun h => kt ((iN_le (by omega) h1).mp h)) (fun h => kf (fun g => h ((iN_le (by omega) h1).mpr g)))
theorem iv_if_gt (hx : p.tables.exec = Jvm.exec) (hb : c.code = cc) {x : Int} {off : Int} {tgt : Nat} (hdg : decode cc pc = .ok (.ifCond .gt off, 3)) (ht : (pc : Int) + off = (tgt : Int)) (h1 : -2147483648 ≤ x ∧ x < 2147483648) (kt : 0 < x → W p l e R s m args below meth c H locs cells slots Q (F0 m tgt ls rest)) (kf : ¬ 0 < x → W p l e R s m args below meth c H locs cells slots Q (F0 m (pc + 3) ls rest)) : W p l e R s m args below meth c H locs cells slots Q (F0 m pc ls (.int (iN x) :: rest)) := lv_if_gt hx hb hdg ht (fun h => kt ((iN_lt (by omega) h1).mp h)) (fun h => kf (fun g => h ((iN_lt (by omega) h1).mpr g)))
theorem iv_if_le (hx : p.tables.exec = Jvm.exec) (hb : c.code = cc) {x : Int} {off : Int} {tgt : Nat} (hdg : decode cc pc = .ok (.ifCond .le off, 3)) (ht : (pc : Int) + off = (tgt : Int)) (h1 : -2147483648 ≤ x ∧ x < 2147483648) (kt : x ≤ 0 → W p l e R s m args below meth c H locs cells slots Q (F0 m tgt ls rest)) (kf : ¬ x ≤ 0 → W p l e R s m args below meth c H locs cells slots Q (F0 m (pc + 3) ls rest)) : W p l e R s m args below meth c H locs cells slots Q (F0 m pc ls (.int (iN x) :: rest)) := lv_if_le hx hb hdg ht (fun h => kt ((iN_le h1 (by omega)).mp h)) (fun h => kf (fun g => h ((iN_le h1 (by omega)).mpr g)))
theorem iv_if_eq (hx : p.tables.exec = Jvm.exec) (hb : c.code = cc) {x : Int} {off : Int} {tgt : Nat} (hdg : decode cc pc = .ok (.ifCond .eq off, 3)) (ht : (pc : Int) + off = (tgt : Int)) (h1 : -2147483648 ≤ x ∧ x < 2147483648) (kt : x = 0 → W p l e R s m args below meth c H locs cells slots Q (F0 m tgt ls rest)) (kf : ¬ x = 0 → W p l e R s m args below meth c H locs cells slots Q (F0 m (pc + 3) ls rest)) : W p l e R s m args below meth c H locs cells slots Q (F0 m pc ls (.int (iN x) :: rest)) := lv_if_eq hx hb hdg ht (fun h => kt ((iN_eq h1 (by omega)).mp h)) (fun h => kf (fun g => h ((iN_eq h1 (by omega)).mpr g)))
theorem iv_if_ne (hx : p.tables.exec = Jvm.exec) (hb : c.code = cc) {x : Int} {off : Int} {tgt : Nat} (hdg : decode cc pc = .ok (.ifCond .ne off, 3)) (ht : (pc : Int) + off = (tgt : Int)) (h1 : -2147483648 ≤ x ∧ x < 2147483648) (kt : ¬ x = 0 → W p l e R s m args below meth c H locs cells slots Q (F0 m tgt ls rest)) (kf : x = 0 → W p l e R s m args below meth c H locs cells slots Q (F0 m (pc + 3) ls rest)) : W p l e R s m args below meth c H locs cells slots Q (F0 m pc ls (.int (iN x) :: rest)) := lv_if_ne hx hb hdg ht (fun h => kt (fun g => h ((iN_eq h1 (by omega)).mpr g))) (fun h => kf ((iN_eq h1 (by omega)).mp h))
theorem iv_iald (hx : p.tables.exec = Jvm.exec) (hb : c.code = cc) (hK : va_K D cl tys s) (hP : va_P D cl ws H) (q0 t0 : Nat) {cA : ClassId} {n : Nat} {f : Int → Int} (ha : ws[q0]? = some (a, .inl (cA, n, .inl (ar f)))) (ht : tys[t0]? = some (cA, .int)) {i : Int} (hi : 0 ≤ i ∧ i < n) (hn : n < 2147483648) (hdg : decode cc pc = .ok (.iaload, 1)) (k : W p l e R s m args below meth c H locs cells slots Q (F0 m (pc + 1) ls (.int (iN (f i)) :: rest))) : W p l e R s m args below meth c H locs cells slots Q (F0 m pc ls (.int (iN i) :: .ref a :: rest)) := va_iald hx hb hK hP q0 t0 ha ht (iN_in hi hn) hdg (by rw [ar_at (by omega)]; exact k)
theorem iv_zald (hx : p.tables.exec = Jvm.exec) (hb : c.code = cc) (hK : va_K D cl tys s) (hP : va_P D cl ws H) (q0 t0 : Nat) {cA : ClassId} {n : Nat} {f : Int → Int} (ha : ws[q0]? = some (a, .inl (cA, n, .inl (ar f)))) (ht : tys[t0]? = some (cA, .boolean)) {i : Int} (hi : 0 ≤ i ∧ i < n) (hn : n < 2147483648) (hdg : decode cc pc = .ok (.baload, 1)) (k : W p l e R s m args below meth c H locs cells slots Q (F0 m (pc + 1) ls (.int (iN (f i)) :: rest))) : W p l e R s m args below meth c H locs cells slots Q (F0 m pc ls (.int (iN i) :: .ref a :: rest)) := va_zald hx hb hK hP q0 t0 ha ht (iN_in hi hn) hdg (by rw [ar_at (by omega)]; exact k)
theorem iv_iast (hx : p.tables.exec = Jvm.exec) (hb : c.code = cc) (hK : va_K D cl tys s) (hP : va_P D cl ws H) (hD : va_D A ws) (hS : va_S A H0 H locs) (q0 t0 : Nat) {cA : ClassId} {n : Nat} {f : Int → Int} (ha : ws[q0]? = some (a, .inl (cA, n, .inl (ar f)))) (ht : tys[t0]? = some (cA, .int)) {i x : Int} (hi : 0 ≤ i ∧ i < n) (hn : n < 2147483648) (hdg : decode cc pc = .ok (.iastore, 1)) (kk : ∀ (H1 : Heap) (locs1 : List Loc), va_P D cl (ws.set q0 (a, .inl (cA, n, .inl (ar (uI f i x))))) H1 → va_D A (ws.set q0 (a, .inl (cA, n, .inl (ar (uI f i x))))) → va_S A H0 H1 locs1 → W p l e R s m args below meth c H1 locs1 cells slots Q (F0 m (pc + 1) ls rest)) : W p l e R s m args below meth c H locs cells slots Q (F0 m pc ls (.int (iN x) :: .int (iN i) :: .ref a :: rest)) := va_iast hx hb hK hP hD hS q0 t0 ha ht (iN_in hi hn) hdg (by rw [ar_up (by omega)]; exact kk)
theorem iv_zast (hx : p.tables.exec = Jvm.exec) (hb : c.code = cc) (hK : va_K D cl tys s) (hP : va_P D cl ws H) (hD : va_D A ws) (hS : va_S A H0 H locs) (q0 t0 : Nat) {cA : ClassId} {n : Nat} {f : Int → Int} (ha : ws[q0]? = some (a, .inl (cA, n, .inl (ar f)))) (ht : tys[t0]? = some (cA, .boolean)) {i x : Int} (hi : 0 ≤ i ∧ i < n) (hn : n < 2147483648) (hv : x = 0 ∨ x = 1) (hdg : decode cc pc = .ok (.bastore, 1)) (kk : ∀ (H1 : Heap) (locs1 : List Loc), va_P D cl (ws.set q0 (a, .inl (cA, n, .inl (ar (uI f i x))))) H1 → va_D A (ws.set q0 (a, .inl (cA, n, .inl (ar (uI f i x))))) → va_S A H0 H1 locs1 → W p l e R s m args below meth c H1 locs1 cells slots Q (F0 m (pc + 1) ls rest)) : W p l e R s m args below meth c H locs cells slots Q (F0 m pc ls (.int (iN x) :: .int (iN i) :: .ref a :: rest)) := va_zast hx hb hK hP hD hS q0 t0 ha ht (iN_in hi hn) hdg (by rw [iN_zv hv, ar_up (by omega)]; exact kk)
end IV
end
section
/-! CONTRACTS: a method over a world of cells; its answer an integer, nothing, or a reference -/
theorem iv_fm {α β : Type} {f : α → Option β} : ∀ {is : List α} {w : List β}, is.map f = w.map some → is.filterMap f = w
  | [], [], _ => rfl
  | [], _ :: _, h => by simp at h
  | _ :: _, [], h => by simp at h
  | i :: is, x :: w, h => by
    simp only [List.map_cons, List.cons.injEq] at h
    rw [List.filterMap_cons_some h.1, iv_fm h.2]
/-- the links between nest mates: words that only a warmed machine keeps -/
def iv_isN (w : Cond) : Bool := match w with
  | .fieldLinkNest _ _ _ _ _ _ => true
  | .methodLinkNest _ _ _ _ => true
  | _ => false
def iv_N (U : State) : Prop := ∀ w ∈ lw_tbl, iv_isN w = true → va_Nw w U
theorem iv_isN_tab {w : Cond} (h : iv_isN w = true) : w.onTables = true := by
  cases w with
  | fieldLinkNest => rfl
  | methodLinkNest => rfl
  | _ => exact absurd h (by simp [iv_isN])
theorem iv_N.warm {s U : State} (hW : s.WarmedH U.vm) (h : iv_N s) : iv_N U := fun w hw hi => by
  cases w with
  | fieldLinkNest => exact va_Nw.warmF hW (h _ hw hi)
  | methodLinkNest => exact va_Nw.warmM hW (h _ hw hi)
  | _ => exact absurd hi (by simp [iv_isN])
theorem iv_N.same {s U : State} (e : s.vm = U.vm) (h : iv_N s) : iv_N U := fun w hw hi => va_Nw.same (iv_isN_tab hi) e (h w hw hi)
theorem iv_N.use {s : State} (h : iv_N s) (w : Cond) (hw : w ∈ lw_tbl) (hi : iv_isN w = true) {args : Array Value} : w.before args s = true := va_Nw.use (iv_isN_tab hi) (h w hw hi)
theorem iv_N.of {s : State} {args : Array Value} (hts : ∀ w ∈ lw_tbl, w.before args s = true) : iv_N s := fun w hw hi => va_Nw.of (iv_isN_tab hi) (hts w hw)
def iv_Pc (D : va_G) (tys : List (ClassId × FieldType)) (ws : va_W) (sz : Nat) (av : List Value) : Array Value → State → Prop :=
  va_Pc av (fun U => U.heap.size = sz ∧ va_P D vwCl ws U.heap ∧ va_K D vwCl tys U ∧ va_D (fun _ => True) ws ∧ iv_N U)
theorem iv_blind {D : va_G} {tys : List (ClassId × FieldType)} {ws : va_W} {sz : Nat} {av : List Value} : FrameBlind (iv_Pc D tys ws sz av) := fun a U g mk q => by
  obtain ⟨q0, q1, qP, qK, qD, qN⟩ := q
  exact ⟨q0, q1, qP, va_K.moved (u := U) (U := U.calling g mk a) (Vm.Alike.refl U.vm) qK, qD, qN.same (U := U.calling g mk a) rfl⟩
def iv_Bo (D : va_G) (A : Nat → Prop) {S : Type} (wf : S → va_W) : S → State → Prop := fun u t => va_P D vwCl (wf u) t.heap ∧ va_D A (wf u)
def iv_Br (D : va_G) (A : Nat → Prop) {S : Type} (wf : S → va_W) (rf : S → Nat) : S → Nat → State → Prop := fun u a t => a = rf u ∧ va_P D vwCl (wf u) t.heap ∧ va_D A (wf u)
def iv_Qi (D : va_G) (A : Nat → Prop) {S : Type} (wf : S → va_W) (post : Int → S → Prop) : Array Value → State → Outcome → State → Prop := va_Qi (fun (r : Int32) (u : S) => ∃ z : Int, r = iN z ∧ post z u) (iv_Bo D A wf) A
def iv_Qv (D : va_G) (A : Nat → Prop) {S : Type} (wf : S → va_W) (post : S → Prop) : Array Value → State → Outcome → State → Prop := va_Qv post (iv_Bo D A wf) A
def iv_Qr (D : va_G) (A : Nat → Prop) {S : Type} (wf : S → va_W) (rf : S → Nat) (post : S → Prop) : Array Value → State → Outcome → State → Prop := va_Qr post (iv_Br D A wf rf) A
def MetI (l : Launch) (y : MethodName) (wds : List Cond) (rm : Room) (av : List Value) (D : va_G) (tys : List (ClassId × FieldType)) (ws : va_W) (sz : Nat) {S : Type} (wf : S → va_W) (post : Int → S → Prop) (mc ms : Nat) : Prop :=
  Met l y wds rm (iv_Pc D tys ws sz av) (iv_Qi D (va_A ws sz) wf post) mc ms (va_A ws sz)
def MetV (l : Launch) (y : MethodName) (wds : List Cond) (rm : Room) (av : List Value) (D : va_G) (tys : List (ClassId × FieldType)) (ws : va_W) (sz : Nat) {S : Type} (wf : S → va_W) (post : S → Prop) (mc ms : Nat) : Prop :=
  Met l y wds rm (iv_Pc D tys ws sz av) (iv_Qv D (va_A ws sz) wf post) mc ms (va_A ws sz)
def MetR (l : Launch) (y : MethodName) (wds : List Cond) (rm : Room) (av : List Value) (D : va_G) (tys : List (ClassId × FieldType)) (ws : va_W) (sz : Nat) {S : Type} (wf : S → va_W) (rf : S → Nat) (post : S → Prop) (mc ms : Nat) : Prop :=
  Met l y wds rm (iv_Pc D tys ws sz av) (iv_Qr D (va_A ws sz) wf rf post) mc ms (va_A ws sz)
/-- what stands at a method's entry -/
theorem iv_mk {l : Launch} {y : MethodName} {wds wds' : List Cond} {rm : Room} {cc : ByteArray} {maxL : Nat} {rt : Option FieldType} {av : List Value} {D : va_G} {tys : List (ClassId × FieldType)} {ws : va_W} {sz mc ms : Nat} {Qc : (Nat → Prop) → Array Value → State → Outcome → State → Prop}
    (hy : plainName y.cls = true) (hw : wds = Cond.code y cc maxL rt :: wds') (hlen : (lg_sl av).length ≤ maxL)
    (body : ∀ (p : Program) (e : Env) (s : State) (m : MethodId) (below : List Frame) (meth : Method) (c : Code) (A : Nat → Prop) (ls : Array Slot), p.tables.exec = Jvm.exec → c.code = cc → meth.sig.returnType = rt → (∀ w ∈ wds, w.before av.toArray s = true) → s.vm.findClass y.cls = some m.cls → meth.locks = false → meth.name = y.name → c.maxLocals = maxL →
      iv_N s → (∀ q : Nat, s.heap.size ≤ q → A q) → va_K D vwCl tys s → va_P D vwCl ws s.heap → va_D A ws → va_S A s.heap s.heap [] → lv_has ls maxL (lv_args 0 av) →
      W p l e rm s m av.toArray below meth c s.heap [] 0 0 (MQ below (Qc A) av.toArray s mc ms A) (F0 m 0 ls [])) :
    Met l y wds rm (iv_Pc D tys ws sz av) (Qc (va_A ws sz)) mc ms (va_A ws sz) := by
  refine Met.ofW (cc := cc) (maxL := maxL) (ret := rt) hy hw ?_
  intro p e s m args below meth c s₁ B hml hv
  obtain ⟨rfl, hsz, hP, hK, hD0, hN⟩ := hv
  subst hsz
  have hl := lv_entry av (n := maxL) hlen
  rw [lg_entry_eq]
  exact body p e s m below meth c (va_A ws s.heap.size) _ B.exec B.bytes B.returns (atoms_spec (ws := wds) B.pre) (findClass_of_methodNamed B.named) B.notSynchronized (name_of_methodNamed B.named B.method).1 hml hN (fun q h => Or.inr h) hK hP (hD0.self) va_S.rf hl
section IVC
variable {p : Program} {l : Launch} {e : Env} {R : Room} {s : State} {m : MethodId} {args : Array Value} {below : List Frame} {meth : Method} {c : Code} {H : Heap} {locs : List Loc} {cells slots : Nat} {Q : State → Prop}
variable {cc : ByteArray} {pc : Nat} {ls : Array Slot} {rest st0 : List Value} {D : va_G} {A A0 : Nat → Prop} {a : Nat} {tys tyc : List (ClassId × FieldType)} {ws wc wr : va_W} {S : Type} {wf : S → va_W} {rf : S → Nat}
theorem iv_iret {post : Int → S → Prop} {mc ms : Nat} (hx : p.tables.exec = Jvm.exec) (hb : c.code = cc) (hr : meth.sig.returnType = some .int) (hlocks : meth.locks = false) (hdg : decode cc pc = .ok (.ireturn, 1)) (hc : cells ≤ mc) (hs : slots ≤ ms) {z : Int} (u : S) (hp : post z u) (hP : va_P D vwCl (wf u) H) (hD : va_D A (wf u)) (hS : va_S A s.heap H locs) :
    W p l e R s m args below meth c H locs cells slots (MQ below (iv_Qi D A wf post) args s mc ms A) (F0 m pc ls [.int (iN z)]) :=
  W.widen hc hs (W.iret hx hb hr (fun t ht hW => ⟨⟨iN z, u, rfl, ⟨z, rfl, hp⟩, by rw [ht]; exact hP, hD⟩, hS.F ht⟩) hS.2.2 hdg hlocks)
theorem iv_zret {post : Int → S → Prop} {mc ms : Nat} (hx : p.tables.exec = Jvm.exec) (hb : c.code = cc) (hr : meth.sig.returnType = some .boolean) (hlocks : meth.locks = false) (hdg : decode cc pc = .ok (.ireturn, 1)) (hc : cells ≤ mc) (hs : slots ≤ ms) {z : Int} (hz : z = 0 ∨ z = 1) (u : S) (hp : post z u) (hP : va_P D vwCl (wf u) H) (hD : va_D A (wf u)) (hS : va_S A s.heap H locs) :
    W p l e R s m args below meth c H locs cells slots (MQ below (iv_Qi D A wf post) args s mc ms A) (F0 m pc ls [.int (iN z)]) :=
  W.widen hc hs (W.zret hx hb hr (iN_zn hz) (fun t ht hW => ⟨⟨iN z, u, rfl, ⟨z, rfl, hp⟩, by rw [ht]; exact hP, hD⟩, hS.F ht⟩) hS.2.2 hdg hlocks)
theorem iv_vret {post : S → Prop} {mc ms : Nat} (hx : p.tables.exec = Jvm.exec) (hb : c.code = cc) (hr : meth.sig.returnType = none) (hlocks : meth.locks = false) (hdg : decode cc pc = .ok (.return_, 1)) (hc : cells ≤ mc) (hs : slots ≤ ms) (u : S) (hp : post u) (hP : va_P D vwCl (wf u) H) (hD : va_D A (wf u)) (hS : va_S A s.heap H locs) :
    W p l e R s m args below meth c H locs cells slots (MQ below (iv_Qv D A wf post) args s mc ms A) (F0 m pc ls []) :=
  W.widen hc hs (W.vret hx hb hr (fun t ht hW => ⟨⟨u, rfl, hp, by rw [ht]; exact hP, hD⟩, hS.F ht⟩) hS.2.2 hdg hlocks)
theorem iv_aret {post : S → Prop} {mc ms : Nat} {rt : FieldType} (hx : p.tables.exec = Jvm.exec) (hb : c.code = cc) (hr : meth.sig.returnType = some rt) (hrt : (∃ n, rt = .object n) ∨ ∃ t, rt = .array t) (hlocks : meth.locks = false) (hdg : decode cc pc = .ok (.areturn, 1)) (hc : cells ≤ mc) (hs : slots ≤ ms) (u : S) (ha : a = rf u) (hp : post u) (hP : va_P D vwCl (wf u) H) (hD : va_D A (wf u)) (hS : va_S A s.heap H locs) :
    W p l e R s m args below meth c H locs cells slots (MQ below (iv_Qr D A wf rf post) args s mc ms A) (F0 m pc ls [.ref a]) :=
  W.widen hc hs (W.aret hx hb hr hrt (Or.inr ⟨a, rfl⟩) (fun t ht hW => ⟨⟨u, a, rfl, hp, ha, by rw [ht]; exact hP, hD⟩, hS.F ht⟩) hS.2.2 hdg hlocks)
variable {y : MethodName} {bytes : ByteArray} {maxL nL mc ms n index ci : Nat} {ret : Option FieldType} {wds : List Cond} {rm : Room} {Ts : List Cond} {own C : String} {T : u_T} {N : Nat} {b : Nat} {As : List Value} {fs : List Value}
theorem iv_pre (hN : iv_N s) (hK : va_K D vwCl tys s) (hP : va_P D vwCl ws H) (hD : va_D A0 ws) (isC isT : List Nat) (hC : isC.map (fun i => ws[i]?) = wc.map some) (hnC : va_nd isC = true) (hT : isT.filterMap (fun i => tys[i]?) = tyc) (av : List Value) :
    ∀ U : State, U.heap = H → s.WarmedH U.vm → iv_Pc D tyc wc H.size av av.toArray U := fun U hU hW =>
  ⟨rfl, by rw [hU], by rw [hU]; exact hP.sub isC (iv_fm hC), va_K.moved hW.alike (hK.sub isT hT), (hD.sub isC hnC hC).weaken (fun _ _ _ _ => trivial), hN.warm hW⟩
theorem iv_callV {post : Int → S → Prop} (Sx : CallFix p m c cc nL s args Ts own) (hM : MetI l y wds rm (.ref b :: As) D tyc wc H.size wf post mc ms) (cw : CallW R s args own C index y bytes maxL ret wds rm mc ms n)
    (hN : iv_N s) (hK : va_K D vwCl tys s) (hP : va_P D vwCl ws H) (hD : va_D A0 ws) (hS : va_S A0 s.heap H locs) (hA : ∀ q, s.heap.size ≤ q → A0 q)
    (isC isR isT : List Nat) (hC : isC.map (fun i => ws[i]?) = wc.map some) (hR : isR.map (fun i => ws[i]?) = wr.map some) (hnC : va_nd isC = true) (hnR : va_nd isR = true) (hdis : ∀ i ∈ isR, i ∉ isC) (hT : isT.filterMap (fun i => tys[i]?) = tyc)
    (q0 : Nat) (hci : vwCl[ci]? = some (C, T, N)) (hq : wc[q0]? = some (b, .inr (ci, fs)))
    (hlen : As.length = n) (hsz : ls.size = nL) (hst : st0 = As.reverse ++ .ref b :: rest) (hroom : (rest.map fun v => v.category).sum ≤ 8) (hdg : decode cc pc = .ok (.invokevirtual index, 3)) (hf : cells + mc ≤ R.cells ∧ slots + ms ≤ R.slots)
    (kk : ∀ (z : Int) (u : S) (H1 : Heap) (locs1 : List Loc), post z u → va_P D vwCl (wr ++ wf u) H1 → va_D A0 (wr ++ wf u) → va_S A0 s.heap H1 locs1 → W p l e R s m args below meth c H1 locs1 (cells + mc) (slots + ms) Q (F0 m (pc + 3) ls (.int (iN z) :: rest))) :
    W p l e R s m args below meth c H locs cells slots Q (F0 m pc ls st0) := by
  have hPc := hP.sub isC (iv_fm hC)
  have hKc := hK.sub isT hT
  have hF := va_free (wc := wc) hD hS hA isC hC
  subst hst
  refine va_calli (va_runV Sx hM cw ⟨iv_blind, va_recv hKc hPc hci hq, iv_pre hN hK hP hD isC isT hC hnC hT _⟩ rfl hlen hsz rfl (lv_room hroom) hdg hf) hS (fun q _ h => hF q h) hF (fun r u t H1 locs1 ht hvm hw hB hz hk hS1 => ?_)
  obtain ⟨z, rfl, hp⟩ := hw
  obtain ⟨hP1, hD1⟩ := hB
  rw [ht] at hP1
  obtain ⟨hP2, hD2⟩ := va_join (wr := wr) (w1 := wf u) hP hD isC isR hC hR hnR hdis hk hF hP1 hD1
  exact kk z u H1 locs1 hp hP2 hD2 hS1
theorem iv_callVv {post : S → Prop} (Sx : CallFix p m c cc nL s args Ts own) (hM : MetV l y wds rm (.ref b :: As) D tyc wc H.size wf post mc ms) (cw : CallW R s args own C index y bytes maxL ret wds rm mc ms n)
    (hN : iv_N s) (hK : va_K D vwCl tys s) (hP : va_P D vwCl ws H) (hD : va_D A0 ws) (hS : va_S A0 s.heap H locs) (hA : ∀ q, s.heap.size ≤ q → A0 q)
    (isC isR isT : List Nat) (hC : isC.map (fun i => ws[i]?) = wc.map some) (hR : isR.map (fun i => ws[i]?) = wr.map some) (hnC : va_nd isC = true) (hnR : va_nd isR = true) (hdis : ∀ i ∈ isR, i ∉ isC) (hT : isT.filterMap (fun i => tys[i]?) = tyc)
    (q0 : Nat) (hci : vwCl[ci]? = some (C, T, N)) (hq : wc[q0]? = some (b, .inr (ci, fs)))
    (hlen : As.length = n) (hsz : ls.size = nL) (hst : st0 = As.reverse ++ .ref b :: rest) (hroom : (rest.map fun v => v.category).sum ≤ 8) (hdg : decode cc pc = .ok (.invokevirtual index, 3)) (hf : cells + mc ≤ R.cells ∧ slots + ms ≤ R.slots)
    (kk : ∀ (u : S) (H1 : Heap) (locs1 : List Loc), post u → va_P D vwCl (wr ++ wf u) H1 → va_D A0 (wr ++ wf u) → va_S A0 s.heap H1 locs1 → W p l e R s m args below meth c H1 locs1 (cells + mc) (slots + ms) Q (F0 m (pc + 3) ls rest)) :
    W p l e R s m args below meth c H locs cells slots Q (F0 m pc ls st0) := by
  have hPc := hP.sub isC (iv_fm hC)
  have hKc := hK.sub isT hT
  have hF := va_free (wc := wc) hD hS hA isC hC
  subst hst
  refine va_callv (va_runV Sx hM cw ⟨iv_blind, va_recv hKc hPc hci hq, iv_pre hN hK hP hD isC isT hC hnC hT _⟩ rfl hlen hsz rfl (lv_room hroom) hdg hf) hS (fun q _ h => hF q h) hF (fun u t H1 locs1 ht hvm hp hB hz hk hS1 => ?_)
  obtain ⟨hP1, hD1⟩ := hB
  rw [ht] at hP1
  obtain ⟨hP2, hD2⟩ := va_join (wr := wr) (w1 := wf u) hP hD isC isR hC hR hnR hdis hk hF hP1 hD1
  exact kk u H1 locs1 hp hP2 hD2 hS1
theorem iv_callVr {post : S → Prop} (Sx : CallFix p m c cc nL s args Ts own) (hM : MetR l y wds rm (.ref b :: As) D tyc wc H.size wf rf post mc ms) (cw : CallW R s args own C index y bytes maxL ret wds rm mc ms n)
    (hN : iv_N s) (hK : va_K D vwCl tys s) (hP : va_P D vwCl ws H) (hD : va_D A0 ws) (hS : va_S A0 s.heap H locs) (hA : ∀ q, s.heap.size ≤ q → A0 q)
    (isC isR isT : List Nat) (hC : isC.map (fun i => ws[i]?) = wc.map some) (hR : isR.map (fun i => ws[i]?) = wr.map some) (hnC : va_nd isC = true) (hnR : va_nd isR = true) (hdis : ∀ i ∈ isR, i ∉ isC) (hT : isT.filterMap (fun i => tys[i]?) = tyc)
    (q0 : Nat) (hci : vwCl[ci]? = some (C, T, N)) (hq : wc[q0]? = some (b, .inr (ci, fs)))
    (hlen : As.length = n) (hsz : ls.size = nL) (hst : st0 = As.reverse ++ .ref b :: rest) (hroom : (rest.map fun v => v.category).sum ≤ 8) (hdg : decode cc pc = .ok (.invokevirtual index, 3)) (hf : cells + mc ≤ R.cells ∧ slots + ms ≤ R.slots)
    (kk : ∀ (u : S) (H1 : Heap) (locs1 : List Loc), post u → va_P D vwCl (wr ++ wf u) H1 → va_D A0 (wr ++ wf u) → va_S A0 s.heap H1 locs1 → W p l e R s m args below meth c H1 locs1 (cells + mc) (slots + ms) Q (F0 m (pc + 3) ls (.ref (rf u) :: rest))) :
    W p l e R s m args below meth c H locs cells slots Q (F0 m pc ls st0) := by
  have hPc := hP.sub isC (iv_fm hC)
  have hKc := hK.sub isT hT
  have hF := va_free (wc := wc) hD hS hA isC hC
  subst hst
  refine va_callr (va_runV Sx hM cw ⟨iv_blind, va_recv hKc hPc hci hq, iv_pre hN hK hP hD isC isT hC hnC hT _⟩ rfl hlen hsz rfl (lv_room hroom) hdg hf) hS (fun q _ h => hF q h) hF (fun u ra t H1 locs1 ht hvm hp hB hz hk hS1 => ?_)
  obtain ⟨rfl, hP1, hD1⟩ := hB
  rw [ht] at hP1
  obtain ⟨hP2, hD2⟩ := va_join (wr := wr) (w1 := wf u) hP hD isC isR hC hR hnR hdis hk hF hP1 hD1
  exact kk u H1 locs1 hp hP2 hD2 hS1
theorem iv_callI {post : S → Prop} (Sx : CallFix p m c cc nL s args Ts own) (hM : MetV l y wds rm (.ref b :: As) D tyc wc H.size wf post mc ms) (cw : CallB R s args own index y bytes maxL none wds rm mc ms n ∧ y.name = "<init>" ∧ (Cond.instanceMethod y).before args s = true)
    (hN : iv_N s) (hK : va_K D vwCl tys s) (hP : va_P D vwCl ws H) (hD : va_D A0 ws) (hS : va_S A0 s.heap H locs) (hA : ∀ q, s.heap.size ≤ q → A0 q)
    (isC isR isT : List Nat) (hC : isC.map (fun i => ws[i]?) = wc.map some) (hR : isR.map (fun i => ws[i]?) = wr.map some) (hnC : va_nd isC = true) (hnR : va_nd isR = true) (hdis : ∀ i ∈ isR, i ∉ isC) (hT : isT.filterMap (fun i => tys[i]?) = tyc)
    (hlen : As.length = n) (hsz : ls.size = nL) (hst : st0 = As.reverse ++ .ref b :: rest) (hroom : (rest.map fun v => v.category).sum ≤ 8) (hdg : decode cc pc = .ok (.invokespecial index, 3)) (hf : cells + mc ≤ R.cells ∧ slots + ms ≤ R.slots)
    (kk : ∀ (u : S) (H1 : Heap) (locs1 : List Loc), post u → va_P D vwCl (wr ++ wf u) H1 → va_D A0 (wr ++ wf u) → va_S A0 s.heap H1 locs1 → W p l e R s m args below meth c H1 locs1 (cells + mc) (slots + ms) Q (F0 m (pc + 3) ls rest)) :
    W p l e R s m args below meth c H locs cells slots Q (F0 m pc ls st0) := by
  have hF := va_free (wc := wc) hD hS hA isC hC
  subst hst
  refine va_callv (va_runI Sx hM cw ⟨iv_blind, iv_pre hN hK hP hD isC isT hC hnC hT _⟩ rfl hlen hsz rfl (lv_room hroom) hdg hf) hS (fun q _ h => hF q h) hF (fun u t H1 locs1 ht hvm hp hB hz hk hS1 => ?_)
  obtain ⟨hP1, hD1⟩ := hB
  rw [ht] at hP1
  obtain ⟨hP2, hD2⟩ := va_join (wr := wr) (w1 := wf u) hP hD isC isR hC hR hnR hdis hk hF hP1 hD1
  exact kk u H1 locs1 hp hP2 hD2 hS1
end IVC
end
