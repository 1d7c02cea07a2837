section
-- ===== PART A: goes FIRST, ahead of the names: the tables' words, and 'selects' of the private methods out of them =====
/-- a private method of a class that the tables say can be made, by its rows of tables_1 -/
def lw_okq (q : MethodName × Nat) : Prop := (q.1.cls ≠ "java/lang/invoke/MethodHandle" ∧ q.1.cls ≠ "java/lang/invoke/VarHandle") ∧ Cond.instantiable q.1.cls q.2 ∈ tables_1 ∧ Cond.privateMethod q.1 ∈ tables_1 ∧ Cond.instanceMethod q.1 ∈ tables_1
theorem lw_p0 : lw_okq (⟨"LooseHeap", "startOver", "(II)V"⟩, 4) := ⟨⟨by decide +kernel, by decide +kernel⟩, List.mem_of_getElem? (i := 16) (by decide +kernel), List.mem_of_getElem? (i := 116) (by decide +kernel), List.mem_of_getElem? (i := 117) (by decide +kernel)⟩
theorem lw_p1 : lw_okq (⟨"LooseHeap$Collector", "clearPlan", "()V"⟩, 18) := ⟨⟨by decide +kernel, by decide +kernel⟩, List.mem_of_getElem? (i := 54) (by decide +kernel), List.mem_of_getElem? (i := 157) (by decide +kernel), List.mem_of_getElem? (i := 158) (by decide +kernel)⟩
theorem lw_p2 : lw_okq (⟨"LooseHeap$Collector", "markHits", "([I)V"⟩, 18) := ⟨⟨by decide +kernel, by decide +kernel⟩, List.mem_of_getElem? (i := 54) (by decide +kernel), List.mem_of_getElem? (i := 161) (by decide +kernel), List.mem_of_getElem? (i := 162) (by decide +kernel)⟩
theorem lw_p3 : lw_okq (⟨"LooseHeap$Collector", "markHit", "(I)V"⟩, 18) := ⟨⟨by decide +kernel, by decide +kernel⟩, List.mem_of_getElem? (i := 54) (by decide +kernel), List.mem_of_getElem? (i := 173) (by decide +kernel), List.mem_of_getElem? (i := 174) (by decide +kernel)⟩
theorem lw_p4 : lw_okq (⟨"LooseHeap$Collector", "keepHitObjects", "()V"⟩, 18) := ⟨⟨by decide +kernel, by decide +kernel⟩, List.mem_of_getElem? (i := 54) (by decide +kernel), List.mem_of_getElem? (i := 189) (by decide +kernel), List.mem_of_getElem? (i := 190) (by decide +kernel)⟩
theorem lw_p5 : lw_okq (⟨"LooseHeap$Collector", "keepObjectsOf", "(I)V"⟩, 18) := ⟨⟨by decide +kernel, by decide +kernel⟩, List.mem_of_getElem? (i := 54) (by decide +kernel), List.mem_of_getElem? (i := 197) (by decide +kernel), List.mem_of_getElem? (i := 198) (by decide +kernel)⟩
theorem lw_p6 : lw_okq (⟨"LooseHeap$Collector", "addToRow", "(II)V"⟩, 18) := ⟨⟨by decide +kernel, by decide +kernel⟩, List.mem_of_getElem? (i := 54) (by decide +kernel), List.mem_of_getElem? (i := 214) (by decide +kernel), List.mem_of_getElem? (i := 215) (by decide +kernel)⟩
theorem lw_p7 : lw_okq (⟨"LooseHeap$Collector", "reachFromRoots", "([I)Z"⟩, 18) := ⟨⟨by decide +kernel, by decide +kernel⟩, List.mem_of_getElem? (i := 54) (by decide +kernel), List.mem_of_getElem? (i := 218) (by decide +kernel), List.mem_of_getElem? (i := 219) (by decide +kernel)⟩
theorem lw_p8 : lw_okq (⟨"LooseHeap$Collector", "reach", "(I)Z"⟩, 18) := ⟨⟨by decide +kernel, by decide +kernel⟩, List.mem_of_getElem? (i := 54) (by decide +kernel), List.mem_of_getElem? (i := 222) (by decide +kernel), List.mem_of_getElem? (i := 223) (by decide +kernel)⟩
theorem lw_p9 : lw_okq (⟨"LooseHeap$Collector", "keepLong", "(I)V"⟩, 18) := ⟨⟨by decide +kernel, by decide +kernel⟩, List.mem_of_getElem? (i := 54) (by decide +kernel), List.mem_of_getElem? (i := 242) (by decide +kernel), List.mem_of_getElem? (i := 243) (by decide +kernel)⟩
theorem lw_p10 : lw_okq (⟨"LooseHeap$Collector", "planMove", "(I)Z"⟩, 18) := ⟨⟨by decide +kernel, by decide +kernel⟩, List.mem_of_getElem? (i := 54) (by decide +kernel), List.mem_of_getElem? (i := 246) (by decide +kernel), List.mem_of_getElem? (i := 247) (by decide +kernel)⟩
theorem lw_p11 : lw_okq (⟨"LooseHeap$Collector", "reachFromRow", "()Z"⟩, 18) := ⟨⟨by decide +kernel, by decide +kernel⟩, List.mem_of_getElem? (i := 54) (by decide +kernel), List.mem_of_getElem? (i := 255) (by decide +kernel), List.mem_of_getElem? (i := 256) (by decide +kernel)⟩
theorem lw_p12 : lw_okq (⟨"LooseHeap$Collector", "moveRow", "()V"⟩, 18) := ⟨⟨by decide +kernel, by decide +kernel⟩, List.mem_of_getElem? (i := 54) (by decide +kernel), List.mem_of_getElem? (i := 264) (by decide +kernel), List.mem_of_getElem? (i := 265) (by decide +kernel)⟩
theorem lw_p13 : lw_okq (⟨"LooseHeap$Space", "enterSmall", "(II)V"⟩, 7) := ⟨⟨by decide +kernel, by decide +kernel⟩, List.mem_of_getElem? (i := 24) (by decide +kernel), List.mem_of_getElem? (i := 272) (by decide +kernel), List.mem_of_getElem? (i := 273) (by decide +kernel)⟩
theorem lw_p14 : lw_okq (⟨"LooseHeap$Collector", "tellNewRefs", "(I)V"⟩, 18) := ⟨⟨by decide +kernel, by decide +kernel⟩, List.mem_of_getElem? (i := 54) (by decide +kernel), List.mem_of_getElem? (i := 280) (by decide +kernel), List.mem_of_getElem? (i := 281) (by decide +kernel)⟩
theorem lw_p15 : lw_okq (⟨"LooseHeap$Collector", "tellNewAddresses", "([I)V"⟩, 18) := ⟨⟨by decide +kernel, by decide +kernel⟩, List.mem_of_getElem? (i := 54) (by decide +kernel), List.mem_of_getElem? (i := 288) (by decide +kernel), List.mem_of_getElem? (i := 289) (by decide +kernel)⟩
def lw_privs_1 : List (MethodName × Nat) := [(⟨"LooseHeap", "startOver", "(II)V"⟩, 4), (⟨"LooseHeap$Collector", "clearPlan", "()V"⟩, 18), (⟨"LooseHeap$Collector", "markHits", "([I)V"⟩, 18), (⟨"LooseHeap$Collector", "markHit", "(I)V"⟩, 18), (⟨"LooseHeap$Collector", "keepHitObjects", "()V"⟩, 18), (⟨"LooseHeap$Collector", "keepObjectsOf", "(I)V"⟩, 18), (⟨"LooseHeap$Collector", "addToRow", "(II)V"⟩, 18), (⟨"LooseHeap$Collector", "reachFromRoots", "([I)Z"⟩, 18), (⟨"LooseHeap$Collector", "reach", "(I)Z"⟩, 18), (⟨"LooseHeap$Collector", "keepLong", "(I)V"⟩, 18), (⟨"LooseHeap$Collector", "planMove", "(I)Z"⟩, 18), (⟨"LooseHeap$Collector", "reachFromRow", "()Z"⟩, 18), (⟨"LooseHeap$Collector", "moveRow", "()V"⟩, 18), (⟨"LooseHeap$Space", "enterSmall", "(II)V"⟩, 7), (⟨"LooseHeap$Collector", "tellNewRefs", "(I)V"⟩, 18), (⟨"LooseHeap$Collector", "tellNewAddresses", "([I)V"⟩, 18)]
theorem lw_r1 : ∀ q ∈ lw_privs_1, lw_okq q := List.forall_mem_cons.mpr ⟨lw_p0, List.forall_mem_cons.mpr ⟨lw_p1, List.forall_mem_cons.mpr ⟨lw_p2, List.forall_mem_cons.mpr ⟨lw_p3, List.forall_mem_cons.mpr ⟨lw_p4, List.forall_mem_cons.mpr ⟨lw_p5, List.forall_mem_cons.mpr ⟨lw_p6, List.forall_mem_cons.mpr ⟨lw_p7, List.forall_mem_cons.mpr ⟨lw_p8, List.forall_mem_cons.mpr ⟨lw_p9, List.forall_mem_cons.mpr ⟨lw_p10, List.forall_mem_cons.mpr ⟨lw_p11, List.forall_mem_cons.mpr ⟨lw_p12, List.forall_mem_cons.mpr ⟨lw_p13, List.forall_mem_cons.mpr ⟨lw_p14, List.forall_mem_cons.mpr ⟨lw_p15, fun _ h => absurd h List.not_mem_nil⟩⟩⟩⟩⟩⟩⟩⟩⟩⟩⟩⟩⟩⟩⟩⟩
theorem lw_p16 : lw_okq (⟨"LooseHeap$Collector", "finish", "()V"⟩, 18) := ⟨⟨by decide +kernel, by decide +kernel⟩, List.mem_of_getElem? (i := 54) (by decide +kernel), List.mem_of_getElem? (i := 292) (by decide +kernel), List.mem_of_getElem? (i := 293) (by decide +kernel)⟩
theorem lw_p17 : lw_okq (⟨"LooseHeap$Space", "freePage", "(I)V"⟩, 7) := ⟨⟨by decide +kernel, by decide +kernel⟩, List.mem_of_getElem? (i := 24) (by decide +kernel), List.mem_of_getElem? (i := 300) (by decide +kernel), List.mem_of_getElem? (i := 301) (by decide +kernel)⟩
theorem lw_p18 : lw_okq (⟨"java/lang/Throwable", "fillInStackTrace", "(I)Ljava/lang/Throwable;"⟩, 6) := ⟨⟨by decide +kernel, by decide +kernel⟩, List.mem_of_getElem? (i := 460) (by decide +kernel), List.mem_of_getElem? (i := 458) (by decide +kernel), List.mem_of_getElem? (i := 459) (by decide +kernel)⟩
theorem lw_p19 : lw_okq (⟨"LooseHeap$Space", "roomForSmall", "(I)I"⟩, 7) := ⟨⟨by decide +kernel, by decide +kernel⟩, List.mem_of_getElem? (i := 24) (by decide +kernel), List.mem_of_getElem? (i := 508) (by decide +kernel), List.mem_of_getElem? (i := 509) (by decide +kernel)⟩
theorem lw_p20 : lw_okq (⟨"LooseHeap$Space", "mayTake", "(I)Z"⟩, 7) := ⟨⟨by decide +kernel, by decide +kernel⟩, List.mem_of_getElem? (i := 24) (by decide +kernel), List.mem_of_getElem? (i := 512) (by decide +kernel), List.mem_of_getElem? (i := 513) (by decide +kernel)⟩
theorem lw_p21 : lw_okq (⟨"LooseHeap$Space", "roomForLong", "(I)I"⟩, 7) := ⟨⟨by decide +kernel, by decide +kernel⟩, List.mem_of_getElem? (i := 24) (by decide +kernel), List.mem_of_getElem? (i := 518) (by decide +kernel), List.mem_of_getElem? (i := 519) (by decide +kernel)⟩
theorem lw_p22 : lw_okq (⟨"LooseHeap$Space", "freeRow", "(I)I"⟩, 7) := ⟨⟨by decide +kernel, by decide +kernel⟩, List.mem_of_getElem? (i := 24) (by decide +kernel), List.mem_of_getElem? (i := 522) (by decide +kernel), List.mem_of_getElem? (i := 523) (by decide +kernel)⟩
theorem lw_p23 : lw_okq (⟨"LooseHeap$Space", "enterLong", "(II)V"⟩, 7) := ⟨⟨by decide +kernel, by decide +kernel⟩, List.mem_of_getElem? (i := 24) (by decide +kernel), List.mem_of_getElem? (i := 530) (by decide +kernel), List.mem_of_getElem? (i := 531) (by decide +kernel)⟩
theorem lw_p24 : lw_okq (⟨"LooseHeap", "needObject", "(I)V"⟩, 4) := ⟨⟨by decide +kernel, by decide +kernel⟩, List.mem_of_getElem? (i := 16) (by decide +kernel), List.mem_of_getElem? (i := 561) (by decide +kernel), List.mem_of_getElem? (i := 562) (by decide +kernel)⟩
theorem lw_p25 : lw_okq (⟨"LooseHeap", "needRef", "(II)V"⟩, 4) := ⟨⟨by decide +kernel, by decide +kernel⟩, List.mem_of_getElem? (i := 16) (by decide +kernel), List.mem_of_getElem? (i := 581) (by decide +kernel), List.mem_of_getElem? (i := 582) (by decide +kernel)⟩
theorem lw_p26 : lw_okq (⟨"LooseHeapModel", "anew", "(II)V"⟩, 27) := ⟨⟨by decide +kernel, by decide +kernel⟩, List.mem_of_getElem? (i := 640) (by decide +kernel), List.mem_of_getElem? (i := 646) (by decide +kernel), List.mem_of_getElem? (i := 647) (by decide +kernel)⟩
theorem lw_p27 : lw_okq (⟨"LooseHeapModel", "laid", "(I)I"⟩, 27) := ⟨⟨by decide +kernel, by decide +kernel⟩, List.mem_of_getElem? (i := 640) (by decide +kernel), List.mem_of_getElem? (i := 743) (by decide +kernel), List.mem_of_getElem? (i := 744) (by decide +kernel)⟩
theorem lw_p28 : lw_okq (⟨"LooseHeapModel", "used", "()I"⟩, 27) := ⟨⟨by decide +kernel, by decide +kernel⟩, List.mem_of_getElem? (i := 640) (by decide +kernel), List.mem_of_getElem? (i := 747) (by decide +kernel), List.mem_of_getElem? (i := 748) (by decide +kernel)⟩
theorem lw_p29 : lw_okq (⟨"LooseHeapModel", "collected", "()Z"⟩, 27) := ⟨⟨by decide +kernel, by decide +kernel⟩, List.mem_of_getElem? (i := 640) (by decide +kernel), List.mem_of_getElem? (i := 752) (by decide +kernel), List.mem_of_getElem? (i := 753) (by decide +kernel)⟩
theorem lw_p30 : lw_okq (⟨"LooseHeapModel", "rows", "()Z"⟩, 27) := ⟨⟨by decide +kernel, by decide +kernel⟩, List.mem_of_getElem? (i := 640) (by decide +kernel), List.mem_of_getElem? (i := 756) (by decide +kernel), List.mem_of_getElem? (i := 757) (by decide +kernel)⟩
theorem lw_p31 : lw_okq (⟨"LooseHeapModel", "hits", "()V"⟩, 27) := ⟨⟨by decide +kernel, by decide +kernel⟩, List.mem_of_getElem? (i := 640) (by decide +kernel), List.mem_of_getElem? (i := 760) (by decide +kernel), List.mem_of_getElem? (i := 761) (by decide +kernel)⟩
def lw_privs_2 : List (MethodName × Nat) := [(⟨"LooseHeap$Collector", "finish", "()V"⟩, 18), (⟨"LooseHeap$Space", "freePage", "(I)V"⟩, 7), (⟨"java/lang/Throwable", "fillInStackTrace", "(I)Ljava/lang/Throwable;"⟩, 6), (⟨"LooseHeap$Space", "roomForSmall", "(I)I"⟩, 7), (⟨"LooseHeap$Space", "mayTake", "(I)Z"⟩, 7), (⟨"LooseHeap$Space", "roomForLong", "(I)I"⟩, 7), (⟨"LooseHeap$Space", "freeRow", "(I)I"⟩, 7), (⟨"LooseHeap$Space", "enterLong", "(II)V"⟩, 7), (⟨"LooseHeap", "needObject", "(I)V"⟩, 4), (⟨"LooseHeap", "needRef", "(II)V"⟩, 4), (⟨"LooseHeapModel", "anew", "(II)V"⟩, 27), (⟨"LooseHeapModel", "laid", "(I)I"⟩, 27), (⟨"LooseHeapModel", "used", "()I"⟩, 27), (⟨"LooseHeapModel", "collected", "()Z"⟩, 27), (⟨"LooseHeapModel", "rows", "()Z"⟩, 27), (⟨"LooseHeapModel", "hits", "()V"⟩, 27)]
theorem lw_r2 : ∀ q ∈ lw_privs_2, lw_okq q := List.forall_mem_cons.mpr ⟨lw_p16, List.forall_mem_cons.mpr ⟨lw_p17, List.forall_mem_cons.mpr ⟨lw_p18, List.forall_mem_cons.mpr ⟨lw_p19, List.forall_mem_cons.mpr ⟨lw_p20, List.forall_mem_cons.mpr ⟨lw_p21, List.forall_mem_cons.mpr ⟨lw_p22, List.forall_mem_cons.mpr ⟨lw_p23, List.forall_mem_cons.mpr ⟨lw_p24, List.forall_mem_cons.mpr ⟨lw_p25, List.forall_mem_cons.mpr ⟨lw_p26, List.forall_mem_cons.mpr ⟨lw_p27, List.forall_mem_cons.mpr ⟨lw_p28, List.forall_mem_cons.mpr ⟨lw_p29, List.forall_mem_cons.mpr ⟨lw_p30, List.forall_mem_cons.mpr ⟨lw_p31, fun _ h => absurd h List.not_mem_nil⟩⟩⟩⟩⟩⟩⟩⟩⟩⟩⟩⟩⟩⟩⟩⟩
theorem lw_p32 : lw_okq (⟨"LooseHeapModel", "firstOf", "(I)I"⟩, 27) := ⟨⟨by decide +kernel, by decide +kernel⟩, List.mem_of_getElem? (i := 640) (by decide +kernel), List.mem_of_getElem? (i := 764) (by decide +kernel), List.mem_of_getElem? (i := 765) (by decide +kernel)⟩
theorem lw_p33 : lw_okq (⟨"LooseHeapModel", "at", "(I)I"⟩, 27) := ⟨⟨by decide +kernel, by decide +kernel⟩, List.mem_of_getElem? (i := 640) (by decide +kernel), List.mem_of_getElem? (i := 768) (by decide +kernel), List.mem_of_getElem? (i := 769) (by decide +kernel)⟩
theorem lw_p34 : lw_okq (⟨"LooseHeapModel", "stays", "(I)V"⟩, 27) := ⟨⟨by decide +kernel, by decide +kernel⟩, List.mem_of_getElem? (i := 640) (by decide +kernel), List.mem_of_getElem? (i := 772) (by decide +kernel), List.mem_of_getElem? (i := 773) (by decide +kernel)⟩
theorem lw_p35 : lw_okq (⟨"LooseHeapModel", "comes", "(I)Z"⟩, 27) := ⟨⟨by decide +kernel, by decide +kernel⟩, List.mem_of_getElem? (i := 640) (by decide +kernel), List.mem_of_getElem? (i := 776) (by decide +kernel), List.mem_of_getElem? (i := 777) (by decide +kernel)⟩
theorem lw_p36 : lw_okq (⟨"LooseHeapModel", "isLong", "(I)Z"⟩, 27) := ⟨⟨by decide +kernel, by decide +kernel⟩, List.mem_of_getElem? (i := 640) (by decide +kernel), List.mem_of_getElem? (i := 780) (by decide +kernel), List.mem_of_getElem? (i := 781) (by decide +kernel)⟩
theorem lw_p37 : lw_okq (⟨"LooseHeapModel", "sizeOf", "(I)I"⟩, 27) := ⟨⟨by decide +kernel, by decide +kernel⟩, List.mem_of_getElem? (i := 640) (by decide +kernel), List.mem_of_getElem? (i := 784) (by decide +kernel), List.mem_of_getElem? (i := 785) (by decide +kernel)⟩
theorem lw_p38 : lw_okq (⟨"LooseHeapModel", "goes", "()V"⟩, 27) := ⟨⟨by decide +kernel, by decide +kernel⟩, List.mem_of_getElem? (i := 640) (by decide +kernel), List.mem_of_getElem? (i := 788) (by decide +kernel), List.mem_of_getElem? (i := 789) (by decide +kernel)⟩
theorem lw_p39 : lw_okq (⟨"LooseHeapModel", "wrong", "(III)I"⟩, 27) := ⟨⟨by decide +kernel, by decide +kernel⟩, List.mem_of_getElem? (i := 640) (by decide +kernel), List.mem_of_getElem? (i := 808) (by decide +kernel), List.mem_of_getElem? (i := 809) (by decide +kernel)⟩
theorem lw_p40 : lw_okq (⟨"LooseHeapModel", "addressOf", "(I)I"⟩, 27) := ⟨⟨by decide +kernel, by decide +kernel⟩, List.mem_of_getElem? (i := 640) (by decide +kernel), List.mem_of_getElem? (i := 816) (by decide +kernel), List.mem_of_getElem? (i := 817) (by decide +kernel)⟩
theorem lw_p41 : lw_okq (⟨"LooseHeapModel", "throwing", "(I)I"⟩, 27) := ⟨⟨by decide +kernel, by decide +kernel⟩, List.mem_of_getElem? (i := 640) (by decide +kernel), List.mem_of_getElem? (i := 824) (by decide +kernel), List.mem_of_getElem? (i := 825) (by decide +kernel)⟩
theorem lw_p42 : lw_okq (⟨"LooseHeapModel", "beginningIn", "(I)I"⟩, 27) := ⟨⟨by decide +kernel, by decide +kernel⟩, List.mem_of_getElem? (i := 640) (by decide +kernel), List.mem_of_getElem? (i := 852) (by decide +kernel), List.mem_of_getElem? (i := 853) (by decide +kernel)⟩
theorem lw_p43 : lw_okq (⟨"LooseHeapModel", "allWords", "()I"⟩, 27) := ⟨⟨by decide +kernel, by decide +kernel⟩, List.mem_of_getElem? (i := 640) (by decide +kernel), List.mem_of_getElem? (i := 860) (by decide +kernel), List.mem_of_getElem? (i := 861) (by decide +kernel)⟩
def lw_privs_3 : List (MethodName × Nat) := [(⟨"LooseHeapModel", "firstOf", "(I)I"⟩, 27), (⟨"LooseHeapModel", "at", "(I)I"⟩, 27), (⟨"LooseHeapModel", "stays", "(I)V"⟩, 27), (⟨"LooseHeapModel", "comes", "(I)Z"⟩, 27), (⟨"LooseHeapModel", "isLong", "(I)Z"⟩, 27), (⟨"LooseHeapModel", "sizeOf", "(I)I"⟩, 27), (⟨"LooseHeapModel", "goes", "()V"⟩, 27), (⟨"LooseHeapModel", "wrong", "(III)I"⟩, 27), (⟨"LooseHeapModel", "addressOf", "(I)I"⟩, 27), (⟨"LooseHeapModel", "throwing", "(I)I"⟩, 27), (⟨"LooseHeapModel", "beginningIn", "(I)I"⟩, 27), (⟨"LooseHeapModel", "allWords", "()I"⟩, 27)]
theorem lw_r3 : ∀ q ∈ lw_privs_3, lw_okq q := List.forall_mem_cons.mpr ⟨lw_p32, List.forall_mem_cons.mpr ⟨lw_p33, List.forall_mem_cons.mpr ⟨lw_p34, List.forall_mem_cons.mpr ⟨lw_p35, List.forall_mem_cons.mpr ⟨lw_p36, List.forall_mem_cons.mpr ⟨lw_p37, List.forall_mem_cons.mpr ⟨lw_p38, List.forall_mem_cons.mpr ⟨lw_p39, List.forall_mem_cons.mpr ⟨lw_p40, List.forall_mem_cons.mpr ⟨lw_p41, List.forall_mem_cons.mpr ⟨lw_p42, List.forall_mem_cons.mpr ⟨lw_p43, fun _ h => absurd h List.not_mem_nil⟩⟩⟩⟩⟩⟩⟩⟩⟩⟩⟩⟩
def lw_privs : List (MethodName × Nat) := lw_privs_1 ++ (lw_privs_2 ++ (lw_privs_3))
def lw_tbl : List Cond := k2_sels lw_privs ++ tables_1
theorem lw_privs_ok : ∀ q ∈ lw_privs, lw_okq q := by
  show ∀ q ∈ lw_privs_1 ++ (lw_privs_2 ++ (lw_privs_3)), lw_okq q
  exact List.forall_mem_append.mpr ⟨lw_r1, List.forall_mem_append.mpr ⟨lw_r2, lw_r3⟩⟩

/-! ===== BEGIN words of one list among another's, by their places ===== -/
theorem goodIn_r {big : List Cond} (ws : List Cond) (ps : List Nat) (hp : ws = ps.filterMap (fun i => big[i]?)) (h : ws.all goodWord = true) : GoodIn big ws := by
  intro w hw
  have h1 := List.all_eq_true.mp h w hw
  rw [hp] at hw
  obtain ⟨i, -, hi⟩ := List.mem_filterMap.mp hw
  have hm : w ∈ big := by first | exact List.mem_of_getElem? hi | exact List.getElem?_mem hi
  exact ⟨hm, good_of_word h1⟩
theorem goodIn_app {big a b : List Cond} (ha : GoodIn big a) (hb : GoodIn big b) : GoodIn big (a ++ b) := fun w h => (List.mem_append.mp h).elim (ha w) (hb w)
theorem goodIn_ca {big a b : List Cond} {c : Cond} (ha : GoodIn big (c :: a)) (hb : GoodIn big b) : GoodIn big (c :: (a ++ b)) := fun w h => (List.mem_cons.mp h).elim (fun e => ha w (List.mem_cons.mpr (Or.inl e))) (fun h => (List.mem_append.mp h).elim (fun h => ha w (List.mem_cons.mpr (Or.inr h))) (hb w))
theorem goodIn_sub {big ws : List Cond} (hm : ∀ w ∈ ws, w ∈ big) (h : ws.all goodWord = true) : GoodIn big ws := fun w hw => ⟨hm w hw, good_of_word (List.all_eq_true.mp h w hw)⟩
/-! ===== END ===== -/

/-! ===== BEGIN exceptions that leave a method, and their catching by the caller (launches without stack traces) ===== -/
section ZC
/-! a row of an exception table whose class may be linked for the first time: what the search does there -/
theorem zc_row {Q : Handler → Pre} {E : CtlPost} {e : Env} {d : Bool} {acts : List Action} {s : State} {f : JFrame} {a : Addr} {x : ExceptionTableEntry} {t : List ExceptionTableEntry} {c : ClassId} {cell : Cell} (hx : covers x f.pc = true) (h0 : x.catchType ≠ 0)
    (hl : s.vm.ClassLinks e.platform f.method.cls x.catchType c) (hcell : s.heap[a]? = some cell) (hobj : ∀ k, cell.vm ≠ .statics k)
    (hk : ∃ k, s.vm.classes[cell.cls]? = some k) (hc : ∃ k, s.vm.classes[c]? = some k) :
    wp (findHandler.go f a (x :: t)) Q E e d acts s ↔
      if s.vm.assignable cell.cls c = true then Q (.found x.handlerPc) d acts (s.setVm (s.vm.noted f.method.cls x.catchType (.cls c))) else wp (findHandler.go f a t) Q E e d acts (s.setVm (s.vm.noted f.method.cls x.catchType (.cls c))) := by
  simp only [covers] at hx
  obtain ⟨ha, ht⟩ := (resolveClass_links e.toSetting hl).op (op := VmOp.resolveClass f.method.cls x.catchType) rfl
  have hal : s.vm.Alike (s.vm.noted f.method.cls x.catchType (.cls c)) := (Vm.Alike.refl s.vm).noted _ _ _
  obtain ⟨k1, hk1⟩ := hk
  obtain ⟨k2, hk2⟩ := hc
  obtain ⟨k1', hk1', -⟩ := hal.2.2 _ _ hk1
  obtain ⟨k2', hk2', -⟩ := hal.2.2 _ _ hk2
  have hall : (s.vm.noted f.method.cls x.catchType (.cls c)).assignable cell.cls c = s.vm.assignable cell.cls c := hal.assignable _ _
  cases hfit : s.vm.assignable cell.cls c <;> rw [hfit] at hall <;>
    simp [findHandler.go, hx, h0, ha, ht, hcell, hobj, hk1', hk2', hall, VmOp.dirties, VmOp.acts]
/-- a row that lets it pass -/
def zc_pass (pl : Platform) (s₀ : State) (d : ClassId) (pc : Nat) (thrown : ClassId) (y : ExceptionTableEntry) : Prop :=
  covers y pc = false ∨ (y.catchType ≠ 0 ∧ ∃ c, s₀.vm.ClassLinks pl d y.catchType c ∧ s₀.vm.assignable thrown c = false)
theorem zc_go {e : Env} {s₀ : State} {f : JFrame} {a : Addr} {cell : Cell} (hobj : ∀ k, cell.vm ≠ .statics k) (hk0 : ∃ k, s₀.vm.classes[cell.cls]? = some k)
    (x : ExceptionTableEntry) (rest : List ExceptionTableEntry) (hx : covers x f.pc = true) (h0 : x.catchType ≠ 0) {ct : ClassId} (hct : s₀.vm.ClassLinks e.platform f.method.cls x.catchType ct) (hfit : s₀.vm.assignable cell.cls ct = true) :
    ∀ (pre : List ExceptionTableEntry) (S : State), s₀.WarmedH S.vm → S.heap[a]? = some cell → (∀ y ∈ pre, zc_pass e.platform s₀ f.method.cls f.pc cell.cls y) →
      ∃ vm', s₀.WarmedH vm' ∧ ∀ (Q : Handler → Pre) (E : CtlPost) (d : Bool) (acts : List Action), wp (findHandler.go f a (pre ++ x :: rest)) Q E e d acts S ↔ Q (.found x.handlerPc) d acts (S.setVm vm') := by
  obtain ⟨k0, hk0⟩ := hk0
  have one : ∀ (S : State) (y : ExceptionTableEntry) (c : ClassId), s₀.WarmedH S.vm → s₀.vm.ClassLinks e.platform f.method.cls y.catchType c →
      s₀.WarmedH (S.vm.noted f.method.cls y.catchType (.cls c)) ∧ S.vm.ClassLinks e.platform f.method.cls y.catchType c ∧ (∃ k, S.vm.classes[cell.cls]? = some k) ∧ (∃ k, S.vm.classes[c]? = some k) ∧ S.vm.assignable cell.cls c = s₀.vm.assignable cell.cls c := by
    intro S y c hW hl
    obtain ⟨k0', hk0', -⟩ := hW.alike.2.2 _ _ hk0
    obtain ⟨dk, _, _, kt, hd, _, _, _, _, hkt, _, hopen⟩ := hl.here
    obtain ⟨kt', hkt', -⟩ := hW.alike.2.2 _ _ hkt
    exact ⟨hW.noted hd hopen (State.rightAt_cls hl), hW.classLinks hl, ⟨k0', hk0'⟩, ⟨kt', hkt'⟩, by rw [hW.alike.assignable]⟩
  intro pre
  induction pre with
  | nil =>
    intro S hW hcell _
    obtain ⟨w1, w2, w3, w4, w5⟩ := one S x ct hW hct
    exact ⟨_, w1, fun Q E d acts => by rw [List.nil_append, zc_row hx h0 w2 hcell hobj w3 w4, if_pos (w5.trans hfit)]⟩
  | cons y ys ih =>
    intro S hW hcell hp
    have hr : ∀ z ∈ ys, zc_pass e.platform s₀ f.method.cls f.pc cell.cls z := fun z hz => hp z (List.mem_cons_of_mem _ hz)
    cases hcov : covers y f.pc with
    | true =>
      rcases hp y List.mem_cons_self with h | ⟨hy0, c, hl, hno⟩
      · rw [h] at hcov; cases hcov
      · obtain ⟨w1, w2, w3, w4, w5⟩ := one S y c hW hl
        obtain ⟨vm', hW', hq⟩ := ih (S.setVm (S.vm.noted f.method.cls y.catchType (.cls c))) w1 hcell hr
        exact ⟨vm', hW', fun Q E d acts => by
          rw [List.cons_append, zc_row hcov hy0 w2 hcell hobj w3 w4, if_neg (by rw [w5, hno]; exact Bool.false_ne_true)]
          exact hq Q E d acts⟩
    | false =>
      obtain ⟨vm', hW', hq⟩ := ih S hW hcell hr
      exact ⟨vm', hW', fun Q E d acts => by
        rw [List.cons_append, W.findHandler_go_skip hcov]
        exact hq Q E d acts⟩
theorem zc_throw {e : Env} {s : State} {a : Addr} {f : JFrame} {r : List Frame} {pc : Nat} {vm' : Vm} (hfind : ∀ (Q : Handler → Pre) (E : CtlPost) (d : Bool) (acts : List Action), wp (findHandler f a) Q E e d acts s ↔ Q (.found pc) d acts (s.setVm vm')) :
    (stepThrowing e s a (.java f :: r)).Is ((s.setVm vm').setFrames (.java { f with pc := pc, stack := [.ref a] } :: r)) [] := by
  simp only [stepThrowing, searchFrame, vmDo]
  generalize hr : Sem.go _ e false [] s = res
  obtain ⟨as, rfl, ha⟩ := Sem.eq_ok_of hr (a := Handler.found pc) (s' := s.setVm vm') (acts' := []) (by simp [hfind _ _ _ _])
  exact ⟨rfl, ha⟩
theorem zc_caught {p : Program} {l : Launch} {e : Env} {R : Room} {s : State} {m₀ : MethodId} {args : Array Value} {below : List Frame} {meth : Method} {c : Code} {T : State} {locs : List Loc} {cells slots : Nat} (X : Stand p l e R s m₀ args below meth c T locs cells slots) (a : Addr) {g : JFrame} (hg : g.method = m₀)
    {cell : Cell} (hcell : T.heap[a]? = some cell) (hobj : cell.vm = .none) (hk0 : ∃ k, s.vm.classes[cell.cls]? = some k)
    (pre : List ExceptionTableEntry) (x : ExceptionTableEntry) (rest : List ExceptionTableEntry) (hsplit : c.exceptionTable.toList = pre ++ x :: rest)
    (hpass : ∀ y ∈ pre, zc_pass e.platform s m₀.cls g.pc cell.cls y) (hx : covers x g.pc = true) (h0 : x.catchType ≠ 0) {ct : ClassId} (hct : s.vm.ClassLinks e.platform m₀.cls x.catchType ct) (hfit : s.vm.assignable cell.cls ct = true) :
    ∃ vm', Stand p l e R s m₀ args below meth c (T.setVm vm') locs cells slots ∧ Steps p.tables e below ((T.setTop g).pushFrame (.throwing a)) ((T.setVm vm').setTop { g with pc := x.handlerPc, stack := [.ref a] }) := by
  subst hg
  have hne : ∀ k, cell.vm ≠ .statics k := fun k hk => by rw [hobj] at hk; cases hk
  obtain ⟨vm', hW', hq⟩ := zc_go (e := e) (s₀ := s) (f := g) (a := a) hne hk0 x rest hx h0 hct hfit pre ((T.setTop g).pushFrame (.throwing a)) X.warmed hcell hpass
  refine ⟨vm', X.noted hW', ?_⟩
  have h := X.here
  obtain ⟨hgo, hw⟩ := h.throwing a
  refine Steps.head hgo hw ?_
  have hf : ∀ (Q : Handler → Pre) (E : CtlPost) (d : Bool) (acts : List Action), wp (findHandler g a) Q E e d acts ((T.setTop g).pushFrame (.throwing a)) ↔ Q (.found x.handlerPc) d acts (((T.setTop g).pushFrame (.throwing a)).setVm vm') := fun Q E d acts => by
    rw [W.findHandler_eq (s := (T.setTop g).pushFrame (.throwing a)) (meth := meth) (code := c) X.method' X.code, hsplit]
    exact hq Q E d acts
  rw [stepThread_throwing (frames_entered h.top _), (zc_throw (s := (T.setTop g).pushFrame (.throwing a)) hf).1]
  obtain ⟨g₀, hg0⟩ := Option.isSome_iff_exists.mp h.top
  obtain ⟨r, hr⟩ := State.topJava?_eq_some.mp hg0
  have hr' : (T.setVm vm').frames = .java g₀ :: r := hr
  have key : ∀ (u : State) (F G : List Frame), ((u.setFrames F).setVm vm').setFrames G = (u.setVm vm').setFrames G := fun u F G => by
    rw [show (u.setFrames F).setVm vm' = (u.setVm vm').setFrames F from rfl, State.setFrames_setFrames]
  rw [State.setTop_of_frames _ hr', hr, List.tail_cons, State.pushFrame, key, State.setTop_of_frames _ hr, key]
  exact Steps.refl _
end ZC
section VXA
/-! The laws vx_back, vx_callV, vx_callS, vx_callSW, vx_throw0, vx_throwS follow proofs of the library, with one case more: JvmDerived/Free/Laws.lean (Back.of_free), Shelf42/LK1.lean (callV, callS), Shelf/KitTraced.lean (throwNew0V, throwNewS). -/
/-- where a method has thrown q: the class by its name, the cell, what was written, the world -/
def vx_T (XC : String → State → State → Prop) (st : State) (q : Addr) (t : State) (mc ms : Nat) (free : Addr → Prop) : Prop :=
  ∃ (E : String) (ce : Cell) (L : List Loc), XC E st t ∧ t.heap[q]? = some ce ∧ ce.vm = .none ∧ st.vm.findClass E = some ce.cls ∧ st.WarmedH t.vm ∧ st.sameButNew ({ t with vm := st.vm } : State) L mc ms ∧ ∀ z ∈ L, free z.base
def vx_Q (Qc : Array Value → State → Outcome → State → Prop) (XC : String → State → State → Prop) (mc ms : Nat) (free : Addr → Prop) : Array Value → State → Outcome → State → Prop := fun a st o t =>
  (Qc a st o t ∧ ∃ L, FrameEnd st o t L mc ms ∧ ∀ q ∈ L, free q.base) ∨ ∃ q, o = .threw q ∧ vx_T XC st q t mc ms free
/-- a callee that returns or throws -/
def vx_Met (l : Launch) (y : MethodName) (ws : List Cond) (rm : Room) (Pc : Array Value → State → Prop) (Qc : Array Value → State → Outcome → State → Prop) (XC : String → State → State → Prop) (mc ms : Nat) (free : Addr → Prop) : Prop :=
  MetFree l y (headSpec ws rm) Pc (fun _ _ _ _ _ => True) (vx_Q Qc XC mc ms free)
def vx_Post (XC : String → State → State → Prop) (mc ms : Nat) (free : Addr → Prop) : Pt → Array Value → Addr → Pt → Prop := fun A a q B =>
  ∃ (g : JFrame) (mk : MethodId) (t : State) (L : List Loc) (E : String) (ce : Cell), B.U.heap = t.heap ∧ B.U.vm = t.vm ∧ XC E (A.U.calling g mk a) t ∧ t.heap[q]? = some ce ∧ ce.vm = .none ∧ A.U.vm.findClass E = some ce.cls ∧ B.locs = A.locs ++ L ∧ (∀ z ∈ L, free z.base) ∧ B.cells = A.cells + mc ∧ B.slots = A.slots + ms
def vx_Back (l : Launch) (R : Room) (p : Program) (e : Env) (below : List Frame) (s : State) (sargs : Array Value) (y : MethodName) (len W9 : Nat)
    (Pre : Pt → Array Value → Prop) (Post : Pt → Array Value → Option Value → Pt → Prop) (PostX : Pt → Array Value → Addr → Pt → Prop) : Prop :=
  ∀ (m : MethodId) (meth : Method) (c : Code) (A : Pt) (g : JFrame) (ig : Instr) (mk : MethodId) (a : Array Value),
    Stand p l e R s m sargs below meth c A.U A.locs A.cells A.slots → g.method = m → g.locals.size = c.maxLocals → decode c.code g.pc = .ok (ig, len) →
    2 * g.monitorRoom + (g.stack.map fun v => v.category).sum ≤ W9 → A.U.methodNamed? y = some mk → Pre A a →
    (∃ (v : Option Value) (B : Pt), Stand p l e R s m sargs below meth c B.U B.locs B.cells B.slots ∧ Post A a v B ∧
      Steps p.tables e below (doInvoke e (A.U.setTop g) [] mk a).1 (B.U.setTop { g with pc := g.pc + len, stack := v.toList ++ g.stack })) ∨
    (∃ (q : Addr) (B : Pt), Stand p l e R s m sargs below meth c B.U B.locs B.cells B.slots ∧ PostX A a q B ∧
      Steps p.tables e below (doInvoke e (A.U.setTop g) [] mk a).1 ((B.U.setTop g).pushFrame (.throwing q)))
section Payer
variable {l : Launch} {R : Room} {p : Program} {e : Env} {below : List Frame} {s : State} {sargs : Array Value} {y : MethodName} {len W9 : Nat}
theorem vx_back {ws : List Cond} {rm : Room} {Pc : Array Value → State → Prop} {Qc : Array Value → State → Outcome → State → Prop} {XC : String → State → State → Prop} {mc ms : Nat} {free : Addr → Prop} {bytes : ByteArray} {maxL : Nat} {ret : Option FieldType}
    (hM : vx_Met l y ws rm Pc Qc XC mc ms free) (hblind : FrameBlind Pc) (hrc : rm.cells = mc) (hrs : rm.slots = ms)
    (hframes : rm.frames + 1 ≤ R.frames) (hlocals : W9 + (maxL + 11) + rm.locals ≤ R.locals)
    (hws : ∀ w ∈ ws, ∀ a' U, s.WarmedH U.vm → w.before a' U = true) (hcode : Cond.code y bytes maxL ret ∈ ws) (hinit : ∀ a' U, s.WarmedH U.vm → (Cond.initialized y.cls).before a' U = true) :
    vx_Back l R p e below s sargs y len W9 (PreOf R mc ms Pc) (PostOf Qc mc ms free) (vx_Post XC mc ms free) := by
  intro m meth c A g ig mk a X hg hsize hdg hW hn hp
  have h1 : (headSpec ws rm).pre.before a A.U = true := atoms_intro fun w hw => hws w hw _ _ X.warmed
  have h2 : (Cond.code y bytes maxL ret).before a A.U = true := hws _ hcode _ _ X.warmed
  have h3 : (Cond.initialized y.cls).before a A.U = true := hinit _ _ X.warmed
  have h4 : A.cells + (headSpec ws rm).room.cells ≤ R.cells := by rw [show (headSpec ws rm).room.cells = mc from hrc]; exact hp.1
  have h5 : A.slots + (headSpec ws rm).room.slots ≤ R.slots := by rw [show (headSpec ws rm).room.slots = ms from hrs]; exact hp.2.1
  have hPc : Pc a (A.U.calling g mk a) := hblind _ _ _ _ hp.2.2
  obtain ⟨U, Ls, c0, s0⟩ := A
  dsimp only [Pt.U, Pt.locs, Pt.cells, Pt.slots] at h1 h2 h3 h4 h5 X hn hPc ⊢
  obtain ⟨methY, cY, hmY, hcY, -, hlY, -, -, -, -⟩ := Cond.code_spec hn h2
  obtain ⟨kY, hkY, -⟩ := className_of_methodNamed hn
  have hinitY : kY.init = .initialized := Cond.initialized_spec (findClass_of_methodNamed hn) hkY h3
  have h : At U g.method c below := by rw [hg]; exact X.here
  have hlocals9 : W9 + (maxL + 11) + (headSpec ws rm).room.locals ≤ R.locals := hlocals
  have happ : (headSpec ws rm).appliesLoose y e.platform (U.calling g mk a) = true :=
    Spec.appliesLoose_calling (g := g) h hdg hn hkY hinitY
      (X.room_calling (g := g) (R' := (headSpec ws rm).room) hsize hmY hcY hframes (by rw [hlY]; omega) h4 h5) h1
  obtain ⟨mid, hmid⟩ := h.above
  have hfr : (U.setTop g).frames = (.java g :: mid) ++ below := by rw [State.frames_setTop' g h.top, hmid]; rfl
  obtain ⟨o, s₂, hsteps, -, hend, hq⟩ := Steps.callFree hM p X.admits X.cas X.clock (acts := []) hfr happ hPc trivial
  have hq' : vx_Q Qc XC mc ms free a (U.calling g mk a) o s₂ := hq
  rw [State.frames_setTop' g h.top] at hend
  obtain ⟨g₀, hg0⟩ := Option.isSome_iff_exists.mp h.top
  obtain ⟨r, hr⟩ := State.topJava?_eq_some.mp hg0
  have hr' : (({ U with heap := s₂.heap, slotsUsed := s₂.slotsUsed } : State).setVm s₂.vm).frames = .java g₀ :: r := hr
  rcases hq' with ⟨hqc, L, hfe, hL⟩ | ⟨q, rfl, E, ce, L, hx, hce, hcv, hcl, hW₂, hsm, hL⟩
  · obtain ⟨⟨v, rfl⟩, hW₂, e2, q2, q3, q4, q5, q6⟩ := id hfe
    have e3 : s₂ = ({ (U.calling g mk a).setFrames s₂.frames with heap := s₂.heap, slotsUsed := s₂.slotsUsed } : State).setVm s₂.vm := by
      have : s₂ = ({ s₂ with vm := (U.calling g mk a).vm } : State).setVm s₂.vm := rfl
      rw [e2] at this
      exact this
    obtain ⟨c₂, i₂, len₂, hc₂, hd₂, hf₂⟩ := hend
    have hW' : U.WarmedH s₂.vm := hW₂
    have hcc : c₂ = c := by
      have h1 : s₂.code? g.method = U.code? g.method := by
        rw [State.code?_eq, State.code?_eq, hW'.alike.method?]
      exact Option.some.inj (hc₂.symm.trans (h1.trans h.code))
    subst hcc
    have hlen : len₂ = len := by rw [hdg] at hd₂; cases hd₂; rfl
    subst hlen
    have hs₂ : s₂ = (({ U with heap := s₂.heap, slotsUsed := s₂.slotsUsed } : State).setVm s₂.vm).setTop { g with pc := g.pc + len₂, stack := v.toList ++ g.stack } := by
      refine e3.trans ?_
      rw [hf₂, State.calling_eq h.top, State.setFrames_setFrames, State.setTop_of_frames _ hr', hr]
      rfl
    have hsame : U.sameButNew ({ U with heap := s₂.heap, slotsUsed := s₂.slotsUsed } : State) L mc ms := by
      refine ⟨?_, q2, q3, q4, q5, q6⟩
      obtain ⟨t, ht, -⟩ := State.frames_cons hr
      show ({ U with heap := s₂.heap, slotsUsed := s₂.slotsUsed } : State) = { U.setFrames U.frames with heap := s₂.heap, slotsUsed := s₂.slotsUsed }
      rw [State.setFrames_self ht]
    subst hg
    refine Or.inl ⟨v, ⟨(({ U with heap := s₂.heap, slotsUsed := s₂.slotsUsed } : State).setVm s₂.vm), Ls ++ L, c0 + mc, s0 + ms⟩,
      ⟨X.admits, X.cas, X.clock, X.frames, X.room, X.hears, X.method, X.code, (X.here.setHeapUsed s₂.heap s₂.slotsUsed).setVm hW'.alike, X.tail, State.WarmedH.trans X.warmed hW', X.limits, X.bytes, X.same.trans (hsame.setVm s.vm)⟩,
      ⟨g, mk, s₂, L, rfl, rfl, hqc, rfl, hL, rfl, rfl⟩, ?_⟩
    show Steps p.tables e below _ ((({ U with heap := s₂.heap, slotsUsed := s₂.slotsUsed } : State).setVm s₂.vm).setTop { g with pc := g.pc + len₂, stack := v.toList ++ g.stack })
    rw [← hs₂]
    exact hsteps
  · obtain ⟨e2, q2, q3, q4, q5, q6⟩ := id hsm
    have e3 : s₂ = ({ (U.calling g mk a).setFrames s₂.frames with heap := s₂.heap, slotsUsed := s₂.slotsUsed } : State).setVm s₂.vm := by
      have : s₂ = ({ s₂ with vm := (U.calling g mk a).vm } : State).setVm s₂.vm := rfl
      rw [e2] at this
      exact this
    have hf₂ : s₂.frames = .throwing q :: .java g :: U.frames.tail := hend
    have hW' : U.WarmedH s₂.vm := hW₂
    have hs₂ : s₂ = ((({ U with heap := s₂.heap, slotsUsed := s₂.slotsUsed } : State).setVm s₂.vm).setTop g).pushFrame (.throwing q) := by
      refine e3.trans ?_
      rw [hf₂, State.calling_eq h.top, State.setFrames_setFrames, State.pushFrame, State.frames_setTop _ hr', State.setTop_of_frames _ hr', State.setFrames_setFrames, hr]
      rfl
    have hsame : U.sameButNew ({ U with heap := s₂.heap, slotsUsed := s₂.slotsUsed } : State) L mc ms := by
      refine ⟨?_, q2, q3, q4, q5, q6⟩
      obtain ⟨t, ht, -⟩ := State.frames_cons hr
      show ({ U with heap := s₂.heap, slotsUsed := s₂.slotsUsed } : State) = { U.setFrames U.frames with heap := s₂.heap, slotsUsed := s₂.slotsUsed }
      rw [State.setFrames_self ht]
    subst hg
    refine Or.inr ⟨q, ⟨(({ U with heap := s₂.heap, slotsUsed := s₂.slotsUsed } : State).setVm s₂.vm), Ls ++ L, c0 + mc, s0 + ms⟩,
      ⟨X.admits, X.cas, X.clock, X.frames, X.room, X.hears, X.method, X.code, (X.here.setHeapUsed s₂.heap s₂.slotsUsed).setVm hW'.alike, X.tail, State.WarmedH.trans X.warmed hW', X.limits, X.bytes, X.same.trans (hsame.setVm s.vm)⟩,
      ⟨g, mk, s₂, L, E, ce, rfl, rfl, hx, hce, hcv, hcl, rfl, hL, rfl, rfl⟩, ?_⟩
    show Steps p.tables e below _ (((({ U with heap := s₂.heap, slotsUsed := s₂.slotsUsed } : State).setVm s₂.vm).setTop g).pushFrame (.throwing q))
    rw [← hs₂]
    exact hsteps
end Payer
section Calls
variable {p : Program} {l : Launch} {e : Env} {R : Room} {s : State} {m : MethodId} {args : Array Value} {below : List Frame} {meth : Method} {c : Code} {T : State} {locs : List Loc} {cells slots : Nat}
theorem vx_callV (X : Stand p l e R s m args below meth c T locs cells slots) (hexec : p.tables.exec = Jvm.exec) {own C : String} {index : Nat} {y : MethodName} {bytes : ByteArray} {maxL : Nat} {ret : Option FieldType}
    (hown : s.vm.findClass own = some m.cls) (hlink : (Cond.methodLink own index y).before args s = true) (hinst : (Cond.instanceMethod y).before args s = true) (hsel : (Cond.selects C y y).before args s = true)
    (hcode : (Cond.code y bytes maxL ret).before args s = true) (hy : y.cls ≠ "java/lang/invoke/MethodHandle" ∧ y.cls ≠ "java/lang/invoke/VarHandle")
    {W9 : Nat} {Pre : Pt → Array Value → Prop} {Post : Pt → Array Value → Option Value → Pt → Prop} {PostX : Pt → Array Value → Addr → Pt → Prop} (hK : vx_Back l R p e below s args y 3 W9 Pre Post PostX)
    {b : Addr} {cellB : Cell} (hcell : T.heap[b]? = some cellB) (hobj : cellB.vm.isStatics = false) (hcls : s.vm.findClass C = some cellB.cls)
    {g : JFrame} (hg : g.method = m) (hsize : g.locals.size = c.maxLocals) {argsL rest : List Value} (hlen : ∀ sig, parseMethodDescriptor y.desc = some sig → argsL.length = sig.parameters.length)
    (hstack : g.stack = argsL.reverse ++ .ref b :: rest) (hW : 2 * g.monitorRoom + (rest.map fun v => v.category).sum ≤ W9) (hdg : decode c.code g.pc = .ok (.invokevirtual index, 3))
    (hpre : ∀ vm₁, s.WarmedH vm₁ → Pre ⟨T.setVm vm₁, locs, cells, slots⟩ (Value.ref b :: argsL).toArray) :
    (∃ (v : Option Value) (vm₁ : Vm) (B : Pt), s.WarmedH vm₁ ∧ Stand p l e R s m args below meth c B.U B.locs B.cells B.slots ∧ Post ⟨T.setVm vm₁, locs, cells, slots⟩ (Value.ref b :: argsL).toArray v B ∧
      ∀ target, Steps p.tables e below (B.U.setTop { g with pc := g.pc + 3, stack := v.toList ++ rest }) target → Steps p.tables e below (T.setTop g) target) ∨
    (∃ (q : Addr) (vm₁ : Vm) (B : Pt), s.WarmedH vm₁ ∧ Stand p l e R s m args below meth c B.U B.locs B.cells B.slots ∧ PostX ⟨T.setVm vm₁, locs, cells, slots⟩ (Value.ref b :: argsL).toArray q B ∧
      Steps p.tables e below (T.setTop g) ((B.U.setTop { g with stack := rest }).pushFrame (.throwing q))) := by
  obtain ⟨mk, methM, hnamed, hmethM, hstM, habM⟩ := Cond.instanceMethod_spec hinst
  obtain ⟨methM', cM, hmethM', -, -, -, -, -, -, hsigM⟩ := Cond.code_spec hnamed hcode
  cases hmethM.symm.trans hmethM'
  obtain ⟨c2, r2, m2, q1, q2, q3, q4, kP, hkP, hkPi⟩ := Cond.selects_spec hsel
  cases hcls.symm.trans q1
  cases (State.methodFound?_of_named hnamed hy).symm.trans q2
  cases hnamed.symm.trans q3
  have hselP : selectMethod e.platform s.vm cellB.cls mk = .method mk := by rw [Launch.admits_selectMethod X.admits]; exact q4
  obtain ⟨vm₁, X₁, hstep₁⟩ := X.invokevirtual hexec hown hlink hnamed hmethM hstM hkP hkPi hy (a := b) (cell := cellB) hcell
    (fun z h => by rw [h] at hobj; cases hobj) hselP hmethM habM hkP hkPi (g := g) hg (argsL := argsL) (rest := rest) (hlen _ hsigM) hstack hdg
  rcases hK m meth c ⟨T.setVm vm₁, locs, cells, slots⟩ { g with stack := rest } (.invokevirtual index) mk (Value.ref b :: argsL).toArray X₁ hg hsize hdg hW (X₁.named hnamed) (hpre vm₁ X₁.warmed) with ⟨v, B, X', hpost, hsteps⟩ | ⟨q, B, X', hpost, hsteps⟩
  · exact Or.inl ⟨v, vm₁, B, X₁.warmed, X', hpost, fun target h => hstep₁ _ fun acts => by rw [doInvoke_state]; exact hsteps.trans h⟩
  · exact Or.inr ⟨q, vm₁, B, X₁.warmed, X', hpost, hstep₁ _ fun acts => by rw [doInvoke_state]; exact hsteps⟩
theorem vx_callS (X : Stand p l e R s m args below meth c T locs cells slots) (hexec : p.tables.exec = Jvm.exec) {own : String} {index : Nat} {y : MethodName} {bytes : ByteArray} {maxL : Nat} {ret : Option FieldType}
    (hown : s.vm.findClass own = some m.cls) (hlink : (Cond.methodLink own index y).before args s = true) (hstat : (Cond.static y).before args s = true) (hinit : (Cond.initialized y.cls).before args s = true)
    (hcode : (Cond.code y bytes maxL ret).before args s = true) (hy : y.cls ≠ "java/lang/invoke/MethodHandle" ∧ y.cls ≠ "java/lang/invoke/VarHandle")
    {W9 : Nat} {Pre : Pt → Array Value → Prop} {Post : Pt → Array Value → Option Value → Pt → Prop} {PostX : Pt → Array Value → Addr → Pt → Prop} (hK : vx_Back l R p e below s args y 3 W9 Pre Post PostX)
    {g : JFrame} (hg : g.method = m) (hsize : g.locals.size = c.maxLocals) {argsL rest : List Value} (hlen : ∀ sig, parseMethodDescriptor y.desc = some sig → argsL.length = sig.parameters.length)
    (hstack : g.stack = argsL.reverse ++ rest) (hW : 2 * g.monitorRoom + (rest.map fun v => v.category).sum ≤ W9) (hdg : decode c.code g.pc = .ok (.invokestatic index, 3))
    (hpre : ∀ vm₁, s.WarmedH vm₁ → Pre ⟨T.setVm vm₁, locs, cells, slots⟩ argsL.toArray) :
    (∃ (v : Option Value) (vm₁ : Vm) (B : Pt), s.WarmedH vm₁ ∧ Stand p l e R s m args below meth c B.U B.locs B.cells B.slots ∧ Post ⟨T.setVm vm₁, locs, cells, slots⟩ argsL.toArray v B ∧
      ∀ target, Steps p.tables e below (B.U.setTop { g with pc := g.pc + 3, stack := v.toList ++ rest }) target → Steps p.tables e below (T.setTop g) target) ∨
    (∃ (q : Addr) (vm₁ : Vm) (B : Pt), s.WarmedH vm₁ ∧ Stand p l e R s m args below meth c B.U B.locs B.cells B.slots ∧ PostX ⟨T.setVm vm₁, locs, cells, slots⟩ argsL.toArray q B ∧
      Steps p.tables e below (T.setTop g) ((B.U.setTop { g with stack := rest }).pushFrame (.throwing q))) := by
  obtain ⟨mk, hnamed⟩ := Cond.code_named hcode
  obtain ⟨methM, cM, hmethM, -, -, -, -, -, -, hsigM⟩ := Cond.code_spec hnamed hcode
  have hstatic : methM.isStatic = true := Cond.static_spec hnamed hmethM hstat
  obtain ⟨kP, hkP, -⟩ := className_of_methodNamed hnamed
  have hinitP : kP.init = .initialized := Cond.initialized_spec (findClass_of_methodNamed hnamed) hkP hinit
  obtain ⟨vm₁, X₁, hstep₁⟩ := X.invokestatic hexec hown hlink hnamed hmethM hstatic hkP hinitP hy (g := g) hg (argsL := argsL) (rest := rest) (hlen _ hsigM) hstack hdg
  rcases hK m meth c ⟨T.setVm vm₁, locs, cells, slots⟩ { g with stack := rest } (.invokestatic index) mk argsL.toArray X₁ hg hsize hdg hW (X₁.named hnamed) (hpre vm₁ X₁.warmed) with ⟨v, B, X', hpost, hsteps⟩ | ⟨q, B, X', hpost, hsteps⟩
  · exact Or.inl ⟨v, vm₁, B, X₁.warmed, X', hpost, fun target h => hstep₁ _ fun acts => by rw [doInvoke_state]; exact hsteps.trans h⟩
  · exact Or.inr ⟨q, vm₁, B, X₁.warmed, X', hpost, hstep₁ _ fun acts => by rw [doInvoke_state]; exact hsteps⟩
end Calls
theorem vx_cls {s : State} {T : State} {vm₁ : Vm} {E : String} {k : ClassId} (hW : s.WarmedH vm₁) (h : (T.setVm vm₁).vm.findClass E = some k) : s.vm.findClass E = some k := by
  have h1 : vm₁.findClass E = some k := h
  rw [hW.alike.findClass] at h1
  exact h1
/-- the method's frame g, with q thrown over it -/
def vx_W (p : Program) (l : Launch) (e : Env) (R : Room) (s : State) (m : MethodId) (args : Array Value) (below : List Frame) (meth : Method) (c : Code) (H : Heap) (locs : List Loc) (cells slots : Nat) (Q : State → Prop) (g : JFrame) (q : Addr) : Prop :=
  ∀ T : State, T.heap = H → Stand p l e R s m args below meth c T locs cells slots → ∃ t, Steps p.tables e below ((T.setTop g).pushFrame (.throwing q)) t ∧ Q t
def vx_Run (p : Program) (l : Launch) (e : Env) (R : Room) (s : State) (m : MethodId) (args : Array Value) (below : List Frame) (meth : Method) (c : Code) (H : Heap) (locs : List Loc) (cells slots mc ms : Nat) (g : JFrame) (rest : List Value) (Qa : State → Outcome → State → Prop) (XC : String → State → State → Prop) (free : Addr → Prop) : Prop :=
  ∀ T : State, T.heap = H → Stand p l e R s m args below meth c T locs cells slots →
    (∃ (v : Option Value) (st₀ t T' : State) (L : List Loc), st₀.heap = H ∧ Stand p l e R s m args below meth c T' (locs ++ L) (cells + mc) (slots + ms) ∧ (∀ q ∈ L, free q.base) ∧ T'.heap = t.heap ∧ T'.vm = t.vm ∧ Qa st₀ (.returned v) t ∧
      Goes p e below T g T' { g with pc := g.pc + 3, stack := v.toList ++ rest }) ∨
    (∃ (q : Addr) (st₀ t T' : State) (L : List Loc) (E : String) (ce : Cell), st₀.heap = H ∧ Stand p l e R s m args below meth c T' (locs ++ L) (cells + mc) (slots + ms) ∧ (∀ z ∈ L, free z.base) ∧ T'.heap = t.heap ∧ T'.vm = t.vm ∧ XC E st₀ t ∧ t.heap[q]? = some ce ∧ ce.vm = .none ∧ s.vm.findClass E = some ce.cls ∧
      Steps p.tables e below (T.setTop g) ((T'.setTop { g with stack := rest }).pushFrame (.throwing q)))
def vx_X {S : Type} (px : S → Prop) (B : String → S → State → Prop) (A : Nat → Prop) : String → State → State → Prop := fun E st t => ∃ u : S, px u ∧ B E u t ∧ va_F A st t
section Runs
variable {p : Program} {l : Launch} {e : Env} {R : Room} {s : State} {m : MethodId} {args : Array Value} {below : List Frame} {meth : Method} {c : Code} {H : Heap} {locs : List Loc} {cells slots : Nat}
variable {y : MethodName} {bytes cc : ByteArray} {maxL nL mc ms n index : Nat} {ret : Option FieldType} {ws : List Cond} {rm : Room} {Pc : Array Value → State → Prop} {Qc : Array Value → State → Outcome → State → Prop} {XC : String → State → State → Prop} {free : Addr → Prop} {Ts : List Cond} {own C : String} {b : Addr} {As rest : List Value} {g : JFrame}
theorem vx_callBack (cb : CallB R s args own index y bytes maxL ret ws rm mc ms n) (hM : vx_Met l y ws rm Pc Qc XC mc ms free) (hbl : FrameBlind Pc) : vx_Back l R p e below s args y 3 8 (PreOf R mc ms Pc) (PostOf Qc mc ms free) (vx_Post XC mc ms free) := by
  obtain ⟨hrc, hrs, hfr, hlo, hws, hcw, -, hini, -⟩ := cb
  exact vx_back (bytes := bytes) (maxL := maxL) (ret := ret) hM hbl hrc hrs hfr hlo hws hcw (fun a' U hW => word_at hW (Or.inl (by first | rfl | simp [Cond.onTables, Cond.keeps, Cond.steady])) hini)
theorem vx_runV (S : CallFix p m c cc nL s args Ts own) (hM : vx_Met l y ws rm Pc Qc XC mc ms free) (cw : CallW R s args own C index y bytes maxL ret ws rm mc ms n) (hp : PreV s H C b Pc As)
    (hg : g.method = m) (hn : As.length = n) (hsize : g.locals.size = nL) (hstack : g.stack = As.reverse ++ .ref b :: rest) (hW : 2 * g.monitorRoom + (rest.map fun v => v.category).sum ≤ 8) (hdg : decode cc g.pc = .ok (.invokevirtual index, 3)) (hf : cells + mc ≤ R.cells ∧ slots + ms ≤ R.slots) :
    vx_Run p l e R s m args below meth c H locs cells slots mc ms g rest (Qc (Value.ref b :: As).toArray) XC free := by
  have hK : vx_Back l R p e below s args y 3 8 (PreOf R mc ms Pc) (PostOf Qc mc ms free) (vx_Post XC mc ms free) := vx_callBack cw.1 hM hp.1
  obtain ⟨⟨-, -, -, -, -, -, hcode, -, hy, hlen, hl⟩, hin, hse⟩ := cw
  obtain ⟨hx, hb, hml, ho, -⟩ := S
  obtain ⟨-, ⟨cellB, hcB, hoB, hclB⟩, hPc⟩ := hp
  intro T hT X
  rcases vx_callV X hx (C := C) (bytes := bytes) (maxL := maxL) (ret := ret) ho hl hin hse hcode hy hK (by rw [hT]; exact hcB) hoB hclB hg (hsize.trans hml.symm) (argsL := As) (rest := rest) (fun sig h => hn.trans (hlen sig h)) hstack hW (by rw [hb]; exact hdg)
    (fun vm₁ hW₁ => ⟨hf.1, hf.2, hPc (T.setVm vm₁) hT hW₁⟩) with ⟨v, vm₁, ⟨U', l2, c2, s2⟩, hW₁, X', ⟨g', mk, t, L, e1, e2, hq, h1, hL, h2, h3⟩, st⟩ | ⟨q, vm₁, ⟨U', l2, c2, s2⟩, hW₁, X', ⟨g', mk, t, L, E, ce, e1, e2, hq, hce, hcv, hcl, h1, hL, h2, h3⟩, st⟩
  · dsimp only [Pt.U, Pt.locs, Pt.cells, Pt.slots] at X' e1 e2 h1 h2 h3 st
    subst h1; subst h2; subst h3
    exact Or.inl ⟨v, (T.setVm vm₁).calling g' mk (Value.ref b :: As).toArray, t, U', L, hT, X', hL, e1, e2, hq, st⟩
  · dsimp only [Pt.U, Pt.locs, Pt.cells, Pt.slots] at X' e1 e2 h1 h2 h3 st hcl
    subst h1; subst h2; subst h3
    exact Or.inr ⟨q, (T.setVm vm₁).calling g' mk (Value.ref b :: As).toArray, t, U', L, E, ce, hT, X', hL, e1, e2, hq, hce, hcv, vx_cls hW₁ hcl, st⟩
theorem vx_runS (S : CallFix p m c cc nL s args Ts own) (hM : vx_Met l y ws rm Pc Qc XC mc ms free) (cw : CallB R s args own index y bytes maxL ret ws rm mc ms n ∧ (Cond.static y).before args s = true) (hp : PreS s H Pc As)
    (hg : g.method = m) (hn : As.length = n) (hsize : g.locals.size = nL) (hstack : g.stack = As.reverse ++ rest) (hW : 2 * g.monitorRoom + (rest.map fun v => v.category).sum ≤ 8) (hdg : decode cc g.pc = .ok (.invokestatic index, 3)) (hf : cells + mc ≤ R.cells ∧ slots + ms ≤ R.slots) :
    vx_Run p l e R s m args below meth c H locs cells slots mc ms g rest (Qc As.toArray) XC free := by
  have hK : vx_Back l R p e below s args y 3 8 (PreOf R mc ms Pc) (PostOf Qc mc ms free) (vx_Post XC mc ms free) := vx_callBack cw.1 hM hp.1
  obtain ⟨⟨-, -, -, -, -, -, hcode, hini, hy, hlen, hl⟩, hstt⟩ := cw
  obtain ⟨hx, hb, hml, ho, -⟩ := S
  intro T hT X
  rcases vx_callS X hx (bytes := bytes) (maxL := maxL) (ret := ret) ho hl hstt hini hcode hy hK hg (hsize.trans hml.symm) (argsL := As) (rest := rest) (fun sig h => hn.trans (hlen sig h)) hstack hW (by rw [hb]; exact hdg)
    (fun vm₁ hW₁ => ⟨hf.1, hf.2, hp.2 (T.setVm vm₁) hT hW₁⟩) with ⟨v, vm₁, ⟨U', l2, c2, s2⟩, hW₁, X', ⟨g', mk, t, L, e1, e2, hq, h1, hL, h2, h3⟩, st⟩ | ⟨q, vm₁, ⟨U', l2, c2, s2⟩, hW₁, X', ⟨g', mk, t, L, E, ce, e1, e2, hq, hce, hcv, hcl, h1, hL, h2, h3⟩, st⟩
  · dsimp only [Pt.U, Pt.locs, Pt.cells, Pt.slots] at X' e1 e2 h1 h2 h3 st
    subst h1; subst h2; subst h3
    exact Or.inl ⟨v, (T.setVm vm₁).calling g' mk As.toArray, t, U', L, hT, X', hL, e1, e2, hq, st⟩
  · dsimp only [Pt.U, Pt.locs, Pt.cells, Pt.slots] at X' e1 e2 h1 h2 h3 st hcl
    subst h1; subst h2; subst h3
    exact Or.inr ⟨q, (T.setVm vm₁).calling g' mk As.toArray, t, U', L, E, ce, hT, X', hL, e1, e2, hq, hce, hcv, vx_cls hW₁ hcl, st⟩
end Runs
section Rows
variable {p : Program} {l : Launch} {e : Env} {R : Room} {s : State} {m : MethodId} {args : Array Value} {below : List Frame} {meth : Method} {c : Code} {H : Heap} {locs : List Loc} {cells slots : Nat} {Q : State → Prop}
variable {mc ms : Nat} {free : Addr → Prop} {A0 A1 : Nat → Prop} {H0 : Heap} {a : Array Value} {pc : Nat} {ls : Array Slot} {st0 rest : List Value}
theorem vx_keep {st₀ t T' : State} {L : List Loc} (h0 : st₀.heap = H) (e1 : T'.heap = t.heap) (hS : va_S A0 H0 H locs) (hA : ∀ q, q < H.size → A1 q → A0 q) (hf : ∀ q, free q → A0 q) (hL : ∀ q ∈ L, free q.base) (hF : va_F A1 st₀ t) :
    H.size ≤ T'.heap.size ∧ (∀ q : Nat, q < H.size → ¬ A1 q → T'.heap[q]? = H[q]?) ∧ va_S A0 H0 T'.heap (locs ++ L) := by
  obtain ⟨hz, hk⟩ := hF
  rw [h0] at hz hk
  exact ⟨by rw [e1]; exact hz, fun q h1 h2 => by rw [e1]; exact hk q h1 h2,
    ⟨Nat.le_trans hS.1 (by rw [e1]; exact hz), fun q h1 h2 => by rw [e1, hk q (Nat.lt_of_lt_of_le h1 hS.1) (fun z => h2 (hA q (Nat.lt_of_lt_of_le h1 hS.1) z))]; exact hS.2.1 q h1 h2, fun q hq => by
      rcases List.mem_append.mp hq with h | h
      · exact hS.2.2 q h
      · exact hf _ (hL q h)⟩⟩
theorem vx_calli {S SX : Type} {post : Int32 → S → Prop} {px : SX → Prop} {B : S → State → Prop} {BX : String → SX → State → Prop} {AX : Nat → Prop} (hr : vx_Run p l e R s m args below meth c H locs cells slots mc ms (F0 m pc ls st0) rest (va_Qi post B A1 a) (vx_X px BX AX) free) (hS : va_S A0 H0 H locs) (hA : ∀ q, q < H.size → A1 q → A0 q) (hf : ∀ q, free q → A0 q) (hAX : ∀ q, q < H.size → AX q → A0 q)
    (kx : ∀ (E : String) (ce : Cell) (q9 : Addr) (u : SX) (t : State) (H1 : Heap) (locs1 : List Loc), t.heap = H1 → s.vm.Alike t.vm → px u → BX E u t → H.size ≤ H1.size → (∀ q : Nat, q < H.size → ¬ AX q → H1[q]? = H[q]?) → va_S A0 H0 H1 locs1 → H1[q9]? = some ce → ce.vm = .none → s.vm.findClass E = some ce.cls → vx_W p l e R s m args below meth c H1 locs1 (cells + mc) (slots + ms) Q (F0 m pc ls rest) q9)
    (kk : ∀ (r : Int32) (u : S) (t : State) (H1 : Heap) (locs1 : List Loc), t.heap = H1 → s.vm.Alike t.vm → post r u → B u t → H.size ≤ H1.size → (∀ q : Nat, q < H.size → ¬ A1 q → H1[q]? = H[q]?) → va_S A0 H0 H1 locs1 → W p l e R s m args below meth c H1 locs1 (cells + mc) (slots + ms) Q (F0 m (pc + 3) ls (.int r :: rest))) : W p l e R s m args below meth c H locs cells slots Q (F0 m pc ls st0) := by
  intro T hT X
  rcases hr T hT X with ⟨v, st₀, t, T', L, h0, X', hL, e1, e2, ⟨⟨r, u, hv, hp, hb⟩, hF⟩, st⟩ | ⟨q, st₀, t, T', L, E, ce, h0, X', hL, e1, e2, ⟨u, hp, hb, hF⟩, hce, hcv, hcl, st⟩
  · cases hv
    obtain ⟨k1, k2, k3⟩ := vx_keep h0 e1 hS hA hf hL hF
    obtain ⟨t2, a1, b1⟩ := kk r u t T'.heap (locs ++ L) e1.symm (by rw [← e2]; exact X'.warmed.alike) hp hb k1 k2 k3 T' rfl X'
    exact ⟨t2, st t2 a1, b1⟩
  · obtain ⟨k1, k2, k3⟩ := vx_keep h0 e1 hS hAX hf hL hF
    obtain ⟨t2, a1, b1⟩ := kx E ce q u t T'.heap (locs ++ L) e1.symm (by rw [← e2]; exact X'.warmed.alike) hp hb k1 k2 k3 (by rw [e1]; exact hce) hcv hcl T' rfl X'
    exact ⟨t2, st.trans a1, b1⟩
theorem vx_calll {S SX : Type} {post : Int64 → S → Prop} {px : SX → Prop} {B : S → State → Prop} {BX : String → SX → State → Prop} {AX : Nat → Prop} (hr : vx_Run p l e R s m args below meth c H locs cells slots mc ms (F0 m pc ls st0) rest (va_Ql post B A1 a) (vx_X px BX AX) free) (hS : va_S A0 H0 H locs) (hA : ∀ q, q < H.size → A1 q → A0 q) (hf : ∀ q, free q → A0 q) (hAX : ∀ q, q < H.size → AX q → A0 q)
    (kx : ∀ (E : String) (ce : Cell) (q9 : Addr) (u : SX) (t : State) (H1 : Heap) (locs1 : List Loc), t.heap = H1 → s.vm.Alike t.vm → px u → BX E u t → H.size ≤ H1.size → (∀ q : Nat, q < H.size → ¬ AX q → H1[q]? = H[q]?) → va_S A0 H0 H1 locs1 → H1[q9]? = some ce → ce.vm = .none → s.vm.findClass E = some ce.cls → vx_W p l e R s m args below meth c H1 locs1 (cells + mc) (slots + ms) Q (F0 m pc ls rest) q9)
    (kk : ∀ (r : Int64) (u : S) (t : State) (H1 : Heap) (locs1 : List Loc), t.heap = H1 → s.vm.Alike t.vm → post r u → B u t → H.size ≤ H1.size → (∀ q : Nat, q < H.size → ¬ A1 q → H1[q]? = H[q]?) → va_S A0 H0 H1 locs1 → W p l e R s m args below meth c H1 locs1 (cells + mc) (slots + ms) Q (F0 m (pc + 3) ls (.long r :: rest))) : W p l e R s m args below meth c H locs cells slots Q (F0 m pc ls st0) := by
  intro T hT X
  rcases hr T hT X with ⟨v, st₀, t, T', L, h0, X', hL, e1, e2, ⟨⟨r, u, hv, hp, hb⟩, hF⟩, st⟩ | ⟨q, st₀, t, T', L, E, ce, h0, X', hL, e1, e2, ⟨u, hp, hb, hF⟩, hce, hcv, hcl, st⟩
  · cases hv
    obtain ⟨k1, k2, k3⟩ := vx_keep h0 e1 hS hA hf hL hF
    obtain ⟨t2, a1, b1⟩ := kk r u t T'.heap (locs ++ L) e1.symm (by rw [← e2]; exact X'.warmed.alike) hp hb k1 k2 k3 T' rfl X'
    exact ⟨t2, st t2 a1, b1⟩
  · obtain ⟨k1, k2, k3⟩ := vx_keep h0 e1 hS hAX hf hL hF
    obtain ⟨t2, a1, b1⟩ := kx E ce q u t T'.heap (locs ++ L) e1.symm (by rw [← e2]; exact X'.warmed.alike) hp hb k1 k2 k3 (by rw [e1]; exact hce) hcv hcl T' rfl X'
    exact ⟨t2, st.trans a1, b1⟩
theorem vx_callf {S SX : Type} {post : UInt32 → S → Prop} {px : SX → Prop} {B : S → State → Prop} {BX : String → SX → State → Prop} {AX : Nat → Prop} (hr : vx_Run p l e R s m args below meth c H locs cells slots mc ms (F0 m pc ls st0) rest (va_Qf post B A1 a) (vx_X px BX AX) free) (hS : va_S A0 H0 H locs) (hA : ∀ q, q < H.size → A1 q → A0 q) (hf : ∀ q, free q → A0 q) (hAX : ∀ q, q < H.size → AX q → A0 q)
    (kx : ∀ (E : String) (ce : Cell) (q9 : Addr) (u : SX) (t : State) (H1 : Heap) (locs1 : List Loc), t.heap = H1 → s.vm.Alike t.vm → px u → BX E u t → H.size ≤ H1.size → (∀ q : Nat, q < H.size → ¬ AX q → H1[q]? = H[q]?) → va_S A0 H0 H1 locs1 → H1[q9]? = some ce → ce.vm = .none → s.vm.findClass E = some ce.cls → vx_W p l e R s m args below meth c H1 locs1 (cells + mc) (slots + ms) Q (F0 m pc ls rest) q9)
    (kk : ∀ (r : UInt32) (u : S) (t : State) (H1 : Heap) (locs1 : List Loc), t.heap = H1 → s.vm.Alike t.vm → post r u → B u t → H.size ≤ H1.size → (∀ q : Nat, q < H.size → ¬ A1 q → H1[q]? = H[q]?) → va_S A0 H0 H1 locs1 → W p l e R s m args below meth c H1 locs1 (cells + mc) (slots + ms) Q (F0 m (pc + 3) ls (.float r :: rest))) : W p l e R s m args below meth c H locs cells slots Q (F0 m pc ls st0) := by
  intro T hT X
  rcases hr T hT X with ⟨v, st₀, t, T', L, h0, X', hL, e1, e2, ⟨⟨r, u, hv, hp, hb⟩, hF⟩, st⟩ | ⟨q, st₀, t, T', L, E, ce, h0, X', hL, e1, e2, ⟨u, hp, hb, hF⟩, hce, hcv, hcl, st⟩
  · cases hv
    obtain ⟨k1, k2, k3⟩ := vx_keep h0 e1 hS hA hf hL hF
    obtain ⟨t2, a1, b1⟩ := kk r u t T'.heap (locs ++ L) e1.symm (by rw [← e2]; exact X'.warmed.alike) hp hb k1 k2 k3 T' rfl X'
    exact ⟨t2, st t2 a1, b1⟩
  · obtain ⟨k1, k2, k3⟩ := vx_keep h0 e1 hS hAX hf hL hF
    obtain ⟨t2, a1, b1⟩ := kx E ce q u t T'.heap (locs ++ L) e1.symm (by rw [← e2]; exact X'.warmed.alike) hp hb k1 k2 k3 (by rw [e1]; exact hce) hcv hcl T' rfl X'
    exact ⟨t2, st.trans a1, b1⟩
theorem vx_calld {S SX : Type} {post : UInt64 → S → Prop} {px : SX → Prop} {B : S → State → Prop} {BX : String → SX → State → Prop} {AX : Nat → Prop} (hr : vx_Run p l e R s m args below meth c H locs cells slots mc ms (F0 m pc ls st0) rest (va_Qd post B A1 a) (vx_X px BX AX) free) (hS : va_S A0 H0 H locs) (hA : ∀ q, q < H.size → A1 q → A0 q) (hf : ∀ q, free q → A0 q) (hAX : ∀ q, q < H.size → AX q → A0 q)
    (kx : ∀ (E : String) (ce : Cell) (q9 : Addr) (u : SX) (t : State) (H1 : Heap) (locs1 : List Loc), t.heap = H1 → s.vm.Alike t.vm → px u → BX E u t → H.size ≤ H1.size → (∀ q : Nat, q < H.size → ¬ AX q → H1[q]? = H[q]?) → va_S A0 H0 H1 locs1 → H1[q9]? = some ce → ce.vm = .none → s.vm.findClass E = some ce.cls → vx_W p l e R s m args below meth c H1 locs1 (cells + mc) (slots + ms) Q (F0 m pc ls rest) q9)
    (kk : ∀ (r : UInt64) (u : S) (t : State) (H1 : Heap) (locs1 : List Loc), t.heap = H1 → s.vm.Alike t.vm → post r u → B u t → H.size ≤ H1.size → (∀ q : Nat, q < H.size → ¬ A1 q → H1[q]? = H[q]?) → va_S A0 H0 H1 locs1 → W p l e R s m args below meth c H1 locs1 (cells + mc) (slots + ms) Q (F0 m (pc + 3) ls (.double r :: rest))) : W p l e R s m args below meth c H locs cells slots Q (F0 m pc ls st0) := by
  intro T hT X
  rcases hr T hT X with ⟨v, st₀, t, T', L, h0, X', hL, e1, e2, ⟨⟨r, u, hv, hp, hb⟩, hF⟩, st⟩ | ⟨q, st₀, t, T', L, E, ce, h0, X', hL, e1, e2, ⟨u, hp, hb, hF⟩, hce, hcv, hcl, st⟩
  · cases hv
    obtain ⟨k1, k2, k3⟩ := vx_keep h0 e1 hS hA hf hL hF
    obtain ⟨t2, a1, b1⟩ := kk r u t T'.heap (locs ++ L) e1.symm (by rw [← e2]; exact X'.warmed.alike) hp hb k1 k2 k3 T' rfl X'
    exact ⟨t2, st t2 a1, b1⟩
  · obtain ⟨k1, k2, k3⟩ := vx_keep h0 e1 hS hAX hf hL hF
    obtain ⟨t2, a1, b1⟩ := kx E ce q u t T'.heap (locs ++ L) e1.symm (by rw [← e2]; exact X'.warmed.alike) hp hb k1 k2 k3 (by rw [e1]; exact hce) hcv hcl T' rfl X'
    exact ⟨t2, st.trans a1, b1⟩
theorem vx_callv {S SX : Type} {post : S → Prop} {px : SX → Prop} {B : S → State → Prop} {BX : String → SX → State → Prop} {AX : Nat → Prop} (hr : vx_Run p l e R s m args below meth c H locs cells slots mc ms (F0 m pc ls st0) rest (va_Qv post B A1 a) (vx_X px BX AX) free) (hS : va_S A0 H0 H locs) (hA : ∀ q, q < H.size → A1 q → A0 q) (hf : ∀ q, free q → A0 q) (hAX : ∀ q, q < H.size → AX q → A0 q)
    (kx : ∀ (E : String) (ce : Cell) (q9 : Addr) (u : SX) (t : State) (H1 : Heap) (locs1 : List Loc), t.heap = H1 → s.vm.Alike t.vm → px u → BX E u t → H.size ≤ H1.size → (∀ q : Nat, q < H.size → ¬ AX q → H1[q]? = H[q]?) → va_S A0 H0 H1 locs1 → H1[q9]? = some ce → ce.vm = .none → s.vm.findClass E = some ce.cls → vx_W p l e R s m args below meth c H1 locs1 (cells + mc) (slots + ms) Q (F0 m pc ls rest) q9)
    (kk : ∀ (u : S) (t : State) (H1 : Heap) (locs1 : List Loc), t.heap = H1 → s.vm.Alike t.vm → post u → B u t → H.size ≤ H1.size → (∀ q : Nat, q < H.size → ¬ A1 q → H1[q]? = H[q]?) → va_S A0 H0 H1 locs1 → W p l e R s m args below meth c H1 locs1 (cells + mc) (slots + ms) Q (F0 m (pc + 3) ls (rest))) : W p l e R s m args below meth c H locs cells slots Q (F0 m pc ls st0) := by
  intro T hT X
  rcases hr T hT X with ⟨v, st₀, t, T', L, h0, X', hL, e1, e2, ⟨⟨u, hv, hp, hb⟩, hF⟩, st⟩ | ⟨q, st₀, t, T', L, E, ce, h0, X', hL, e1, e2, ⟨u, hp, hb, hF⟩, hce, hcv, hcl, st⟩
  · cases hv
    obtain ⟨k1, k2, k3⟩ := vx_keep h0 e1 hS hA hf hL hF
    obtain ⟨t2, a1, b1⟩ := kk u t T'.heap (locs ++ L) e1.symm (by rw [← e2]; exact X'.warmed.alike) hp hb k1 k2 k3 T' rfl X'
    exact ⟨t2, st t2 a1, b1⟩
  · obtain ⟨k1, k2, k3⟩ := vx_keep h0 e1 hS hAX hf hL hF
    obtain ⟨t2, a1, b1⟩ := kx E ce q u t T'.heap (locs ++ L) e1.symm (by rw [← e2]; exact X'.warmed.alike) hp hb k1 k2 k3 (by rw [e1]; exact hce) hcv hcl T' rfl X'
    exact ⟨t2, st.trans a1, b1⟩
/-- caught by the row x of this method's table; the rows ahead don't take it -/
theorem vx_catch {own name : String} {E : String} {ce : Cell} {q : Addr} (hown : s.vm.findClass own = some m.cls) (pre : List ExceptionTableEntry) (x : ExceptionTableEntry) (suf : List ExceptionTableEntry) (hsplit : c.exceptionTable.toList = pre ++ x :: suf)
    (hpass : ∀ z ∈ pre, covers z pc = false ∨ (z.catchType ≠ 0 ∧ ∃ nm : String, (Cond.classLink own z.catchType nm).before args s = true ∧ va_Nc E nm s)) (hx : covers x pc = true) (h0 : x.catchType ≠ 0)
    (hlink : (Cond.classLink own x.catchType name).before args s = true) (hcast : (Cond.castable E name).before args s = true) (hcell : H[q]? = some ce) (hv : ce.vm = .none) (hcl : s.vm.findClass E = some ce.cls)
    (kk : W p l e R s m args below meth c H locs cells slots Q (F0 m x.handlerPc ls [.ref q])) : vx_W p l e R s m args below meth c H locs cells slots Q (F0 m pc ls rest) q := by
  intro T hT X
  have hpl : e.platform.magicAccessors = ({} : Platform).magicAccessors := by rw [X.admits.platform]
  obtain ⟨c3, c4, hc3, hc4, hasg⟩ := Cond.castable_spec hcast
  cases Option.some.inj (hc3.symm.trans hcl)
  obtain ⟨c5, hc5, hcl5⟩ := Cond.classLink_spec hown hlink e.platform hpl
  cases Option.some.inj (hc4.symm.trans hc5)
  obtain ⟨vm', X', st⟩ := zc_caught X q (g := F0 m pc ls rest) rfl (by rw [hT]; exact hcell) hv (by obtain ⟨k9, h9, -⟩ := Vm.findClass_spec hcl; exact ⟨k9, h9⟩) pre x suf hsplit
    (fun z hz => by
      rcases hpass z hz with h | ⟨hz0, nm, hl1, hn1⟩
      · exact Or.inl h
      · obtain ⟨c6, hc6, hcl6⟩ := Cond.classLink_spec hown hl1 e.platform hpl
        obtain ⟨a8, b8, h1, h2, h3⟩ := hn1
        cases Option.some.inj (h1.symm.trans hcl)
        cases Option.some.inj (h2.symm.trans hc6)
        exact Or.inr ⟨hz0, _, hcl6, h3⟩) hx h0 hcl5 hasg
  obtain ⟨t, a1, b1⟩ := kk (T.setVm vm') hT X'
  exact ⟨t, st.trans a1, b1⟩
end Rows
section Ends
variable {p : Program} {l : Launch} {e : Env} {R : Room} {s : State} {m : MethodId} {args : Array Value} {below : List Frame} {meth : Method} {c : Code} {H : Heap} {locs : List Loc} {cells slots : Nat} {Q : State → Prop}
variable {mc ms : Nat} {free : Addr → Prop} {A0 A1 : Nat → Prop} {H0 : Heap} {a : Array Value} {ls : Array Slot} {st0 rest : List Value}
variable {Qc : Array Value → State → Outcome → State → Prop} {XC : String → State → State → Prop}
/-- what a body that may throw owes at its end -/
def vx_MQ (below : List Frame) (Qc : Array Value → State → Outcome → State → Prop) (XC : String → State → State → Prop) (a : Array Value) (s : State) (mc ms : Nat) (free : Addr → Prop) : State → Prop := fun t =>
  ∃ o, t.status = .running ∧ Ended t below o ∧ vx_Q Qc XC mc ms free a s o t
theorem vx_ret {g : JFrame} {mc ms : Nat} (k : W p l e R s m args below meth c H locs cells slots (MQ below Qc args s mc ms free) g) : W p l e R s m args below meth c H locs cells slots (vx_MQ below Qc XC args s mc ms free) g := by
  intro T hT X
  obtain ⟨t, a1, o, b1, b2, b3, b4⟩ := k T hT X
  exact ⟨t, a1, o, b1, b2, Or.inl ⟨b3, b4⟩⟩
/-- not caught here: it goes on to the caller -/
theorem vx_widen {g : JFrame} {q : Addr} {k n : Nat} (h1 : cells ≤ k) (h2 : slots ≤ n) (kk : vx_W p l e R s m args below meth c H locs k n Q g q) : vx_W p l e R s m args below meth c H locs cells slots Q g q := fun T hT X => kk T hT (stand_widen X h1 h2)
theorem vx_out {pc : Nat} {E : String} {ce : Cell} {q : Addr} {mc ms : Nat} (hout : ∀ x ∈ c.exceptionTable.toList, covers x pc = false) (hlocks : meth.locks = false) (hcell : H[q]? = some ce) (hv : ce.vm = .none) (hcl : s.vm.findClass E = some ce.cls)
    (hx : ∀ t : State, t.heap = H → s.vm.Alike t.vm → XC E s t) (hf : ∀ z ∈ locs, free z.base) (hc : cells ≤ mc) (hs : slots ≤ ms) :
    vx_W p l e R s m args below meth c H locs cells slots (vx_MQ below Qc XC args s mc ms free) (F0 m pc ls rest) q := by
  intro T hT X
  obtain ⟨st1, hrun, hend, hW, hsm⟩ := X.leaveThrown q (g := F0 m pc ls rest) rfl rfl rfl hout hlocks
  have hcell9 : (T.setFrames (.throwing q :: below)).heap[q]? = some ce := by
    show T.heap[q]? = some ce
    rw [hT]; exact hcell
  exact ⟨_, st1, .threw q, hrun, hend, Or.inr ⟨q, rfl, E, ce, locs, hx _ hT hW.alike, hcell9, hv, hcl, hW, hsm.mono hc hs, hf⟩⟩
theorem vx_frame {U : State} {k n : Nat} (h : s.sameButNew ({ U with vm := s.vm } : State) locs k n) : s.heap.size ≤ U.heap.size ∧ ∀ q : Nat, q < s.heap.size → (∀ z ∈ locs, z.base ≠ q) → U.heap[q]? = s.heap[q]? := by
  obtain ⟨-, h2, -, -, -, h6⟩ := h
  refine ⟨h2, fun q hq hz => ?_⟩
  obtain ⟨c9, e1, e2, e3, e4⟩ := h6 q _ (Array.getElem?_eq_getElem hq)
  have hs : c9.slots = (s.heap[q]).slots := Array.ext_getElem? fun i => e4 i fun hm => hz _ hm rfl
  have h9 : c9 = s.heap[q] := by
    rw [hs] at e2
    exact e2
  have e5 : U.heap[q]? = some c9 := e1
  rw [e5, h9, Array.getElem?_eq_getElem hq]
/-- the words of a throw but the four that speak of the heap -/
def vx_no (w : Cond) : Bool := decide (w ≠ .isRef (.static Bundle.tN "UNASSIGNED_STACK" Bundle.steD)) && decide (w ≠ .isRef (.static Bundle.tN "SUPPRESSED_SENTINEL" Bundle.listD)) && decide (w ≠ .laysStatic Bundle.tN "UNASSIGNED_STACK" Bundle.steD) && decide (w ≠ .laysStatic Bundle.tN "SUPPRESSED_SENTINEL" Bundle.listD)
def vx_at0 (own : String) (ic : Nat) (X : String) (names : List String) : List Cond := (Bundle.ownAtoms0 own ic X names).filter vx_no
def vx_atS (own : String) (ic : Nat) (X : String) (names : List String) : List Cond := (Bundle.ownAtoms own ic X names).filter vx_no
/-- a word that the tables alone decide, or a good one -/
def vx_ot (w : Cond) : Bool := w.onTables || goodWord w
theorem vx_ot_at {args a' : Array Value} {s U : State} {w : Cond} (hW : s.WarmedH U.vm) (hvm : s.vm = U.vm) (hg : vx_ot w = true) (h : w.before args s = true) : w.before a' U = true := by
  simp only [vx_ot, Bool.or_eq_true] at hg
  rcases hg with hg | hg
  · exact va_tabs hg hvm h
  · exact word_at hW (good_of_word hg) h
/-- a list's words: the good ones out of the method's own list, the others by premises of their own -/
theorem vx_hat {args : Array Value} {s : State} {L B : List Cond} (h1 : ∀ w ∈ L.filter goodWord, w.before args s = true) (h2 : ∀ w ∈ L.filter (fun w => !goodWord w), w ∈ B) (h3 : ∀ w ∈ B, w.before args s = true) : ∀ w ∈ L, w.before args s = true := by
  intro w hw
  by_cases g : goodWord w = true
  · exact h1 w (List.mem_filter.mpr ⟨hw, g⟩)
  · refine h3 w (h2 w (List.mem_filter.mpr ⟨hw, ?_⟩))
    show (!goodWord w) = true
    cases hgw : goodWord w
    · rfl
    · exact absurd hgw g
theorem vx_c {args : Array Value} {s : State} {w : Cond} {B : List Cond} (h : w.before args s = true) (t : ∀ w ∈ B, w.before args s = true) : ∀ w' ∈ w :: B, w'.before args s = true := fun w' h' => (List.mem_cons.mp h').elim (fun e => by rw [e]; exact h) (t w')
theorem vx_n {args : Array Value} {s : State} : ∀ w ∈ ([] : List Cond), w.before args s = true := fun _ h => nomatch h
theorem vx_own {args : Array Value} {s : State} {L : List Cond} (h1 : ∀ w ∈ L.filter vx_no, w.before args s = true)
    (hU : (Cond.isRef (.static Bundle.tN "UNASSIGNED_STACK" Bundle.steD)).before args s = true) (hN : (Cond.isRef (.static Bundle.tN "SUPPRESSED_SENTINEL" Bundle.listD)).before args s = true)
    (lU : (Cond.laysStatic Bundle.tN "UNASSIGNED_STACK" Bundle.steD).before args s = true) (lN : (Cond.laysStatic Bundle.tN "SUPPRESSED_SENTINEL" Bundle.listD).before args s = true) : ∀ w ∈ L, w.before args s = true := by
  intro w hw
  by_cases e1 : w = .isRef (.static Bundle.tN "UNASSIGNED_STACK" Bundle.steD)
  · rw [e1]; exact hU
  · by_cases e2 : w = .isRef (.static Bundle.tN "SUPPRESSED_SENTINEL" Bundle.listD)
    · rw [e2]; exact hN
    · by_cases e3 : w = .laysStatic Bundle.tN "UNASSIGNED_STACK" Bundle.steD
      · rw [e3]; exact lU
      · by_cases e4 : w = .laysStatic Bundle.tN "SUPPRESSED_SENTINEL" Bundle.listD
        · rw [e4]; exact lN
        · exact h1 w (List.mem_filter.mpr ⟨hw, by unfold vx_no; rw [decide_eq_true e1, decide_eq_true e2, decide_eq_true e3, decide_eq_true e4]; rfl⟩)
/-- where a static field lies, its class's statics cell in H -/
def vx_L (C n d : String) (A : Nat → Prop) (U : State) (H : Heap) : Prop := ∃ (c : ClassId) (k : Class) (i : Nat) (f : Field) (a : Nat) (cell : Cell), U.vm.findClass C = some c ∧ U.fieldFound? C n d = some (c, k, i, f) ∧ f.isStatic = true ∧ k.statics = some a ∧ H[a]? = some cell ∧ cell.vm.isStatics = true ∧ cell.cls = c ∧ f.slot < cell.slots.size ∧ k.staticTypes[f.slot]? = some f.type ∧ ¬ A a
theorem vx_L.moved {C n d : String} {A : Nat → Prop} {u U : State} {H : Heap} (hvm : u.vm.Alike U.vm) (h : vx_L C n d A u H) : vx_L C n d A U H := by
  obtain ⟨c, k, i, f, a, cell, h1, h2, h3, h4, h5, h6, h7, h8, h9, h10⟩ := h
  obtain ⟨k', hi', he⟩ := State.fieldFound?_setVm hvm h2
  exact ⟨c, k', i, f, a, cell, by rw [hvm.findClass]; exact h1, hi', h3, by rw [he]; exact h4, h5, h6, h7, h8, by rw [he]; exact h9, h10⟩
theorem vx_L.kept {C n d : String} {A : Nat → Prop} {U : State} {H H1 : Heap} (h : vx_L C n d A U H) (hq : ∀ a : Nat, a < H.size → ¬ A a → H1[a]? = H[a]?) : vx_L C n d A U H1 := by
  obtain ⟨c, k, i, f, a, cell, h1, h2, h3, h4, h5, h6, h7, h8, h9, h10⟩ := h
  exact ⟨c, k, i, f, a, cell, h1, h2, h3, h4, by rw [hq a (Array.getElem?_eq_some_iff.mp h5).1 h10]; exact h5, h6, h7, h8, h9, h10⟩
theorem vx_L.narrow {C n d : String} {A B : Nat → Prop} {U : State} {H : Heap} (h : vx_L C n d A U H) (hAB : ∀ q, B q → A q) : vx_L C n d B U H := by
  obtain ⟨c, k, i, f, a, cell, h1, h2, h3, h4, h5, h6, h7, h8, h9, h10⟩ := h
  exact ⟨c, k, i, f, a, cell, h1, h2, h3, h4, h5, h6, h7, h8, h9, fun z => h10 (hAB _ z)⟩
theorem vx_L.word {C n d : String} {A : Nat → Prop} {s : State} {args : Array Value} (h : vx_L C n d A s s.heap) : (Cond.laysStatic C n d).before args s = true := by
  obtain ⟨c, k, i, f, a, cell, h1, h2, h3, h4, h5, h6, h7, h8, h9, -⟩ := h
  show (Cond.laysStatic C n d).holds args s none s [] = true
  exact Cond.laysStatic_of h1 h2 h3 h4 h5 h6 h7 h8 h9
/-- .. and what it holds: null or some reference -/
def vx_Zq (C n d : String) (A : Nat → Prop) (U : State) (H : Heap) : Prop := va_Zq C n d A U H ∧ vx_L C n d A U H
theorem vx_Zq.moved {C n d : String} {A : Nat → Prop} {u U : State} {H : Heap} (hvm : u.vm.Alike U.vm) (h : vx_Zq C n d A u H) : vx_Zq C n d A U H := ⟨va_Zq.moved hvm h.1, vx_L.moved hvm h.2⟩
theorem vx_Zq.kept {C n d : String} {A : Nat → Prop} {U : State} {H H1 : Heap} (h : vx_Zq C n d A U H) (hq : ∀ a : Nat, a < H.size → ¬ A a → H1[a]? = H[a]?) : vx_Zq C n d A U H1 := ⟨va_Zq.kept h.1 hq, vx_L.kept h.2 hq⟩
theorem vx_Zq.narrow {C n d : String} {A B : Nat → Prop} {U : State} {H : Heap} (h : vx_Zq C n d A U H) (hAB : ∀ q, B q → A q) : vx_Zq C n d B U H := ⟨va_Zq.narrow h.1 hAB, vx_L.narrow h.2 hAB⟩
theorem vx_Zqof {args : Array Value} {s : State} {C n d : String} {A : Nat → Prop} (hl : (Cond.laysStatic C n d).before args s = true) (hini : (Cond.initialized C).before args s = true) (h : (Cond.isRef (.static C n d)).before args s = true) (hA : ∀ a : Nat, a < s.heap.size → ¬ A a) : vx_Zq C n d A s s.heap := by
  refine ⟨va_Zqof hl hini h hA, ?_⟩
  obtain ⟨c, k, i, f, a, cell, h1, h2, h3, h4, h5, h6, h7, h8, h9⟩ := Cond.laysStatic_spec hl
  exact ⟨c, k, i, f, a, cell, h1, h2, h3, h4, h5, h6, h7, h8, h9, hA a (Array.getElem?_eq_some_iff.mp h5).1⟩
theorem vx_isRef {C n d : String} {v : Value} {A : Nat → Prop} {s : State} {args : Array Value} (h : va_Z C n d v A s s.heap) (hv : v.isRef = true) : (Cond.isRef (.static C n d)).before args s = true := by
  obtain ⟨cf, kf, fi, f, a, cell, h1, h2, h3, h4, h5, h6, h7, -⟩ := h
  have he : (Term.static C n d).eval args s none [] s = some v := by
    simp [Term.eval, State.fieldNamed?, h1, h2, h4, h5, h6, h7]
  simp only [Cond.before, Cond.holds, Cond.value, he]
  cases v <;> simp_all [Value.isRef]
theorem vx_isRefq {C n d : String} {A : Nat → Prop} {s : State} {args : Array Value} (h : va_Zq C n d A s s.heap) : (Cond.isRef (.static C n d)).before args s = true := by
  rcases h with h | ⟨t, h⟩
  · exact vx_isRef h rfl
  · exact vx_isRef h rfl
/-- the same frame, seen from here: as if the method were called anew in this heap -/
theorem vx_rebase {T : State} (X : Stand p l e R s m args below meth c T locs cells slots) {R' : Room} (hf : R'.frames ≤ R.frames) (hl : R'.locals ≤ R.locals) (hc : cells + R'.cells ≤ R.cells) (hs : slots + R'.slots ≤ R.slots) :
    Stand p l e R' ((T.setVm s.vm).setFrames (.invoking m args :: below)) m args below meth c T [] 0 0 := by
  have htop : (T.setVm s.vm).topJava?.isSome := X.here.top
  have hF : ((T.setVm s.vm).setFrames (.invoking m args :: below)).frames = .invoking m args :: below := State.frames_setFrames _ (State.cur_lt_of_top htop)
  obtain ⟨g₀, hg0⟩ := Option.isSome_iff_exists.mp htop
  obtain ⟨r, hr⟩ := State.topJava?_eq_some.mp hg0
  have hl9 : e.platform.stackLimits (T.setVm s.vm).me = e.platform.stackLimits s.me := X.limits
  have hb9 : (T.setVm s.vm).me.stackBytes = s.me.stackBytes := X.bytes
  refine ⟨X.admits, X.cas, X.clock, hF, ?_, X.hears, X.method, X.code, X.here, X.tail, X.warmed, ?_, ?_, ?_⟩
  · have h := X.room
    have hU : ((T.setVm s.vm).setFrames (.invoking m args :: below)).localsInUse = s.localsInUse := by
      rw [State.localsInUse_invoking hF (meth := meth) (c := c) X.method X.code, State.localsInUse_invoking X.frames X.method X.code]
    simp only [State.hasRoom, Bool.and_eq_true, decide_eq_true_eq] at h ⊢
    obtain ⟨⟨⟨⟨h1, h2, h3, h4, h5, h6⟩, h7⟩, h8⟩, h9⟩ := h
    rw [X.frames, List.length_cons] at h2 h3
    have q1 := X.heapSize
    have q2 := X.used
    simp only [hF, hU, List.length_cons, State.stackLimits_setFrames, State.stackBytes_setFrames, hl9, hb9]
    refine ⟨⟨⟨⟨by omega, by omega, by omega, by omega, by omega, h6⟩, ?_⟩, ?_⟩, X.book⟩
    · show T.heap.size + R'.cells ≤ e.platform.maxCells
      omega
    · show T.slotsUsed + R'.slots ≤ e.platform.maxSlots
      omega
  · rw [State.stackLimits_setFrames]; rfl
  · rw [State.stackBytes_setFrames]; rfl
  · refine ⟨?_, Nat.le_refl _, Nat.le_refl _, ?_, ?_, fun a c9 h9 => ⟨c9, h9, rfl, rfl, fun _ _ => rfl⟩⟩
    · obtain ⟨t, ht, -⟩ := State.frames_cons hr
      show T.setVm s.vm = { ((T.setVm s.vm).setFrames (.invoking m args :: below)).setFrames (T.setVm s.vm).frames with heap := T.heap, slotsUsed := T.slotsUsed }
      rw [State.setFrames_setFrames, State.setFrames_self ht]
      rfl
    · show T.slotsUsed = T.slotsUsed + ((T.heap.toList.drop T.heap.size).map (·.slots.size)).sum
      rw [List.drop_eq_nil_of_le (Nat.le_of_eq Array.length_toList)]
      rfl
    · show ((T.heap.toList.drop T.heap.size).map (·.slots.size)).sum ≤ 0
      rw [List.drop_eq_nil_of_le (Nat.le_of_eq Array.length_toList)]
      exact Nat.le_refl _
/-- 'throw new E()': new; dup; invokespecial; athrow -/
theorem vx_throw0 {cc : ByteArray} {pc : Nat} (hexec : p.tables.exec = Jvm.exec) (hb : c.code = cc) (hl : l.stackTraces = false) {own cls : String} {names : List String} {ik ic mc ms : Nat} {A : Nat → Prop}
    (hown : s.vm.findClass own = some m.cls) (hcls : Bundle.fit cls = true) (hnames : ∀ n ∈ names, Bundle.fit n = true)
    (hk : (Cond.classLink own ik cls).before args s = true) (hini : (Cond.initialized cls).before args s = true) (hat : ∀ w ∈ vx_at0 own ic cls names, w.before args s = true)
    (hgood : ∀ w ∈ Cond.classLink own ik cls :: Cond.initialized cls :: vx_at0 own ic cls names, vx_ot w = true)
    (hU : vx_Zq Bundle.tN "UNASSIGNED_STACK" Bundle.steD A s s.heap) (hN : vx_Zq Bundle.tN "SUPPRESSED_SENTINEL" Bundle.listD A s s.heap) (hS : va_S A s.heap H locs) (hsize : ls.size = c.maxLocals)
    (d0 : decode cc pc = .ok (.new ik, 3)) (d3 : decode cc (pc + 3) = .ok (.dup, 1)) (d4 : decode cc (pc + 4) = .ok (.invokespecial ic, 3)) (d7 : decode cc (pc + 7) = .ok (.athrow, 1))
    (hout : ∀ x ∈ c.exceptionTable.toList, covers x (pc + 7) = false)
    (hRframes : names.length + 3 < R.frames) (hRlocals : (rest.map fun v => v.category).sum + (13 * (names.length + 1) + 42) ≤ R.locals) (hRcells : cells + 1 ≤ R.cells) (hRslots : slots + 6 ≤ R.slots) (hlocks : meth.locks = false)
    (hx : ∀ t : State, s.vm.Alike t.vm → H.size ≤ t.heap.size → (∀ q : Nat, q < H.size → t.heap[q]? = H[q]?) → XC cls s t)
    (hf : ∀ z ∈ locs, free z.base) (hc : cells + 1 ≤ mc) (hs : slots + 6 ≤ ms) :
    W p l e R s m args below meth c H locs cells slots (vx_MQ below Qc XC args s mc ms free) (F0 m pc ls rest) := by
  intro T hT X
  have htr : e.platform.stackTraces = false := (show e.platform.stackTraces = l.stackTraces by rw [X.admits.platform]).trans hl
  have Y := vx_rebase X (R' := { frames := R.frames, locals := R.locals, cells := 1, slots := 6 }) (Nat.le_refl _) (Nat.le_refl _) hRcells hRslots
  obtain ⟨s', hA⟩ : ∃ z, z = (T.setVm s.vm).setFrames (.invoking m args :: below) := ⟨_, rfl⟩
  rw [← hA] at Y
  have hvm : s'.vm = s.vm := by rw [hA]; rfl
  have hhp : s'.heap = H := by rw [hA]; exact hT
  have hW0 : s.WarmedH s'.vm := by rw [hvm]; exact State.WarmedH.refl s
  have hat' : ∀ w ∈ vx_at0 own ic cls names, w.before args s' = true := fun w hw => vx_ot_at hW0 hvm.symm (hgood w (List.mem_cons_of_mem _ (List.mem_cons_of_mem _ hw))) (hat w hw)
  have hk' : (Cond.classLink own ik cls).before args s' = true := vx_ot_at hW0 hvm.symm (hgood _ List.mem_cons_self) hk
  have hini' : (Cond.initialized cls).before args s' = true := vx_ot_at hW0 hvm.symm (hgood _ (List.mem_cons_of_mem _ List.mem_cons_self)) hini
  have hU' : vx_Zq Bundle.tN "UNASSIGNED_STACK" Bundle.steD A s' s'.heap := by rw [hhp]; exact vx_Zq.moved hW0.alike (hU.kept hS.2.1)
  have hN' : vx_Zq Bundle.tN "SUPPRESSED_SENTINEL" Bundle.listD A s' s'.heap := by rw [hhp]; exact vx_Zq.moved hW0.alike (hN.kept hS.2.1)
  have h : ∀ w ∈ Bundle.ownAtoms0 own ic cls names, w.before args s' = true := vx_own hat' (vx_isRefq hU'.1) (vx_isRefq hN'.1) hU'.2.word hN'.2.word
  have hown' : s'.vm.findClass own = some m.cls := by rw [hvm]; exact hown
  have hins : (Cond.instantiable cls 6).before args s' = true := h _ (by simp [Bundle.ownAtoms0])
  obtain ⟨vm₁, cX, kX, hfX, hkX, -, -, X₁, st1⟩ := Y.newCold hexec (own := own) (C := cls) (index := ik) (n := 6) hown' hk' hins hini'
    (g := F0 m pc ls rest) rfl (by rw [hb]; exact d0) (Nat.le_refl _) (Nat.le_refl _)
  generalize hT1 : (T.setVm vm₁).pushCell { cls := cX, slots := kX.instanceTypes.map defaultValue, vm := .none } = T1 at X₁ st1
  have hcat : (Value.ref T.heap.size).category = 1 := rfl
  have hcellA : T1.heap[T.heap.size]? = some (freshCell cX kX) := by rw [← hT1]; exact State.heap_pushCell_size _ _
  have d3' : decode c.code (pc + 3) = .ok (.dup, 1) := by rw [hb]; exact d3
  obtain ⟨U, hsteps, hrun, hend, hW, hsame, ce, hce, hO⟩ := X₁.ctorThrow0 hexec htr (own := own) (cls := cls) (names := names) (ic := ic) hown' hcls hnames h (fun x hx => nomatch hx) hfX hkX hcellA (by rw [hhp, hT]; exact Nat.le_refl _)
    (g := { method := m, pc := pc + 4, locals := ls, stack := .ref T.heap.size :: .ref T.heap.size :: rest, locked := none }) rfl hsize rfl rfl (rest := rest) rfl
    (by rw [hb]; exact d4) (by rw [hb]; exact d7) hout hRframes (by simp only [List.map_cons, List.sum_cons, hcat]; omega) hlocks
  obtain ⟨f1, f2⟩ := vx_frame hsame
  rw [hhp] at f1 f2
  have hWs : s.WarmedH U.vm := State.WarmedH.trans hW0 hW
  have hcl : s.vm.findClass cls = some ce.cls := by
    have h9 := hO.cls
    rw [hvm] at h9
    exact h9
  have hall : s.sameButNew ({ U with vm := s.vm } : State) locs mc ms := by
    subst hA
    obtain ⟨e1, e2⟩ := hsame
    rw [State.setFrames_setFrames] at e1
    have h2 : (T.setVm s.vm).sameButNew ({ U with vm := s.vm } : State) [] (0 + 1) (0 + 6) := ⟨e1, e2⟩
    have h3 := X.same.trans h2
    rw [List.append_nil] at h3
    exact h3.mono hc hs
  refine ⟨U, ?_, .threw T.heap.size, hrun, hend, Or.inr ⟨T.heap.size, rfl, cls, ce, locs, hx U hWs.alike f1 (fun q hq => f2 q hq (fun z hz => nomatch hz)), hce, hO.vm, hcl, hWs, hall, hf⟩⟩
  refine st1 _ ?_
  show Steps p.tables e below (T1.setTop { method := m, pc := pc + 3, locals := ls, stack := .ref T.heap.size :: rest, locked := none }) _
  jvm_step X₁.here [X₁.here.top, hexec, d3', Value.category]
  exact hsteps
/-- 'throw new E("text")': new; dup; ldc; invokespecial; athrow -/
theorem vx_throwS {cc : ByteArray} {pc : Nat} (hexec : p.tables.exec = Jvm.exec) (hb : c.code = cc) (hl : l.stackTraces = false) {own cls text : String} {names : List String} {ik is ic mc ms sa : Nat} {A : Nat → Prop}
    (hown : s.vm.findClass own = some m.cls) (hcls : Bundle.fit cls = true) (hnames : ∀ n ∈ names, Bundle.fit n = true)
    (hk : (Cond.classLink own ik cls).before args s = true) (hini : (Cond.initialized cls).before args s = true) (hstr : vk_R own is text sa s) (hat : ∀ w ∈ vx_atS own ic cls names, w.before args s = true)
    (hgood : ∀ w ∈ Cond.classLink own ik cls :: Cond.initialized cls :: vx_atS own ic cls names, vx_ot w = true)
    (hU : vx_Zq Bundle.tN "UNASSIGNED_STACK" Bundle.steD A s s.heap) (hN : vx_Zq Bundle.tN "SUPPRESSED_SENTINEL" Bundle.listD A s s.heap) (hS : va_S A s.heap H locs) (hsize : ls.size = c.maxLocals)
    (d0 : decode cc pc = .ok (.new ik, 3)) (d3 : decode cc (pc + 3) = .ok (.dup, 1)) (d4 : decode cc (pc + 4) = .ok (.ldc is, 2)) (d6 : decode cc (pc + 6) = .ok (.invokespecial ic, 3)) (d9 : decode cc (pc + 9) = .ok (.athrow, 1))
    (hout : ∀ x ∈ c.exceptionTable.toList, covers x (pc + 9) = false)
    (hRframes : names.length + 3 < R.frames) (hRlocals : (rest.map fun v => v.category).sum + (13 * (names.length + 1) + 43) ≤ R.locals) (hRcells : cells + 1 ≤ R.cells) (hRslots : slots + 6 ≤ R.slots) (hlocks : meth.locks = false)
    (hx : ∀ t : State, s.vm.Alike t.vm → H.size ≤ t.heap.size → (∀ q : Nat, q < H.size → t.heap[q]? = H[q]?) → XC cls s t)
    (hf : ∀ z ∈ locs, free z.base) (hc : cells + 1 ≤ mc) (hs : slots + 6 ≤ ms) :
    W p l e R s m args below meth c H locs cells slots (vx_MQ below Qc XC args s mc ms free) (F0 m pc ls rest) := by
  intro T hT X
  have htr : e.platform.stackTraces = false := (show e.platform.stackTraces = l.stackTraces by rw [X.admits.platform]).trans hl
  have Y := vx_rebase X (R' := { frames := R.frames, locals := R.locals, cells := 1, slots := 6 }) (Nat.le_refl _) (Nat.le_refl _) hRcells hRslots
  obtain ⟨s', hA⟩ : ∃ z, z = (T.setVm s.vm).setFrames (.invoking m args :: below) := ⟨_, rfl⟩
  rw [← hA] at Y
  have hvm : s'.vm = s.vm := by rw [hA]; rfl
  have hhp : s'.heap = H := by rw [hA]; exact hT
  have hW0 : s.WarmedH s'.vm := by rw [hvm]; exact State.WarmedH.refl s
  have hat' : ∀ w ∈ vx_atS own ic cls names, w.before args s' = true := fun w hw => vx_ot_at hW0 hvm.symm (hgood w (List.mem_cons_of_mem _ (List.mem_cons_of_mem _ hw))) (hat w hw)
  have hk' : (Cond.classLink own ik cls).before args s' = true := vx_ot_at hW0 hvm.symm (hgood _ List.mem_cons_self) hk
  have hini' : (Cond.initialized cls).before args s' = true := vx_ot_at hW0 hvm.symm (hgood _ (List.mem_cons_of_mem _ List.mem_cons_self)) hini
  have hU' : vx_Zq Bundle.tN "UNASSIGNED_STACK" Bundle.steD A s' s'.heap := by rw [hhp]; exact vx_Zq.moved hW0.alike (hU.kept hS.2.1)
  have hN' : vx_Zq Bundle.tN "SUPPRESSED_SENTINEL" Bundle.listD A s' s'.heap := by rw [hhp]; exact vx_Zq.moved hW0.alike (hN.kept hS.2.1)
  have h : ∀ w ∈ Bundle.ownAtoms own ic cls names, w.before args s' = true := vx_own hat' (vx_isRefq hU'.1) (vx_isRefq hN'.1) hU'.2.word hN'.2.word
  have hown' : s'.vm.findClass own = some m.cls := by rw [hvm]; exact hown
  have hins : (Cond.instantiable cls 6).before args s' = true := h _ (by simp [Bundle.ownAtoms])
  obtain ⟨vm₁, cX, kX, hfX, hkX, -, -, X₁, st1⟩ := Y.newCold hexec (own := own) (C := cls) (index := ik) (n := 6) hown' hk' hins hini'
    (g := F0 m pc ls rest) rfl (by rw [hb]; exact d0) (Nat.le_refl _) (Nat.le_refl _)
  generalize hT1 : (T.setVm vm₁).pushCell { cls := cX, slots := kX.instanceTypes.map defaultValue, vm := .none } = T1 at X₁ st1
  have hcat : (Value.ref T.heap.size).category = 1 := rfl
  have hcellA : T1.heap[T.heap.size]? = some (freshCell cX kX) := by rw [← hT1]; exact State.heap_pushCell_size _ _
  have d3' : decode c.code (pc + 3) = .ok (.dup, 1) := by rw [hb]; exact d3
  have d4' : decode c.code (pc + 4) = .ok (.ldc is, 2) := by rw [hb]; exact d4
  have hstr' : vk_R own is text sa s' := vk_R.warm hW0 hstr
  obtain ⟨U, hsteps, hrun, hend, hW, hsame, ce, hce, hO⟩ := X₁.ctorThrowS hexec htr (own := own) (cls := cls) (names := names) (ic := ic) hown' hcls hnames h (fun x hx => nomatch hx) hfX hkX hcellA (by rw [hhp, hT]; exact Nat.le_refl _) (msg := .ref sa) rfl
    (g := { method := m, pc := pc + 6, locals := ls, stack := .ref sa :: .ref T.heap.size :: .ref T.heap.size :: rest, locked := none }) rfl hsize rfl rfl (rest := rest) rfl
    (by rw [hb]; exact d6) (by rw [hb]; exact d9) hout hRframes (by simp only [List.map_cons, List.sum_cons, hcat]; omega) hlocks
  obtain ⟨f1, f2⟩ := vx_frame hsame
  rw [hhp] at f1 f2
  have hWs : s.WarmedH U.vm := State.WarmedH.trans hW0 hW
  have hcl : s.vm.findClass cls = some ce.cls := by
    have h9 := hO.cls
    rw [hvm] at h9
    exact h9
  have hall : s.sameButNew ({ U with vm := s.vm } : State) locs mc ms := by
    subst hA
    obtain ⟨e1, e2⟩ := hsame
    rw [State.setFrames_setFrames] at e1
    have h2 : (T.setVm s.vm).sameButNew ({ U with vm := s.vm } : State) [] (0 + 1) (0 + 6) := ⟨e1, e2⟩
    have h3 := X.same.trans h2
    rw [List.append_nil] at h3
    exact h3.mono hc hs
  refine ⟨U, ?_, .threw T.heap.size, hrun, hend, Or.inr ⟨T.heap.size, rfl, cls, ce, locs, hx U hWs.alike f1 (fun q hq => f2 q hq (fun z hz => nomatch hz)), hce, hO.vm, hcl, hWs, hall, hf⟩⟩
  refine st1 _ ?_
  show Steps p.tables e below (T1.setTop { method := m, pc := pc + 3, locals := ls, stack := .ref T.heap.size :: rest, locked := none }) _
  jvm_step X₁.here [X₁.here.top, hexec, d3', Value.category]
  exact X₁.ldcString hexec (own := own) (text := text) (index := is) (a := sa) hown' hstr'.1 hstr'.2
    (g := { method := m, pc := pc + 4, locals := ls, stack := .ref T.heap.size :: .ref T.heap.size :: rest, locked := none }) rfl d4' _ hsteps
/-- 'throw new E("text")', the text by a wide index -/
theorem vx_throwSW {cc : ByteArray} {pc : Nat} (hexec : p.tables.exec = Jvm.exec) (hb : c.code = cc) (hl : l.stackTraces = false) {own cls text : String} {names : List String} {ik is ic mc ms sa : Nat} {A : Nat → Prop}
    (hown : s.vm.findClass own = some m.cls) (hcls : Bundle.fit cls = true) (hnames : ∀ n ∈ names, Bundle.fit n = true)
    (hk : (Cond.classLink own ik cls).before args s = true) (hini : (Cond.initialized cls).before args s = true) (hstr : vk_R own is text sa s) (hat : ∀ w ∈ vx_atS own ic cls names, w.before args s = true)
    (hgood : ∀ w ∈ Cond.classLink own ik cls :: Cond.initialized cls :: vx_atS own ic cls names, vx_ot w = true)
    (hU : vx_Zq Bundle.tN "UNASSIGNED_STACK" Bundle.steD A s s.heap) (hN : vx_Zq Bundle.tN "SUPPRESSED_SENTINEL" Bundle.listD A s s.heap) (hS : va_S A s.heap H locs) (hsize : ls.size = c.maxLocals)
    (d0 : decode cc pc = .ok (.new ik, 3)) (d3 : decode cc (pc + 3) = .ok (.dup, 1)) (d4 : decode cc (pc + 4) = .ok (.ldc_w is, 3)) (d7 : decode cc (pc + 7) = .ok (.invokespecial ic, 3)) (d10 : decode cc (pc + 10) = .ok (.athrow, 1))
    (hout : ∀ x ∈ c.exceptionTable.toList, covers x (pc + 10) = false)
    (hRframes : names.length + 3 < R.frames) (hRlocals : (rest.map fun v => v.category).sum + (13 * (names.length + 1) + 43) ≤ R.locals) (hRcells : cells + 1 ≤ R.cells) (hRslots : slots + 6 ≤ R.slots) (hlocks : meth.locks = false)
    (hx : ∀ t : State, s.vm.Alike t.vm → H.size ≤ t.heap.size → (∀ q : Nat, q < H.size → t.heap[q]? = H[q]?) → XC cls s t)
    (hf : ∀ z ∈ locs, free z.base) (hc : cells + 1 ≤ mc) (hs : slots + 6 ≤ ms) :
    W p l e R s m args below meth c H locs cells slots (vx_MQ below Qc XC args s mc ms free) (F0 m pc ls rest) := by
  intro T hT X
  have htr : e.platform.stackTraces = false := (show e.platform.stackTraces = l.stackTraces by rw [X.admits.platform]).trans hl
  have Y := vx_rebase X (R' := { frames := R.frames, locals := R.locals, cells := 1, slots := 6 }) (Nat.le_refl _) (Nat.le_refl _) hRcells hRslots
  obtain ⟨s', hA⟩ : ∃ z, z = (T.setVm s.vm).setFrames (.invoking m args :: below) := ⟨_, rfl⟩
  rw [← hA] at Y
  have hvm : s'.vm = s.vm := by rw [hA]; rfl
  have hhp : s'.heap = H := by rw [hA]; exact hT
  have hW0 : s.WarmedH s'.vm := by rw [hvm]; exact State.WarmedH.refl s
  have hat' : ∀ w ∈ vx_atS own ic cls names, w.before args s' = true := fun w hw => vx_ot_at hW0 hvm.symm (hgood w (List.mem_cons_of_mem _ (List.mem_cons_of_mem _ hw))) (hat w hw)
  have hk' : (Cond.classLink own ik cls).before args s' = true := vx_ot_at hW0 hvm.symm (hgood _ List.mem_cons_self) hk
  have hini' : (Cond.initialized cls).before args s' = true := vx_ot_at hW0 hvm.symm (hgood _ (List.mem_cons_of_mem _ List.mem_cons_self)) hini
  have hU' : vx_Zq Bundle.tN "UNASSIGNED_STACK" Bundle.steD A s' s'.heap := by rw [hhp]; exact vx_Zq.moved hW0.alike (hU.kept hS.2.1)
  have hN' : vx_Zq Bundle.tN "SUPPRESSED_SENTINEL" Bundle.listD A s' s'.heap := by rw [hhp]; exact vx_Zq.moved hW0.alike (hN.kept hS.2.1)
  have h : ∀ w ∈ Bundle.ownAtoms own ic cls names, w.before args s' = true := vx_own hat' (vx_isRefq hU'.1) (vx_isRefq hN'.1) hU'.2.word hN'.2.word
  have hown' : s'.vm.findClass own = some m.cls := by rw [hvm]; exact hown
  have hins : (Cond.instantiable cls 6).before args s' = true := h _ (by simp [Bundle.ownAtoms])
  obtain ⟨vm₁, cX, kX, hfX, hkX, -, -, X₁, st1⟩ := Y.newCold hexec (own := own) (C := cls) (index := ik) (n := 6) hown' hk' hins hini'
    (g := F0 m pc ls rest) rfl (by rw [hb]; exact d0) (Nat.le_refl _) (Nat.le_refl _)
  generalize hT1 : (T.setVm vm₁).pushCell { cls := cX, slots := kX.instanceTypes.map defaultValue, vm := .none } = T1 at X₁ st1
  have hcat : (Value.ref T.heap.size).category = 1 := rfl
  have hcellA : T1.heap[T.heap.size]? = some (freshCell cX kX) := by rw [← hT1]; exact State.heap_pushCell_size _ _
  have d3' : decode c.code (pc + 3) = .ok (.dup, 1) := by rw [hb]; exact d3
  have d4' : decode c.code (pc + 4) = .ok (.ldc_w is, 3) := by rw [hb]; exact d4
  have hstr' : vk_R own is text sa s' := vk_R.warm hW0 hstr
  obtain ⟨U, hsteps, hrun, hend, hW, hsame, ce, hce, hO⟩ := X₁.ctorThrowS hexec htr (own := own) (cls := cls) (names := names) (ic := ic) hown' hcls hnames h (fun x hx => nomatch hx) hfX hkX hcellA (by rw [hhp, hT]; exact Nat.le_refl _) (msg := .ref sa) rfl
    (g := { method := m, pc := pc + 7, locals := ls, stack := .ref sa :: .ref T.heap.size :: .ref T.heap.size :: rest, locked := none }) rfl hsize rfl rfl (rest := rest) rfl
    (by rw [hb]; exact d7) (by rw [hb]; exact d10) hout hRframes (by simp only [List.map_cons, List.sum_cons, hcat]; omega) hlocks
  obtain ⟨f1, f2⟩ := vx_frame hsame
  rw [hhp] at f1 f2
  have hWs : s.WarmedH U.vm := State.WarmedH.trans hW0 hW
  have hcl : s.vm.findClass cls = some ce.cls := by
    have h9 := hO.cls
    rw [hvm] at h9
    exact h9
  have hall : s.sameButNew ({ U with vm := s.vm } : State) locs mc ms := by
    subst hA
    obtain ⟨e1, e2⟩ := hsame
    rw [State.setFrames_setFrames] at e1
    have h2 : (T.setVm s.vm).sameButNew ({ U with vm := s.vm } : State) [] (0 + 1) (0 + 6) := ⟨e1, e2⟩
    have h3 := X.same.trans h2
    rw [List.append_nil] at h3
    exact h3.mono hc hs
  refine ⟨U, ?_, .threw T.heap.size, hrun, hend, Or.inr ⟨T.heap.size, rfl, cls, ce, locs, hx U hWs.alike f1 (fun q hq => f2 q hq (fun z hz => nomatch hz)), hce, hO.vm, hcl, hWs, hall, hf⟩⟩
  refine st1 _ ?_
  show Steps p.tables e below (T1.setTop { method := m, pc := pc + 3, locals := ls, stack := .ref T.heap.size :: rest, locked := none }) _
  jvm_step X₁.here [X₁.here.top, hexec, d3', Value.category]
  exact X₁.ldcStringW hexec (own := own) (text := text) (index := is) (a := sa) hown' hstr'.1 hstr'.2
    (g := { method := m, pc := pc + 4, locals := ls, stack := .ref T.heap.size :: .ref T.heap.size :: rest, locked := none }) rfl d4' _ hsteps
end Ends
section Bodies
variable {l : Launch}
theorem vx_ofW {y : MethodName} {ws ws' : List Cond} {rm : Room} {Pc : Array Value → State → Prop} {Qc : Array Value → State → Outcome → State → Prop} {XC : String → State → State → Prop} {mc ms : Nat} {free : Addr → Prop} {cc : ByteArray} {maxL : Nat} {ret : Option FieldType}
    (hy : plainName y.cls = true) (hw : ws = Cond.code y cc maxL ret :: ws')
    (body : ∀ p e s m args below meth c s₁, BodyLoose p l y (headSpec ws rm) cc maxL ret e s m args below meth c s₁ → c.maxLocals = maxL → (∀ x ∈ c.exceptionTable.toList, False) → Pc args s →
      W p l e (headSpec ws rm).room s m args below meth c s.heap [] 0 0 (vx_MQ below Qc XC args s mc ms free) (entryFrame m args maxL)) : vx_Met l y ws rm Pc Qc XC mc ms free := by
  refine MetFree.of_bodyS (code := cc) (maxLocals := maxL) (ret := ret) hy ?_ ?_
  · intro args s m h hn
    obtain ⟨meth, c, h1, h2, h3, h4, h5, h6, -, -⟩ := Cond.code_spec hn (atoms_spec (ws := ws) h _ (by rw [hw]; exact List.mem_cons_self))
    exact ⟨meth, c, h1, h2, h3, h4, h5, h6⟩
  · intro p e s m args below meth c s₁ B hml hP _
    have hh0 : s₁.heap = s.heap := by rw [B.state]; rfl
    have ht : ∀ x ∈ c.exceptionTable.toList, False := by
      obtain ⟨meth9, c9, h1, h2, -, -, -, -, h7, -⟩ := Cond.code_spec B.named (atoms_spec (ws := ws) B.pre _ (by rw [hw]; exact List.mem_cons_self))
      cases Option.some.inj (h1.symm.trans B.method)
      cases Option.some.inj (h2.symm.trans (Stand.of_body B).code)
      intro x hx
      rw [Array.isEmpty_iff.mp h7] at hx
      cases hx
    obtain ⟨t, a1, o, b1, b2, b3⟩ := body p e s m args below meth c s₁ B hml ht hP s₁ hh0 (Stand.of_body B)
    exact ⟨t, o, a1, b1, b2, b3⟩
/-- the table of a body with handlers -/
theorem vx_table {p : Program} {x y : MethodName} {S : Spec} {cc bytes : ByteArray} {maxL maxL' : Nat} {ret ret' : Option FieldType} {e : Env} {s s₁ : State} {m : MethodId} {args : Array Value} {below : List Frame} {meth : Method} {c : Code} {hh : List (Nat × Nat × Nat × Nat)}
    (B : BodyLoose p l y S cc maxL ret e s m args below meth c s₁) (h : (Cond.codeWith y bytes maxL' ret' hh).before args s = true) : c.exceptionTable.toList = tableOf hh := by
  obtain ⟨m9, meth9, c9, hn9, h1, h2, -, -, h6, -⟩ := Cond.codeWith_spec h
  cases Option.some.inj (hn9.symm.trans B.named)
  cases Option.some.inj (h1.symm.trans B.method)
  cases Option.some.inj (h2.symm.trans (Stand.of_body B).code)
  rw [← h6, table_eq]
end Bodies
end VXA
/-! ===== END ===== -/
/-! ===== BEGIN a static call of a method with an exception table ===== -/
section VXS
variable {p : Program} {l : Launch} {e : Env} {R : Room} {s : State} {m : MethodId} {args : Array Value} {below : List Frame} {meth : Method} {c : Code} {T : State} {H : Heap} {locs : List Loc} {cells slots : Nat}
abbrev vx_CSW (R : Room) (s : State) (args : Array Value) (own : String) (index : Nat) (y : MethodName) (bytes : ByteArray) (maxL : Nat) (ret : Option FieldType) (hh : List (Nat × Nat × Nat × Nat)) (ws : List Cond) (rm : Room) (mc ms n : Nat) : Prop :=
  (rm.cells = mc ∧ rm.slots = ms ∧ rm.frames + 1 ≤ R.frames ∧ 8 + (maxL + 11) + rm.locals ≤ R.locals ∧ (∀ w ∈ ws, ∀ (a' : Array Value) (U : State), s.WarmedH U.vm → w.before a' U = true) ∧ Cond.codeWith y bytes maxL ret hh ∈ ws) ∧
  (Cond.codeWith y bytes maxL ret hh).before args s = true ∧ (Cond.initialized y.cls).before args s = true ∧ (y.cls ≠ "java/lang/invoke/MethodHandle" ∧ y.cls ≠ "java/lang/invoke/VarHandle") ∧
  (∀ sig, parseMethodDescriptor y.desc = some sig → n = sig.parameters.length) ∧ (Cond.methodLink own index y).before args s = true ∧ (Cond.static y).before args s = true
theorem vx_cwSW {own : String} {index maxL mc ms : Nat} {y : MethodName} {bytes : ByteArray} {ret : Option FieldType} {hh : List (Nat × Nat × Nat × Nat)} {Ts ws ws' : List Cond} {rm : Room} (n : Nat) (ht : ∀ w ∈ Ts, w.before args s = true) (hT : GoodIn Ts (va_wsS own index y ws)) (hw : ws = Cond.codeWith y bytes maxL ret hh :: ws') (hrc : rm.cells = mc) (hrs : rm.slots = ms)
    (hd : y.cls ≠ "java/lang/invoke/MethodHandle" ∧ y.cls ≠ "java/lang/invoke/VarHandle" ∧ (parseMethodDescriptor y.desc).map (fun d => d.parameters.length) = some n) (hR : rm.frames + 1 ≤ R.frames ∧ 8 + (maxL + 11) + rm.locals ≤ R.locals) :
    vx_CSW R s args own index y bytes maxL ret hh ws rm mc ms n := by
  have ok : ∀ w ∈ va_wsS own index y ws, w.before args s = true := fun w h => ht w (hT w h).1
  have hG : GoodIn Ts ws := fun w h => hT w (by unfold va_wsS; exact List.mem_append_right _ h)
  have hc : Cond.codeWith y bytes maxL ret hh ∈ ws := by rw [hw]; exact List.mem_cons_self
  refine ⟨⟨hrc, hrs, hR.1, hR.2, pay_in ht hG, hc⟩, ht _ (hG _ hc).1, ok _ (by simp [va_wsS]), ⟨hd.1, hd.2.1⟩, fun sig h => ?_, ok _ (by simp [va_wsS]), ok _ (by simp [va_wsS])⟩
  have h2 := hd.2.2
  rw [h] at h2
  exact (Option.some.inj h2).symm
theorem vx_callSW (X : Stand p l e R s m args below meth c T locs cells slots) (hexec : p.tables.exec = Jvm.exec) {own : String} {index : Nat} {y : MethodName} {bytes : ByteArray} {maxL : Nat} {ret : Option FieldType} {hh : List (Nat × Nat × Nat × Nat)}
    (hown : s.vm.findClass own = some m.cls) (hlink : (Cond.methodLink own index y).before args s = true) (hstat : (Cond.static y).before args s = true) (hinit : (Cond.initialized y.cls).before args s = true)
    (hcode : (Cond.codeWith y bytes maxL ret hh).before args s = true) (hy : y.cls ≠ "java/lang/invoke/MethodHandle" ∧ y.cls ≠ "java/lang/invoke/VarHandle")
    {W9 : Nat} {Pre : Pt → Array Value → Prop} {Post : Pt → Array Value → Option Value → Pt → Prop} (hK : Back l R p e below s args y 3 W9 Pre Post)
    {g : JFrame} (hg : g.method = m) (hsize : g.locals.size = c.maxLocals) {argsL rest : List Value} (hlen : ∀ sig, parseMethodDescriptor y.desc = some sig → argsL.length = sig.parameters.length)
    (hstack : g.stack = argsL.reverse ++ rest) (hW : 2 * g.monitorRoom + (rest.map fun v => v.category).sum ≤ W9) (hdg : decode c.code g.pc = .ok (.invokestatic index, 3))
    (hpre : ∀ vm₁, s.WarmedH vm₁ → Pre ⟨T.setVm vm₁, locs, cells, slots⟩ argsL.toArray) :
    ∃ (v : Option Value) (vm₁ : Vm) (B : Pt), s.WarmedH vm₁ ∧ Stand p l e R s m args below meth c B.U B.locs B.cells B.slots ∧ Post ⟨T.setVm vm₁, locs, cells, slots⟩ argsL.toArray v B ∧
      ∀ target, Steps p.tables e below (B.U.setTop { g with pc := g.pc + 3, stack := v.toList ++ rest }) target → Steps p.tables e below (T.setTop g) target := by
  obtain ⟨mk, methM, cM, hnamed, hmethM, -, -, -, -, -, -, hsigM⟩ := Cond.codeWith_spec hcode
  have hstatic : methM.isStatic = true := Cond.static_spec hnamed hmethM hstat
  obtain ⟨kP, hkP, -⟩ := className_of_methodNamed hnamed
  have hinitP : kP.init = .initialized := Cond.initialized_spec (findClass_of_methodNamed hnamed) hkP hinit
  obtain ⟨vm₁, X₁, hstep₁⟩ := X.invokestatic hexec hown hlink hnamed hmethM hstatic hkP hinitP hy (g := g) hg (argsL := argsL) (rest := rest) (hlen _ hsigM) hstack hdg
  obtain ⟨v, B, X', hpost, hsteps⟩ := hK m meth c ⟨T.setVm vm₁, locs, cells, slots⟩ { g with stack := rest } (.invokestatic index) mk argsL.toArray X₁ hg hsize hdg hW (X₁.named hnamed) (hpre vm₁ X₁.warmed)
  exact ⟨v, vm₁, B, X₁.warmed, X', hpost, fun target h => hstep₁ _ fun acts => by rw [doInvoke_state]; exact hsteps.trans h⟩
theorem vx_runSW {y : MethodName} {bytes cc : ByteArray} {maxL nL mc ms n index : Nat} {ret : Option FieldType} {hh : List (Nat × Nat × Nat × Nat)} {ws : List Cond} {rm : Room} {Pc : Array Value → State → Prop} {Qc : Array Value → State → Outcome → State → Prop} {free : Addr → Prop} {Ts : List Cond} {own : String} {As rest : List Value} {g : JFrame}
    (S : CallFix p m c cc nL s args Ts own) (hM : Met l y ws rm Pc Qc mc ms free) (cw : vx_CSW R s args own index y bytes maxL ret hh ws rm mc ms n) (hp : PreS s H Pc As)
    (hg : g.method = m) (hn : As.length = n) (hsize : g.locals.size = nL) (hstack : g.stack = As.reverse ++ rest) (hW : 2 * g.monitorRoom + (rest.map fun v => v.category).sum ≤ 8) (hdg : decode cc g.pc = .ok (.invokestatic index, 3)) (hf : cells + mc ≤ R.cells ∧ slots + ms ≤ R.slots) :
    va_Run p l e R s m args below meth c H locs cells slots mc ms g rest (Qc As.toArray) (free) := by
  obtain ⟨⟨hrc, hrs, hfr, hlo, hws, hcw⟩, hcode, hini, hy, hlen, hl, hstt⟩ := cw
  have hK : Back l R p e below s args y 3 8 (PreOf R mc ms Pc) (PostOf Qc mc ms free) := va_backW (hh := hh) (bytes := bytes) (maxL := maxL) (ret := ret) hM hp.1 hrc hrs hfr hlo hws hcw (fun a' U hW => word_at hW (Or.inl (by first | rfl | simp [Cond.onTables, Cond.keeps, Cond.steady])) hini)
  obtain ⟨hx, hb, hml, ho, -⟩ := S
  intro T hT X
  obtain ⟨v, vm₁, ⟨U', l2, c2, s2⟩, hW₁, X', ⟨g', mk, t, L, e1, e2, hq, h1, hL, h2, h3⟩, st⟩ := vx_callSW X hx (hh := hh) (bytes := bytes) (maxL := maxL) (ret := ret) ho hl hstt hini hcode hy hK hg (hsize.trans hml.symm) (argsL := As) (rest := rest) (fun sig h => hn.trans (hlen sig h)) hstack hW (by rw [hb]; exact hdg)
    (fun vm₁ hW₁ => ⟨hf.1, hf.2, hp.2 (T.setVm vm₁) hT hW₁⟩)
  dsimp only [Pt.U, Pt.locs, Pt.cells, Pt.slots] at X' e1 e2 h1 h2 h3 st
  subst h1; subst h2; subst h3
  exact ⟨v, (T.setVm vm₁).calling g' mk As.toArray, t, U', L, hT, X', hL, e1, e2, hq, st⟩
/-- a thing of a world lies in the heap -/
theorem vx_lt {D : va_G} {cl : List vw_C} {ws : va_W} {H1 : Heap} (h : va_P D cl ws H1) {k : Nat} {q : Nat × va_E} (hk : ws[k]? = some q) : q.1 < H1.size := (h k q hk).lt
end VXS
/-! ===== END ===== -/
/-! ===== BEGIN methods with a table of their own: called by a name, returning or throwing ===== -/
section VXH
/-! vx_backW, vx_callVX, vx_callSX, vx_callVW, vx_runVW, vx_runVX, vx_runSX, vx_ofWH follow the same proofs as their sisters above (Free/Laws.lean, Shelf42/LK1.lean); vx_outP calls Shelf42/NT130.lean (outThrough). -/
section
variable {l : Launch} {R : Room} {p : Program} {e : Env} {below : List Frame} {s : State} {sargs : Array Value} {y : MethodName} {len W9 : Nat}
theorem vx_backW {ws : List Cond} {rm : Room} {Pc : Array Value → State → Prop} {Qc : Array Value → State → Outcome → State → Prop} {XC : String → State → State → Prop} {mc ms : Nat} {free : Addr → Prop} {bytes : ByteArray} {maxL : Nat} {ret : Option FieldType} {hh : List (Nat × Nat × Nat × Nat)}
    (hM : vx_Met l y ws rm Pc Qc XC mc ms free) (hblind : FrameBlind Pc) (hrc : rm.cells = mc) (hrs : rm.slots = ms)
    (hframes : rm.frames + 1 ≤ R.frames) (hlocals : W9 + (maxL + 11) + rm.locals ≤ R.locals)
    (hws : ∀ w ∈ ws, ∀ a' U, s.WarmedH U.vm → w.before a' U = true) (hcode : Cond.codeWith y bytes maxL ret hh ∈ ws) (hinit : ∀ a' U, s.WarmedH U.vm → (Cond.initialized y.cls).before a' U = true) :
    vx_Back l R p e below s sargs y len W9 (PreOf R mc ms Pc) (PostOf Qc mc ms free) (vx_Post XC mc ms free) := by
  intro m meth c A g ig mk a X hg hsize hdg hW hn hp
  have h1 : (headSpec ws rm).pre.before a A.U = true := atoms_intro fun w hw => hws w hw _ _ X.warmed
  have h2 : (Cond.codeWith y bytes maxL ret hh).before a A.U = true := hws _ hcode _ _ X.warmed
  have h3 : (Cond.initialized y.cls).before a A.U = true := hinit _ _ X.warmed
  have h4 : A.cells + (headSpec ws rm).room.cells ≤ R.cells := by rw [show (headSpec ws rm).room.cells = mc from hrc]; exact hp.1
  have h5 : A.slots + (headSpec ws rm).room.slots ≤ R.slots := by rw [show (headSpec ws rm).room.slots = ms from hrs]; exact hp.2.1
  have hPc : Pc a (A.U.calling g mk a) := hblind _ _ _ _ hp.2.2
  obtain ⟨U, Ls, c0, s0⟩ := A
  dsimp only [Pt.U, Pt.locs, Pt.cells, Pt.slots] at h1 h2 h3 h4 h5 X hn hPc ⊢
  obtain ⟨m9, methY, cY, hn9, hmY, hcY, -, hlY, -⟩ := Cond.codeWith_spec h2
  cases Option.some.inj (hn9.symm.trans hn)
  obtain ⟨kY, hkY, -⟩ := className_of_methodNamed hn
  have hinitY : kY.init = .initialized := Cond.initialized_spec (findClass_of_methodNamed hn) hkY h3
  have h : At U g.method c below := by rw [hg]; exact X.here
  have hlocals9 : W9 + (maxL + 11) + (headSpec ws rm).room.locals ≤ R.locals := hlocals
  have happ : (headSpec ws rm).appliesLoose y e.platform (U.calling g mk a) = true :=
    Spec.appliesLoose_calling (g := g) h hdg hn hkY hinitY
      (X.room_calling (g := g) (R' := (headSpec ws rm).room) hsize hmY hcY hframes (by rw [hlY]; omega) h4 h5) h1
  obtain ⟨mid, hmid⟩ := h.above
  have hfr : (U.setTop g).frames = (.java g :: mid) ++ below := by rw [State.frames_setTop' g h.top, hmid]; rfl
  obtain ⟨o, s₂, hsteps, -, hend, hq⟩ := Steps.callFree hM p X.admits X.cas X.clock (acts := []) hfr happ hPc trivial
  have hq' : vx_Q Qc XC mc ms free a (U.calling g mk a) o s₂ := hq
  rw [State.frames_setTop' g h.top] at hend
  obtain ⟨g₀, hg0⟩ := Option.isSome_iff_exists.mp h.top
  obtain ⟨r, hr⟩ := State.topJava?_eq_some.mp hg0
  have hr' : (({ U with heap := s₂.heap, slotsUsed := s₂.slotsUsed } : State).setVm s₂.vm).frames = .java g₀ :: r := hr
  rcases hq' with ⟨hqc, L, hfe, hL⟩ | ⟨q, rfl, E, ce, L, hx, hce, hcv, hcl, hW₂, hsm, hL⟩
  · obtain ⟨⟨v, rfl⟩, hW₂, e2, q2, q3, q4, q5, q6⟩ := id hfe
    have e3 : s₂ = ({ (U.calling g mk a).setFrames s₂.frames with heap := s₂.heap, slotsUsed := s₂.slotsUsed } : State).setVm s₂.vm := by
      have : s₂ = ({ s₂ with vm := (U.calling g mk a).vm } : State).setVm s₂.vm := rfl
      rw [e2] at this
      exact this
    obtain ⟨c₂, i₂, len₂, hc₂, hd₂, hf₂⟩ := hend
    have hW' : U.WarmedH s₂.vm := hW₂
    have hcc : c₂ = c := by
      have h1 : s₂.code? g.method = U.code? g.method := by
        rw [State.code?_eq, State.code?_eq, hW'.alike.method?]
      exact Option.some.inj (hc₂.symm.trans (h1.trans h.code))
    subst hcc
    have hlen : len₂ = len := by rw [hdg] at hd₂; cases hd₂; rfl
    subst hlen
    have hs₂ : s₂ = (({ U with heap := s₂.heap, slotsUsed := s₂.slotsUsed } : State).setVm s₂.vm).setTop { g with pc := g.pc + len₂, stack := v.toList ++ g.stack } := by
      refine e3.trans ?_
      rw [hf₂, State.calling_eq h.top, State.setFrames_setFrames, State.setTop_of_frames _ hr', hr]
      rfl
    have hsame : U.sameButNew ({ U with heap := s₂.heap, slotsUsed := s₂.slotsUsed } : State) L mc ms := by
      refine ⟨?_, q2, q3, q4, q5, q6⟩
      obtain ⟨t, ht, -⟩ := State.frames_cons hr
      show ({ U with heap := s₂.heap, slotsUsed := s₂.slotsUsed } : State) = { U.setFrames U.frames with heap := s₂.heap, slotsUsed := s₂.slotsUsed }
      rw [State.setFrames_self ht]
    subst hg
    refine Or.inl ⟨v, ⟨(({ U with heap := s₂.heap, slotsUsed := s₂.slotsUsed } : State).setVm s₂.vm), Ls ++ L, c0 + mc, s0 + ms⟩,
      ⟨X.admits, X.cas, X.clock, X.frames, X.room, X.hears, X.method, X.code, (X.here.setHeapUsed s₂.heap s₂.slotsUsed).setVm hW'.alike, X.tail, State.WarmedH.trans X.warmed hW', X.limits, X.bytes, X.same.trans (hsame.setVm s.vm)⟩,
      ⟨g, mk, s₂, L, rfl, rfl, hqc, rfl, hL, rfl, rfl⟩, ?_⟩
    show Steps p.tables e below _ ((({ U with heap := s₂.heap, slotsUsed := s₂.slotsUsed } : State).setVm s₂.vm).setTop { g with pc := g.pc + len₂, stack := v.toList ++ g.stack })
    rw [← hs₂]
    exact hsteps
  · obtain ⟨e2, q2, q3, q4, q5, q6⟩ := id hsm
    have e3 : s₂ = ({ (U.calling g mk a).setFrames s₂.frames with heap := s₂.heap, slotsUsed := s₂.slotsUsed } : State).setVm s₂.vm := by
      have : s₂ = ({ s₂ with vm := (U.calling g mk a).vm } : State).setVm s₂.vm := rfl
      rw [e2] at this
      exact this
    have hf₂ : s₂.frames = .throwing q :: .java g :: U.frames.tail := hend
    have hW' : U.WarmedH s₂.vm := hW₂
    have hs₂ : s₂ = ((({ U with heap := s₂.heap, slotsUsed := s₂.slotsUsed } : State).setVm s₂.vm).setTop g).pushFrame (.throwing q) := by
      refine e3.trans ?_
      rw [hf₂, State.calling_eq h.top, State.setFrames_setFrames, State.pushFrame, State.frames_setTop _ hr', State.setTop_of_frames _ hr', State.setFrames_setFrames, hr]
      rfl
    have hsame : U.sameButNew ({ U with heap := s₂.heap, slotsUsed := s₂.slotsUsed } : State) L mc ms := by
      refine ⟨?_, q2, q3, q4, q5, q6⟩
      obtain ⟨t, ht, -⟩ := State.frames_cons hr
      show ({ U with heap := s₂.heap, slotsUsed := s₂.slotsUsed } : State) = { U.setFrames U.frames with heap := s₂.heap, slotsUsed := s₂.slotsUsed }
      rw [State.setFrames_self ht]
    subst hg
    refine Or.inr ⟨q, ⟨(({ U with heap := s₂.heap, slotsUsed := s₂.slotsUsed } : State).setVm s₂.vm), Ls ++ L, c0 + mc, s0 + ms⟩,
      ⟨X.admits, X.cas, X.clock, X.frames, X.room, X.hears, X.method, X.code, (X.here.setHeapUsed s₂.heap s₂.slotsUsed).setVm hW'.alike, X.tail, State.WarmedH.trans X.warmed hW', X.limits, X.bytes, X.same.trans (hsame.setVm s.vm)⟩,
      ⟨g, mk, s₂, L, E, ce, rfl, rfl, hx, hce, hcv, hcl, rfl, hL, rfl, rfl⟩, ?_⟩
    show Steps p.tables e below _ (((({ U with heap := s₂.heap, slotsUsed := s₂.slotsUsed } : State).setVm s₂.vm).setTop g).pushFrame (.throwing q))
    rw [← hs₂]
    exact hsteps
end
variable {p : Program} {l : Launch} {e : Env} {R : Room} {s : State} {m : MethodId} {args : Array Value} {below : List Frame} {meth : Method} {c : Code} {T : State} {H : Heap} {locs : List Loc} {cells slots : Nat}
theorem vx_callVX (X : Stand p l e R s m args below meth c T locs cells slots) (hexec : p.tables.exec = Jvm.exec) {own C : String} {index : Nat} {y : MethodName} {bytes : ByteArray} {maxL : Nat} {ret : Option FieldType} {hh : List (Nat × Nat × Nat × Nat)}
    (hown : s.vm.findClass own = some m.cls) (hlink : (Cond.methodLink own index y).before args s = true) (hinst : (Cond.instanceMethod y).before args s = true) (hsel : (Cond.selects C y y).before args s = true)
    (hcode : (Cond.codeWith y bytes maxL ret hh).before args s = true) (hy : y.cls ≠ "java/lang/invoke/MethodHandle" ∧ y.cls ≠ "java/lang/invoke/VarHandle")
    {W9 : Nat} {Pre : Pt → Array Value → Prop} {Post : Pt → Array Value → Option Value → Pt → Prop} {PostX : Pt → Array Value → Addr → Pt → Prop} (hK : vx_Back l R p e below s args y 3 W9 Pre Post PostX)
    {b : Addr} {cellB : Cell} (hcell : T.heap[b]? = some cellB) (hobj : cellB.vm.isStatics = false) (hcls : s.vm.findClass C = some cellB.cls)
    {g : JFrame} (hg : g.method = m) (hsize : g.locals.size = c.maxLocals) {argsL rest : List Value} (hlen : ∀ sig, parseMethodDescriptor y.desc = some sig → argsL.length = sig.parameters.length)
    (hstack : g.stack = argsL.reverse ++ .ref b :: rest) (hW : 2 * g.monitorRoom + (rest.map fun v => v.category).sum ≤ W9) (hdg : decode c.code g.pc = .ok (.invokevirtual index, 3))
    (hpre : ∀ vm₁, s.WarmedH vm₁ → Pre ⟨T.setVm vm₁, locs, cells, slots⟩ (Value.ref b :: argsL).toArray) :
    (∃ (v : Option Value) (vm₁ : Vm) (B : Pt), s.WarmedH vm₁ ∧ Stand p l e R s m args below meth c B.U B.locs B.cells B.slots ∧ Post ⟨T.setVm vm₁, locs, cells, slots⟩ (Value.ref b :: argsL).toArray v B ∧
      ∀ target, Steps p.tables e below (B.U.setTop { g with pc := g.pc + 3, stack := v.toList ++ rest }) target → Steps p.tables e below (T.setTop g) target) ∨
    (∃ (q : Addr) (vm₁ : Vm) (B : Pt), s.WarmedH vm₁ ∧ Stand p l e R s m args below meth c B.U B.locs B.cells B.slots ∧ PostX ⟨T.setVm vm₁, locs, cells, slots⟩ (Value.ref b :: argsL).toArray q B ∧
      Steps p.tables e below (T.setTop g) ((B.U.setTop { g with stack := rest }).pushFrame (.throwing q))) := by
  obtain ⟨mk, methM, hnamed, hmethM, hstM, habM⟩ := Cond.instanceMethod_spec hinst
  obtain ⟨m8, methM', cM, hn8, hmethM', -, -, -, -, -, -, hsigM⟩ := Cond.codeWith_spec hcode
  cases Option.some.inj (hn8.symm.trans hnamed)
  cases hmethM.symm.trans hmethM'
  obtain ⟨c2, r2, m2, q1, q2, q3, q4, kP, hkP, hkPi⟩ := Cond.selects_spec hsel
  cases hcls.symm.trans q1
  cases (State.methodFound?_of_named hnamed hy).symm.trans q2
  cases hnamed.symm.trans q3
  have hselP : selectMethod e.platform s.vm cellB.cls mk = .method mk := by rw [Launch.admits_selectMethod X.admits]; exact q4
  obtain ⟨vm₁, X₁, hstep₁⟩ := X.invokevirtual hexec hown hlink hnamed hmethM hstM hkP hkPi hy (a := b) (cell := cellB) hcell
    (fun z h => by rw [h] at hobj; cases hobj) hselP hmethM habM hkP hkPi (g := g) hg (argsL := argsL) (rest := rest) (hlen _ hsigM) hstack hdg
  rcases hK m meth c ⟨T.setVm vm₁, locs, cells, slots⟩ { g with stack := rest } (.invokevirtual index) mk (Value.ref b :: argsL).toArray X₁ hg hsize hdg hW (X₁.named hnamed) (hpre vm₁ X₁.warmed) with ⟨v, B, X', hpost, hsteps⟩ | ⟨q, B, X', hpost, hsteps⟩
  · exact Or.inl ⟨v, vm₁, B, X₁.warmed, X', hpost, fun target h => hstep₁ _ fun acts => by rw [doInvoke_state]; exact hsteps.trans h⟩
  · exact Or.inr ⟨q, vm₁, B, X₁.warmed, X', hpost, hstep₁ _ fun acts => by rw [doInvoke_state]; exact hsteps⟩
theorem vx_callSX (X : Stand p l e R s m args below meth c T locs cells slots) (hexec : p.tables.exec = Jvm.exec) {own : String} {index : Nat} {y : MethodName} {bytes : ByteArray} {maxL : Nat} {ret : Option FieldType} {hh : List (Nat × Nat × Nat × Nat)}
    (hown : s.vm.findClass own = some m.cls) (hlink : (Cond.methodLink own index y).before args s = true) (hstat : (Cond.static y).before args s = true) (hinit : (Cond.initialized y.cls).before args s = true)
    (hcode : (Cond.codeWith y bytes maxL ret hh).before args s = true) (hy : y.cls ≠ "java/lang/invoke/MethodHandle" ∧ y.cls ≠ "java/lang/invoke/VarHandle")
    {W9 : Nat} {Pre : Pt → Array Value → Prop} {Post : Pt → Array Value → Option Value → Pt → Prop} {PostX : Pt → Array Value → Addr → Pt → Prop} (hK : vx_Back l R p e below s args y 3 W9 Pre Post PostX)
    {g : JFrame} (hg : g.method = m) (hsize : g.locals.size = c.maxLocals) {argsL rest : List Value} (hlen : ∀ sig, parseMethodDescriptor y.desc = some sig → argsL.length = sig.parameters.length)
    (hstack : g.stack = argsL.reverse ++ rest) (hW : 2 * g.monitorRoom + (rest.map fun v => v.category).sum ≤ W9) (hdg : decode c.code g.pc = .ok (.invokestatic index, 3))
    (hpre : ∀ vm₁, s.WarmedH vm₁ → Pre ⟨T.setVm vm₁, locs, cells, slots⟩ argsL.toArray) :
    (∃ (v : Option Value) (vm₁ : Vm) (B : Pt), s.WarmedH vm₁ ∧ Stand p l e R s m args below meth c B.U B.locs B.cells B.slots ∧ Post ⟨T.setVm vm₁, locs, cells, slots⟩ argsL.toArray v B ∧
      ∀ target, Steps p.tables e below (B.U.setTop { g with pc := g.pc + 3, stack := v.toList ++ rest }) target → Steps p.tables e below (T.setTop g) target) ∨
    (∃ (q : Addr) (vm₁ : Vm) (B : Pt), s.WarmedH vm₁ ∧ Stand p l e R s m args below meth c B.U B.locs B.cells B.slots ∧ PostX ⟨T.setVm vm₁, locs, cells, slots⟩ argsL.toArray q B ∧
      Steps p.tables e below (T.setTop g) ((B.U.setTop { g with stack := rest }).pushFrame (.throwing q))) := by
  obtain ⟨mk, methM, cM, hnamed, hmethM, -, -, -, -, -, -, hsigM⟩ := Cond.codeWith_spec hcode
  have hstatic : methM.isStatic = true := Cond.static_spec hnamed hmethM hstat
  obtain ⟨kP, hkP, -⟩ := className_of_methodNamed hnamed
  have hinitP : kP.init = .initialized := Cond.initialized_spec (findClass_of_methodNamed hnamed) hkP hinit
  obtain ⟨vm₁, X₁, hstep₁⟩ := X.invokestatic hexec hown hlink hnamed hmethM hstatic hkP hinitP hy (g := g) hg (argsL := argsL) (rest := rest) (hlen _ hsigM) hstack hdg
  rcases hK m meth c ⟨T.setVm vm₁, locs, cells, slots⟩ { g with stack := rest } (.invokestatic index) mk argsL.toArray X₁ hg hsize hdg hW (X₁.named hnamed) (hpre vm₁ X₁.warmed) with ⟨v, B, X', hpost, hsteps⟩ | ⟨q, B, X', hpost, hsteps⟩
  · exact Or.inl ⟨v, vm₁, B, X₁.warmed, X', hpost, fun target h => hstep₁ _ fun acts => by rw [doInvoke_state]; exact hsteps.trans h⟩
  · exact Or.inr ⟨q, vm₁, B, X₁.warmed, X', hpost, hstep₁ _ fun acts => by rw [doInvoke_state]; exact hsteps⟩
theorem vx_callVW (X : Stand p l e R s m args below meth c T locs cells slots) (hexec : p.tables.exec = Jvm.exec) {own C : String} {index : Nat} {y : MethodName} {bytes : ByteArray} {maxL : Nat} {ret : Option FieldType} {hh : List (Nat × Nat × Nat × Nat)}
    (hown : s.vm.findClass own = some m.cls) (hlink : (Cond.methodLink own index y).before args s = true) (hinst : (Cond.instanceMethod y).before args s = true) (hsel : (Cond.selects C y y).before args s = true)
    (hcode : (Cond.codeWith y bytes maxL ret hh).before args s = true) (hy : y.cls ≠ "java/lang/invoke/MethodHandle" ∧ y.cls ≠ "java/lang/invoke/VarHandle")
    {W9 : Nat} {Pre : Pt → Array Value → Prop} {Post : Pt → Array Value → Option Value → Pt → Prop} (hK : Back l R p e below s args y 3 W9 Pre Post)
    {b : Addr} {cellB : Cell} (hcell : T.heap[b]? = some cellB) (hobj : cellB.vm.isStatics = false) (hcls : s.vm.findClass C = some cellB.cls)
    {g : JFrame} (hg : g.method = m) (hsize : g.locals.size = c.maxLocals) {argsL rest : List Value} (hlen : ∀ sig, parseMethodDescriptor y.desc = some sig → argsL.length = sig.parameters.length)
    (hstack : g.stack = argsL.reverse ++ .ref b :: rest) (hW : 2 * g.monitorRoom + (rest.map fun v => v.category).sum ≤ W9) (hdg : decode c.code g.pc = .ok (.invokevirtual index, 3))
    (hpre : ∀ vm₁, s.WarmedH vm₁ → Pre ⟨T.setVm vm₁, locs, cells, slots⟩ (Value.ref b :: argsL).toArray) :
    ∃ (v : Option Value) (vm₁ : Vm) (B : Pt), s.WarmedH vm₁ ∧ Stand p l e R s m args below meth c B.U B.locs B.cells B.slots ∧ Post ⟨T.setVm vm₁, locs, cells, slots⟩ (Value.ref b :: argsL).toArray v B ∧
      ∀ target, Steps p.tables e below (B.U.setTop { g with pc := g.pc + 3, stack := v.toList ++ rest }) target → Steps p.tables e below (T.setTop g) target := by
  obtain ⟨mk, methM, hnamed, hmethM, hstM, habM⟩ := Cond.instanceMethod_spec hinst
  obtain ⟨m8, methM', cM, hn8, hmethM', -, -, -, -, -, -, hsigM⟩ := Cond.codeWith_spec hcode
  cases Option.some.inj (hn8.symm.trans hnamed)
  cases hmethM.symm.trans hmethM'
  obtain ⟨c2, r2, m2, q1, q2, q3, q4, kP, hkP, hkPi⟩ := Cond.selects_spec hsel
  cases hcls.symm.trans q1
  cases (State.methodFound?_of_named hnamed hy).symm.trans q2
  cases hnamed.symm.trans q3
  have hselP : selectMethod e.platform s.vm cellB.cls mk = .method mk := by rw [Launch.admits_selectMethod X.admits]; exact q4
  obtain ⟨vm₁, X₁, hstep₁⟩ := X.invokevirtual hexec hown hlink hnamed hmethM hstM hkP hkPi hy (a := b) (cell := cellB) hcell
    (fun z h => by rw [h] at hobj; cases hobj) hselP hmethM habM hkP hkPi (g := g) hg (argsL := argsL) (rest := rest) (hlen _ hsigM) hstack hdg
  obtain ⟨v, B, X', hpost, hsteps⟩ := hK m meth c ⟨T.setVm vm₁, locs, cells, slots⟩ { g with stack := rest } (.invokevirtual index) mk (Value.ref b :: argsL).toArray X₁ hg hsize hdg hW (X₁.named hnamed) (hpre vm₁ X₁.warmed)
  exact ⟨v, vm₁, B, X₁.warmed, X', hpost, fun target h => hstep₁ _ fun acts => by rw [doInvoke_state]; exact hsteps.trans h⟩
abbrev vx_CVW (R : Room) (s : State) (args : Array Value) (own C : String) (index : Nat) (y : MethodName) (bytes : ByteArray) (maxL : Nat) (ret : Option FieldType) (hh : List (Nat × Nat × Nat × Nat)) (ws : List Cond) (rm : Room) (mc ms n : Nat) : Prop :=
  (rm.cells = mc ∧ rm.slots = ms ∧ rm.frames + 1 ≤ R.frames ∧ 8 + (maxL + 11) + rm.locals ≤ R.locals ∧ (∀ w ∈ ws, ∀ (a' : Array Value) (U : State), s.WarmedH U.vm → w.before a' U = true) ∧ Cond.codeWith y bytes maxL ret hh ∈ ws) ∧
  (Cond.codeWith y bytes maxL ret hh).before args s = true ∧ (Cond.initialized y.cls).before args s = true ∧ (y.cls ≠ "java/lang/invoke/MethodHandle" ∧ y.cls ≠ "java/lang/invoke/VarHandle") ∧
  (∀ sig, parseMethodDescriptor y.desc = some sig → n = sig.parameters.length) ∧ (Cond.methodLink own index y).before args s = true ∧ (Cond.instanceMethod y).before args s = true ∧ (Cond.selects C y y).before args s = true
theorem vx_cwVW {own C : String} {index maxL mc ms : Nat} {y : MethodName} {bytes : ByteArray} {ret : Option FieldType} {hh : List (Nat × Nat × Nat × Nat)} {Ts ws ws' : List Cond} {rm : Room} (n : Nat) (ht : ∀ w ∈ Ts, w.before args s = true) (hT : GoodIn Ts (wsV own index C y ws)) (hw : ws = Cond.codeWith y bytes maxL ret hh :: ws') (hrc : rm.cells = mc) (hrs : rm.slots = ms)
    (hd : y.cls = C ∧ y.cls ≠ "java/lang/invoke/MethodHandle" ∧ y.cls ≠ "java/lang/invoke/VarHandle" ∧ (parseMethodDescriptor y.desc).map (fun d => d.parameters.length) = some n) (hR : rm.frames + 1 ≤ R.frames ∧ 8 + (maxL + 11) + rm.locals ≤ R.locals) :
    vx_CVW R s args own C index y bytes maxL ret hh ws rm mc ms n := by
  obtain ⟨hC, hd⟩ := hd
  subst hC
  have ok : ∀ w ∈ wsV own index y.cls y ws, w.before args s = true := fun w h => ht w (hT w h).1
  have hG : GoodIn Ts ws := fun w h => hT w (by unfold wsV; exact List.mem_append_right _ h)
  have hc : Cond.codeWith y bytes maxL ret hh ∈ ws := by rw [hw]; exact List.mem_cons_self
  refine ⟨⟨hrc, hrs, hR.1, hR.2, pay_in ht hG, hc⟩, ht _ (hG _ hc).1, ok _ (by simp [wsV]), ⟨hd.1, hd.2.1⟩, fun sig h => ?_, ok _ (by simp [wsV]), ok _ (by simp [wsV]), ok _ (by simp [wsV])⟩
  have h2 := hd.2.2
  rw [h] at h2
  exact (Option.some.inj h2).symm
theorem vx_runVW {y : MethodName} {bytes cc : ByteArray} {maxL nL mc ms n index : Nat} {ret : Option FieldType} {hh : List (Nat × Nat × Nat × Nat)} {ws : List Cond} {rm : Room} {Pc : Array Value → State → Prop} {Qc : Array Value → State → Outcome → State → Prop} {free : Addr → Prop} {Ts : List Cond} {own C : String} {b : Addr} {As rest : List Value} {g : JFrame}
    (S : CallFix p m c cc nL s args Ts own) (hM : Met l y ws rm Pc Qc mc ms free) (cw : vx_CVW R s args own C index y bytes maxL ret hh ws rm mc ms n) (hp : PreV s H C b Pc As)
    (hg : g.method = m) (hn : As.length = n) (hsize : g.locals.size = nL) (hstack : g.stack = As.reverse ++ .ref b :: rest) (hW : 2 * g.monitorRoom + (rest.map fun v => v.category).sum ≤ 8) (hdg : decode cc g.pc = .ok (.invokevirtual index, 3)) (hf : cells + mc ≤ R.cells ∧ slots + ms ≤ R.slots) :
    va_Run p l e R s m args below meth c H locs cells slots mc ms g rest (Qc (Value.ref b :: As).toArray) free := by
  obtain ⟨⟨hrc, hrs, hfr, hlo, hws, hcw⟩, hcode, hini, hy, hlen, hl, hin, hse⟩ := cw
  have hK : Back l R p e below s args y 3 8 (PreOf R mc ms Pc) (PostOf Qc mc ms free) := va_backW (hh := hh) (bytes := bytes) (maxL := maxL) (ret := ret) hM hp.1 hrc hrs hfr hlo hws hcw (fun a' U hW => word_at hW (Or.inl (by first | rfl | simp [Cond.onTables, Cond.keeps, Cond.steady])) hini)
  obtain ⟨hx, hb, hml, ho, -⟩ := S
  obtain ⟨-, ⟨cellB, hcB, hoB, hclB⟩, hPc⟩ := hp
  intro T hT X
  obtain ⟨v, vm₁, ⟨U', l2, c2, s2⟩, hW₁, X', ⟨g', mk, t, L, e1, e2, hq, h1, hL, h2, h3⟩, st⟩ := vx_callVW X hx (C := C) (hh := hh) (bytes := bytes) (maxL := maxL) (ret := ret) ho hl hin hse hcode hy hK (by rw [hT]; exact hcB) hoB hclB hg (hsize.trans hml.symm) (argsL := As) (rest := rest) (fun sig h => hn.trans (hlen sig h)) hstack hW (by rw [hb]; exact hdg)
    (fun vm₁ hW₁ => ⟨hf.1, hf.2, hPc (T.setVm vm₁) hT hW₁⟩)
  dsimp only [Pt.U, Pt.locs, Pt.cells, Pt.slots] at X' e1 e2 h1 h2 h3 st
  subst h1; subst h2; subst h3
  exact ⟨v, (T.setVm vm₁).calling g' mk (Value.ref b :: As).toArray, t, U', L, hT, X', hL, e1, e2, hq, st⟩
section
variable {y : MethodName} {bytes cc : ByteArray} {maxL nL mc ms n index : Nat} {ret : Option FieldType} {ws : List Cond} {rm : Room} {Pc : Array Value → State → Prop} {Qc : Array Value → State → Outcome → State → Prop} {XC : String → State → State → Prop} {free : Addr → Prop} {Ts : List Cond} {own C : String} {b : Addr} {As rest : List Value} {g : JFrame}
theorem vx_runVX {hh : List (Nat × Nat × Nat × Nat)} (S : CallFix p m c cc nL s args Ts own) (hM : vx_Met l y ws rm Pc Qc XC mc ms free) (cw : vx_CVW R s args own C index y bytes maxL ret hh ws rm mc ms n) (hp : PreV s H C b Pc As)
    (hg : g.method = m) (hn : As.length = n) (hsize : g.locals.size = nL) (hstack : g.stack = As.reverse ++ .ref b :: rest) (hW : 2 * g.monitorRoom + (rest.map fun v => v.category).sum ≤ 8) (hdg : decode cc g.pc = .ok (.invokevirtual index, 3)) (hf : cells + mc ≤ R.cells ∧ slots + ms ≤ R.slots) :
    vx_Run p l e R s m args below meth c H locs cells slots mc ms g rest (Qc (Value.ref b :: As).toArray) XC free := by
  obtain ⟨⟨hrc, hrs, hfr, hlo, hws, hcw⟩, hcode, hini, hy, hlen, hl, hin, hse⟩ := cw
  have hK : vx_Back l R p e below s args y 3 8 (PreOf R mc ms Pc) (PostOf Qc mc ms free) (vx_Post XC mc ms free) := vx_backW (hh := hh) (bytes := bytes) (maxL := maxL) (ret := ret) hM hp.1 hrc hrs hfr hlo hws hcw (fun a' U hW => word_at hW (Or.inl (by first | rfl | simp [Cond.onTables, Cond.keeps, Cond.steady])) hini)
  obtain ⟨hx, hb, hml, ho, -⟩ := S
  obtain ⟨-, ⟨cellB, hcB, hoB, hclB⟩, hPc⟩ := hp
  intro T hT X
  rcases vx_callVX X hx (C := C) (hh := hh) (bytes := bytes) (maxL := maxL) (ret := ret) ho hl hin hse hcode hy hK (by rw [hT]; exact hcB) hoB hclB hg (hsize.trans hml.symm) (argsL := As) (rest := rest) (fun sig h => hn.trans (hlen sig h)) hstack hW (by rw [hb]; exact hdg)
    (fun vm₁ hW₁ => ⟨hf.1, hf.2, hPc (T.setVm vm₁) hT hW₁⟩) with ⟨v, vm₁, ⟨U', l2, c2, s2⟩, hW₁, X', ⟨g', mk, t, L, e1, e2, hq, h1, hL, h2, h3⟩, st⟩ | ⟨q, vm₁, ⟨U', l2, c2, s2⟩, hW₁, X', ⟨g', mk, t, L, E, ce, e1, e2, hq, hce, hcv, hcl, h1, hL, h2, h3⟩, st⟩
  · dsimp only [Pt.U, Pt.locs, Pt.cells, Pt.slots] at X' e1 e2 h1 h2 h3 st
    subst h1; subst h2; subst h3
    exact Or.inl ⟨v, (T.setVm vm₁).calling g' mk (Value.ref b :: As).toArray, t, U', L, hT, X', hL, e1, e2, hq, st⟩
  · dsimp only [Pt.U, Pt.locs, Pt.cells, Pt.slots] at X' e1 e2 h1 h2 h3 st hcl
    subst h1; subst h2; subst h3
    exact Or.inr ⟨q, (T.setVm vm₁).calling g' mk (Value.ref b :: As).toArray, t, U', L, E, ce, hT, X', hL, e1, e2, hq, hce, hcv, vx_cls hW₁ hcl, st⟩
theorem vx_runSX {hh : List (Nat × Nat × Nat × Nat)} (S : CallFix p m c cc nL s args Ts own) (hM : vx_Met l y ws rm Pc Qc XC mc ms free) (cw : vx_CSW R s args own index y bytes maxL ret hh ws rm mc ms n) (hp : PreS s H Pc As)
    (hg : g.method = m) (hn : As.length = n) (hsize : g.locals.size = nL) (hstack : g.stack = As.reverse ++ rest) (hW : 2 * g.monitorRoom + (rest.map fun v => v.category).sum ≤ 8) (hdg : decode cc g.pc = .ok (.invokestatic index, 3)) (hf : cells + mc ≤ R.cells ∧ slots + ms ≤ R.slots) :
    vx_Run p l e R s m args below meth c H locs cells slots mc ms g rest (Qc As.toArray) XC free := by
  obtain ⟨⟨hrc, hrs, hfr, hlo, hws, hcw⟩, hcode, hini, hy, hlen, hl, hstt⟩ := cw
  have hK : vx_Back l R p e below s args y 3 8 (PreOf R mc ms Pc) (PostOf Qc mc ms free) (vx_Post XC mc ms free) := vx_backW (hh := hh) (bytes := bytes) (maxL := maxL) (ret := ret) hM hp.1 hrc hrs hfr hlo hws hcw (fun a' U hW => word_at hW (Or.inl (by first | rfl | simp [Cond.onTables, Cond.keeps, Cond.steady])) hini)
  obtain ⟨hx, hb, hml, ho, -⟩ := S
  intro T hT X
  rcases vx_callSX X hx (hh := hh) (bytes := bytes) (maxL := maxL) (ret := ret) ho hl hstt hini hcode hy hK hg (hsize.trans hml.symm) (argsL := As) (rest := rest) (fun sig h => hn.trans (hlen sig h)) hstack hW (by rw [hb]; exact hdg)
    (fun vm₁ hW₁ => ⟨hf.1, hf.2, hp.2 (T.setVm vm₁) hT hW₁⟩) with ⟨v, vm₁, ⟨U', l2, c2, s2⟩, hW₁, X', ⟨g', mk, t, L, e1, e2, hq, h1, hL, h2, h3⟩, st⟩ | ⟨q, vm₁, ⟨U', l2, c2, s2⟩, hW₁, X', ⟨g', mk, t, L, E, ce, e1, e2, hq, hce, hcv, hcl, h1, hL, h2, h3⟩, st⟩
  · dsimp only [Pt.U, Pt.locs, Pt.cells, Pt.slots] at X' e1 e2 h1 h2 h3 st
    subst h1; subst h2; subst h3
    exact Or.inl ⟨v, (T.setVm vm₁).calling g' mk As.toArray, t, U', L, hT, X', hL, e1, e2, hq, st⟩
  · dsimp only [Pt.U, Pt.locs, Pt.cells, Pt.slots] at X' e1 e2 h1 h2 h3 st hcl
    subst h1; subst h2; subst h3
    exact Or.inr ⟨q, (T.setVm vm₁).calling g' mk As.toArray, t, U', L, E, ce, hT, X', hL, e1, e2, hq, hce, hcv, vx_cls hW₁ hcl, st⟩
end
end VXH
theorem vx_ofWH {l : Launch} {y : MethodName} {ws ws' : List Cond} {rm : Room} {Pc : Array Value → State → Prop} {Qc : Array Value → State → Outcome → State → Prop} {XC : String → State → State → Prop} {mc ms : Nat} {free : Addr → Prop} {cc : ByteArray} {maxL : Nat} {ret : Option FieldType} {hh : List (Nat × Nat × Nat × Nat)}
    (hy : plainName y.cls = true) (hw : ws = Cond.codeWith y cc maxL ret hh :: ws')
    (body : ∀ p e s m args below meth c s₁, BodyLoose p l y (headSpec ws rm) cc maxL ret e s m args below meth c s₁ → c.maxLocals = maxL → Pc args s →
      W p l e (headSpec ws rm).room s m args below meth c s.heap [] 0 0 (vx_MQ below Qc XC args s mc ms free) (entryFrame m args maxL)) : vx_Met l y ws rm Pc Qc XC mc ms free := by
  refine MetFree.of_bodyS (code := cc) (maxLocals := maxL) (ret := ret) hy ?_ ?_
  · intro args s m h hn
    obtain ⟨m9, meth, c, hn9, h1, h2, h3, h4, -, h5, h6, -⟩ := Cond.codeWith_spec (atoms_spec (ws := ws) h _ (by rw [hw]; exact List.mem_cons_self))
    cases hn.symm.trans hn9
    exact ⟨meth, c, h1, h2, h3, h4, h5, h6⟩
  · intro p e s m args below meth c s₁ B hml hP _
    have hh0 : s₁.heap = s.heap := by rw [B.state]; rfl
    obtain ⟨t, a1, o, b1, b2, b3⟩ := body p e s m args below meth c s₁ B hml hP s₁ hh0 (Stand.of_body B)
    exact ⟨t, o, a1, b1, b2, b3⟩
/-! ===== END ===== -/
end
section
def RX0 : String := "LooseHeap$Collector"
def TX0 : u_T := fun k => match k with
  | 0 => ("LooseHeap$Collector", "space", "LLooseHeap$Space;", true)
  | 1 => ("LooseHeap$Collector", "row", "[I", true)
  | 2 => ("LooseHeap$Collector", "rowLength", "I", false)
  | 3 => ("LooseHeap$Collector", "newAddresses", "[I", true)
  | 4 => ("LooseHeap$Collector", "hit", "[Z", true)
  | 5 => ("LooseHeap$Collector", "stays", "[Z", true)
  | 6 => ("LooseHeap$Collector", "target", "I", false)
  | 7 => ("LooseHeap$Collector", "targetFilled", "I", false)
  | 8 => ("LooseHeap$Collector", "moved", "I", false)
  | 9 => ("LooseHeap$Collector", "taken", "I", false)
  | 10 => ("LooseHeap$Collector", "done", "I", false)
  | 11 => ("LooseHeap$Collector", "givenUp", "I", false)
  | 12 => ("LooseHeap$Collector", "latestHit", "[I", true)
  | 13 => ("LooseHeap$Collector", "latestHitPages", "I", false)
  | 14 => ("LooseHeap$Collector", "latestRow", "I", false)
  | 15 => ("LooseHeap$Collector", "latestMoved", "I", false)
  | 16 => ("LooseHeap$Collector", "latestTaken", "I", false)
  | _ => ("LooseHeap$Collector", "latestFreed", "I", false)
def tyX0 : Nat → FieldType := fun k => match k with
  | 0 => .object "LooseHeap$Space"
  | 1 => .array .int
  | 2 => .int
  | 3 => .array .int
  | 4 => .array .boolean
  | 5 => .array .boolean
  | 6 => .int
  | 7 => .int
  | 8 => .int
  | 9 => .int
  | 10 => .int
  | 11 => .int
  | 12 => .array .int
  | 13 => .int
  | 14 => .int
  | 15 => .int
  | 16 => .int
  | _ => .int
abbrev wsX00 : List Cond := u_ws RX0 TX0 18
theorem nmX0 : ∀ a, a < 18 → ∀ b, b < 18 → a ≠ b → (TX0 a).2.1 ≠ (TX0 b).2.1 := by decide +kernel
theorem tyX0_ok : ∀ k, k < 18 → parseFieldDescriptor (TX0 k).2.2.1 = some (tyX0 k) := by decide +kernel
abbrev cX0_init : ByteArray := prog_2_method_1_code
def yX0_init : MethodName := ⟨RX0, "<init>", "(LLooseHeap$Space;)V"⟩
abbrev cX0_startOver : ByteArray := prog_2_method_2_code
def yX0_startOver : MethodName := ⟨RX0, "startOver", "()V"⟩
abbrev cX0_done : ByteArray := prog_2_method_3_code
def yX0_done : MethodName := ⟨RX0, "done", "()I"⟩
abbrev cX0_givenUp : ByteArray := prog_2_method_4_code
def yX0_givenUp : MethodName := ⟨RX0, "givenUp", "()I"⟩
abbrev cX0_hitOf : ByteArray := prog_2_method_5_code
def yX0_hitOf : MethodName := ⟨RX0, "hitOf", "(I)I"⟩
abbrev cX0_hitPages : ByteArray := prog_2_method_6_code
def yX0_hitPages : MethodName := ⟨RX0, "hitPages", "()I"⟩
abbrev cX0_rowObjects : ByteArray := prog_2_method_7_code
def yX0_rowObjects : MethodName := ⟨RX0, "rowObjects", "()I"⟩
abbrev cX0_movedObjects : ByteArray := prog_2_method_8_code
def yX0_movedObjects : MethodName := ⟨RX0, "movedObjects", "()I"⟩
abbrev cX0_takenPages : ByteArray := prog_2_method_9_code
def yX0_takenPages : MethodName := ⟨RX0, "takenPages", "()I"⟩
abbrev cX0_freedPages : ByteArray := prog_2_method_10_code
def yX0_freedPages : MethodName := ⟨RX0, "freedPages", "()I"⟩
abbrev cX0_run : ByteArray := prog_2_method_11_code
def yX0_run : MethodName := ⟨RX0, "run", "([I[I)Z"⟩
abbrev cX0_clearPlan : ByteArray := prog_2_method_12_code
def yX0_clearPlan : MethodName := ⟨RX0, "clearPlan", "()V"⟩
abbrev cX0_markHits : ByteArray := prog_2_method_13_code
def yX0_markHits : MethodName := ⟨RX0, "markHits", "([I)V"⟩
abbrev cX0_markHit : ByteArray := prog_2_method_14_code
def yX0_markHit : MethodName := ⟨RX0, "markHit", "(I)V"⟩
abbrev cX0_keepHitObjects : ByteArray := prog_2_method_15_code
def yX0_keepHitObjects : MethodName := ⟨RX0, "keepHitObjects", "()V"⟩
abbrev cX0_keepObjectsOf : ByteArray := prog_2_method_16_code
def yX0_keepObjectsOf : MethodName := ⟨RX0, "keepObjectsOf", "(I)V"⟩
abbrev cX0_addToRow : ByteArray := prog_2_method_17_code
def yX0_addToRow : MethodName := ⟨RX0, "addToRow", "(II)V"⟩
abbrev cX0_reachFromRoots : ByteArray := prog_2_method_18_code
def yX0_reachFromRoots : MethodName := ⟨RX0, "reachFromRoots", "([I)Z"⟩
abbrev cX0_reachFromRow : ByteArray := prog_2_method_19_code
def yX0_reachFromRow : MethodName := ⟨RX0, "reachFromRow", "()Z"⟩
abbrev cX0_reach : ByteArray := prog_2_method_20_code
def yX0_reach : MethodName := ⟨RX0, "reach", "(I)Z"⟩
abbrev cX0_keepLong : ByteArray := prog_2_method_21_code
def yX0_keepLong : MethodName := ⟨RX0, "keepLong", "(I)V"⟩
abbrev cX0_planMove : ByteArray := prog_2_method_22_code
def yX0_planMove : MethodName := ⟨RX0, "planMove", "(I)Z"⟩
abbrev cX0_moveRow : ByteArray := prog_2_method_23_code
def yX0_moveRow : MethodName := ⟨RX0, "moveRow", "()V"⟩
abbrev cX0_tellNewRefs : ByteArray := prog_2_method_24_code
def yX0_tellNewRefs : MethodName := ⟨RX0, "tellNewRefs", "(I)V"⟩
abbrev cX0_tellNewAddresses : ByteArray := prog_2_method_25_code
def yX0_tellNewAddresses : MethodName := ⟨RX0, "tellNewAddresses", "([I)V"⟩
abbrev cX0_finish : ByteArray := prog_2_method_26_code
def yX0_finish : MethodName := ⟨RX0, "finish", "()V"⟩
def RX1 : String := "LooseHeap$Space"
def TX1 : u_T := fun k => match k with
  | 0 => ("LooseHeap$Space", "memory", "[I", true)
  | 1 => ("LooseHeap$Space", "kinds", "[I", true)
  | 2 => ("LooseHeap$Space", "filled", "[I", true)
  | 3 => ("LooseHeap$Space", "beginnings", "[J", true)
  | 4 => ("LooseHeap$Space", "pages", "I", false)
  | 5 => ("LooseHeap$Space", "words", "I", false)
  | _ => ("LooseHeap$Space", "open", "I", false)
def tyX1 : Nat → FieldType := fun k => match k with
  | 0 => .array .int
  | 1 => .array .int
  | 2 => .array .int
  | 3 => .array .long
  | 4 => .int
  | 5 => .int
  | _ => .int
abbrev wsX10 : List Cond := u_ws RX1 TX1 7
theorem nmX1 : ∀ a, a < 7 → ∀ b, b < 7 → a ≠ b → (TX1 a).2.1 ≠ (TX1 b).2.1 := by decide +kernel
theorem tyX1_ok : ∀ k, k < 7 → parseFieldDescriptor (TX1 k).2.2.1 = some (tyX1 k) := by decide +kernel
abbrev cX1_init : ByteArray := prog_3_method_1_code
def yX1_init : MethodName := ⟨RX1, "<init>", "()V"⟩
abbrev cX1_startOver : ByteArray := prog_3_method_2_code
def yX1_startOver : MethodName := ⟨RX1, "startOver", "(II)V"⟩
abbrev cX1_pages : ByteArray := prog_3_method_3_code
def yX1_pages : MethodName := ⟨RX1, "pages", "()I"⟩
abbrev cX1_words : ByteArray := prog_3_method_4_code
def yX1_words : MethodName := ⟨RX1, "words", "()I"⟩
abbrev cX1_openPage : ByteArray := prog_3_method_5_code
def yX1_openPage : MethodName := ⟨RX1, "openPage", "()I"⟩
abbrev cX1_setOpenPage : ByteArray := prog_3_method_6_code
def yX1_setOpenPage : MethodName := ⟨RX1, "setOpenPage", "(I)V"⟩
abbrev cX1_isPage : ByteArray := prog_3_method_7_code
def yX1_isPage : MethodName := ⟨RX1, "isPage", "(I)Z"⟩
abbrev cX1_isAddress : ByteArray := prog_3_method_8_code
def yX1_isAddress : MethodName := ⟨RX1, "isAddress", "(I)Z"⟩
abbrev cX1_beginsAt : ByteArray := prog_3_method_9_code
def yX1_beginsAt : MethodName := ⟨RX1, "beginsAt", "(I)Z"⟩
abbrev cX1_addressOf : ByteArray := prog_3_method_10_code
def yX1_addressOf : MethodName := ⟨RX1, "addressOf", "(II)I"⟩
abbrev cX1_pageOf : ByteArray := prog_3_method_11_code
def yX1_pageOf : MethodName := ⟨RX1, "pageOf", "(I)I"⟩
abbrev cX1_kindOf : ByteArray := prog_3_method_12_code
def yX1_kindOf : MethodName := ⟨RX1, "kindOf", "(I)I"⟩
abbrev cX1_isFree : ByteArray := prog_3_method_13_code
def yX1_isFree : MethodName := ⟨RX1, "isFree", "(I)Z"⟩
abbrev cX1_filledOf : ByteArray := prog_3_method_14_code
def yX1_filledOf : MethodName := ⟨RX1, "filledOf", "(I)I"⟩
abbrev cX1_objectsOf : ByteArray := prog_3_method_15_code
def yX1_objectsOf : MethodName := ⟨RX1, "objectsOf", "(I)I"⟩
abbrev cX1_usedPages : ByteArray := prog_3_method_16_code
def yX1_usedPages : MethodName := ⟨RX1, "usedPages", "()I"⟩
abbrev cX1_allObjects : ByteArray := prog_3_method_17_code
def yX1_allObjects : MethodName := ⟨RX1, "allObjects", "()I"⟩
abbrev cX1_allFilled : ByteArray := prog_3_method_18_code
def yX1_allFilled : MethodName := ⟨RX1, "allFilled", "()I"⟩
abbrev cX1_wordAt : ByteArray := prog_3_method_19_code
def yX1_wordAt : MethodName := ⟨RX1, "wordAt", "(I)I"⟩
abbrev cX1_refsOf : ByteArray := prog_3_method_20_code
def yX1_refsOf : MethodName := ⟨RX1, "refsOf", "(I)I"⟩
abbrev cX1_dataOf : ByteArray := prog_3_method_21_code
def yX1_dataOf : MethodName := ⟨RX1, "dataOf", "(I)I"⟩
abbrev cX1_sizeOf : ByteArray := prog_3_method_22_code
def yX1_sizeOf : MethodName := ⟨RX1, "sizeOf", "(I)I"⟩
abbrev cX1_isLong : ByteArray := prog_3_method_23_code
def yX1_isLong : MethodName := ⟨RX1, "isLong", "(I)Z"⟩
abbrev cX1_ref : ByteArray := prog_3_method_24_code
def yX1_ref : MethodName := ⟨RX1, "ref", "(II)I"⟩
abbrev cX1_setRef : ByteArray := prog_3_method_25_code
def yX1_setRef : MethodName := ⟨RX1, "setRef", "(III)V"⟩
abbrev cX1_swapData : ByteArray := prog_3_method_26_code
def yX1_swapData : MethodName := ⟨RX1, "swapData", "(III)I"⟩
abbrev cX1_firstPageWith : ByteArray := prog_3_method_27_code
def yX1_firstPageWith : MethodName := ⟨RX1, "firstPageWith", "(I)I"⟩
abbrev cX1_pageBehind : ByteArray := prog_3_method_28_code
def yX1_pageBehind : MethodName := ⟨RX1, "pageBehind", "(I)I"⟩
abbrev cX1_freePageFrom : ByteArray := prog_3_method_29_code
def yX1_freePageFrom : MethodName := ⟨RX1, "freePageFrom", "(I)I"⟩
abbrev cX1_roomFor : ByteArray := prog_3_method_30_code
def yX1_roomFor : MethodName := ⟨RX1, "roomFor", "(I)I"⟩
abbrev cX1_roomForSmall : ByteArray := prog_3_method_31_code
def yX1_roomForSmall : MethodName := ⟨RX1, "roomForSmall", "(I)I"⟩
abbrev cX1_roomForLong : ByteArray := prog_3_method_32_code
def yX1_roomForLong : MethodName := ⟨RX1, "roomForLong", "(I)I"⟩
abbrev cX1_mayTake : ByteArray := prog_3_method_33_code
def yX1_mayTake : MethodName := ⟨RX1, "mayTake", "(I)Z"⟩
abbrev cX1_freeRow : ByteArray := prog_3_method_34_code
def yX1_freeRow : MethodName := ⟨RX1, "freeRow", "(I)I"⟩
abbrev cX1_putNew : ByteArray := prog_3_method_35_code
def yX1_putNew : MethodName := ⟨RX1, "putNew", "(III)V"⟩
abbrev cX1_copySmall : ByteArray := prog_3_method_36_code
def yX1_copySmall : MethodName := ⟨RX1, "copySmall", "(II)V"⟩
abbrev cX1_enterSmall : ByteArray := prog_3_method_37_code
def yX1_enterSmall : MethodName := ⟨RX1, "enterSmall", "(II)V"⟩
abbrev cX1_enterLong : ByteArray := prog_3_method_38_code
def yX1_enterLong : MethodName := ⟨RX1, "enterLong", "(II)V"⟩
abbrev cX1_freePagesBut : ByteArray := prog_3_method_39_code
def yX1_freePagesBut : MethodName := ⟨RX1, "freePagesBut", "([Z)I"⟩
abbrev cX1_freePage : ByteArray := prog_3_method_40_code
def yX1_freePage : MethodName := ⟨RX1, "freePage", "(I)V"⟩
def RX2 : String := "LooseHeap"
def TX2 : u_T := fun k => match k with
  | 0 => ("LooseHeap", "space", "LLooseHeap$Space;", true)
  | 1 => ("LooseHeap", "collector", "LLooseHeap$Collector;", true)
  | 2 => ("LooseHeap", "exactRoots", "[I", true)
  | _ => ("LooseHeap", "looseRoots", "[I", true)
def tyX2 : Nat → FieldType := fun k => match k with
  | 0 => .object "LooseHeap$Space"
  | 1 => .object "LooseHeap$Collector"
  | 2 => .array .int
  | _ => .array .int
abbrev wsX20 : List Cond := u_ws RX2 TX2 4
theorem nmX2 : ∀ a, a < 4 → ∀ b, b < 4 → a ≠ b → (TX2 a).2.1 ≠ (TX2 b).2.1 := by decide +kernel
theorem tyX2_ok : ∀ k, k < 4 → parseFieldDescriptor (TX2 k).2.2.1 = some (tyX2 k) := by decide +kernel
abbrev cX2_init : ByteArray := prog_1_method_1_code
def yX2_init : MethodName := ⟨RX2, "<init>", "()V"⟩
abbrev cX2_format : ByteArray := prog_1_method_2_code
def yX2_format : MethodName := ⟨RX2, "format", "(II)V"⟩
abbrev cX2_make : ByteArray := prog_1_method_3_code
def yX2_make : MethodName := ⟨RX2, "make", "(III)Z"⟩
abbrev cX2_copy : ByteArray := prog_1_method_4_code
def yX2_copy : MethodName := ⟨RX2, "copy", "(II)V"⟩
abbrev cX2_drop : ByteArray := prog_1_method_5_code
def yX2_drop : MethodName := ⟨RX2, "drop", "(I)V"⟩
abbrev cX2_link : ByteArray := prog_1_method_6_code
def yX2_link : MethodName := ⟨RX2, "link", "(III)V"⟩
abbrev cX2_follow : ByteArray := prog_1_method_7_code
def yX2_follow : MethodName := ⟨RX2, "follow", "(III)I"⟩
abbrev cX2_set : ByteArray := prog_1_method_8_code
def yX2_set : MethodName := ⟨RX2, "set", "(III)I"⟩
abbrev cX2_loose : ByteArray := prog_1_method_9_code
def yX2_loose : MethodName := ⟨RX2, "loose", "(II)I"⟩
abbrev cX2_take : ByteArray := prog_1_method_10_code
def yX2_take : MethodName := ⟨RX2, "take", "(II)Z"⟩
abbrev cX2_collect : ByteArray := prog_1_method_11_code
def yX2_collect : MethodName := ⟨RX2, "collect", "()I"⟩
abbrev cX2_root : ByteArray := prog_1_method_12_code
def yX2_root : MethodName := ⟨RX2, "root", "(I)I"⟩
abbrev cX2_word : ByteArray := prog_1_method_13_code
def yX2_word : MethodName := ⟨RX2, "word", "(I)I"⟩
abbrev cX2_object : ByteArray := prog_1_method_14_code
def yX2_object : MethodName := ⟨RX2, "object", "(II)I"⟩
abbrev cX2_page : ByteArray := prog_1_method_15_code
def yX2_page : MethodName := ⟨RX2, "page", "(II)I"⟩
abbrev cX2_look : ByteArray := prog_1_method_16_code
def yX2_look : MethodName := ⟨RX2, "look", "(I)I"⟩
abbrev cX2_startOver : ByteArray := prog_1_method_17_code
def yX2_startOver : MethodName := ⟨RX2, "startOver", "(II)V"⟩
abbrev cX2_isRoot : ByteArray := prog_1_method_18_code
def yX2_isRoot : MethodName := ⟨RX2, "isRoot", "(I)Z"⟩
abbrev cX2_needRoot : ByteArray := prog_1_method_19_code
def yX2_needRoot : MethodName := ⟨RX2, "needRoot", "(I)V"⟩
abbrev cX2_needObject : ByteArray := prog_1_method_20_code
def yX2_needObject : MethodName := ⟨RX2, "needObject", "(I)V"⟩
abbrev cX2_needRef : ByteArray := prog_1_method_21_code
def yX2_needRef : MethodName := ⟨RX2, "needRef", "(II)V"⟩
def RX3 : String := "LooseHeapModel"
def TX3 : u_T := fun k => match k with
  | 0 => ("LooseHeapModel", "thrown", "I", false)
  | 1 => ("LooseHeapModel", "pages", "I", false)
  | 2 => ("LooseHeapModel", "words", "I", false)
  | 3 => ("LooseHeapModel", "kind", "[I", true)
  | 4 => ("LooseHeapModel", "filled", "[I", true)
  | 5 => ("LooseHeapModel", "hit", "[Z", true)
  | 6 => ("LooseHeapModel", "open", "I", false)
  | 7 => ("LooseHeapModel", "objects", "I", false)
  | 8 => ("LooseHeapModel", "address", "[I", true)
  | 9 => ("LooseHeapModel", "refs", "[I", true)
  | 10 => ("LooseHeapModel", "data", "[I", true)
  | 11 => ("LooseHeapModel", "from", "[I", true)
  | 12 => ("LooseHeapModel", "pool", "[I", true)
  | 13 => ("LooseHeapModel", "pooled", "I", false)
  | 14 => ("LooseHeapModel", "exact", "[I", true)
  | 15 => ("LooseHeapModel", "loose", "[I", true)
  | 16 => ("LooseHeapModel", "told", "[I", true)
  | 17 => ("LooseHeapModel", "row", "[I", true)
  | 18 => ("LooseHeapModel", "rowed", "I", false)
  | 19 => ("LooseHeapModel", "next", "[I", true)
  | 20 => ("LooseHeapModel", "isHit", "[Z", true)
  | 21 => ("LooseHeapModel", "taken", "[I", true)
  | 22 => ("LooseHeapModel", "target", "I", false)
  | 23 => ("LooseHeapModel", "targetFilled", "I", false)
  | 24 => ("LooseHeapModel", "takes", "I", false)
  | 25 => ("LooseHeapModel", "moved", "I", false)
  | _ => ("LooseHeapModel", "number", "[I", true)
def tyX3 : Nat → FieldType := fun k => match k with
  | 0 => .int
  | 1 => .int
  | 2 => .int
  | 3 => .array .int
  | 4 => .array .int
  | 5 => .array .boolean
  | 6 => .int
  | 7 => .int
  | 8 => .array .int
  | 9 => .array .int
  | 10 => .array .int
  | 11 => .array .int
  | 12 => .array .int
  | 13 => .int
  | 14 => .array .int
  | 15 => .array .int
  | 16 => .array .int
  | 17 => .array .int
  | 18 => .int
  | 19 => .array .int
  | 20 => .array .boolean
  | 21 => .array .int
  | 22 => .int
  | 23 => .int
  | 24 => .int
  | 25 => .int
  | _ => .array .int
abbrev wsX30 : List Cond := u_ws RX3 TX3 27
theorem nmX3 : ∀ a, a < 27 → ∀ b, b < 27 → a ≠ b → (TX3 a).2.1 ≠ (TX3 b).2.1 := by decide +kernel
theorem tyX3_ok : ∀ k, k < 27 → parseFieldDescriptor (TX3 k).2.2.1 = some (tyX3 k) := by decide +kernel
abbrev cX3_thrown : ByteArray := prog_5_method_1_code
def yX3_thrown : MethodName := ⟨RX3, "thrown", "()I"⟩
abbrev cX3_throwing : ByteArray := prog_5_method_2_code
def yX3_throwing : MethodName := ⟨RX3, "throwing", "(I)I"⟩
abbrev cX3_init : ByteArray := prog_5_method_3_code
def yX3_init : MethodName := ⟨RX3, "<init>", "()V"⟩
abbrev cX3_anew : ByteArray := prog_5_method_4_code
def yX3_anew : MethodName := ⟨RX3, "anew", "(II)V"⟩
abbrev cX3_format : ByteArray := prog_5_method_5_code
def yX3_format : MethodName := ⟨RX3, "format", "(II)V"⟩
abbrev cX3_sizeOf : ByteArray := prog_5_method_6_code
def yX3_sizeOf : MethodName := ⟨RX3, "sizeOf", "(I)I"⟩
abbrev cX3_isLong : ByteArray := prog_5_method_7_code
def yX3_isLong : MethodName := ⟨RX3, "isLong", "(I)Z"⟩
abbrev cX3_used : ByteArray := prog_5_method_8_code
def yX3_used : MethodName := ⟨RX3, "used", "()I"⟩
abbrev cX3_laid : ByteArray := prog_5_method_9_code
def yX3_laid : MethodName := ⟨RX3, "laid", "(I)I"⟩
abbrev cX3_isRoot : ByteArray := prog_5_method_10_code
def yX3_isRoot : MethodName := ⟨RX3, "isRoot", "(I)Z"⟩
abbrev cX3_make : ByteArray := prog_5_method_11_code
def yX3_make : MethodName := ⟨RX3, "make", "(III)Z"⟩
abbrev cX3_firstOf : ByteArray := prog_5_method_12_code
def yX3_firstOf : MethodName := ⟨RX3, "firstOf", "(I)I"⟩
abbrev cX3_hits : ByteArray := prog_5_method_13_code
def yX3_hits : MethodName := ⟨RX3, "hits", "()V"⟩
abbrev cX3_stays : ByteArray := prog_5_method_14_code
def yX3_stays : MethodName := ⟨RX3, "stays", "(I)V"⟩
abbrev cX3_comes : ByteArray := prog_5_method_15_code
def yX3_comes : MethodName := ⟨RX3, "comes", "(I)Z"⟩
abbrev cX3_rows : ByteArray := prog_5_method_16_code
def yX3_rows : MethodName := ⟨RX3, "rows", "()Z"⟩
abbrev cX3_collected : ByteArray := prog_5_method_17_code
def yX3_collected : MethodName := ⟨RX3, "collected", "()Z"⟩
abbrev cX3_goes : ByteArray := prog_5_method_18_code
def yX3_goes : MethodName := ⟨RX3, "goes", "()V"⟩
abbrev cX3_collect : ByteArray := prog_5_method_19_code
def yX3_collect : MethodName := ⟨RX3, "collect", "()I"⟩
abbrev cX3_at : ByteArray := prog_5_method_20_code
def yX3_at : MethodName := ⟨RX3, "at", "(I)I"⟩
abbrev cX3_addressOf : ByteArray := prog_5_method_21_code
def yX3_addressOf : MethodName := ⟨RX3, "addressOf", "(I)I"⟩
abbrev cX3_copy : ByteArray := prog_5_method_22_code
def yX3_copy : MethodName := ⟨RX3, "copy", "(II)V"⟩
abbrev cX3_drop : ByteArray := prog_5_method_23_code
def yX3_drop : MethodName := ⟨RX3, "drop", "(I)V"⟩
abbrev cX3_wrong : ByteArray := prog_5_method_24_code
def yX3_wrong : MethodName := ⟨RX3, "wrong", "(III)I"⟩
abbrev cX3_link : ByteArray := prog_5_method_25_code
def yX3_link : MethodName := ⟨RX3, "link", "(III)V"⟩
abbrev cX3_follow : ByteArray := prog_5_method_26_code
def yX3_follow : MethodName := ⟨RX3, "follow", "(III)I"⟩
abbrev cX3_set : ByteArray := prog_5_method_27_code
def yX3_set : MethodName := ⟨RX3, "set", "(III)I"⟩
abbrev cX3_loose : ByteArray := prog_5_method_28_code
def yX3_loose : MethodName := ⟨RX3, "loose", "(II)I"⟩
abbrev cX3_take : ByteArray := prog_5_method_29_code
def yX3_take : MethodName := ⟨RX3, "take", "(II)Z"⟩
abbrev cX3_root : ByteArray := prog_5_method_30_code
def yX3_root : MethodName := ⟨RX3, "root", "(I)I"⟩
abbrev cX3_word : ByteArray := prog_5_method_31_code
def yX3_word : MethodName := ⟨RX3, "word", "(I)I"⟩
abbrev cX3_object : ByteArray := prog_5_method_32_code
def yX3_object : MethodName := ⟨RX3, "object", "(II)I"⟩
abbrev cX3_beginningIn : ByteArray := prog_5_method_33_code
def yX3_beginningIn : MethodName := ⟨RX3, "beginningIn", "(I)I"⟩
abbrev cX3_page : ByteArray := prog_5_method_34_code
def yX3_page : MethodName := ⟨RX3, "page", "(II)I"⟩
abbrev cX3_allWords : ByteArray := prog_5_method_35_code
def yX3_allWords : MethodName := ⟨RX3, "allWords", "()I"⟩
abbrev cX3_look : ByteArray := prog_5_method_36_code
def yX3_look : MethodName := ⟨RX3, "look", "(I)I"⟩
def RJ13 : String := "java/lang/Long"
def TJ13 : u_T := fun k => match k with
  | _ => ("", "", "", false)
def tyJ13 : Nat → FieldType := fun k => match k with
  | _ => .int
abbrev wsJ130 : List Cond := u_ws RJ13 TJ13 0
theorem nmJ13 : ∀ a, a < 0 → ∀ b, b < 0 → a ≠ b → (TJ13 a).2.1 ≠ (TJ13 b).2.1 := by decide +kernel
theorem tyJ13_ok : ∀ k, k < 0 → parseFieldDescriptor (TJ13 k).2.2.1 = some (tyJ13 k) := by decide +kernel
abbrev cJ13_bitCount_95d88 : ByteArray := prog_9_method_50_code
def yJ13_bitCount_95d88 : MethodName := ⟨RJ13, "bitCount", "(J)I"⟩
def RJ9 : String := "java/lang/Math"
def TJ9 : u_T := fun k => match k with
  | _ => ("", "", "", false)
def tyJ9 : Nat → FieldType := fun k => match k with
  | _ => .int
abbrev wsJ90 : List Cond := u_ws RJ9 TJ9 0
theorem nmJ9 : ∀ a, a < 0 → ∀ b, b < 0 → a ≠ b → (TJ9 a).2.1 ≠ (TJ9 b).2.1 := by decide +kernel
theorem tyJ9_ok : ∀ k, k < 0 → parseFieldDescriptor (TJ9 k).2.2.1 = some (tyJ9 k) := by decide +kernel
abbrev cJ9_min_7cf53 : ByteArray := prog_10_method_69_code
def yJ9_min_7cf53 : MethodName := ⟨RJ9, "min", "(II)I"⟩
def RJ0 : String := "java/lang/String"
def TJ0 : u_T := fun k => match k with
  | _ => ("", "", "", false)
def tyJ0 : Nat → FieldType := fun k => match k with
  | _ => .int
abbrev wsJ00 : List Cond := u_ws RJ0 TJ0 0
theorem nmJ0 : ∀ a, a < 0 → ∀ b, b < 0 → a ≠ b → (TJ0 a).2.1 ≠ (TJ0 b).2.1 := by decide +kernel
theorem tyJ0_ok : ∀ k, k < 0 → parseFieldDescriptor (TJ0 k).2.2.1 = some (tyJ0 k) := by decide +kernel
def RJ10 : String := "java/lang/System"
def TJ10 : u_T := fun k => match k with
  | _ => ("", "", "", false)
def tyJ10 : Nat → FieldType := fun k => match k with
  | _ => .int
abbrev wsJ100 : List Cond := u_ws RJ10 TJ10 0
theorem nmJ10 : ∀ a, a < 0 → ∀ b, b < 0 → a ≠ b → (TJ10 a).2.1 ≠ (TJ10 b).2.1 := by decide +kernel
theorem tyJ10_ok : ∀ k, k < 0 → parseFieldDescriptor (TJ10 k).2.2.1 = some (tyJ10 k) := by decide +kernel
def RJ7 : String := "java/util/Arrays"
def TJ7 : u_T := fun k => match k with
  | _ => ("", "", "", false)
def tyJ7 : Nat → FieldType := fun k => match k with
  | _ => .int
abbrev wsJ70 : List Cond := u_ws RJ7 TJ7 0
theorem nmJ7 : ∀ a, a < 0 → ∀ b, b < 0 → a ≠ b → (TJ7 a).2.1 ≠ (TJ7 b).2.1 := by decide +kernel
theorem tyJ7_ok : ∀ k, k < 0 → parseFieldDescriptor (TJ7 k).2.2.1 = some (tyJ7 k) := by decide +kernel
abbrev cJ7_fill_d0a16 : ByteArray := prog_15_method_101_code
def yJ7_fill_d0a16 : MethodName := ⟨RJ7, "fill", "([JJ)V"⟩
abbrev cJ7_fill_53178 : ByteArray := prog_15_method_103_code
def yJ7_fill_53178 : MethodName := ⟨RJ7, "fill", "([II)V"⟩
def RL : String := "LooseHeapLaw"
abbrev cL_format : ByteArray := method_3_code
def yL_format : MethodName := ⟨RL, "format", "(LLooseHeap;II)I"⟩
abbrev cL_make : ByteArray := method_4_code
def yL_make : MethodName := ⟨RL, "make", "(LLooseHeap;III[J)I"⟩
abbrev cL_copy : ByteArray := method_5_code
def yL_copy : MethodName := ⟨RL, "copy", "(LLooseHeap;II)I"⟩
abbrev cL_drop : ByteArray := method_6_code
def yL_drop : MethodName := ⟨RL, "drop", "(LLooseHeap;I)I"⟩
abbrev cL_link : ByteArray := method_7_code
def yL_link : MethodName := ⟨RL, "link", "(LLooseHeap;III)I"⟩
abbrev cL_follow : ByteArray := method_8_code
def yL_follow : MethodName := ⟨RL, "follow", "(LLooseHeap;III[J)I"⟩
abbrev cL_set : ByteArray := method_9_code
def yL_set : MethodName := ⟨RL, "set", "(LLooseHeap;III[J)I"⟩
abbrev cL_loose : ByteArray := method_10_code
def yL_loose : MethodName := ⟨RL, "loose", "(LLooseHeap;II[J)I"⟩
abbrev cL_take : ByteArray := method_11_code
def yL_take : MethodName := ⟨RL, "take", "(LLooseHeap;II[J)I"⟩
abbrev cL_law : ByteArray := code
def yL_law : MethodName := ⟨RL, "law", "([I)Z"⟩
abbrev vwCl : List vw_C := [(RX0, TX0, 18), (RX1, TX1, 7), (RX2, TX2, 4), (RX3, TX3, 27)]
end
section
theorem dX0_init_0 : decode cX0_init 0 = .ok (.aload_n 0, 1) := by decide +kernel
theorem dX0_init_1 : decode cX0_init 1 = .ok (.invokespecial 3, 3) := by decide +kernel
theorem dX0_init_4 : decode cX0_init 4 = .ok (.aload_n 0, 1) := by decide +kernel
theorem dX0_init_5 : decode cX0_init 5 = .ok (.aload_n 1, 1) := by decide +kernel
theorem dX0_init_6 : decode cX0_init 6 = .ok (.putfield 9, 3) := by decide +kernel
theorem dX0_init_9 : decode cX0_init 9 = .ok (.aload_n 0, 1) := by decide +kernel
theorem dX0_init_10 : decode cX0_init 10 = .ok (.sipush 4096, 3) := by decide +kernel
theorem dX0_init_13 : decode cX0_init 13 = .ok (.newarray .int, 2) := by decide +kernel
theorem dX0_init_15 : decode cX0_init 15 = .ok (.putfield 15, 3) := by decide +kernel
theorem dX0_init_18 : decode cX0_init 18 = .ok (.aload_n 0, 1) := by decide +kernel
theorem dX0_init_19 : decode cX0_init 19 = .ok (.sipush 4096, 3) := by decide +kernel
theorem dX0_init_22 : decode cX0_init 22 = .ok (.newarray .int, 2) := by decide +kernel
theorem dX0_init_24 : decode cX0_init 24 = .ok (.putfield 19, 3) := by decide +kernel
theorem dX0_init_27 : decode cX0_init 27 = .ok (.aload_n 0, 1) := by decide +kernel
theorem dX0_init_28 : decode cX0_init 28 = .ok (.bipush 64, 2) := by decide +kernel
theorem dX0_init_30 : decode cX0_init 30 = .ok (.newarray .boolean, 2) := by decide +kernel
theorem dX0_init_32 : decode cX0_init 32 = .ok (.putfield 22, 3) := by decide +kernel
theorem dX0_init_35 : decode cX0_init 35 = .ok (.aload_n 0, 1) := by decide +kernel
theorem dX0_init_36 : decode cX0_init 36 = .ok (.bipush 64, 2) := by decide +kernel
theorem dX0_init_38 : decode cX0_init 38 = .ok (.newarray .boolean, 2) := by decide +kernel
theorem dX0_init_40 : decode cX0_init 40 = .ok (.putfield 26, 3) := by decide +kernel
theorem dX0_init_43 : decode cX0_init 43 = .ok (.aload_n 0, 1) := by decide +kernel
theorem dX0_init_44 : decode cX0_init 44 = .ok (.bipush 64, 2) := by decide +kernel
theorem dX0_init_46 : decode cX0_init 46 = .ok (.newarray .int, 2) := by decide +kernel
theorem dX0_init_48 : decode cX0_init 48 = .ok (.putfield 29, 3) := by decide +kernel
theorem dX0_init_51 : decode cX0_init 51 = .ok (.return_, 1) := by decide +kernel
theorem dX0_startOver_0 : decode cX0_startOver 0 = .ok (.aload_n 0, 1) := by decide +kernel
theorem dX0_startOver_1 : decode cX0_startOver 1 = .ok (.iconst 0, 1) := by decide +kernel
theorem dX0_startOver_2 : decode cX0_startOver 2 = .ok (.putfield 32, 3) := by decide +kernel
theorem dX0_startOver_5 : decode cX0_startOver 5 = .ok (.aload_n 0, 1) := by decide +kernel
theorem dX0_startOver_6 : decode cX0_startOver 6 = .ok (.iconst 0, 1) := by decide +kernel
theorem dX0_startOver_7 : decode cX0_startOver 7 = .ok (.putfield 36, 3) := by decide +kernel
theorem dX0_startOver_10 : decode cX0_startOver 10 = .ok (.aload_n 0, 1) := by decide +kernel
theorem dX0_startOver_11 : decode cX0_startOver 11 = .ok (.getfield 29, 3) := by decide +kernel
theorem dX0_startOver_14 : decode cX0_startOver 14 = .ok (.iconst 0, 1) := by decide +kernel
theorem dX0_startOver_15 : decode cX0_startOver 15 = .ok (.invokestatic 39, 3) := by decide +kernel
theorem dX0_startOver_18 : decode cX0_startOver 18 = .ok (.aload_n 0, 1) := by decide +kernel
theorem dX0_startOver_19 : decode cX0_startOver 19 = .ok (.iconst 0, 1) := by decide +kernel
theorem dX0_startOver_20 : decode cX0_startOver 20 = .ok (.putfield 45, 3) := by decide +kernel
theorem dX0_startOver_23 : decode cX0_startOver 23 = .ok (.aload_n 0, 1) := by decide +kernel
theorem dX0_startOver_24 : decode cX0_startOver 24 = .ok (.iconst 0, 1) := by decide +kernel
theorem dX0_startOver_25 : decode cX0_startOver 25 = .ok (.putfield 48, 3) := by decide +kernel
theorem dX0_startOver_28 : decode cX0_startOver 28 = .ok (.aload_n 0, 1) := by decide +kernel
theorem dX0_startOver_29 : decode cX0_startOver 29 = .ok (.iconst 0, 1) := by decide +kernel
theorem dX0_startOver_30 : decode cX0_startOver 30 = .ok (.putfield 51, 3) := by decide +kernel
theorem dX0_startOver_33 : decode cX0_startOver 33 = .ok (.aload_n 0, 1) := by decide +kernel
theorem dX0_startOver_34 : decode cX0_startOver 34 = .ok (.iconst 0, 1) := by decide +kernel
theorem dX0_startOver_35 : decode cX0_startOver 35 = .ok (.putfield 54, 3) := by decide +kernel
theorem dX0_startOver_38 : decode cX0_startOver 38 = .ok (.aload_n 0, 1) := by decide +kernel
theorem dX0_startOver_39 : decode cX0_startOver 39 = .ok (.iconst 0, 1) := by decide +kernel
theorem dX0_startOver_40 : decode cX0_startOver 40 = .ok (.putfield 57, 3) := by decide +kernel
theorem dX0_startOver_43 : decode cX0_startOver 43 = .ok (.return_, 1) := by decide +kernel
theorem dX0_done_0 : decode cX0_done 0 = .ok (.aload_n 0, 1) := by decide +kernel
theorem dX0_done_1 : decode cX0_done 1 = .ok (.getfield 32, 3) := by decide +kernel
theorem dX0_done_4 : decode cX0_done 4 = .ok (.ireturn, 1) := by decide +kernel
theorem dX0_givenUp_0 : decode cX0_givenUp 0 = .ok (.aload_n 0, 1) := by decide +kernel
theorem dX0_givenUp_1 : decode cX0_givenUp 1 = .ok (.getfield 36, 3) := by decide +kernel
theorem dX0_givenUp_4 : decode cX0_givenUp 4 = .ok (.ireturn, 1) := by decide +kernel
theorem dX0_hitOf_0 : decode cX0_hitOf 0 = .ok (.aload_n 0, 1) := by decide +kernel
theorem dX0_hitOf_1 : decode cX0_hitOf 1 = .ok (.getfield 29, 3) := by decide +kernel
theorem dX0_hitOf_4 : decode cX0_hitOf 4 = .ok (.iload_n 1, 1) := by decide +kernel
theorem dX0_hitOf_5 : decode cX0_hitOf 5 = .ok (.iaload, 1) := by decide +kernel
theorem dX0_hitOf_6 : decode cX0_hitOf 6 = .ok (.ireturn, 1) := by decide +kernel
theorem dX0_hitPages_0 : decode cX0_hitPages 0 = .ok (.aload_n 0, 1) := by decide +kernel
theorem dX0_hitPages_1 : decode cX0_hitPages 1 = .ok (.getfield 45, 3) := by decide +kernel
theorem dX0_hitPages_4 : decode cX0_hitPages 4 = .ok (.ireturn, 1) := by decide +kernel
theorem dX0_rowObjects_0 : decode cX0_rowObjects 0 = .ok (.aload_n 0, 1) := by decide +kernel
theorem dX0_rowObjects_1 : decode cX0_rowObjects 1 = .ok (.getfield 48, 3) := by decide +kernel
theorem dX0_rowObjects_4 : decode cX0_rowObjects 4 = .ok (.ireturn, 1) := by decide +kernel
theorem dX0_movedObjects_0 : decode cX0_movedObjects 0 = .ok (.aload_n 0, 1) := by decide +kernel
theorem dX0_movedObjects_1 : decode cX0_movedObjects 1 = .ok (.getfield 51, 3) := by decide +kernel
theorem dX0_movedObjects_4 : decode cX0_movedObjects 4 = .ok (.ireturn, 1) := by decide +kernel
theorem dX0_takenPages_0 : decode cX0_takenPages 0 = .ok (.aload_n 0, 1) := by decide +kernel
theorem dX0_takenPages_1 : decode cX0_takenPages 1 = .ok (.getfield 54, 3) := by decide +kernel
theorem dX0_takenPages_4 : decode cX0_takenPages 4 = .ok (.ireturn, 1) := by decide +kernel
theorem dX0_freedPages_0 : decode cX0_freedPages 0 = .ok (.aload_n 0, 1) := by decide +kernel
theorem dX0_freedPages_1 : decode cX0_freedPages 1 = .ok (.getfield 57, 3) := by decide +kernel
theorem dX0_freedPages_4 : decode cX0_freedPages 4 = .ok (.ireturn, 1) := by decide +kernel
theorem dX0_run_0 : decode cX0_run 0 = .ok (.aload_n 0, 1) := by decide +kernel
theorem dX0_run_1 : decode cX0_run 1 = .ok (.invokevirtual 60, 3) := by decide +kernel
theorem dX0_run_4 : decode cX0_run 4 = .ok (.aload_n 0, 1) := by decide +kernel
theorem dX0_run_5 : decode cX0_run 5 = .ok (.aload_n 2, 1) := by decide +kernel
theorem dX0_run_6 : decode cX0_run 6 = .ok (.invokevirtual 63, 3) := by decide +kernel
theorem dX0_run_9 : decode cX0_run 9 = .ok (.aload_n 0, 1) := by decide +kernel
theorem dX0_run_10 : decode cX0_run 10 = .ok (.invokevirtual 67, 3) := by decide +kernel
theorem dX0_run_13 : decode cX0_run 13 = .ok (.aload_n 0, 1) := by decide +kernel
theorem dX0_run_14 : decode cX0_run 14 = .ok (.aload_n 1, 1) := by decide +kernel
theorem dX0_run_15 : decode cX0_run 15 = .ok (.invokevirtual 70, 3) := by decide +kernel
theorem dX0_run_18 : decode cX0_run 18 = .ok (.ifCond .eq 10, 3) := by decide +kernel
theorem dX0_run_21 : decode cX0_run 21 = .ok (.aload_n 0, 1) := by decide +kernel
theorem dX0_run_22 : decode cX0_run 22 = .ok (.invokevirtual 74, 3) := by decide +kernel
theorem dX0_run_25 : decode cX0_run 25 = .ok (.ifCond .ne 15, 3) := by decide +kernel
theorem dX0_run_28 : decode cX0_run 28 = .ok (.aload_n 0, 1) := by decide +kernel
theorem dX0_run_29 : decode cX0_run 29 = .ok (.dup, 1) := by decide +kernel
theorem dX0_run_30 : decode cX0_run 30 = .ok (.getfield 36, 3) := by decide +kernel
theorem dX0_run_33 : decode cX0_run 33 = .ok (.iconst 1, 1) := by decide +kernel
theorem dX0_run_34 : decode cX0_run 34 = .ok (.iadd, 1) := by decide +kernel
theorem dX0_run_35 : decode cX0_run 35 = .ok (.putfield 36, 3) := by decide +kernel
theorem dX0_run_38 : decode cX0_run 38 = .ok (.iconst 0, 1) := by decide +kernel
theorem dX0_run_39 : decode cX0_run 39 = .ok (.ireturn, 1) := by decide +kernel
theorem dX0_run_40 : decode cX0_run 40 = .ok (.aload_n 0, 1) := by decide +kernel
theorem dX0_run_41 : decode cX0_run 41 = .ok (.invokevirtual 78, 3) := by decide +kernel
theorem dX0_run_44 : decode cX0_run 44 = .ok (.aload_n 0, 1) := by decide +kernel
theorem dX0_run_45 : decode cX0_run 45 = .ok (.aload_n 1, 1) := by decide +kernel
theorem dX0_run_46 : decode cX0_run 46 = .ok (.invokevirtual 81, 3) := by decide +kernel
theorem dX0_run_49 : decode cX0_run 49 = .ok (.aload_n 0, 1) := by decide +kernel
theorem dX0_run_50 : decode cX0_run 50 = .ok (.invokevirtual 84, 3) := by decide +kernel
theorem dX0_run_53 : decode cX0_run 53 = .ok (.iconst 1, 1) := by decide +kernel
theorem dX0_run_54 : decode cX0_run 54 = .ok (.ireturn, 1) := by decide +kernel
theorem dX0_clearPlan_0 : decode cX0_clearPlan 0 = .ok (.aload_n 0, 1) := by decide +kernel
theorem dX0_clearPlan_1 : decode cX0_clearPlan 1 = .ok (.iconst 0, 1) := by decide +kernel
theorem dX0_clearPlan_2 : decode cX0_clearPlan 2 = .ok (.putfield 87, 3) := by decide +kernel
theorem dX0_clearPlan_5 : decode cX0_clearPlan 5 = .ok (.aload_n 0, 1) := by decide +kernel
theorem dX0_clearPlan_6 : decode cX0_clearPlan 6 = .ok (.getfield 19, 3) := by decide +kernel
theorem dX0_clearPlan_9 : decode cX0_clearPlan 9 = .ok (.iconst (-1), 1) := by decide +kernel
theorem dX0_clearPlan_10 : decode cX0_clearPlan 10 = .ok (.invokestatic 39, 3) := by decide +kernel
theorem dX0_clearPlan_13 : decode cX0_clearPlan 13 = .ok (.iconst 0, 1) := by decide +kernel
theorem dX0_clearPlan_14 : decode cX0_clearPlan 14 = .ok (.istore_n 1, 1) := by decide +kernel
theorem dX0_clearPlan_15 : decode cX0_clearPlan 15 = .ok (.iload_n 1, 1) := by decide +kernel
theorem dX0_clearPlan_16 : decode cX0_clearPlan 16 = .ok (.bipush 64, 2) := by decide +kernel
theorem dX0_clearPlan_18 : decode cX0_clearPlan 18 = .ok (.if_icmp .ge 23, 3) := by decide +kernel
theorem dX0_clearPlan_21 : decode cX0_clearPlan 21 = .ok (.aload_n 0, 1) := by decide +kernel
theorem dX0_clearPlan_22 : decode cX0_clearPlan 22 = .ok (.getfield 22, 3) := by decide +kernel
theorem dX0_clearPlan_25 : decode cX0_clearPlan 25 = .ok (.iload_n 1, 1) := by decide +kernel
theorem dX0_clearPlan_26 : decode cX0_clearPlan 26 = .ok (.iconst 0, 1) := by decide +kernel
theorem dX0_clearPlan_27 : decode cX0_clearPlan 27 = .ok (.bastore, 1) := by decide +kernel
theorem dX0_clearPlan_28 : decode cX0_clearPlan 28 = .ok (.aload_n 0, 1) := by decide +kernel
theorem dX0_clearPlan_29 : decode cX0_clearPlan 29 = .ok (.getfield 26, 3) := by decide +kernel
theorem dX0_clearPlan_32 : decode cX0_clearPlan 32 = .ok (.iload_n 1, 1) := by decide +kernel
theorem dX0_clearPlan_33 : decode cX0_clearPlan 33 = .ok (.iconst 0, 1) := by decide +kernel
theorem dX0_clearPlan_34 : decode cX0_clearPlan 34 = .ok (.bastore, 1) := by decide +kernel
theorem dX0_clearPlan_35 : decode cX0_clearPlan 35 = .ok (.iinc 1 1, 3) := by decide +kernel
theorem dX0_clearPlan_38 : decode cX0_clearPlan 38 = .ok (.goto (-23), 3) := by decide +kernel
theorem dX0_clearPlan_41 : decode cX0_clearPlan 41 = .ok (.aload_n 0, 1) := by decide +kernel
theorem dX0_clearPlan_42 : decode cX0_clearPlan 42 = .ok (.iconst (-1), 1) := by decide +kernel
theorem dX0_clearPlan_43 : decode cX0_clearPlan 43 = .ok (.putfield 90, 3) := by decide +kernel
theorem dX0_clearPlan_46 : decode cX0_clearPlan 46 = .ok (.aload_n 0, 1) := by decide +kernel
theorem dX0_clearPlan_47 : decode cX0_clearPlan 47 = .ok (.iconst 0, 1) := by decide +kernel
theorem dX0_clearPlan_48 : decode cX0_clearPlan 48 = .ok (.putfield 93, 3) := by decide +kernel
theorem dX0_clearPlan_51 : decode cX0_clearPlan 51 = .ok (.aload_n 0, 1) := by decide +kernel
theorem dX0_clearPlan_52 : decode cX0_clearPlan 52 = .ok (.iconst 0, 1) := by decide +kernel
theorem dX0_clearPlan_53 : decode cX0_clearPlan 53 = .ok (.putfield 96, 3) := by decide +kernel
theorem dX0_clearPlan_56 : decode cX0_clearPlan 56 = .ok (.aload_n 0, 1) := by decide +kernel
theorem dX0_clearPlan_57 : decode cX0_clearPlan 57 = .ok (.iconst 0, 1) := by decide +kernel
theorem dX0_clearPlan_58 : decode cX0_clearPlan 58 = .ok (.putfield 99, 3) := by decide +kernel
theorem dX0_clearPlan_61 : decode cX0_clearPlan 61 = .ok (.return_, 1) := by decide +kernel
theorem dX0_markHits_0 : decode cX0_markHits 0 = .ok (.iconst 0, 1) := by decide +kernel
theorem dX0_markHits_1 : decode cX0_markHits 1 = .ok (.istore_n 2, 1) := by decide +kernel
theorem dX0_markHits_2 : decode cX0_markHits 2 = .ok (.iload_n 2, 1) := by decide +kernel
theorem dX0_markHits_3 : decode cX0_markHits 3 = .ok (.aload_n 1, 1) := by decide +kernel
theorem dX0_markHits_4 : decode cX0_markHits 4 = .ok (.arraylength, 1) := by decide +kernel
theorem dX0_markHits_5 : decode cX0_markHits 5 = .ok (.if_icmp .ge 36, 3) := by decide +kernel
theorem dX0_markHits_8 : decode cX0_markHits 8 = .ok (.aload_n 0, 1) := by decide +kernel
theorem dX0_markHits_9 : decode cX0_markHits 9 = .ok (.getfield 9, 3) := by decide +kernel
theorem dX0_markHits_12 : decode cX0_markHits 12 = .ok (.aload_n 1, 1) := by decide +kernel
theorem dX0_markHits_13 : decode cX0_markHits 13 = .ok (.iload_n 2, 1) := by decide +kernel
theorem dX0_markHits_14 : decode cX0_markHits 14 = .ok (.iaload, 1) := by decide +kernel
theorem dX0_markHits_15 : decode cX0_markHits 15 = .ok (.invokevirtual 102, 3) := by decide +kernel
theorem dX0_markHits_18 : decode cX0_markHits 18 = .ok (.ifCond .eq 17, 3) := by decide +kernel
theorem dX0_markHits_21 : decode cX0_markHits 21 = .ok (.aload_n 0, 1) := by decide +kernel
theorem dX0_markHits_22 : decode cX0_markHits 22 = .ok (.aload_n 0, 1) := by decide +kernel
theorem dX0_markHits_23 : decode cX0_markHits 23 = .ok (.getfield 9, 3) := by decide +kernel
theorem dX0_markHits_26 : decode cX0_markHits 26 = .ok (.aload_n 1, 1) := by decide +kernel
theorem dX0_markHits_27 : decode cX0_markHits 27 = .ok (.iload_n 2, 1) := by decide +kernel
theorem dX0_markHits_28 : decode cX0_markHits 28 = .ok (.iaload, 1) := by decide +kernel
theorem dX0_markHits_29 : decode cX0_markHits 29 = .ok (.invokevirtual 108, 3) := by decide +kernel
theorem dX0_markHits_32 : decode cX0_markHits 32 = .ok (.invokevirtual 112, 3) := by decide +kernel
theorem dX0_markHits_35 : decode cX0_markHits 35 = .ok (.iinc 2 1, 3) := by decide +kernel
theorem dX0_markHits_38 : decode cX0_markHits 38 = .ok (.goto (-36), 3) := by decide +kernel
theorem dX0_markHits_41 : decode cX0_markHits 41 = .ok (.return_, 1) := by decide +kernel
theorem dX0_markHit_0 : decode cX0_markHit 0 = .ok (.aload_n 0, 1) := by decide +kernel
theorem dX0_markHit_1 : decode cX0_markHit 1 = .ok (.getfield 9, 3) := by decide +kernel
theorem dX0_markHit_4 : decode cX0_markHit 4 = .ok (.iload_n 1, 1) := by decide +kernel
theorem dX0_markHit_5 : decode cX0_markHit 5 = .ok (.invokevirtual 116, 3) := by decide +kernel
theorem dX0_markHit_8 : decode cX0_markHit 8 = .ok (.ifCond .eq 4, 3) := by decide +kernel
theorem dX0_markHit_11 : decode cX0_markHit 11 = .ok (.return_, 1) := by decide +kernel
theorem dX0_markHit_12 : decode cX0_markHit 12 = .ok (.aload_n 0, 1) := by decide +kernel
theorem dX0_markHit_13 : decode cX0_markHit 13 = .ok (.getfield 9, 3) := by decide +kernel
theorem dX0_markHit_16 : decode cX0_markHit 16 = .ok (.iload_n 1, 1) := by decide +kernel
theorem dX0_markHit_17 : decode cX0_markHit 17 = .ok (.invokevirtual 119, 3) := by decide +kernel
theorem dX0_markHit_20 : decode cX0_markHit 20 = .ok (.istore_n 2, 1) := by decide +kernel
theorem dX0_markHit_21 : decode cX0_markHit 21 = .ok (.aload_n 0, 1) := by decide +kernel
theorem dX0_markHit_22 : decode cX0_markHit 22 = .ok (.getfield 9, 3) := by decide +kernel
theorem dX0_markHit_25 : decode cX0_markHit 25 = .ok (.iload_n 2, 1) := by decide +kernel
theorem dX0_markHit_26 : decode cX0_markHit 26 = .ok (.invokevirtual 122, 3) := by decide +kernel
theorem dX0_markHit_29 : decode cX0_markHit 29 = .ok (.istore_n 3, 1) := by decide +kernel
theorem dX0_markHit_30 : decode cX0_markHit 30 = .ok (.iload_n 2, 1) := by decide +kernel
theorem dX0_markHit_31 : decode cX0_markHit 31 = .ok (.istore 4, 2) := by decide +kernel
theorem dX0_markHit_33 : decode cX0_markHit 33 = .ok (.iload 4, 2) := by decide +kernel
theorem dX0_markHit_35 : decode cX0_markHit 35 = .ok (.iload_n 3, 1) := by decide +kernel
theorem dX0_markHit_36 : decode cX0_markHit 36 = .ok (.if_icmp .ge 25, 3) := by decide +kernel
theorem dX0_markHit_39 : decode cX0_markHit 39 = .ok (.aload_n 0, 1) := by decide +kernel
theorem dX0_markHit_40 : decode cX0_markHit 40 = .ok (.getfield 22, 3) := by decide +kernel
theorem dX0_markHit_43 : decode cX0_markHit 43 = .ok (.iload 4, 2) := by decide +kernel
theorem dX0_markHit_45 : decode cX0_markHit 45 = .ok (.iconst 1, 1) := by decide +kernel
theorem dX0_markHit_46 : decode cX0_markHit 46 = .ok (.bastore, 1) := by decide +kernel
theorem dX0_markHit_47 : decode cX0_markHit 47 = .ok (.aload_n 0, 1) := by decide +kernel
theorem dX0_markHit_48 : decode cX0_markHit 48 = .ok (.getfield 26, 3) := by decide +kernel
theorem dX0_markHit_51 : decode cX0_markHit 51 = .ok (.iload 4, 2) := by decide +kernel
theorem dX0_markHit_53 : decode cX0_markHit 53 = .ok (.iconst 1, 1) := by decide +kernel
theorem dX0_markHit_54 : decode cX0_markHit 54 = .ok (.bastore, 1) := by decide +kernel
theorem dX0_markHit_55 : decode cX0_markHit 55 = .ok (.iinc 4 1, 3) := by decide +kernel
theorem dX0_markHit_58 : decode cX0_markHit 58 = .ok (.goto (-25), 3) := by decide +kernel
theorem dX0_markHit_61 : decode cX0_markHit 61 = .ok (.return_, 1) := by decide +kernel
theorem dX0_keepHitObjects_0 : decode cX0_keepHitObjects 0 = .ok (.iconst 0, 1) := by decide +kernel
theorem dX0_keepHitObjects_1 : decode cX0_keepHitObjects 1 = .ok (.istore_n 1, 1) := by decide +kernel
theorem dX0_keepHitObjects_2 : decode cX0_keepHitObjects 2 = .ok (.iload_n 1, 1) := by decide +kernel
theorem dX0_keepHitObjects_3 : decode cX0_keepHitObjects 3 = .ok (.aload_n 0, 1) := by decide +kernel
theorem dX0_keepHitObjects_4 : decode cX0_keepHitObjects 4 = .ok (.getfield 9, 3) := by decide +kernel
theorem dX0_keepHitObjects_7 : decode cX0_keepHitObjects 7 = .ok (.invokevirtual 125, 3) := by decide +kernel
theorem dX0_keepHitObjects_10 : decode cX0_keepHitObjects 10 = .ok (.if_icmp .ge 23, 3) := by decide +kernel
theorem dX0_keepHitObjects_13 : decode cX0_keepHitObjects 13 = .ok (.aload_n 0, 1) := by decide +kernel
theorem dX0_keepHitObjects_14 : decode cX0_keepHitObjects 14 = .ok (.getfield 22, 3) := by decide +kernel
theorem dX0_keepHitObjects_17 : decode cX0_keepHitObjects 17 = .ok (.iload_n 1, 1) := by decide +kernel
theorem dX0_keepHitObjects_18 : decode cX0_keepHitObjects 18 = .ok (.baload, 1) := by decide +kernel
theorem dX0_keepHitObjects_19 : decode cX0_keepHitObjects 19 = .ok (.ifCond .eq 8, 3) := by decide +kernel
theorem dX0_keepHitObjects_22 : decode cX0_keepHitObjects 22 = .ok (.aload_n 0, 1) := by decide +kernel
theorem dX0_keepHitObjects_23 : decode cX0_keepHitObjects 23 = .ok (.iload_n 1, 1) := by decide +kernel
theorem dX0_keepHitObjects_24 : decode cX0_keepHitObjects 24 = .ok (.invokevirtual 129, 3) := by decide +kernel
theorem dX0_keepHitObjects_27 : decode cX0_keepHitObjects 27 = .ok (.iinc 1 1, 3) := by decide +kernel
theorem dX0_keepHitObjects_30 : decode cX0_keepHitObjects 30 = .ok (.goto (-28), 3) := by decide +kernel
theorem dX0_keepHitObjects_33 : decode cX0_keepHitObjects 33 = .ok (.return_, 1) := by decide +kernel
theorem dX0_keepObjectsOf_0 : decode cX0_keepObjectsOf 0 = .ok (.iconst 0, 1) := by decide +kernel
theorem dX0_keepObjectsOf_1 : decode cX0_keepObjectsOf 1 = .ok (.istore_n 2, 1) := by decide +kernel
theorem dX0_keepObjectsOf_2 : decode cX0_keepObjectsOf 2 = .ok (.iload_n 2, 1) := by decide +kernel
theorem dX0_keepObjectsOf_3 : decode cX0_keepObjectsOf 3 = .ok (.aload_n 0, 1) := by decide +kernel
theorem dX0_keepObjectsOf_4 : decode cX0_keepObjectsOf 4 = .ok (.getfield 9, 3) := by decide +kernel
theorem dX0_keepObjectsOf_7 : decode cX0_keepObjectsOf 7 = .ok (.invokevirtual 132, 3) := by decide +kernel
theorem dX0_keepObjectsOf_10 : decode cX0_keepObjectsOf 10 = .ok (.if_icmp .ge 36, 3) := by decide +kernel
theorem dX0_keepObjectsOf_13 : decode cX0_keepObjectsOf 13 = .ok (.aload_n 0, 1) := by decide +kernel
theorem dX0_keepObjectsOf_14 : decode cX0_keepObjectsOf 14 = .ok (.getfield 9, 3) := by decide +kernel
theorem dX0_keepObjectsOf_17 : decode cX0_keepObjectsOf 17 = .ok (.iload_n 1, 1) := by decide +kernel
theorem dX0_keepObjectsOf_18 : decode cX0_keepObjectsOf 18 = .ok (.iload_n 2, 1) := by decide +kernel
theorem dX0_keepObjectsOf_19 : decode cX0_keepObjectsOf 19 = .ok (.invokevirtual 135, 3) := by decide +kernel
theorem dX0_keepObjectsOf_22 : decode cX0_keepObjectsOf 22 = .ok (.istore_n 3, 1) := by decide +kernel
theorem dX0_keepObjectsOf_23 : decode cX0_keepObjectsOf 23 = .ok (.aload_n 0, 1) := by decide +kernel
theorem dX0_keepObjectsOf_24 : decode cX0_keepObjectsOf 24 = .ok (.getfield 9, 3) := by decide +kernel
theorem dX0_keepObjectsOf_27 : decode cX0_keepObjectsOf 27 = .ok (.iload_n 3, 1) := by decide +kernel
theorem dX0_keepObjectsOf_28 : decode cX0_keepObjectsOf 28 = .ok (.invokevirtual 139, 3) := by decide +kernel
theorem dX0_keepObjectsOf_31 : decode cX0_keepObjectsOf 31 = .ok (.ifCond .eq 9, 3) := by decide +kernel
theorem dX0_keepObjectsOf_34 : decode cX0_keepObjectsOf 34 = .ok (.aload_n 0, 1) := by decide +kernel
theorem dX0_keepObjectsOf_35 : decode cX0_keepObjectsOf 35 = .ok (.iload_n 3, 1) := by decide +kernel
theorem dX0_keepObjectsOf_36 : decode cX0_keepObjectsOf 36 = .ok (.iload_n 3, 1) := by decide +kernel
theorem dX0_keepObjectsOf_37 : decode cX0_keepObjectsOf 37 = .ok (.invokevirtual 142, 3) := by decide +kernel
theorem dX0_keepObjectsOf_40 : decode cX0_keepObjectsOf 40 = .ok (.iinc 2 1, 3) := by decide +kernel
theorem dX0_keepObjectsOf_43 : decode cX0_keepObjectsOf 43 = .ok (.goto (-41), 3) := by decide +kernel
theorem dX0_keepObjectsOf_46 : decode cX0_keepObjectsOf 46 = .ok (.return_, 1) := by decide +kernel
theorem dX0_addToRow_0 : decode cX0_addToRow 0 = .ok (.aload_n 0, 1) := by decide +kernel
theorem dX0_addToRow_1 : decode cX0_addToRow 1 = .ok (.getfield 15, 3) := by decide +kernel
theorem dX0_addToRow_4 : decode cX0_addToRow 4 = .ok (.aload_n 0, 1) := by decide +kernel
theorem dX0_addToRow_5 : decode cX0_addToRow 5 = .ok (.getfield 87, 3) := by decide +kernel
theorem dX0_addToRow_8 : decode cX0_addToRow 8 = .ok (.iload_n 1, 1) := by decide +kernel
theorem dX0_addToRow_9 : decode cX0_addToRow 9 = .ok (.iastore, 1) := by decide +kernel
theorem dX0_addToRow_10 : decode cX0_addToRow 10 = .ok (.aload_n 0, 1) := by decide +kernel
theorem dX0_addToRow_11 : decode cX0_addToRow 11 = .ok (.dup, 1) := by decide +kernel
theorem dX0_addToRow_12 : decode cX0_addToRow 12 = .ok (.getfield 87, 3) := by decide +kernel
theorem dX0_addToRow_15 : decode cX0_addToRow 15 = .ok (.iconst 1, 1) := by decide +kernel
theorem dX0_addToRow_16 : decode cX0_addToRow 16 = .ok (.iadd, 1) := by decide +kernel
theorem dX0_addToRow_17 : decode cX0_addToRow 17 = .ok (.putfield 87, 3) := by decide +kernel
theorem dX0_addToRow_20 : decode cX0_addToRow 20 = .ok (.aload_n 0, 1) := by decide +kernel
theorem dX0_addToRow_21 : decode cX0_addToRow 21 = .ok (.getfield 19, 3) := by decide +kernel
theorem dX0_addToRow_24 : decode cX0_addToRow 24 = .ok (.iload_n 1, 1) := by decide +kernel
theorem dX0_addToRow_25 : decode cX0_addToRow 25 = .ok (.iload_n 2, 1) := by decide +kernel
theorem dX0_addToRow_26 : decode cX0_addToRow 26 = .ok (.iastore, 1) := by decide +kernel
theorem dX0_addToRow_27 : decode cX0_addToRow 27 = .ok (.return_, 1) := by decide +kernel
theorem dX0_reachFromRoots_0 : decode cX0_reachFromRoots 0 = .ok (.iconst 0, 1) := by decide +kernel
theorem dX0_reachFromRoots_1 : decode cX0_reachFromRoots 1 = .ok (.istore_n 2, 1) := by decide +kernel
theorem dX0_reachFromRoots_2 : decode cX0_reachFromRoots 2 = .ok (.iload_n 2, 1) := by decide +kernel
theorem dX0_reachFromRoots_3 : decode cX0_reachFromRoots 3 = .ok (.aload_n 1, 1) := by decide +kernel
theorem dX0_reachFromRoots_4 : decode cX0_reachFromRoots 4 = .ok (.arraylength, 1) := by decide +kernel
theorem dX0_reachFromRoots_5 : decode cX0_reachFromRoots 5 = .ok (.if_icmp .ge 21, 3) := by decide +kernel
theorem dX0_reachFromRoots_8 : decode cX0_reachFromRoots 8 = .ok (.aload_n 0, 1) := by decide +kernel
theorem dX0_reachFromRoots_9 : decode cX0_reachFromRoots 9 = .ok (.aload_n 1, 1) := by decide +kernel
theorem dX0_reachFromRoots_10 : decode cX0_reachFromRoots 10 = .ok (.iload_n 2, 1) := by decide +kernel
theorem dX0_reachFromRoots_11 : decode cX0_reachFromRoots 11 = .ok (.iaload, 1) := by decide +kernel
theorem dX0_reachFromRoots_12 : decode cX0_reachFromRoots 12 = .ok (.invokevirtual 146, 3) := by decide +kernel
theorem dX0_reachFromRoots_15 : decode cX0_reachFromRoots 15 = .ok (.ifCond .ne 5, 3) := by decide +kernel
theorem dX0_reachFromRoots_18 : decode cX0_reachFromRoots 18 = .ok (.iconst 0, 1) := by decide +kernel
theorem dX0_reachFromRoots_19 : decode cX0_reachFromRoots 19 = .ok (.ireturn, 1) := by decide +kernel
theorem dX0_reachFromRoots_20 : decode cX0_reachFromRoots 20 = .ok (.iinc 2 1, 3) := by decide +kernel
theorem dX0_reachFromRoots_23 : decode cX0_reachFromRoots 23 = .ok (.goto (-21), 3) := by decide +kernel
theorem dX0_reachFromRoots_26 : decode cX0_reachFromRoots 26 = .ok (.iconst 1, 1) := by decide +kernel
theorem dX0_reachFromRoots_27 : decode cX0_reachFromRoots 27 = .ok (.ireturn, 1) := by decide +kernel
theorem dX0_reachFromRow_0 : decode cX0_reachFromRow 0 = .ok (.iconst 0, 1) := by decide +kernel
theorem dX0_reachFromRow_1 : decode cX0_reachFromRow 1 = .ok (.istore_n 1, 1) := by decide +kernel
theorem dX0_reachFromRow_2 : decode cX0_reachFromRow 2 = .ok (.iload_n 1, 1) := by decide +kernel
theorem dX0_reachFromRow_3 : decode cX0_reachFromRow 3 = .ok (.aload_n 0, 1) := by decide +kernel
theorem dX0_reachFromRow_4 : decode cX0_reachFromRow 4 = .ok (.getfield 15, 3) := by decide +kernel
theorem dX0_reachFromRow_7 : decode cX0_reachFromRow 7 = .ok (.arraylength, 1) := by decide +kernel
theorem dX0_reachFromRow_8 : decode cX0_reachFromRow 8 = .ok (.if_icmp .ge 67, 3) := by decide +kernel
theorem dX0_reachFromRow_11 : decode cX0_reachFromRow 11 = .ok (.iload_n 1, 1) := by decide +kernel
theorem dX0_reachFromRow_12 : decode cX0_reachFromRow 12 = .ok (.aload_n 0, 1) := by decide +kernel
theorem dX0_reachFromRow_13 : decode cX0_reachFromRow 13 = .ok (.getfield 87, 3) := by decide +kernel
theorem dX0_reachFromRow_16 : decode cX0_reachFromRow 16 = .ok (.if_icmp .ge 59, 3) := by decide +kernel
theorem dX0_reachFromRow_19 : decode cX0_reachFromRow 19 = .ok (.aload_n 0, 1) := by decide +kernel
theorem dX0_reachFromRow_20 : decode cX0_reachFromRow 20 = .ok (.getfield 9, 3) := by decide +kernel
theorem dX0_reachFromRow_23 : decode cX0_reachFromRow 23 = .ok (.aload_n 0, 1) := by decide +kernel
theorem dX0_reachFromRow_24 : decode cX0_reachFromRow 24 = .ok (.getfield 15, 3) := by decide +kernel
theorem dX0_reachFromRow_27 : decode cX0_reachFromRow 27 = .ok (.iload_n 1, 1) := by decide +kernel
theorem dX0_reachFromRow_28 : decode cX0_reachFromRow 28 = .ok (.iaload, 1) := by decide +kernel
theorem dX0_reachFromRow_29 : decode cX0_reachFromRow 29 = .ok (.invokevirtual 149, 3) := by decide +kernel
theorem dX0_reachFromRow_32 : decode cX0_reachFromRow 32 = .ok (.istore_n 2, 1) := by decide +kernel
theorem dX0_reachFromRow_33 : decode cX0_reachFromRow 33 = .ok (.iconst 0, 1) := by decide +kernel
theorem dX0_reachFromRow_34 : decode cX0_reachFromRow 34 = .ok (.istore_n 3, 1) := by decide +kernel
theorem dX0_reachFromRow_35 : decode cX0_reachFromRow 35 = .ok (.iload_n 3, 1) := by decide +kernel
theorem dX0_reachFromRow_36 : decode cX0_reachFromRow 36 = .ok (.iload_n 2, 1) := by decide +kernel
theorem dX0_reachFromRow_37 : decode cX0_reachFromRow 37 = .ok (.if_icmp .ge 32, 3) := by decide +kernel
theorem dX0_reachFromRow_40 : decode cX0_reachFromRow 40 = .ok (.aload_n 0, 1) := by decide +kernel
theorem dX0_reachFromRow_41 : decode cX0_reachFromRow 41 = .ok (.aload_n 0, 1) := by decide +kernel
theorem dX0_reachFromRow_42 : decode cX0_reachFromRow 42 = .ok (.getfield 9, 3) := by decide +kernel
theorem dX0_reachFromRow_45 : decode cX0_reachFromRow 45 = .ok (.aload_n 0, 1) := by decide +kernel
theorem dX0_reachFromRow_46 : decode cX0_reachFromRow 46 = .ok (.getfield 15, 3) := by decide +kernel
theorem dX0_reachFromRow_49 : decode cX0_reachFromRow 49 = .ok (.iload_n 1, 1) := by decide +kernel
theorem dX0_reachFromRow_50 : decode cX0_reachFromRow 50 = .ok (.iaload, 1) := by decide +kernel
theorem dX0_reachFromRow_51 : decode cX0_reachFromRow 51 = .ok (.iload_n 3, 1) := by decide +kernel
theorem dX0_reachFromRow_52 : decode cX0_reachFromRow 52 = .ok (.invokevirtual 152, 3) := by decide +kernel
theorem dX0_reachFromRow_55 : decode cX0_reachFromRow 55 = .ok (.invokevirtual 146, 3) := by decide +kernel
theorem dX0_reachFromRow_58 : decode cX0_reachFromRow 58 = .ok (.ifCond .ne 5, 3) := by decide +kernel
theorem dX0_reachFromRow_61 : decode cX0_reachFromRow 61 = .ok (.iconst 0, 1) := by decide +kernel
theorem dX0_reachFromRow_62 : decode cX0_reachFromRow 62 = .ok (.ireturn, 1) := by decide +kernel
theorem dX0_reachFromRow_63 : decode cX0_reachFromRow 63 = .ok (.iinc 3 1, 3) := by decide +kernel
theorem dX0_reachFromRow_66 : decode cX0_reachFromRow 66 = .ok (.goto (-31), 3) := by decide +kernel
theorem dX0_reachFromRow_69 : decode cX0_reachFromRow 69 = .ok (.iinc 1 1, 3) := by decide +kernel
theorem dX0_reachFromRow_72 : decode cX0_reachFromRow 72 = .ok (.goto (-70), 3) := by decide +kernel
theorem dX0_reachFromRow_75 : decode cX0_reachFromRow 75 = .ok (.iconst 1, 1) := by decide +kernel
theorem dX0_reachFromRow_76 : decode cX0_reachFromRow 76 = .ok (.ireturn, 1) := by decide +kernel
theorem dX0_reach_0 : decode cX0_reach 0 = .ok (.iload_n 1, 1) := by decide +kernel
theorem dX0_reach_1 : decode cX0_reach 1 = .ok (.iconst (-1), 1) := by decide +kernel
theorem dX0_reach_2 : decode cX0_reach 2 = .ok (.if_icmp .eq 13, 3) := by decide +kernel
theorem dX0_reach_5 : decode cX0_reach 5 = .ok (.aload_n 0, 1) := by decide +kernel
theorem dX0_reach_6 : decode cX0_reach 6 = .ok (.getfield 19, 3) := by decide +kernel
theorem dX0_reach_9 : decode cX0_reach 9 = .ok (.iload_n 1, 1) := by decide +kernel
theorem dX0_reach_10 : decode cX0_reach 10 = .ok (.iaload, 1) := by decide +kernel
theorem dX0_reach_11 : decode cX0_reach 11 = .ok (.iconst (-1), 1) := by decide +kernel
theorem dX0_reach_12 : decode cX0_reach 12 = .ok (.if_icmp .eq 5, 3) := by decide +kernel
theorem dX0_reach_15 : decode cX0_reach 15 = .ok (.iconst 1, 1) := by decide +kernel
theorem dX0_reach_16 : decode cX0_reach 16 = .ok (.ireturn, 1) := by decide +kernel
theorem dX0_reach_17 : decode cX0_reach 17 = .ok (.aload_n 0, 1) := by decide +kernel
theorem dX0_reach_18 : decode cX0_reach 18 = .ok (.getfield 9, 3) := by decide +kernel
theorem dX0_reach_21 : decode cX0_reach 21 = .ok (.iload_n 1, 1) := by decide +kernel
theorem dX0_reach_22 : decode cX0_reach 22 = .ok (.invokevirtual 155, 3) := by decide +kernel
theorem dX0_reach_25 : decode cX0_reach 25 = .ok (.ifCond .eq 10, 3) := by decide +kernel
theorem dX0_reach_28 : decode cX0_reach 28 = .ok (.aload_n 0, 1) := by decide +kernel
theorem dX0_reach_29 : decode cX0_reach 29 = .ok (.iload_n 1, 1) := by decide +kernel
theorem dX0_reach_30 : decode cX0_reach 30 = .ok (.invokevirtual 158, 3) := by decide +kernel
theorem dX0_reach_33 : decode cX0_reach 33 = .ok (.iconst 1, 1) := by decide +kernel
theorem dX0_reach_34 : decode cX0_reach 34 = .ok (.ireturn, 1) := by decide +kernel
theorem dX0_reach_35 : decode cX0_reach 35 = .ok (.aload_n 0, 1) := by decide +kernel
theorem dX0_reach_36 : decode cX0_reach 36 = .ok (.iload_n 1, 1) := by decide +kernel
theorem dX0_reach_37 : decode cX0_reach 37 = .ok (.invokevirtual 161, 3) := by decide +kernel
theorem dX0_reach_40 : decode cX0_reach 40 = .ok (.ireturn, 1) := by decide +kernel
theorem dX0_keepLong_0 : decode cX0_keepLong 0 = .ok (.aload_n 0, 1) := by decide +kernel
theorem dX0_keepLong_1 : decode cX0_keepLong 1 = .ok (.getfield 9, 3) := by decide +kernel
theorem dX0_keepLong_4 : decode cX0_keepLong 4 = .ok (.iload_n 1, 1) := by decide +kernel
theorem dX0_keepLong_5 : decode cX0_keepLong 5 = .ok (.invokevirtual 108, 3) := by decide +kernel
theorem dX0_keepLong_8 : decode cX0_keepLong 8 = .ok (.istore_n 2, 1) := by decide +kernel
theorem dX0_keepLong_9 : decode cX0_keepLong 9 = .ok (.aload_n 0, 1) := by decide +kernel
theorem dX0_keepLong_10 : decode cX0_keepLong 10 = .ok (.getfield 9, 3) := by decide +kernel
theorem dX0_keepLong_13 : decode cX0_keepLong 13 = .ok (.iload_n 2, 1) := by decide +kernel
theorem dX0_keepLong_14 : decode cX0_keepLong 14 = .ok (.invokevirtual 122, 3) := by decide +kernel
theorem dX0_keepLong_17 : decode cX0_keepLong 17 = .ok (.istore_n 3, 1) := by decide +kernel
theorem dX0_keepLong_18 : decode cX0_keepLong 18 = .ok (.iload_n 2, 1) := by decide +kernel
theorem dX0_keepLong_19 : decode cX0_keepLong 19 = .ok (.istore 4, 2) := by decide +kernel
theorem dX0_keepLong_21 : decode cX0_keepLong 21 = .ok (.iload 4, 2) := by decide +kernel
theorem dX0_keepLong_23 : decode cX0_keepLong 23 = .ok (.iload_n 3, 1) := by decide +kernel
theorem dX0_keepLong_24 : decode cX0_keepLong 24 = .ok (.if_icmp .ge 17, 3) := by decide +kernel
theorem dX0_keepLong_27 : decode cX0_keepLong 27 = .ok (.aload_n 0, 1) := by decide +kernel
theorem dX0_keepLong_28 : decode cX0_keepLong 28 = .ok (.getfield 26, 3) := by decide +kernel
theorem dX0_keepLong_31 : decode cX0_keepLong 31 = .ok (.iload 4, 2) := by decide +kernel
theorem dX0_keepLong_33 : decode cX0_keepLong 33 = .ok (.iconst 1, 1) := by decide +kernel
theorem dX0_keepLong_34 : decode cX0_keepLong 34 = .ok (.bastore, 1) := by decide +kernel
theorem dX0_keepLong_35 : decode cX0_keepLong 35 = .ok (.iinc 4 1, 3) := by decide +kernel
theorem dX0_keepLong_38 : decode cX0_keepLong 38 = .ok (.goto (-17), 3) := by decide +kernel
theorem dX0_keepLong_41 : decode cX0_keepLong 41 = .ok (.aload_n 0, 1) := by decide +kernel
theorem dX0_keepLong_42 : decode cX0_keepLong 42 = .ok (.iload_n 1, 1) := by decide +kernel
theorem dX0_keepLong_43 : decode cX0_keepLong 43 = .ok (.iload_n 1, 1) := by decide +kernel
theorem dX0_keepLong_44 : decode cX0_keepLong 44 = .ok (.invokevirtual 142, 3) := by decide +kernel
theorem dX0_keepLong_47 : decode cX0_keepLong 47 = .ok (.return_, 1) := by decide +kernel
theorem dX0_planMove_0 : decode cX0_planMove 0 = .ok (.aload_n 0, 1) := by decide +kernel
theorem dX0_planMove_1 : decode cX0_planMove 1 = .ok (.getfield 9, 3) := by decide +kernel
theorem dX0_planMove_4 : decode cX0_planMove 4 = .ok (.iload_n 1, 1) := by decide +kernel
theorem dX0_planMove_5 : decode cX0_planMove 5 = .ok (.invokevirtual 164, 3) := by decide +kernel
theorem dX0_planMove_8 : decode cX0_planMove 8 = .ok (.istore_n 2, 1) := by decide +kernel
theorem dX0_planMove_9 : decode cX0_planMove 9 = .ok (.aload_n 0, 1) := by decide +kernel
theorem dX0_planMove_10 : decode cX0_planMove 10 = .ok (.getfield 90, 3) := by decide +kernel
theorem dX0_planMove_13 : decode cX0_planMove 13 = .ok (.iconst (-1), 1) := by decide +kernel
theorem dX0_planMove_14 : decode cX0_planMove 14 = .ok (.if_icmp .eq 19, 3) := by decide +kernel
theorem dX0_planMove_17 : decode cX0_planMove 17 = .ok (.iload_n 2, 1) := by decide +kernel
theorem dX0_planMove_18 : decode cX0_planMove 18 = .ok (.aload_n 0, 1) := by decide +kernel
theorem dX0_planMove_19 : decode cX0_planMove 19 = .ok (.getfield 9, 3) := by decide +kernel
theorem dX0_planMove_22 : decode cX0_planMove 22 = .ok (.invokevirtual 132, 3) := by decide +kernel
theorem dX0_planMove_25 : decode cX0_planMove 25 = .ok (.aload_n 0, 1) := by decide +kernel
theorem dX0_planMove_26 : decode cX0_planMove 26 = .ok (.getfield 93, 3) := by decide +kernel
theorem dX0_planMove_29 : decode cX0_planMove 29 = .ok (.isub, 1) := by decide +kernel
theorem dX0_planMove_30 : decode cX0_planMove 30 = .ok (.if_icmp .le 51, 3) := by decide +kernel
theorem dX0_planMove_33 : decode cX0_planMove 33 = .ok (.aload_n 0, 1) := by decide +kernel
theorem dX0_planMove_34 : decode cX0_planMove 34 = .ok (.getfield 9, 3) := by decide +kernel
theorem dX0_planMove_37 : decode cX0_planMove 37 = .ok (.aload_n 0, 1) := by decide +kernel
theorem dX0_planMove_38 : decode cX0_planMove 38 = .ok (.getfield 90, 3) := by decide +kernel
theorem dX0_planMove_41 : decode cX0_planMove 41 = .ok (.iconst 1, 1) := by decide +kernel
theorem dX0_planMove_42 : decode cX0_planMove 42 = .ok (.iadd, 1) := by decide +kernel
theorem dX0_planMove_43 : decode cX0_planMove 43 = .ok (.invokevirtual 167, 3) := by decide +kernel
theorem dX0_planMove_46 : decode cX0_planMove 46 = .ok (.istore_n 3, 1) := by decide +kernel
theorem dX0_planMove_47 : decode cX0_planMove 47 = .ok (.iload_n 3, 1) := by decide +kernel
theorem dX0_planMove_48 : decode cX0_planMove 48 = .ok (.iconst (-1), 1) := by decide +kernel
theorem dX0_planMove_49 : decode cX0_planMove 49 = .ok (.if_icmp .ne 5, 3) := by decide +kernel
theorem dX0_planMove_52 : decode cX0_planMove 52 = .ok (.iconst 0, 1) := by decide +kernel
theorem dX0_planMove_53 : decode cX0_planMove 53 = .ok (.ireturn, 1) := by decide +kernel
theorem dX0_planMove_54 : decode cX0_planMove 54 = .ok (.aload_n 0, 1) := by decide +kernel
theorem dX0_planMove_55 : decode cX0_planMove 55 = .ok (.iload_n 3, 1) := by decide +kernel
theorem dX0_planMove_56 : decode cX0_planMove 56 = .ok (.putfield 90, 3) := by decide +kernel
theorem dX0_planMove_59 : decode cX0_planMove 59 = .ok (.aload_n 0, 1) := by decide +kernel
theorem dX0_planMove_60 : decode cX0_planMove 60 = .ok (.iconst 0, 1) := by decide +kernel
theorem dX0_planMove_61 : decode cX0_planMove 61 = .ok (.putfield 93, 3) := by decide +kernel
theorem dX0_planMove_64 : decode cX0_planMove 64 = .ok (.aload_n 0, 1) := by decide +kernel
theorem dX0_planMove_65 : decode cX0_planMove 65 = .ok (.getfield 26, 3) := by decide +kernel
theorem dX0_planMove_68 : decode cX0_planMove 68 = .ok (.iload_n 3, 1) := by decide +kernel
theorem dX0_planMove_69 : decode cX0_planMove 69 = .ok (.iconst 1, 1) := by decide +kernel
theorem dX0_planMove_70 : decode cX0_planMove 70 = .ok (.bastore, 1) := by decide +kernel
theorem dX0_planMove_71 : decode cX0_planMove 71 = .ok (.aload_n 0, 1) := by decide +kernel
theorem dX0_planMove_72 : decode cX0_planMove 72 = .ok (.dup, 1) := by decide +kernel
theorem dX0_planMove_73 : decode cX0_planMove 73 = .ok (.getfield 99, 3) := by decide +kernel
theorem dX0_planMove_76 : decode cX0_planMove 76 = .ok (.iconst 1, 1) := by decide +kernel
theorem dX0_planMove_77 : decode cX0_planMove 77 = .ok (.iadd, 1) := by decide +kernel
theorem dX0_planMove_78 : decode cX0_planMove 78 = .ok (.putfield 99, 3) := by decide +kernel
theorem dX0_planMove_81 : decode cX0_planMove 81 = .ok (.aload_n 0, 1) := by decide +kernel
theorem dX0_planMove_82 : decode cX0_planMove 82 = .ok (.iload_n 1, 1) := by decide +kernel
theorem dX0_planMove_83 : decode cX0_planMove 83 = .ok (.aload_n 0, 1) := by decide +kernel
theorem dX0_planMove_84 : decode cX0_planMove 84 = .ok (.getfield 9, 3) := by decide +kernel
theorem dX0_planMove_87 : decode cX0_planMove 87 = .ok (.aload_n 0, 1) := by decide +kernel
theorem dX0_planMove_88 : decode cX0_planMove 88 = .ok (.getfield 90, 3) := by decide +kernel
theorem dX0_planMove_91 : decode cX0_planMove 91 = .ok (.aload_n 0, 1) := by decide +kernel
theorem dX0_planMove_92 : decode cX0_planMove 92 = .ok (.getfield 93, 3) := by decide +kernel
theorem dX0_planMove_95 : decode cX0_planMove 95 = .ok (.invokevirtual 135, 3) := by decide +kernel
theorem dX0_planMove_98 : decode cX0_planMove 98 = .ok (.invokevirtual 142, 3) := by decide +kernel
theorem dX0_planMove_101 : decode cX0_planMove 101 = .ok (.aload_n 0, 1) := by decide +kernel
theorem dX0_planMove_102 : decode cX0_planMove 102 = .ok (.dup, 1) := by decide +kernel
theorem dX0_planMove_103 : decode cX0_planMove 103 = .ok (.getfield 93, 3) := by decide +kernel
theorem dX0_planMove_106 : decode cX0_planMove 106 = .ok (.iload_n 2, 1) := by decide +kernel
theorem dX0_planMove_107 : decode cX0_planMove 107 = .ok (.iadd, 1) := by decide +kernel
theorem dX0_planMove_108 : decode cX0_planMove 108 = .ok (.putfield 93, 3) := by decide +kernel
theorem dX0_planMove_111 : decode cX0_planMove 111 = .ok (.aload_n 0, 1) := by decide +kernel
theorem dX0_planMove_112 : decode cX0_planMove 112 = .ok (.dup, 1) := by decide +kernel
theorem dX0_planMove_113 : decode cX0_planMove 113 = .ok (.getfield 96, 3) := by decide +kernel
theorem dX0_planMove_116 : decode cX0_planMove 116 = .ok (.iconst 1, 1) := by decide +kernel
theorem dX0_planMove_117 : decode cX0_planMove 117 = .ok (.iadd, 1) := by decide +kernel
theorem dX0_planMove_118 : decode cX0_planMove 118 = .ok (.putfield 96, 3) := by decide +kernel
theorem dX0_planMove_121 : decode cX0_planMove 121 = .ok (.iconst 1, 1) := by decide +kernel
theorem dX0_planMove_122 : decode cX0_planMove 122 = .ok (.ireturn, 1) := by decide +kernel
theorem dX0_moveRow_0 : decode cX0_moveRow 0 = .ok (.iconst 0, 1) := by decide +kernel
theorem dX0_moveRow_1 : decode cX0_moveRow 1 = .ok (.istore_n 1, 1) := by decide +kernel
theorem dX0_moveRow_2 : decode cX0_moveRow 2 = .ok (.iload_n 1, 1) := by decide +kernel
theorem dX0_moveRow_3 : decode cX0_moveRow 3 = .ok (.aload_n 0, 1) := by decide +kernel
theorem dX0_moveRow_4 : decode cX0_moveRow 4 = .ok (.getfield 87, 3) := by decide +kernel
theorem dX0_moveRow_7 : decode cX0_moveRow 7 = .ok (.if_icmp .ge 42, 3) := by decide +kernel
theorem dX0_moveRow_10 : decode cX0_moveRow 10 = .ok (.aload_n 0, 1) := by decide +kernel
theorem dX0_moveRow_11 : decode cX0_moveRow 11 = .ok (.getfield 15, 3) := by decide +kernel
theorem dX0_moveRow_14 : decode cX0_moveRow 14 = .ok (.iload_n 1, 1) := by decide +kernel
theorem dX0_moveRow_15 : decode cX0_moveRow 15 = .ok (.iaload, 1) := by decide +kernel
theorem dX0_moveRow_16 : decode cX0_moveRow 16 = .ok (.istore_n 2, 1) := by decide +kernel
theorem dX0_moveRow_17 : decode cX0_moveRow 17 = .ok (.aload_n 0, 1) := by decide +kernel
theorem dX0_moveRow_18 : decode cX0_moveRow 18 = .ok (.getfield 19, 3) := by decide +kernel
theorem dX0_moveRow_21 : decode cX0_moveRow 21 = .ok (.iload_n 2, 1) := by decide +kernel
theorem dX0_moveRow_22 : decode cX0_moveRow 22 = .ok (.iaload, 1) := by decide +kernel
theorem dX0_moveRow_23 : decode cX0_moveRow 23 = .ok (.istore_n 3, 1) := by decide +kernel
theorem dX0_moveRow_24 : decode cX0_moveRow 24 = .ok (.iload_n 2, 1) := by decide +kernel
theorem dX0_moveRow_25 : decode cX0_moveRow 25 = .ok (.iload_n 3, 1) := by decide +kernel
theorem dX0_moveRow_26 : decode cX0_moveRow 26 = .ok (.if_icmp .eq 12, 3) := by decide +kernel
theorem dX0_moveRow_29 : decode cX0_moveRow 29 = .ok (.aload_n 0, 1) := by decide +kernel
theorem dX0_moveRow_30 : decode cX0_moveRow 30 = .ok (.getfield 9, 3) := by decide +kernel
theorem dX0_moveRow_33 : decode cX0_moveRow 33 = .ok (.iload_n 2, 1) := by decide +kernel
theorem dX0_moveRow_34 : decode cX0_moveRow 34 = .ok (.iload_n 3, 1) := by decide +kernel
theorem dX0_moveRow_35 : decode cX0_moveRow 35 = .ok (.invokevirtual 170, 3) := by decide +kernel
theorem dX0_moveRow_38 : decode cX0_moveRow 38 = .ok (.aload_n 0, 1) := by decide +kernel
theorem dX0_moveRow_39 : decode cX0_moveRow 39 = .ok (.iload_n 3, 1) := by decide +kernel
theorem dX0_moveRow_40 : decode cX0_moveRow 40 = .ok (.invokevirtual 173, 3) := by decide +kernel
theorem dX0_moveRow_43 : decode cX0_moveRow 43 = .ok (.iinc 1 1, 3) := by decide +kernel
theorem dX0_moveRow_46 : decode cX0_moveRow 46 = .ok (.goto (-44), 3) := by decide +kernel
theorem dX0_moveRow_49 : decode cX0_moveRow 49 = .ok (.return_, 1) := by decide +kernel
theorem dX0_tellNewRefs_0 : decode cX0_tellNewRefs 0 = .ok (.aload_n 0, 1) := by decide +kernel
theorem dX0_tellNewRefs_1 : decode cX0_tellNewRefs 1 = .ok (.getfield 9, 3) := by decide +kernel
theorem dX0_tellNewRefs_4 : decode cX0_tellNewRefs 4 = .ok (.iload_n 1, 1) := by decide +kernel
theorem dX0_tellNewRefs_5 : decode cX0_tellNewRefs 5 = .ok (.invokevirtual 149, 3) := by decide +kernel
theorem dX0_tellNewRefs_8 : decode cX0_tellNewRefs 8 = .ok (.istore_n 2, 1) := by decide +kernel
theorem dX0_tellNewRefs_9 : decode cX0_tellNewRefs 9 = .ok (.iconst 0, 1) := by decide +kernel
theorem dX0_tellNewRefs_10 : decode cX0_tellNewRefs 10 = .ok (.istore_n 3, 1) := by decide +kernel
theorem dX0_tellNewRefs_11 : decode cX0_tellNewRefs 11 = .ok (.iload_n 3, 1) := by decide +kernel
theorem dX0_tellNewRefs_12 : decode cX0_tellNewRefs 12 = .ok (.iload_n 2, 1) := by decide +kernel
theorem dX0_tellNewRefs_13 : decode cX0_tellNewRefs 13 = .ok (.if_icmp .ge 42, 3) := by decide +kernel
theorem dX0_tellNewRefs_16 : decode cX0_tellNewRefs 16 = .ok (.aload_n 0, 1) := by decide +kernel
theorem dX0_tellNewRefs_17 : decode cX0_tellNewRefs 17 = .ok (.getfield 9, 3) := by decide +kernel
theorem dX0_tellNewRefs_20 : decode cX0_tellNewRefs 20 = .ok (.iload_n 1, 1) := by decide +kernel
theorem dX0_tellNewRefs_21 : decode cX0_tellNewRefs 21 = .ok (.iload_n 3, 1) := by decide +kernel
theorem dX0_tellNewRefs_22 : decode cX0_tellNewRefs 22 = .ok (.invokevirtual 152, 3) := by decide +kernel
theorem dX0_tellNewRefs_25 : decode cX0_tellNewRefs 25 = .ok (.istore 4, 2) := by decide +kernel
theorem dX0_tellNewRefs_27 : decode cX0_tellNewRefs 27 = .ok (.iload 4, 2) := by decide +kernel
theorem dX0_tellNewRefs_29 : decode cX0_tellNewRefs 29 = .ok (.iconst (-1), 1) := by decide +kernel
theorem dX0_tellNewRefs_30 : decode cX0_tellNewRefs 30 = .ok (.if_icmp .eq 19, 3) := by decide +kernel
theorem dX0_tellNewRefs_33 : decode cX0_tellNewRefs 33 = .ok (.aload_n 0, 1) := by decide +kernel
theorem dX0_tellNewRefs_34 : decode cX0_tellNewRefs 34 = .ok (.getfield 9, 3) := by decide +kernel
theorem dX0_tellNewRefs_37 : decode cX0_tellNewRefs 37 = .ok (.iload_n 1, 1) := by decide +kernel
theorem dX0_tellNewRefs_38 : decode cX0_tellNewRefs 38 = .ok (.iload_n 3, 1) := by decide +kernel
theorem dX0_tellNewRefs_39 : decode cX0_tellNewRefs 39 = .ok (.aload_n 0, 1) := by decide +kernel
theorem dX0_tellNewRefs_40 : decode cX0_tellNewRefs 40 = .ok (.getfield 19, 3) := by decide +kernel
theorem dX0_tellNewRefs_43 : decode cX0_tellNewRefs 43 = .ok (.iload 4, 2) := by decide +kernel
theorem dX0_tellNewRefs_45 : decode cX0_tellNewRefs 45 = .ok (.iaload, 1) := by decide +kernel
theorem dX0_tellNewRefs_46 : decode cX0_tellNewRefs 46 = .ok (.invokevirtual 176, 3) := by decide +kernel
theorem dX0_tellNewRefs_49 : decode cX0_tellNewRefs 49 = .ok (.iinc 3 1, 3) := by decide +kernel
theorem dX0_tellNewRefs_52 : decode cX0_tellNewRefs 52 = .ok (.goto (-41), 3) := by decide +kernel
theorem dX0_tellNewRefs_55 : decode cX0_tellNewRefs 55 = .ok (.return_, 1) := by decide +kernel
theorem dX0_tellNewAddresses_0 : decode cX0_tellNewAddresses 0 = .ok (.iconst 0, 1) := by decide +kernel
theorem dX0_tellNewAddresses_1 : decode cX0_tellNewAddresses 1 = .ok (.istore_n 2, 1) := by decide +kernel
theorem dX0_tellNewAddresses_2 : decode cX0_tellNewAddresses 2 = .ok (.iload_n 2, 1) := by decide +kernel
theorem dX0_tellNewAddresses_3 : decode cX0_tellNewAddresses 3 = .ok (.aload_n 1, 1) := by decide +kernel
theorem dX0_tellNewAddresses_4 : decode cX0_tellNewAddresses 4 = .ok (.arraylength, 1) := by decide +kernel
theorem dX0_tellNewAddresses_5 : decode cX0_tellNewAddresses 5 = .ok (.if_icmp .ge 27, 3) := by decide +kernel
theorem dX0_tellNewAddresses_8 : decode cX0_tellNewAddresses 8 = .ok (.aload_n 1, 1) := by decide +kernel
theorem dX0_tellNewAddresses_9 : decode cX0_tellNewAddresses 9 = .ok (.iload_n 2, 1) := by decide +kernel
theorem dX0_tellNewAddresses_10 : decode cX0_tellNewAddresses 10 = .ok (.iaload, 1) := by decide +kernel
theorem dX0_tellNewAddresses_11 : decode cX0_tellNewAddresses 11 = .ok (.iconst (-1), 1) := by decide +kernel
theorem dX0_tellNewAddresses_12 : decode cX0_tellNewAddresses 12 = .ok (.if_icmp .eq 14, 3) := by decide +kernel
theorem dX0_tellNewAddresses_15 : decode cX0_tellNewAddresses 15 = .ok (.aload_n 1, 1) := by decide +kernel
theorem dX0_tellNewAddresses_16 : decode cX0_tellNewAddresses 16 = .ok (.iload_n 2, 1) := by decide +kernel
theorem dX0_tellNewAddresses_17 : decode cX0_tellNewAddresses 17 = .ok (.aload_n 0, 1) := by decide +kernel
theorem dX0_tellNewAddresses_18 : decode cX0_tellNewAddresses 18 = .ok (.getfield 19, 3) := by decide +kernel
theorem dX0_tellNewAddresses_21 : decode cX0_tellNewAddresses 21 = .ok (.aload_n 1, 1) := by decide +kernel
theorem dX0_tellNewAddresses_22 : decode cX0_tellNewAddresses 22 = .ok (.iload_n 2, 1) := by decide +kernel
theorem dX0_tellNewAddresses_23 : decode cX0_tellNewAddresses 23 = .ok (.iaload, 1) := by decide +kernel
theorem dX0_tellNewAddresses_24 : decode cX0_tellNewAddresses 24 = .ok (.iaload, 1) := by decide +kernel
theorem dX0_tellNewAddresses_25 : decode cX0_tellNewAddresses 25 = .ok (.iastore, 1) := by decide +kernel
theorem dX0_tellNewAddresses_26 : decode cX0_tellNewAddresses 26 = .ok (.iinc 2 1, 3) := by decide +kernel
theorem dX0_tellNewAddresses_29 : decode cX0_tellNewAddresses 29 = .ok (.goto (-27), 3) := by decide +kernel
theorem dX0_tellNewAddresses_32 : decode cX0_tellNewAddresses 32 = .ok (.return_, 1) := by decide +kernel
theorem dX0_finish_0 : decode cX0_finish 0 = .ok (.aload_n 0, 1) := by decide +kernel
theorem dX0_finish_1 : decode cX0_finish 1 = .ok (.aload_n 0, 1) := by decide +kernel
theorem dX0_finish_2 : decode cX0_finish 2 = .ok (.getfield 9, 3) := by decide +kernel
theorem dX0_finish_5 : decode cX0_finish 5 = .ok (.aload_n 0, 1) := by decide +kernel
theorem dX0_finish_6 : decode cX0_finish 6 = .ok (.getfield 26, 3) := by decide +kernel
theorem dX0_finish_9 : decode cX0_finish 9 = .ok (.invokevirtual 180, 3) := by decide +kernel
theorem dX0_finish_12 : decode cX0_finish 12 = .ok (.putfield 57, 3) := by decide +kernel
theorem dX0_finish_15 : decode cX0_finish 15 = .ok (.aload_n 0, 1) := by decide +kernel
theorem dX0_finish_16 : decode cX0_finish 16 = .ok (.getfield 9, 3) := by decide +kernel
theorem dX0_finish_19 : decode cX0_finish 19 = .ok (.aload_n 0, 1) := by decide +kernel
theorem dX0_finish_20 : decode cX0_finish 20 = .ok (.getfield 90, 3) := by decide +kernel
theorem dX0_finish_23 : decode cX0_finish 23 = .ok (.invokevirtual 184, 3) := by decide +kernel
theorem dX0_finish_26 : decode cX0_finish 26 = .ok (.aload_n 0, 1) := by decide +kernel
theorem dX0_finish_27 : decode cX0_finish 27 = .ok (.iconst 0, 1) := by decide +kernel
theorem dX0_finish_28 : decode cX0_finish 28 = .ok (.putfield 45, 3) := by decide +kernel
theorem dX0_finish_31 : decode cX0_finish 31 = .ok (.iconst 0, 1) := by decide +kernel
theorem dX0_finish_32 : decode cX0_finish 32 = .ok (.istore_n 1, 1) := by decide +kernel
theorem dX0_finish_33 : decode cX0_finish 33 = .ok (.iload_n 1, 1) := by decide +kernel
theorem dX0_finish_34 : decode cX0_finish 34 = .ok (.bipush 64, 2) := by decide +kernel
theorem dX0_finish_36 : decode cX0_finish 36 = .ok (.if_icmp .ge 44, 3) := by decide +kernel
theorem dX0_finish_39 : decode cX0_finish 39 = .ok (.aload_n 0, 1) := by decide +kernel
theorem dX0_finish_40 : decode cX0_finish 40 = .ok (.getfield 29, 3) := by decide +kernel
theorem dX0_finish_43 : decode cX0_finish 43 = .ok (.iload_n 1, 1) := by decide +kernel
theorem dX0_finish_44 : decode cX0_finish 44 = .ok (.aload_n 0, 1) := by decide +kernel
theorem dX0_finish_45 : decode cX0_finish 45 = .ok (.getfield 22, 3) := by decide +kernel
theorem dX0_finish_48 : decode cX0_finish 48 = .ok (.iload_n 1, 1) := by decide +kernel
theorem dX0_finish_49 : decode cX0_finish 49 = .ok (.baload, 1) := by decide +kernel
theorem dX0_finish_50 : decode cX0_finish 50 = .ok (.ifCond .eq 7, 3) := by decide +kernel
theorem dX0_finish_53 : decode cX0_finish 53 = .ok (.iconst 1, 1) := by decide +kernel
theorem dX0_finish_54 : decode cX0_finish 54 = .ok (.goto 4, 3) := by decide +kernel
theorem dX0_finish_57 : decode cX0_finish 57 = .ok (.iconst 0, 1) := by decide +kernel
theorem dX0_finish_58 : decode cX0_finish 58 = .ok (.iastore, 1) := by decide +kernel
theorem dX0_finish_59 : decode cX0_finish 59 = .ok (.aload_n 0, 1) := by decide +kernel
theorem dX0_finish_60 : decode cX0_finish 60 = .ok (.dup, 1) := by decide +kernel
theorem dX0_finish_61 : decode cX0_finish 61 = .ok (.getfield 45, 3) := by decide +kernel
theorem dX0_finish_64 : decode cX0_finish 64 = .ok (.aload_n 0, 1) := by decide +kernel
theorem dX0_finish_65 : decode cX0_finish 65 = .ok (.getfield 29, 3) := by decide +kernel
theorem dX0_finish_68 : decode cX0_finish 68 = .ok (.iload_n 1, 1) := by decide +kernel
theorem dX0_finish_69 : decode cX0_finish 69 = .ok (.iaload, 1) := by decide +kernel
theorem dX0_finish_70 : decode cX0_finish 70 = .ok (.iadd, 1) := by decide +kernel
theorem dX0_finish_71 : decode cX0_finish 71 = .ok (.putfield 45, 3) := by decide +kernel
theorem dX0_finish_74 : decode cX0_finish 74 = .ok (.iinc 1 1, 3) := by decide +kernel
theorem dX0_finish_77 : decode cX0_finish 77 = .ok (.goto (-44), 3) := by decide +kernel
theorem dX0_finish_80 : decode cX0_finish 80 = .ok (.aload_n 0, 1) := by decide +kernel
theorem dX0_finish_81 : decode cX0_finish 81 = .ok (.aload_n 0, 1) := by decide +kernel
theorem dX0_finish_82 : decode cX0_finish 82 = .ok (.getfield 87, 3) := by decide +kernel
theorem dX0_finish_85 : decode cX0_finish 85 = .ok (.putfield 48, 3) := by decide +kernel
theorem dX0_finish_88 : decode cX0_finish 88 = .ok (.aload_n 0, 1) := by decide +kernel
theorem dX0_finish_89 : decode cX0_finish 89 = .ok (.aload_n 0, 1) := by decide +kernel
theorem dX0_finish_90 : decode cX0_finish 90 = .ok (.getfield 96, 3) := by decide +kernel
theorem dX0_finish_93 : decode cX0_finish 93 = .ok (.putfield 51, 3) := by decide +kernel
theorem dX0_finish_96 : decode cX0_finish 96 = .ok (.aload_n 0, 1) := by decide +kernel
theorem dX0_finish_97 : decode cX0_finish 97 = .ok (.aload_n 0, 1) := by decide +kernel
theorem dX0_finish_98 : decode cX0_finish 98 = .ok (.getfield 99, 3) := by decide +kernel
theorem dX0_finish_101 : decode cX0_finish 101 = .ok (.putfield 54, 3) := by decide +kernel
theorem dX0_finish_104 : decode cX0_finish 104 = .ok (.aload_n 0, 1) := by decide +kernel
theorem dX0_finish_105 : decode cX0_finish 105 = .ok (.dup, 1) := by decide +kernel
theorem dX0_finish_106 : decode cX0_finish 106 = .ok (.getfield 32, 3) := by decide +kernel
theorem dX0_finish_109 : decode cX0_finish 109 = .ok (.iconst 1, 1) := by decide +kernel
theorem dX0_finish_110 : decode cX0_finish 110 = .ok (.iadd, 1) := by decide +kernel
theorem dX0_finish_111 : decode cX0_finish 111 = .ok (.putfield 32, 3) := by decide +kernel
theorem dX0_finish_114 : decode cX0_finish 114 = .ok (.return_, 1) := by decide +kernel
theorem dX1_init_0 : decode cX1_init 0 = .ok (.aload_n 0, 1) := by decide +kernel
theorem dX1_init_1 : decode cX1_init 1 = .ok (.invokespecial 3, 3) := by decide +kernel
theorem dX1_init_4 : decode cX1_init 4 = .ok (.aload_n 0, 1) := by decide +kernel
theorem dX1_init_5 : decode cX1_init 5 = .ok (.sipush 4096, 3) := by decide +kernel
theorem dX1_init_8 : decode cX1_init 8 = .ok (.newarray .int, 2) := by decide +kernel
theorem dX1_init_10 : decode cX1_init 10 = .ok (.putfield 9, 3) := by decide +kernel
theorem dX1_init_13 : decode cX1_init 13 = .ok (.aload_n 0, 1) := by decide +kernel
theorem dX1_init_14 : decode cX1_init 14 = .ok (.bipush 64, 2) := by decide +kernel
theorem dX1_init_16 : decode cX1_init 16 = .ok (.newarray .int, 2) := by decide +kernel
theorem dX1_init_18 : decode cX1_init 18 = .ok (.putfield 15, 3) := by decide +kernel
theorem dX1_init_21 : decode cX1_init 21 = .ok (.aload_n 0, 1) := by decide +kernel
theorem dX1_init_22 : decode cX1_init 22 = .ok (.bipush 64, 2) := by decide +kernel
theorem dX1_init_24 : decode cX1_init 24 = .ok (.newarray .int, 2) := by decide +kernel
theorem dX1_init_26 : decode cX1_init 26 = .ok (.putfield 18, 3) := by decide +kernel
theorem dX1_init_29 : decode cX1_init 29 = .ok (.aload_n 0, 1) := by decide +kernel
theorem dX1_init_30 : decode cX1_init 30 = .ok (.bipush 64, 2) := by decide +kernel
theorem dX1_init_32 : decode cX1_init 32 = .ok (.newarray .long, 2) := by decide +kernel
theorem dX1_init_34 : decode cX1_init 34 = .ok (.putfield 21, 3) := by decide +kernel
theorem dX1_init_37 : decode cX1_init 37 = .ok (.aload_n 0, 1) := by decide +kernel
theorem dX1_init_38 : decode cX1_init 38 = .ok (.iconst 4, 1) := by decide +kernel
theorem dX1_init_39 : decode cX1_init 39 = .ok (.putfield 25, 3) := by decide +kernel
theorem dX1_init_42 : decode cX1_init 42 = .ok (.aload_n 0, 1) := by decide +kernel
theorem dX1_init_43 : decode cX1_init 43 = .ok (.bipush 8, 2) := by decide +kernel
theorem dX1_init_45 : decode cX1_init 45 = .ok (.putfield 29, 3) := by decide +kernel
theorem dX1_init_48 : decode cX1_init 48 = .ok (.aload_n 0, 1) := by decide +kernel
theorem dX1_init_49 : decode cX1_init 49 = .ok (.iconst (-1), 1) := by decide +kernel
theorem dX1_init_50 : decode cX1_init 50 = .ok (.putfield 32, 3) := by decide +kernel
theorem dX1_init_53 : decode cX1_init 53 = .ok (.return_, 1) := by decide +kernel
theorem dX1_startOver_0 : decode cX1_startOver 0 = .ok (.aload_n 0, 1) := by decide +kernel
theorem dX1_startOver_1 : decode cX1_startOver 1 = .ok (.getfield 9, 3) := by decide +kernel
theorem dX1_startOver_4 : decode cX1_startOver 4 = .ok (.iconst 0, 1) := by decide +kernel
theorem dX1_startOver_5 : decode cX1_startOver 5 = .ok (.invokestatic 35, 3) := by decide +kernel
theorem dX1_startOver_8 : decode cX1_startOver 8 = .ok (.aload_n 0, 1) := by decide +kernel
theorem dX1_startOver_9 : decode cX1_startOver 9 = .ok (.getfield 15, 3) := by decide +kernel
theorem dX1_startOver_12 : decode cX1_startOver 12 = .ok (.iconst 0, 1) := by decide +kernel
theorem dX1_startOver_13 : decode cX1_startOver 13 = .ok (.invokestatic 35, 3) := by decide +kernel
theorem dX1_startOver_16 : decode cX1_startOver 16 = .ok (.aload_n 0, 1) := by decide +kernel
theorem dX1_startOver_17 : decode cX1_startOver 17 = .ok (.getfield 18, 3) := by decide +kernel
theorem dX1_startOver_20 : decode cX1_startOver 20 = .ok (.iconst 0, 1) := by decide +kernel
theorem dX1_startOver_21 : decode cX1_startOver 21 = .ok (.invokestatic 35, 3) := by decide +kernel
theorem dX1_startOver_24 : decode cX1_startOver 24 = .ok (.aload_n 0, 1) := by decide +kernel
theorem dX1_startOver_25 : decode cX1_startOver 25 = .ok (.getfield 21, 3) := by decide +kernel
theorem dX1_startOver_28 : decode cX1_startOver 28 = .ok (.lconst 0, 1) := by decide +kernel
theorem dX1_startOver_29 : decode cX1_startOver 29 = .ok (.invokestatic 41, 3) := by decide +kernel
theorem dX1_startOver_32 : decode cX1_startOver 32 = .ok (.aload_n 0, 1) := by decide +kernel
theorem dX1_startOver_33 : decode cX1_startOver 33 = .ok (.iload_n 1, 1) := by decide +kernel
theorem dX1_startOver_34 : decode cX1_startOver 34 = .ok (.putfield 25, 3) := by decide +kernel
theorem dX1_startOver_37 : decode cX1_startOver 37 = .ok (.aload_n 0, 1) := by decide +kernel
theorem dX1_startOver_38 : decode cX1_startOver 38 = .ok (.iload_n 2, 1) := by decide +kernel
theorem dX1_startOver_39 : decode cX1_startOver 39 = .ok (.putfield 29, 3) := by decide +kernel
theorem dX1_startOver_42 : decode cX1_startOver 42 = .ok (.aload_n 0, 1) := by decide +kernel
theorem dX1_startOver_43 : decode cX1_startOver 43 = .ok (.iconst (-1), 1) := by decide +kernel
theorem dX1_startOver_44 : decode cX1_startOver 44 = .ok (.putfield 32, 3) := by decide +kernel
theorem dX1_startOver_47 : decode cX1_startOver 47 = .ok (.return_, 1) := by decide +kernel
theorem dX1_pages_0 : decode cX1_pages 0 = .ok (.aload_n 0, 1) := by decide +kernel
theorem dX1_pages_1 : decode cX1_pages 1 = .ok (.getfield 25, 3) := by decide +kernel
theorem dX1_pages_4 : decode cX1_pages 4 = .ok (.ireturn, 1) := by decide +kernel
theorem dX1_words_0 : decode cX1_words 0 = .ok (.aload_n 0, 1) := by decide +kernel
theorem dX1_words_1 : decode cX1_words 1 = .ok (.getfield 29, 3) := by decide +kernel
theorem dX1_words_4 : decode cX1_words 4 = .ok (.ireturn, 1) := by decide +kernel
theorem dX1_openPage_0 : decode cX1_openPage 0 = .ok (.aload_n 0, 1) := by decide +kernel
theorem dX1_openPage_1 : decode cX1_openPage 1 = .ok (.getfield 32, 3) := by decide +kernel
theorem dX1_openPage_4 : decode cX1_openPage 4 = .ok (.ireturn, 1) := by decide +kernel
theorem dX1_setOpenPage_0 : decode cX1_setOpenPage 0 = .ok (.aload_n 0, 1) := by decide +kernel
theorem dX1_setOpenPage_1 : decode cX1_setOpenPage 1 = .ok (.iload_n 1, 1) := by decide +kernel
theorem dX1_setOpenPage_2 : decode cX1_setOpenPage 2 = .ok (.putfield 32, 3) := by decide +kernel
theorem dX1_setOpenPage_5 : decode cX1_setOpenPage 5 = .ok (.return_, 1) := by decide +kernel
theorem dX1_isPage_0 : decode cX1_isPage 0 = .ok (.iload_n 1, 1) := by decide +kernel
theorem dX1_isPage_1 : decode cX1_isPage 1 = .ok (.ifCond .lt 15, 3) := by decide +kernel
theorem dX1_isPage_4 : decode cX1_isPage 4 = .ok (.iload_n 1, 1) := by decide +kernel
theorem dX1_isPage_5 : decode cX1_isPage 5 = .ok (.aload_n 0, 1) := by decide +kernel
theorem dX1_isPage_6 : decode cX1_isPage 6 = .ok (.getfield 25, 3) := by decide +kernel
theorem dX1_isPage_9 : decode cX1_isPage 9 = .ok (.if_icmp .ge 7, 3) := by decide +kernel
theorem dX1_isPage_12 : decode cX1_isPage 12 = .ok (.iconst 1, 1) := by decide +kernel
theorem dX1_isPage_13 : decode cX1_isPage 13 = .ok (.goto 4, 3) := by decide +kernel
theorem dX1_isPage_16 : decode cX1_isPage 16 = .ok (.iconst 0, 1) := by decide +kernel
theorem dX1_isPage_17 : decode cX1_isPage 17 = .ok (.ireturn, 1) := by decide +kernel
theorem dX1_isAddress_0 : decode cX1_isAddress 0 = .ok (.iload_n 1, 1) := by decide +kernel
theorem dX1_isAddress_1 : decode cX1_isAddress 1 = .ok (.ifCond .lt 20, 3) := by decide +kernel
theorem dX1_isAddress_4 : decode cX1_isAddress 4 = .ok (.iload_n 1, 1) := by decide +kernel
theorem dX1_isAddress_5 : decode cX1_isAddress 5 = .ok (.aload_n 0, 1) := by decide +kernel
theorem dX1_isAddress_6 : decode cX1_isAddress 6 = .ok (.getfield 25, 3) := by decide +kernel
theorem dX1_isAddress_9 : decode cX1_isAddress 9 = .ok (.aload_n 0, 1) := by decide +kernel
theorem dX1_isAddress_10 : decode cX1_isAddress 10 = .ok (.getfield 29, 3) := by decide +kernel
theorem dX1_isAddress_13 : decode cX1_isAddress 13 = .ok (.imul, 1) := by decide +kernel
theorem dX1_isAddress_14 : decode cX1_isAddress 14 = .ok (.if_icmp .ge 7, 3) := by decide +kernel
theorem dX1_isAddress_17 : decode cX1_isAddress 17 = .ok (.iconst 1, 1) := by decide +kernel
theorem dX1_isAddress_18 : decode cX1_isAddress 18 = .ok (.goto 4, 3) := by decide +kernel
theorem dX1_isAddress_21 : decode cX1_isAddress 21 = .ok (.iconst 0, 1) := by decide +kernel
theorem dX1_isAddress_22 : decode cX1_isAddress 22 = .ok (.ireturn, 1) := by decide +kernel
theorem dX1_beginsAt_0 : decode cX1_beginsAt 0 = .ok (.aload_n 0, 1) := by decide +kernel
theorem dX1_beginsAt_1 : decode cX1_beginsAt 1 = .ok (.iload_n 1, 1) := by decide +kernel
theorem dX1_beginsAt_2 : decode cX1_beginsAt 2 = .ok (.invokevirtual 44, 3) := by decide +kernel
theorem dX1_beginsAt_5 : decode cX1_beginsAt 5 = .ok (.ifCond .eq 32, 3) := by decide +kernel
theorem dX1_beginsAt_8 : decode cX1_beginsAt 8 = .ok (.aload_n 0, 1) := by decide +kernel
theorem dX1_beginsAt_9 : decode cX1_beginsAt 9 = .ok (.getfield 21, 3) := by decide +kernel
theorem dX1_beginsAt_12 : decode cX1_beginsAt 12 = .ok (.iload_n 1, 1) := by decide +kernel
theorem dX1_beginsAt_13 : decode cX1_beginsAt 13 = .ok (.aload_n 0, 1) := by decide +kernel
theorem dX1_beginsAt_14 : decode cX1_beginsAt 14 = .ok (.getfield 29, 3) := by decide +kernel
theorem dX1_beginsAt_17 : decode cX1_beginsAt 17 = .ok (.idiv, 1) := by decide +kernel
theorem dX1_beginsAt_18 : decode cX1_beginsAt 18 = .ok (.laload, 1) := by decide +kernel
theorem dX1_beginsAt_19 : decode cX1_beginsAt 19 = .ok (.iload_n 1, 1) := by decide +kernel
theorem dX1_beginsAt_20 : decode cX1_beginsAt 20 = .ok (.aload_n 0, 1) := by decide +kernel
theorem dX1_beginsAt_21 : decode cX1_beginsAt 21 = .ok (.getfield 29, 3) := by decide +kernel
theorem dX1_beginsAt_24 : decode cX1_beginsAt 24 = .ok (.irem, 1) := by decide +kernel
theorem dX1_beginsAt_25 : decode cX1_beginsAt 25 = .ok (.lushr, 1) := by decide +kernel
theorem dX1_beginsAt_26 : decode cX1_beginsAt 26 = .ok (.lconst 1, 1) := by decide +kernel
theorem dX1_beginsAt_27 : decode cX1_beginsAt 27 = .ok (.land, 1) := by decide +kernel
theorem dX1_beginsAt_28 : decode cX1_beginsAt 28 = .ok (.lconst 0, 1) := by decide +kernel
theorem dX1_beginsAt_29 : decode cX1_beginsAt 29 = .ok (.lcmp, 1) := by decide +kernel
theorem dX1_beginsAt_30 : decode cX1_beginsAt 30 = .ok (.ifCond .eq 7, 3) := by decide +kernel
theorem dX1_beginsAt_33 : decode cX1_beginsAt 33 = .ok (.iconst 1, 1) := by decide +kernel
theorem dX1_beginsAt_34 : decode cX1_beginsAt 34 = .ok (.goto 4, 3) := by decide +kernel
theorem dX1_beginsAt_37 : decode cX1_beginsAt 37 = .ok (.iconst 0, 1) := by decide +kernel
theorem dX1_beginsAt_38 : decode cX1_beginsAt 38 = .ok (.ireturn, 1) := by decide +kernel
theorem dX1_addressOf_0 : decode cX1_addressOf 0 = .ok (.iload_n 1, 1) := by decide +kernel
theorem dX1_addressOf_1 : decode cX1_addressOf 1 = .ok (.aload_n 0, 1) := by decide +kernel
theorem dX1_addressOf_2 : decode cX1_addressOf 2 = .ok (.getfield 29, 3) := by decide +kernel
theorem dX1_addressOf_5 : decode cX1_addressOf 5 = .ok (.imul, 1) := by decide +kernel
theorem dX1_addressOf_6 : decode cX1_addressOf 6 = .ok (.iload_n 2, 1) := by decide +kernel
theorem dX1_addressOf_7 : decode cX1_addressOf 7 = .ok (.iadd, 1) := by decide +kernel
theorem dX1_addressOf_8 : decode cX1_addressOf 8 = .ok (.ireturn, 1) := by decide +kernel
theorem dX1_pageOf_0 : decode cX1_pageOf 0 = .ok (.iload_n 1, 1) := by decide +kernel
theorem dX1_pageOf_1 : decode cX1_pageOf 1 = .ok (.aload_n 0, 1) := by decide +kernel
theorem dX1_pageOf_2 : decode cX1_pageOf 2 = .ok (.getfield 29, 3) := by decide +kernel
theorem dX1_pageOf_5 : decode cX1_pageOf 5 = .ok (.idiv, 1) := by decide +kernel
theorem dX1_pageOf_6 : decode cX1_pageOf 6 = .ok (.ireturn, 1) := by decide +kernel
theorem dX1_kindOf_0 : decode cX1_kindOf 0 = .ok (.aload_n 0, 1) := by decide +kernel
theorem dX1_kindOf_1 : decode cX1_kindOf 1 = .ok (.getfield 15, 3) := by decide +kernel
theorem dX1_kindOf_4 : decode cX1_kindOf 4 = .ok (.iload_n 1, 1) := by decide +kernel
theorem dX1_kindOf_5 : decode cX1_kindOf 5 = .ok (.iaload, 1) := by decide +kernel
theorem dX1_kindOf_6 : decode cX1_kindOf 6 = .ok (.ireturn, 1) := by decide +kernel
theorem dX1_isFree_0 : decode cX1_isFree 0 = .ok (.aload_n 0, 1) := by decide +kernel
theorem dX1_isFree_1 : decode cX1_isFree 1 = .ok (.getfield 15, 3) := by decide +kernel
theorem dX1_isFree_4 : decode cX1_isFree 4 = .ok (.iload_n 1, 1) := by decide +kernel
theorem dX1_isFree_5 : decode cX1_isFree 5 = .ok (.iaload, 1) := by decide +kernel
theorem dX1_isFree_6 : decode cX1_isFree 6 = .ok (.ifCond .ne 7, 3) := by decide +kernel
theorem dX1_isFree_9 : decode cX1_isFree 9 = .ok (.iconst 1, 1) := by decide +kernel
theorem dX1_isFree_10 : decode cX1_isFree 10 = .ok (.goto 4, 3) := by decide +kernel
theorem dX1_isFree_13 : decode cX1_isFree 13 = .ok (.iconst 0, 1) := by decide +kernel
theorem dX1_isFree_14 : decode cX1_isFree 14 = .ok (.ireturn, 1) := by decide +kernel
theorem dX1_filledOf_0 : decode cX1_filledOf 0 = .ok (.aload_n 0, 1) := by decide +kernel
theorem dX1_filledOf_1 : decode cX1_filledOf 1 = .ok (.getfield 18, 3) := by decide +kernel
theorem dX1_filledOf_4 : decode cX1_filledOf 4 = .ok (.iload_n 1, 1) := by decide +kernel
theorem dX1_filledOf_5 : decode cX1_filledOf 5 = .ok (.iaload, 1) := by decide +kernel
theorem dX1_filledOf_6 : decode cX1_filledOf 6 = .ok (.ireturn, 1) := by decide +kernel
theorem dX1_objectsOf_0 : decode cX1_objectsOf 0 = .ok (.aload_n 0, 1) := by decide +kernel
theorem dX1_objectsOf_1 : decode cX1_objectsOf 1 = .ok (.getfield 21, 3) := by decide +kernel
theorem dX1_objectsOf_4 : decode cX1_objectsOf 4 = .ok (.iload_n 1, 1) := by decide +kernel
theorem dX1_objectsOf_5 : decode cX1_objectsOf 5 = .ok (.laload, 1) := by decide +kernel
theorem dX1_objectsOf_6 : decode cX1_objectsOf 6 = .ok (.invokestatic 48, 3) := by decide +kernel
theorem dX1_objectsOf_9 : decode cX1_objectsOf 9 = .ok (.ireturn, 1) := by decide +kernel
theorem dX1_usedPages_0 : decode cX1_usedPages 0 = .ok (.iconst 0, 1) := by decide +kernel
theorem dX1_usedPages_1 : decode cX1_usedPages 1 = .ok (.istore_n 1, 1) := by decide +kernel
theorem dX1_usedPages_2 : decode cX1_usedPages 2 = .ok (.iconst 0, 1) := by decide +kernel
theorem dX1_usedPages_3 : decode cX1_usedPages 3 = .ok (.istore_n 2, 1) := by decide +kernel
theorem dX1_usedPages_4 : decode cX1_usedPages 4 = .ok (.iload_n 2, 1) := by decide +kernel
theorem dX1_usedPages_5 : decode cX1_usedPages 5 = .ok (.aload_n 0, 1) := by decide +kernel
theorem dX1_usedPages_6 : decode cX1_usedPages 6 = .ok (.getfield 25, 3) := by decide +kernel
theorem dX1_usedPages_9 : decode cX1_usedPages 9 = .ok (.if_icmp .ge 21, 3) := by decide +kernel
theorem dX1_usedPages_12 : decode cX1_usedPages 12 = .ok (.aload_n 0, 1) := by decide +kernel
theorem dX1_usedPages_13 : decode cX1_usedPages 13 = .ok (.getfield 15, 3) := by decide +kernel
theorem dX1_usedPages_16 : decode cX1_usedPages 16 = .ok (.iload_n 2, 1) := by decide +kernel
theorem dX1_usedPages_17 : decode cX1_usedPages 17 = .ok (.iaload, 1) := by decide +kernel
theorem dX1_usedPages_18 : decode cX1_usedPages 18 = .ok (.ifCond .eq 6, 3) := by decide +kernel
theorem dX1_usedPages_21 : decode cX1_usedPages 21 = .ok (.iinc 1 1, 3) := by decide +kernel
theorem dX1_usedPages_24 : decode cX1_usedPages 24 = .ok (.iinc 2 1, 3) := by decide +kernel
theorem dX1_usedPages_27 : decode cX1_usedPages 27 = .ok (.goto (-23), 3) := by decide +kernel
theorem dX1_usedPages_30 : decode cX1_usedPages 30 = .ok (.iload_n 1, 1) := by decide +kernel
theorem dX1_usedPages_31 : decode cX1_usedPages 31 = .ok (.ireturn, 1) := by decide +kernel
theorem dX1_allObjects_0 : decode cX1_allObjects 0 = .ok (.iconst 0, 1) := by decide +kernel
theorem dX1_allObjects_1 : decode cX1_allObjects 1 = .ok (.istore_n 1, 1) := by decide +kernel
theorem dX1_allObjects_2 : decode cX1_allObjects 2 = .ok (.iconst 0, 1) := by decide +kernel
theorem dX1_allObjects_3 : decode cX1_allObjects 3 = .ok (.istore_n 2, 1) := by decide +kernel
theorem dX1_allObjects_4 : decode cX1_allObjects 4 = .ok (.iload_n 2, 1) := by decide +kernel
theorem dX1_allObjects_5 : decode cX1_allObjects 5 = .ok (.aload_n 0, 1) := by decide +kernel
theorem dX1_allObjects_6 : decode cX1_allObjects 6 = .ok (.getfield 25, 3) := by decide +kernel
theorem dX1_allObjects_9 : decode cX1_allObjects 9 = .ok (.if_icmp .ge 17, 3) := by decide +kernel
theorem dX1_allObjects_12 : decode cX1_allObjects 12 = .ok (.iload_n 1, 1) := by decide +kernel
theorem dX1_allObjects_13 : decode cX1_allObjects 13 = .ok (.aload_n 0, 1) := by decide +kernel
theorem dX1_allObjects_14 : decode cX1_allObjects 14 = .ok (.iload_n 2, 1) := by decide +kernel
theorem dX1_allObjects_15 : decode cX1_allObjects 15 = .ok (.invokevirtual 54, 3) := by decide +kernel
theorem dX1_allObjects_18 : decode cX1_allObjects 18 = .ok (.iadd, 1) := by decide +kernel
theorem dX1_allObjects_19 : decode cX1_allObjects 19 = .ok (.istore_n 1, 1) := by decide +kernel
theorem dX1_allObjects_20 : decode cX1_allObjects 20 = .ok (.iinc 2 1, 3) := by decide +kernel
theorem dX1_allObjects_23 : decode cX1_allObjects 23 = .ok (.goto (-19), 3) := by decide +kernel
theorem dX1_allObjects_26 : decode cX1_allObjects 26 = .ok (.iload_n 1, 1) := by decide +kernel
theorem dX1_allObjects_27 : decode cX1_allObjects 27 = .ok (.ireturn, 1) := by decide +kernel
theorem dX1_allFilled_0 : decode cX1_allFilled 0 = .ok (.iconst 0, 1) := by decide +kernel
theorem dX1_allFilled_1 : decode cX1_allFilled 1 = .ok (.istore_n 1, 1) := by decide +kernel
theorem dX1_allFilled_2 : decode cX1_allFilled 2 = .ok (.iconst 0, 1) := by decide +kernel
theorem dX1_allFilled_3 : decode cX1_allFilled 3 = .ok (.istore_n 2, 1) := by decide +kernel
theorem dX1_allFilled_4 : decode cX1_allFilled 4 = .ok (.iload_n 2, 1) := by decide +kernel
theorem dX1_allFilled_5 : decode cX1_allFilled 5 = .ok (.aload_n 0, 1) := by decide +kernel
theorem dX1_allFilled_6 : decode cX1_allFilled 6 = .ok (.getfield 25, 3) := by decide +kernel
theorem dX1_allFilled_9 : decode cX1_allFilled 9 = .ok (.if_icmp .ge 18, 3) := by decide +kernel
theorem dX1_allFilled_12 : decode cX1_allFilled 12 = .ok (.iload_n 1, 1) := by decide +kernel
theorem dX1_allFilled_13 : decode cX1_allFilled 13 = .ok (.aload_n 0, 1) := by decide +kernel
theorem dX1_allFilled_14 : decode cX1_allFilled 14 = .ok (.getfield 18, 3) := by decide +kernel
theorem dX1_allFilled_17 : decode cX1_allFilled 17 = .ok (.iload_n 2, 1) := by decide +kernel
theorem dX1_allFilled_18 : decode cX1_allFilled 18 = .ok (.iaload, 1) := by decide +kernel
theorem dX1_allFilled_19 : decode cX1_allFilled 19 = .ok (.iadd, 1) := by decide +kernel
theorem dX1_allFilled_20 : decode cX1_allFilled 20 = .ok (.istore_n 1, 1) := by decide +kernel
theorem dX1_allFilled_21 : decode cX1_allFilled 21 = .ok (.iinc 2 1, 3) := by decide +kernel
theorem dX1_allFilled_24 : decode cX1_allFilled 24 = .ok (.goto (-20), 3) := by decide +kernel
theorem dX1_allFilled_27 : decode cX1_allFilled 27 = .ok (.iload_n 1, 1) := by decide +kernel
theorem dX1_allFilled_28 : decode cX1_allFilled 28 = .ok (.ireturn, 1) := by decide +kernel
theorem dX1_wordAt_0 : decode cX1_wordAt 0 = .ok (.aload_n 0, 1) := by decide +kernel
theorem dX1_wordAt_1 : decode cX1_wordAt 1 = .ok (.getfield 9, 3) := by decide +kernel
theorem dX1_wordAt_4 : decode cX1_wordAt 4 = .ok (.iload_n 1, 1) := by decide +kernel
theorem dX1_wordAt_5 : decode cX1_wordAt 5 = .ok (.iaload, 1) := by decide +kernel
theorem dX1_wordAt_6 : decode cX1_wordAt 6 = .ok (.ireturn, 1) := by decide +kernel
theorem dX1_refsOf_0 : decode cX1_refsOf 0 = .ok (.aload_n 0, 1) := by decide +kernel
theorem dX1_refsOf_1 : decode cX1_refsOf 1 = .ok (.getfield 9, 3) := by decide +kernel
theorem dX1_refsOf_4 : decode cX1_refsOf 4 = .ok (.iload_n 1, 1) := by decide +kernel
theorem dX1_refsOf_5 : decode cX1_refsOf 5 = .ok (.iaload, 1) := by decide +kernel
theorem dX1_refsOf_6 : decode cX1_refsOf 6 = .ok (.sipush 256, 3) := by decide +kernel
theorem dX1_refsOf_9 : decode cX1_refsOf 9 = .ok (.idiv, 1) := by decide +kernel
theorem dX1_refsOf_10 : decode cX1_refsOf 10 = .ok (.ireturn, 1) := by decide +kernel
theorem dX1_dataOf_0 : decode cX1_dataOf 0 = .ok (.aload_n 0, 1) := by decide +kernel
theorem dX1_dataOf_1 : decode cX1_dataOf 1 = .ok (.getfield 9, 3) := by decide +kernel
theorem dX1_dataOf_4 : decode cX1_dataOf 4 = .ok (.iload_n 1, 1) := by decide +kernel
theorem dX1_dataOf_5 : decode cX1_dataOf 5 = .ok (.iaload, 1) := by decide +kernel
theorem dX1_dataOf_6 : decode cX1_dataOf 6 = .ok (.sipush 256, 3) := by decide +kernel
theorem dX1_dataOf_9 : decode cX1_dataOf 9 = .ok (.irem, 1) := by decide +kernel
theorem dX1_dataOf_10 : decode cX1_dataOf 10 = .ok (.ireturn, 1) := by decide +kernel
theorem dX1_sizeOf_0 : decode cX1_sizeOf 0 = .ok (.iconst 1, 1) := by decide +kernel
theorem dX1_sizeOf_1 : decode cX1_sizeOf 1 = .ok (.aload_n 0, 1) := by decide +kernel
theorem dX1_sizeOf_2 : decode cX1_sizeOf 2 = .ok (.iload_n 1, 1) := by decide +kernel
theorem dX1_sizeOf_3 : decode cX1_sizeOf 3 = .ok (.invokevirtual 58, 3) := by decide +kernel
theorem dX1_sizeOf_6 : decode cX1_sizeOf 6 = .ok (.iadd, 1) := by decide +kernel
theorem dX1_sizeOf_7 : decode cX1_sizeOf 7 = .ok (.aload_n 0, 1) := by decide +kernel
theorem dX1_sizeOf_8 : decode cX1_sizeOf 8 = .ok (.iload_n 1, 1) := by decide +kernel
theorem dX1_sizeOf_9 : decode cX1_sizeOf 9 = .ok (.invokevirtual 61, 3) := by decide +kernel
theorem dX1_sizeOf_12 : decode cX1_sizeOf 12 = .ok (.iadd, 1) := by decide +kernel
theorem dX1_sizeOf_13 : decode cX1_sizeOf 13 = .ok (.ireturn, 1) := by decide +kernel
theorem dX1_isLong_0 : decode cX1_isLong 0 = .ok (.aload_n 0, 1) := by decide +kernel
theorem dX1_isLong_1 : decode cX1_isLong 1 = .ok (.iload_n 1, 1) := by decide +kernel
theorem dX1_isLong_2 : decode cX1_isLong 2 = .ok (.invokevirtual 64, 3) := by decide +kernel
theorem dX1_isLong_5 : decode cX1_isLong 5 = .ok (.aload_n 0, 1) := by decide +kernel
theorem dX1_isLong_6 : decode cX1_isLong 6 = .ok (.getfield 29, 3) := by decide +kernel
theorem dX1_isLong_9 : decode cX1_isLong 9 = .ok (.if_icmp .le 7, 3) := by decide +kernel
theorem dX1_isLong_12 : decode cX1_isLong 12 = .ok (.iconst 1, 1) := by decide +kernel
theorem dX1_isLong_13 : decode cX1_isLong 13 = .ok (.goto 4, 3) := by decide +kernel
theorem dX1_isLong_16 : decode cX1_isLong 16 = .ok (.iconst 0, 1) := by decide +kernel
theorem dX1_isLong_17 : decode cX1_isLong 17 = .ok (.ireturn, 1) := by decide +kernel
theorem dX1_ref_0 : decode cX1_ref 0 = .ok (.aload_n 0, 1) := by decide +kernel
theorem dX1_ref_1 : decode cX1_ref 1 = .ok (.getfield 9, 3) := by decide +kernel
theorem dX1_ref_4 : decode cX1_ref 4 = .ok (.iload_n 1, 1) := by decide +kernel
theorem dX1_ref_5 : decode cX1_ref 5 = .ok (.iconst 1, 1) := by decide +kernel
theorem dX1_ref_6 : decode cX1_ref 6 = .ok (.iadd, 1) := by decide +kernel
theorem dX1_ref_7 : decode cX1_ref 7 = .ok (.iload_n 2, 1) := by decide +kernel
theorem dX1_ref_8 : decode cX1_ref 8 = .ok (.iadd, 1) := by decide +kernel
theorem dX1_ref_9 : decode cX1_ref 9 = .ok (.iaload, 1) := by decide +kernel
theorem dX1_ref_10 : decode cX1_ref 10 = .ok (.ireturn, 1) := by decide +kernel
theorem dX1_setRef_0 : decode cX1_setRef 0 = .ok (.aload_n 0, 1) := by decide +kernel
theorem dX1_setRef_1 : decode cX1_setRef 1 = .ok (.getfield 9, 3) := by decide +kernel
theorem dX1_setRef_4 : decode cX1_setRef 4 = .ok (.iload_n 1, 1) := by decide +kernel
theorem dX1_setRef_5 : decode cX1_setRef 5 = .ok (.iconst 1, 1) := by decide +kernel
theorem dX1_setRef_6 : decode cX1_setRef 6 = .ok (.iadd, 1) := by decide +kernel
theorem dX1_setRef_7 : decode cX1_setRef 7 = .ok (.iload_n 2, 1) := by decide +kernel
theorem dX1_setRef_8 : decode cX1_setRef 8 = .ok (.iadd, 1) := by decide +kernel
theorem dX1_setRef_9 : decode cX1_setRef 9 = .ok (.iload_n 3, 1) := by decide +kernel
theorem dX1_setRef_10 : decode cX1_setRef 10 = .ok (.iastore, 1) := by decide +kernel
theorem dX1_setRef_11 : decode cX1_setRef 11 = .ok (.return_, 1) := by decide +kernel
theorem dX1_swapData_0 : decode cX1_swapData 0 = .ok (.iload_n 1, 1) := by decide +kernel
theorem dX1_swapData_1 : decode cX1_swapData 1 = .ok (.iconst 1, 1) := by decide +kernel
theorem dX1_swapData_2 : decode cX1_swapData 2 = .ok (.iadd, 1) := by decide +kernel
theorem dX1_swapData_3 : decode cX1_swapData 3 = .ok (.aload_n 0, 1) := by decide +kernel
theorem dX1_swapData_4 : decode cX1_swapData 4 = .ok (.iload_n 1, 1) := by decide +kernel
theorem dX1_swapData_5 : decode cX1_swapData 5 = .ok (.invokevirtual 58, 3) := by decide +kernel
theorem dX1_swapData_8 : decode cX1_swapData 8 = .ok (.iadd, 1) := by decide +kernel
theorem dX1_swapData_9 : decode cX1_swapData 9 = .ok (.iload_n 2, 1) := by decide +kernel
theorem dX1_swapData_10 : decode cX1_swapData 10 = .ok (.iadd, 1) := by decide +kernel
theorem dX1_swapData_11 : decode cX1_swapData 11 = .ok (.istore 4, 2) := by decide +kernel
theorem dX1_swapData_13 : decode cX1_swapData 13 = .ok (.aload_n 0, 1) := by decide +kernel
theorem dX1_swapData_14 : decode cX1_swapData 14 = .ok (.getfield 9, 3) := by decide +kernel
theorem dX1_swapData_17 : decode cX1_swapData 17 = .ok (.iload 4, 2) := by decide +kernel
theorem dX1_swapData_19 : decode cX1_swapData 19 = .ok (.iaload, 1) := by decide +kernel
theorem dX1_swapData_20 : decode cX1_swapData 20 = .ok (.istore 5, 2) := by decide +kernel
theorem dX1_swapData_22 : decode cX1_swapData 22 = .ok (.aload_n 0, 1) := by decide +kernel
theorem dX1_swapData_23 : decode cX1_swapData 23 = .ok (.getfield 9, 3) := by decide +kernel
theorem dX1_swapData_26 : decode cX1_swapData 26 = .ok (.iload 4, 2) := by decide +kernel
theorem dX1_swapData_28 : decode cX1_swapData 28 = .ok (.iload_n 3, 1) := by decide +kernel
theorem dX1_swapData_29 : decode cX1_swapData 29 = .ok (.iastore, 1) := by decide +kernel
theorem dX1_swapData_30 : decode cX1_swapData 30 = .ok (.iload 5, 2) := by decide +kernel
theorem dX1_swapData_32 : decode cX1_swapData 32 = .ok (.ireturn, 1) := by decide +kernel
theorem dX1_firstPageWith_0 : decode cX1_firstPageWith 0 = .ok (.iload_n 1, 1) := by decide +kernel
theorem dX1_firstPageWith_1 : decode cX1_firstPageWith 1 = .ok (.istore_n 2, 1) := by decide +kernel
theorem dX1_firstPageWith_2 : decode cX1_firstPageWith 2 = .ok (.iload_n 2, 1) := by decide +kernel
theorem dX1_firstPageWith_3 : decode cX1_firstPageWith 3 = .ok (.ifCond .le 19, 3) := by decide +kernel
theorem dX1_firstPageWith_6 : decode cX1_firstPageWith 6 = .ok (.aload_n 0, 1) := by decide +kernel
theorem dX1_firstPageWith_7 : decode cX1_firstPageWith 7 = .ok (.getfield 15, 3) := by decide +kernel
theorem dX1_firstPageWith_10 : decode cX1_firstPageWith 10 = .ok (.iload_n 2, 1) := by decide +kernel
theorem dX1_firstPageWith_11 : decode cX1_firstPageWith 11 = .ok (.iaload, 1) := by decide +kernel
theorem dX1_firstPageWith_12 : decode cX1_firstPageWith 12 = .ok (.iconst 3, 1) := by decide +kernel
theorem dX1_firstPageWith_13 : decode cX1_firstPageWith 13 = .ok (.if_icmp .ne 9, 3) := by decide +kernel
theorem dX1_firstPageWith_16 : decode cX1_firstPageWith 16 = .ok (.iinc 2 (-1), 3) := by decide +kernel
theorem dX1_firstPageWith_19 : decode cX1_firstPageWith 19 = .ok (.goto (-17), 3) := by decide +kernel
theorem dX1_firstPageWith_22 : decode cX1_firstPageWith 22 = .ok (.iload_n 2, 1) := by decide +kernel
theorem dX1_firstPageWith_23 : decode cX1_firstPageWith 23 = .ok (.ireturn, 1) := by decide +kernel
theorem dX1_pageBehind_0 : decode cX1_pageBehind 0 = .ok (.iload_n 1, 1) := by decide +kernel
theorem dX1_pageBehind_1 : decode cX1_pageBehind 1 = .ok (.iconst 1, 1) := by decide +kernel
theorem dX1_pageBehind_2 : decode cX1_pageBehind 2 = .ok (.iadd, 1) := by decide +kernel
theorem dX1_pageBehind_3 : decode cX1_pageBehind 3 = .ok (.istore_n 2, 1) := by decide +kernel
theorem dX1_pageBehind_4 : decode cX1_pageBehind 4 = .ok (.iload_n 2, 1) := by decide +kernel
theorem dX1_pageBehind_5 : decode cX1_pageBehind 5 = .ok (.aload_n 0, 1) := by decide +kernel
theorem dX1_pageBehind_6 : decode cX1_pageBehind 6 = .ok (.getfield 25, 3) := by decide +kernel
theorem dX1_pageBehind_9 : decode cX1_pageBehind 9 = .ok (.if_icmp .ge 19, 3) := by decide +kernel
theorem dX1_pageBehind_12 : decode cX1_pageBehind 12 = .ok (.aload_n 0, 1) := by decide +kernel
theorem dX1_pageBehind_13 : decode cX1_pageBehind 13 = .ok (.getfield 15, 3) := by decide +kernel
theorem dX1_pageBehind_16 : decode cX1_pageBehind 16 = .ok (.iload_n 2, 1) := by decide +kernel
theorem dX1_pageBehind_17 : decode cX1_pageBehind 17 = .ok (.iaload, 1) := by decide +kernel
theorem dX1_pageBehind_18 : decode cX1_pageBehind 18 = .ok (.iconst 3, 1) := by decide +kernel
theorem dX1_pageBehind_19 : decode cX1_pageBehind 19 = .ok (.if_icmp .ne 9, 3) := by decide +kernel
theorem dX1_pageBehind_22 : decode cX1_pageBehind 22 = .ok (.iinc 2 1, 3) := by decide +kernel
theorem dX1_pageBehind_25 : decode cX1_pageBehind 25 = .ok (.goto (-21), 3) := by decide +kernel
theorem dX1_pageBehind_28 : decode cX1_pageBehind 28 = .ok (.iload_n 2, 1) := by decide +kernel
theorem dX1_pageBehind_29 : decode cX1_pageBehind 29 = .ok (.ireturn, 1) := by decide +kernel
theorem dX1_freePageFrom_0 : decode cX1_freePageFrom 0 = .ok (.iload_n 1, 1) := by decide +kernel
theorem dX1_freePageFrom_1 : decode cX1_freePageFrom 1 = .ok (.istore_n 2, 1) := by decide +kernel
theorem dX1_freePageFrom_2 : decode cX1_freePageFrom 2 = .ok (.iload_n 2, 1) := by decide +kernel
theorem dX1_freePageFrom_3 : decode cX1_freePageFrom 3 = .ok (.aload_n 0, 1) := by decide +kernel
theorem dX1_freePageFrom_4 : decode cX1_freePageFrom 4 = .ok (.getfield 25, 3) := by decide +kernel
theorem dX1_freePageFrom_7 : decode cX1_freePageFrom 7 = .ok (.if_icmp .ge 20, 3) := by decide +kernel
theorem dX1_freePageFrom_10 : decode cX1_freePageFrom 10 = .ok (.aload_n 0, 1) := by decide +kernel
theorem dX1_freePageFrom_11 : decode cX1_freePageFrom 11 = .ok (.getfield 15, 3) := by decide +kernel
theorem dX1_freePageFrom_14 : decode cX1_freePageFrom 14 = .ok (.iload_n 2, 1) := by decide +kernel
theorem dX1_freePageFrom_15 : decode cX1_freePageFrom 15 = .ok (.iaload, 1) := by decide +kernel
theorem dX1_freePageFrom_16 : decode cX1_freePageFrom 16 = .ok (.ifCond .ne 5, 3) := by decide +kernel
theorem dX1_freePageFrom_19 : decode cX1_freePageFrom 19 = .ok (.iload_n 2, 1) := by decide +kernel
theorem dX1_freePageFrom_20 : decode cX1_freePageFrom 20 = .ok (.ireturn, 1) := by decide +kernel
theorem dX1_freePageFrom_21 : decode cX1_freePageFrom 21 = .ok (.iinc 2 1, 3) := by decide +kernel
theorem dX1_freePageFrom_24 : decode cX1_freePageFrom 24 = .ok (.goto (-22), 3) := by decide +kernel
theorem dX1_freePageFrom_27 : decode cX1_freePageFrom 27 = .ok (.iconst (-1), 1) := by decide +kernel
theorem dX1_freePageFrom_28 : decode cX1_freePageFrom 28 = .ok (.ireturn, 1) := by decide +kernel
theorem dX1_roomFor_0 : decode cX1_roomFor 0 = .ok (.iload_n 1, 1) := by decide +kernel
theorem dX1_roomFor_1 : decode cX1_roomFor 1 = .ok (.aload_n 0, 1) := by decide +kernel
theorem dX1_roomFor_2 : decode cX1_roomFor 2 = .ok (.getfield 29, 3) := by decide +kernel
theorem dX1_roomFor_5 : decode cX1_roomFor 5 = .ok (.if_icmp .gt 11, 3) := by decide +kernel
theorem dX1_roomFor_8 : decode cX1_roomFor 8 = .ok (.aload_n 0, 1) := by decide +kernel
theorem dX1_roomFor_9 : decode cX1_roomFor 9 = .ok (.iload_n 1, 1) := by decide +kernel
theorem dX1_roomFor_10 : decode cX1_roomFor 10 = .ok (.invokevirtual 67, 3) := by decide +kernel
theorem dX1_roomFor_13 : decode cX1_roomFor 13 = .ok (.goto 8, 3) := by decide +kernel
theorem dX1_roomFor_16 : decode cX1_roomFor 16 = .ok (.aload_n 0, 1) := by decide +kernel
theorem dX1_roomFor_17 : decode cX1_roomFor 17 = .ok (.iload_n 1, 1) := by decide +kernel
theorem dX1_roomFor_18 : decode cX1_roomFor 18 = .ok (.invokevirtual 70, 3) := by decide +kernel
theorem dX1_roomFor_21 : decode cX1_roomFor 21 = .ok (.ireturn, 1) := by decide +kernel
theorem dX1_roomForSmall_0 : decode cX1_roomForSmall 0 = .ok (.aload_n 0, 1) := by decide +kernel
theorem dX1_roomForSmall_1 : decode cX1_roomForSmall 1 = .ok (.getfield 32, 3) := by decide +kernel
theorem dX1_roomForSmall_4 : decode cX1_roomForSmall 4 = .ok (.iconst (-1), 1) := by decide +kernel
theorem dX1_roomForSmall_5 : decode cX1_roomForSmall 5 = .ok (.if_icmp .eq 39, 3) := by decide +kernel
theorem dX1_roomForSmall_8 : decode cX1_roomForSmall 8 = .ok (.iload_n 1, 1) := by decide +kernel
theorem dX1_roomForSmall_9 : decode cX1_roomForSmall 9 = .ok (.aload_n 0, 1) := by decide +kernel
theorem dX1_roomForSmall_10 : decode cX1_roomForSmall 10 = .ok (.getfield 29, 3) := by decide +kernel
theorem dX1_roomForSmall_13 : decode cX1_roomForSmall 13 = .ok (.aload_n 0, 1) := by decide +kernel
theorem dX1_roomForSmall_14 : decode cX1_roomForSmall 14 = .ok (.getfield 18, 3) := by decide +kernel
theorem dX1_roomForSmall_17 : decode cX1_roomForSmall 17 = .ok (.aload_n 0, 1) := by decide +kernel
theorem dX1_roomForSmall_18 : decode cX1_roomForSmall 18 = .ok (.getfield 32, 3) := by decide +kernel
theorem dX1_roomForSmall_21 : decode cX1_roomForSmall 21 = .ok (.iaload, 1) := by decide +kernel
theorem dX1_roomForSmall_22 : decode cX1_roomForSmall 22 = .ok (.isub, 1) := by decide +kernel
theorem dX1_roomForSmall_23 : decode cX1_roomForSmall 23 = .ok (.if_icmp .gt 21, 3) := by decide +kernel
theorem dX1_roomForSmall_26 : decode cX1_roomForSmall 26 = .ok (.aload_n 0, 1) := by decide +kernel
theorem dX1_roomForSmall_27 : decode cX1_roomForSmall 27 = .ok (.aload_n 0, 1) := by decide +kernel
theorem dX1_roomForSmall_28 : decode cX1_roomForSmall 28 = .ok (.getfield 32, 3) := by decide +kernel
theorem dX1_roomForSmall_31 : decode cX1_roomForSmall 31 = .ok (.aload_n 0, 1) := by decide +kernel
theorem dX1_roomForSmall_32 : decode cX1_roomForSmall 32 = .ok (.getfield 18, 3) := by decide +kernel
theorem dX1_roomForSmall_35 : decode cX1_roomForSmall 35 = .ok (.aload_n 0, 1) := by decide +kernel
theorem dX1_roomForSmall_36 : decode cX1_roomForSmall 36 = .ok (.getfield 32, 3) := by decide +kernel
theorem dX1_roomForSmall_39 : decode cX1_roomForSmall 39 = .ok (.iaload, 1) := by decide +kernel
theorem dX1_roomForSmall_40 : decode cX1_roomForSmall 40 = .ok (.invokevirtual 73, 3) := by decide +kernel
theorem dX1_roomForSmall_43 : decode cX1_roomForSmall 43 = .ok (.ireturn, 1) := by decide +kernel
theorem dX1_roomForSmall_44 : decode cX1_roomForSmall 44 = .ok (.aload_n 0, 1) := by decide +kernel
theorem dX1_roomForSmall_45 : decode cX1_roomForSmall 45 = .ok (.iconst 1, 1) := by decide +kernel
theorem dX1_roomForSmall_46 : decode cX1_roomForSmall 46 = .ok (.invokevirtual 77, 3) := by decide +kernel
theorem dX1_roomForSmall_49 : decode cX1_roomForSmall 49 = .ok (.ifCond .eq 11, 3) := by decide +kernel
theorem dX1_roomForSmall_52 : decode cX1_roomForSmall 52 = .ok (.aload_n 0, 1) := by decide +kernel
theorem dX1_roomForSmall_53 : decode cX1_roomForSmall 53 = .ok (.iconst 0, 1) := by decide +kernel
theorem dX1_roomForSmall_54 : decode cX1_roomForSmall 54 = .ok (.invokevirtual 80, 3) := by decide +kernel
theorem dX1_roomForSmall_57 : decode cX1_roomForSmall 57 = .ok (.goto 4, 3) := by decide +kernel
theorem dX1_roomForSmall_60 : decode cX1_roomForSmall 60 = .ok (.iconst (-1), 1) := by decide +kernel
theorem dX1_roomForSmall_61 : decode cX1_roomForSmall 61 = .ok (.istore_n 2, 1) := by decide +kernel
theorem dX1_roomForSmall_62 : decode cX1_roomForSmall 62 = .ok (.iload_n 2, 1) := by decide +kernel
theorem dX1_roomForSmall_63 : decode cX1_roomForSmall 63 = .ok (.iconst (-1), 1) := by decide +kernel
theorem dX1_roomForSmall_64 : decode cX1_roomForSmall 64 = .ok (.if_icmp .ne 7, 3) := by decide +kernel
theorem dX1_roomForSmall_67 : decode cX1_roomForSmall 67 = .ok (.iconst (-1), 1) := by decide +kernel
theorem dX1_roomForSmall_68 : decode cX1_roomForSmall 68 = .ok (.goto 9, 3) := by decide +kernel
theorem dX1_roomForSmall_71 : decode cX1_roomForSmall 71 = .ok (.aload_n 0, 1) := by decide +kernel
theorem dX1_roomForSmall_72 : decode cX1_roomForSmall 72 = .ok (.iload_n 2, 1) := by decide +kernel
theorem dX1_roomForSmall_73 : decode cX1_roomForSmall 73 = .ok (.iconst 0, 1) := by decide +kernel
theorem dX1_roomForSmall_74 : decode cX1_roomForSmall 74 = .ok (.invokevirtual 73, 3) := by decide +kernel
theorem dX1_roomForSmall_77 : decode cX1_roomForSmall 77 = .ok (.ireturn, 1) := by decide +kernel
theorem dX1_roomForLong_0 : decode cX1_roomForLong 0 = .ok (.iload_n 1, 1) := by decide +kernel
theorem dX1_roomForLong_1 : decode cX1_roomForLong 1 = .ok (.aload_n 0, 1) := by decide +kernel
theorem dX1_roomForLong_2 : decode cX1_roomForLong 2 = .ok (.getfield 29, 3) := by decide +kernel
theorem dX1_roomForLong_5 : decode cX1_roomForLong 5 = .ok (.iadd, 1) := by decide +kernel
theorem dX1_roomForLong_6 : decode cX1_roomForLong 6 = .ok (.iconst 1, 1) := by decide +kernel
theorem dX1_roomForLong_7 : decode cX1_roomForLong 7 = .ok (.isub, 1) := by decide +kernel
theorem dX1_roomForLong_8 : decode cX1_roomForLong 8 = .ok (.aload_n 0, 1) := by decide +kernel
theorem dX1_roomForLong_9 : decode cX1_roomForLong 9 = .ok (.getfield 29, 3) := by decide +kernel
theorem dX1_roomForLong_12 : decode cX1_roomForLong 12 = .ok (.idiv, 1) := by decide +kernel
theorem dX1_roomForLong_13 : decode cX1_roomForLong 13 = .ok (.istore_n 2, 1) := by decide +kernel
theorem dX1_roomForLong_14 : decode cX1_roomForLong 14 = .ok (.aload_n 0, 1) := by decide +kernel
theorem dX1_roomForLong_15 : decode cX1_roomForLong 15 = .ok (.iload_n 2, 1) := by decide +kernel
theorem dX1_roomForLong_16 : decode cX1_roomForLong 16 = .ok (.invokevirtual 77, 3) := by decide +kernel
theorem dX1_roomForLong_19 : decode cX1_roomForLong 19 = .ok (.ifCond .eq 11, 3) := by decide +kernel
theorem dX1_roomForLong_22 : decode cX1_roomForLong 22 = .ok (.aload_n 0, 1) := by decide +kernel
theorem dX1_roomForLong_23 : decode cX1_roomForLong 23 = .ok (.iload_n 2, 1) := by decide +kernel
theorem dX1_roomForLong_24 : decode cX1_roomForLong 24 = .ok (.invokevirtual 83, 3) := by decide +kernel
theorem dX1_roomForLong_27 : decode cX1_roomForLong 27 = .ok (.goto 4, 3) := by decide +kernel
theorem dX1_roomForLong_30 : decode cX1_roomForLong 30 = .ok (.iconst (-1), 1) := by decide +kernel
theorem dX1_roomForLong_31 : decode cX1_roomForLong 31 = .ok (.istore_n 3, 1) := by decide +kernel
theorem dX1_roomForLong_32 : decode cX1_roomForLong 32 = .ok (.iload_n 3, 1) := by decide +kernel
theorem dX1_roomForLong_33 : decode cX1_roomForLong 33 = .ok (.iconst (-1), 1) := by decide +kernel
theorem dX1_roomForLong_34 : decode cX1_roomForLong 34 = .ok (.if_icmp .ne 7, 3) := by decide +kernel
theorem dX1_roomForLong_37 : decode cX1_roomForLong 37 = .ok (.iconst (-1), 1) := by decide +kernel
theorem dX1_roomForLong_38 : decode cX1_roomForLong 38 = .ok (.goto 9, 3) := by decide +kernel
theorem dX1_roomForLong_41 : decode cX1_roomForLong 41 = .ok (.aload_n 0, 1) := by decide +kernel
theorem dX1_roomForLong_42 : decode cX1_roomForLong 42 = .ok (.iload_n 3, 1) := by decide +kernel
theorem dX1_roomForLong_43 : decode cX1_roomForLong 43 = .ok (.iconst 0, 1) := by decide +kernel
theorem dX1_roomForLong_44 : decode cX1_roomForLong 44 = .ok (.invokevirtual 73, 3) := by decide +kernel
theorem dX1_roomForLong_47 : decode cX1_roomForLong 47 = .ok (.ireturn, 1) := by decide +kernel
theorem dX1_mayTake_0 : decode cX1_mayTake 0 = .ok (.aload_n 0, 1) := by decide +kernel
theorem dX1_mayTake_1 : decode cX1_mayTake 1 = .ok (.invokevirtual 86, 3) := by decide +kernel
theorem dX1_mayTake_4 : decode cX1_mayTake 4 = .ok (.iload_n 1, 1) := by decide +kernel
theorem dX1_mayTake_5 : decode cX1_mayTake 5 = .ok (.iadd, 1) := by decide +kernel
theorem dX1_mayTake_6 : decode cX1_mayTake 6 = .ok (.aload_n 0, 1) := by decide +kernel
theorem dX1_mayTake_7 : decode cX1_mayTake 7 = .ok (.getfield 25, 3) := by decide +kernel
theorem dX1_mayTake_10 : decode cX1_mayTake 10 = .ok (.iconst 2, 1) := by decide +kernel
theorem dX1_mayTake_11 : decode cX1_mayTake 11 = .ok (.idiv, 1) := by decide +kernel
theorem dX1_mayTake_12 : decode cX1_mayTake 12 = .ok (.if_icmp .gt 7, 3) := by decide +kernel
theorem dX1_mayTake_15 : decode cX1_mayTake 15 = .ok (.iconst 1, 1) := by decide +kernel
theorem dX1_mayTake_16 : decode cX1_mayTake 16 = .ok (.goto 4, 3) := by decide +kernel
theorem dX1_mayTake_19 : decode cX1_mayTake 19 = .ok (.iconst 0, 1) := by decide +kernel
theorem dX1_mayTake_20 : decode cX1_mayTake 20 = .ok (.ireturn, 1) := by decide +kernel
theorem dX1_freeRow_0 : decode cX1_freeRow 0 = .ok (.iconst 0, 1) := by decide +kernel
theorem dX1_freeRow_1 : decode cX1_freeRow 1 = .ok (.istore_n 2, 1) := by decide +kernel
theorem dX1_freeRow_2 : decode cX1_freeRow 2 = .ok (.iconst 0, 1) := by decide +kernel
theorem dX1_freeRow_3 : decode cX1_freeRow 3 = .ok (.istore_n 3, 1) := by decide +kernel
theorem dX1_freeRow_4 : decode cX1_freeRow 4 = .ok (.iload_n 3, 1) := by decide +kernel
theorem dX1_freeRow_5 : decode cX1_freeRow 5 = .ok (.aload_n 0, 1) := by decide +kernel
theorem dX1_freeRow_6 : decode cX1_freeRow 6 = .ok (.getfield 25, 3) := by decide +kernel
theorem dX1_freeRow_9 : decode cX1_freeRow 9 = .ok (.if_icmp .ge 37, 3) := by decide +kernel
theorem dX1_freeRow_12 : decode cX1_freeRow 12 = .ok (.aload_n 0, 1) := by decide +kernel
theorem dX1_freeRow_13 : decode cX1_freeRow 13 = .ok (.getfield 15, 3) := by decide +kernel
theorem dX1_freeRow_16 : decode cX1_freeRow 16 = .ok (.iload_n 3, 1) := by decide +kernel
theorem dX1_freeRow_17 : decode cX1_freeRow 17 = .ok (.iaload, 1) := by decide +kernel
theorem dX1_freeRow_18 : decode cX1_freeRow 18 = .ok (.ifCond .ne 9, 3) := by decide +kernel
theorem dX1_freeRow_21 : decode cX1_freeRow 21 = .ok (.iload_n 2, 1) := by decide +kernel
theorem dX1_freeRow_22 : decode cX1_freeRow 22 = .ok (.iconst 1, 1) := by decide +kernel
theorem dX1_freeRow_23 : decode cX1_freeRow 23 = .ok (.iadd, 1) := by decide +kernel
theorem dX1_freeRow_24 : decode cX1_freeRow 24 = .ok (.goto 4, 3) := by decide +kernel
theorem dX1_freeRow_27 : decode cX1_freeRow 27 = .ok (.iconst 0, 1) := by decide +kernel
theorem dX1_freeRow_28 : decode cX1_freeRow 28 = .ok (.istore_n 2, 1) := by decide +kernel
theorem dX1_freeRow_29 : decode cX1_freeRow 29 = .ok (.iload_n 2, 1) := by decide +kernel
theorem dX1_freeRow_30 : decode cX1_freeRow 30 = .ok (.iload_n 1, 1) := by decide +kernel
theorem dX1_freeRow_31 : decode cX1_freeRow 31 = .ok (.if_icmp .ne 9, 3) := by decide +kernel
theorem dX1_freeRow_34 : decode cX1_freeRow 34 = .ok (.iload_n 3, 1) := by decide +kernel
theorem dX1_freeRow_35 : decode cX1_freeRow 35 = .ok (.iload_n 1, 1) := by decide +kernel
theorem dX1_freeRow_36 : decode cX1_freeRow 36 = .ok (.isub, 1) := by decide +kernel
theorem dX1_freeRow_37 : decode cX1_freeRow 37 = .ok (.iconst 1, 1) := by decide +kernel
theorem dX1_freeRow_38 : decode cX1_freeRow 38 = .ok (.iadd, 1) := by decide +kernel
theorem dX1_freeRow_39 : decode cX1_freeRow 39 = .ok (.ireturn, 1) := by decide +kernel
theorem dX1_freeRow_40 : decode cX1_freeRow 40 = .ok (.iinc 3 1, 3) := by decide +kernel
theorem dX1_freeRow_43 : decode cX1_freeRow 43 = .ok (.goto (-39), 3) := by decide +kernel
theorem dX1_freeRow_46 : decode cX1_freeRow 46 = .ok (.iconst (-1), 1) := by decide +kernel
theorem dX1_freeRow_47 : decode cX1_freeRow 47 = .ok (.ireturn, 1) := by decide +kernel
theorem dX1_putNew_0 : decode cX1_putNew 0 = .ok (.iconst 1, 1) := by decide +kernel
theorem dX1_putNew_1 : decode cX1_putNew 1 = .ok (.iload_n 2, 1) := by decide +kernel
theorem dX1_putNew_2 : decode cX1_putNew 2 = .ok (.iadd, 1) := by decide +kernel
theorem dX1_putNew_3 : decode cX1_putNew 3 = .ok (.iload_n 3, 1) := by decide +kernel
theorem dX1_putNew_4 : decode cX1_putNew 4 = .ok (.iadd, 1) := by decide +kernel
theorem dX1_putNew_5 : decode cX1_putNew 5 = .ok (.istore 4, 2) := by decide +kernel
theorem dX1_putNew_7 : decode cX1_putNew 7 = .ok (.iload 4, 2) := by decide +kernel
theorem dX1_putNew_9 : decode cX1_putNew 9 = .ok (.aload_n 0, 1) := by decide +kernel
theorem dX1_putNew_10 : decode cX1_putNew 10 = .ok (.getfield 29, 3) := by decide +kernel
theorem dX1_putNew_13 : decode cX1_putNew 13 = .ok (.if_icmp .gt 22, 3) := by decide +kernel
theorem dX1_putNew_16 : decode cX1_putNew 16 = .ok (.aload_n 0, 1) := by decide +kernel
theorem dX1_putNew_17 : decode cX1_putNew 17 = .ok (.iload_n 1, 1) := by decide +kernel
theorem dX1_putNew_18 : decode cX1_putNew 18 = .ok (.iload 4, 2) := by decide +kernel
theorem dX1_putNew_20 : decode cX1_putNew 20 = .ok (.invokevirtual 90, 3) := by decide +kernel
theorem dX1_putNew_23 : decode cX1_putNew 23 = .ok (.aload_n 0, 1) := by decide +kernel
theorem dX1_putNew_24 : decode cX1_putNew 24 = .ok (.aload_n 0, 1) := by decide +kernel
theorem dX1_putNew_25 : decode cX1_putNew 25 = .ok (.iload_n 1, 1) := by decide +kernel
theorem dX1_putNew_26 : decode cX1_putNew 26 = .ok (.invokevirtual 94, 3) := by decide +kernel
theorem dX1_putNew_29 : decode cX1_putNew 29 = .ok (.putfield 32, 3) := by decide +kernel
theorem dX1_putNew_32 : decode cX1_putNew 32 = .ok (.goto 14, 3) := by decide +kernel
theorem dX1_putNew_35 : decode cX1_putNew 35 = .ok (.aload_n 0, 1) := by decide +kernel
theorem dX1_putNew_36 : decode cX1_putNew 36 = .ok (.aload_n 0, 1) := by decide +kernel
theorem dX1_putNew_37 : decode cX1_putNew 37 = .ok (.iload_n 1, 1) := by decide +kernel
theorem dX1_putNew_38 : decode cX1_putNew 38 = .ok (.invokevirtual 94, 3) := by decide +kernel
theorem dX1_putNew_41 : decode cX1_putNew 41 = .ok (.iload 4, 2) := by decide +kernel
theorem dX1_putNew_43 : decode cX1_putNew 43 = .ok (.invokevirtual 97, 3) := by decide +kernel
theorem dX1_putNew_46 : decode cX1_putNew 46 = .ok (.aload_n 0, 1) := by decide +kernel
theorem dX1_putNew_47 : decode cX1_putNew 47 = .ok (.getfield 9, 3) := by decide +kernel
theorem dX1_putNew_50 : decode cX1_putNew 50 = .ok (.iload_n 1, 1) := by decide +kernel
theorem dX1_putNew_51 : decode cX1_putNew 51 = .ok (.sipush 256, 3) := by decide +kernel
theorem dX1_putNew_54 : decode cX1_putNew 54 = .ok (.iload_n 2, 1) := by decide +kernel
theorem dX1_putNew_55 : decode cX1_putNew 55 = .ok (.imul, 1) := by decide +kernel
theorem dX1_putNew_56 : decode cX1_putNew 56 = .ok (.iload_n 3, 1) := by decide +kernel
theorem dX1_putNew_57 : decode cX1_putNew 57 = .ok (.iadd, 1) := by decide +kernel
theorem dX1_putNew_58 : decode cX1_putNew 58 = .ok (.iastore, 1) := by decide +kernel
theorem dX1_putNew_59 : decode cX1_putNew 59 = .ok (.iconst 0, 1) := by decide +kernel
theorem dX1_putNew_60 : decode cX1_putNew 60 = .ok (.istore 5, 2) := by decide +kernel
theorem dX1_putNew_62 : decode cX1_putNew 62 = .ok (.iload 5, 2) := by decide +kernel
theorem dX1_putNew_64 : decode cX1_putNew 64 = .ok (.iload_n 2, 1) := by decide +kernel
theorem dX1_putNew_65 : decode cX1_putNew 65 = .ok (.if_icmp .ge 17, 3) := by decide +kernel
theorem dX1_putNew_68 : decode cX1_putNew 68 = .ok (.aload_n 0, 1) := by decide +kernel
theorem dX1_putNew_69 : decode cX1_putNew 69 = .ok (.iload_n 1, 1) := by decide +kernel
theorem dX1_putNew_70 : decode cX1_putNew 70 = .ok (.iload 5, 2) := by decide +kernel
theorem dX1_putNew_72 : decode cX1_putNew 72 = .ok (.iconst (-1), 1) := by decide +kernel
theorem dX1_putNew_73 : decode cX1_putNew 73 = .ok (.invokevirtual 100, 3) := by decide +kernel
theorem dX1_putNew_76 : decode cX1_putNew 76 = .ok (.iinc 5 1, 3) := by decide +kernel
theorem dX1_putNew_79 : decode cX1_putNew 79 = .ok (.goto (-17), 3) := by decide +kernel
theorem dX1_putNew_82 : decode cX1_putNew 82 = .ok (.return_, 1) := by decide +kernel
theorem dX1_copySmall_0 : decode cX1_copySmall 0 = .ok (.aload_n 0, 1) := by decide +kernel
theorem dX1_copySmall_1 : decode cX1_copySmall 1 = .ok (.iload_n 1, 1) := by decide +kernel
theorem dX1_copySmall_2 : decode cX1_copySmall 2 = .ok (.invokevirtual 64, 3) := by decide +kernel
theorem dX1_copySmall_5 : decode cX1_copySmall 5 = .ok (.istore_n 3, 1) := by decide +kernel
theorem dX1_copySmall_6 : decode cX1_copySmall 6 = .ok (.aload_n 0, 1) := by decide +kernel
theorem dX1_copySmall_7 : decode cX1_copySmall 7 = .ok (.iload_n 2, 1) := by decide +kernel
theorem dX1_copySmall_8 : decode cX1_copySmall 8 = .ok (.iload_n 3, 1) := by decide +kernel
theorem dX1_copySmall_9 : decode cX1_copySmall 9 = .ok (.invokevirtual 90, 3) := by decide +kernel
theorem dX1_copySmall_12 : decode cX1_copySmall 12 = .ok (.aload_n 0, 1) := by decide +kernel
theorem dX1_copySmall_13 : decode cX1_copySmall 13 = .ok (.getfield 9, 3) := by decide +kernel
theorem dX1_copySmall_16 : decode cX1_copySmall 16 = .ok (.iload_n 1, 1) := by decide +kernel
theorem dX1_copySmall_17 : decode cX1_copySmall 17 = .ok (.aload_n 0, 1) := by decide +kernel
theorem dX1_copySmall_18 : decode cX1_copySmall 18 = .ok (.getfield 9, 3) := by decide +kernel
theorem dX1_copySmall_21 : decode cX1_copySmall 21 = .ok (.iload_n 2, 1) := by decide +kernel
theorem dX1_copySmall_22 : decode cX1_copySmall 22 = .ok (.iload_n 3, 1) := by decide +kernel
theorem dX1_copySmall_23 : decode cX1_copySmall 23 = .ok (.invokestatic 104, 3) := by decide +kernel
theorem dX1_copySmall_26 : decode cX1_copySmall 26 = .ok (.return_, 1) := by decide +kernel
theorem dX1_enterSmall_0 : decode cX1_enterSmall 0 = .ok (.aload_n 0, 1) := by decide +kernel
theorem dX1_enterSmall_1 : decode cX1_enterSmall 1 = .ok (.iload_n 1, 1) := by decide +kernel
theorem dX1_enterSmall_2 : decode cX1_enterSmall 2 = .ok (.invokevirtual 94, 3) := by decide +kernel
theorem dX1_enterSmall_5 : decode cX1_enterSmall 5 = .ok (.istore_n 3, 1) := by decide +kernel
theorem dX1_enterSmall_6 : decode cX1_enterSmall 6 = .ok (.aload_n 0, 1) := by decide +kernel
theorem dX1_enterSmall_7 : decode cX1_enterSmall 7 = .ok (.getfield 15, 3) := by decide +kernel
theorem dX1_enterSmall_10 : decode cX1_enterSmall 10 = .ok (.iload_n 3, 1) := by decide +kernel
theorem dX1_enterSmall_11 : decode cX1_enterSmall 11 = .ok (.iconst 1, 1) := by decide +kernel
theorem dX1_enterSmall_12 : decode cX1_enterSmall 12 = .ok (.iastore, 1) := by decide +kernel
theorem dX1_enterSmall_13 : decode cX1_enterSmall 13 = .ok (.aload_n 0, 1) := by decide +kernel
theorem dX1_enterSmall_14 : decode cX1_enterSmall 14 = .ok (.getfield 18, 3) := by decide +kernel
theorem dX1_enterSmall_17 : decode cX1_enterSmall 17 = .ok (.iload_n 3, 1) := by decide +kernel
theorem dX1_enterSmall_18 : decode cX1_enterSmall 18 = .ok (.dup2, 1) := by decide +kernel
theorem dX1_enterSmall_19 : decode cX1_enterSmall 19 = .ok (.iaload, 1) := by decide +kernel
theorem dX1_enterSmall_20 : decode cX1_enterSmall 20 = .ok (.iload_n 2, 1) := by decide +kernel
theorem dX1_enterSmall_21 : decode cX1_enterSmall 21 = .ok (.iadd, 1) := by decide +kernel
theorem dX1_enterSmall_22 : decode cX1_enterSmall 22 = .ok (.iastore, 1) := by decide +kernel
theorem dX1_enterSmall_23 : decode cX1_enterSmall 23 = .ok (.aload_n 0, 1) := by decide +kernel
theorem dX1_enterSmall_24 : decode cX1_enterSmall 24 = .ok (.getfield 21, 3) := by decide +kernel
theorem dX1_enterSmall_27 : decode cX1_enterSmall 27 = .ok (.iload_n 3, 1) := by decide +kernel
theorem dX1_enterSmall_28 : decode cX1_enterSmall 28 = .ok (.dup2, 1) := by decide +kernel
theorem dX1_enterSmall_29 : decode cX1_enterSmall 29 = .ok (.laload, 1) := by decide +kernel
theorem dX1_enterSmall_30 : decode cX1_enterSmall 30 = .ok (.lconst 1, 1) := by decide +kernel
theorem dX1_enterSmall_31 : decode cX1_enterSmall 31 = .ok (.iload_n 1, 1) := by decide +kernel
theorem dX1_enterSmall_32 : decode cX1_enterSmall 32 = .ok (.aload_n 0, 1) := by decide +kernel
theorem dX1_enterSmall_33 : decode cX1_enterSmall 33 = .ok (.getfield 29, 3) := by decide +kernel
theorem dX1_enterSmall_36 : decode cX1_enterSmall 36 = .ok (.irem, 1) := by decide +kernel
theorem dX1_enterSmall_37 : decode cX1_enterSmall 37 = .ok (.lshl, 1) := by decide +kernel
theorem dX1_enterSmall_38 : decode cX1_enterSmall 38 = .ok (.lor, 1) := by decide +kernel
theorem dX1_enterSmall_39 : decode cX1_enterSmall 39 = .ok (.lastore, 1) := by decide +kernel
theorem dX1_enterSmall_40 : decode cX1_enterSmall 40 = .ok (.return_, 1) := by decide +kernel
theorem dX1_enterLong_0 : decode cX1_enterLong 0 = .ok (.iload_n 2, 1) := by decide +kernel
theorem dX1_enterLong_1 : decode cX1_enterLong 1 = .ok (.istore_n 3, 1) := by decide +kernel
theorem dX1_enterLong_2 : decode cX1_enterLong 2 = .ok (.iload_n 1, 1) := by decide +kernel
theorem dX1_enterLong_3 : decode cX1_enterLong 3 = .ok (.istore 4, 2) := by decide +kernel
theorem dX1_enterLong_5 : decode cX1_enterLong 5 = .ok (.iload 4, 2) := by decide +kernel
theorem dX1_enterLong_7 : decode cX1_enterLong 7 = .ok (.aload_n 0, 1) := by decide +kernel
theorem dX1_enterLong_8 : decode cX1_enterLong 8 = .ok (.getfield 25, 3) := by decide +kernel
theorem dX1_enterLong_11 : decode cX1_enterLong 11 = .ok (.if_icmp .ge 53, 3) := by decide +kernel
theorem dX1_enterLong_14 : decode cX1_enterLong 14 = .ok (.iload_n 3, 1) := by decide +kernel
theorem dX1_enterLong_15 : decode cX1_enterLong 15 = .ok (.ifCond .le 49, 3) := by decide +kernel
theorem dX1_enterLong_18 : decode cX1_enterLong 18 = .ok (.aload_n 0, 1) := by decide +kernel
theorem dX1_enterLong_19 : decode cX1_enterLong 19 = .ok (.getfield 15, 3) := by decide +kernel
theorem dX1_enterLong_22 : decode cX1_enterLong 22 = .ok (.iload 4, 2) := by decide +kernel
theorem dX1_enterLong_24 : decode cX1_enterLong 24 = .ok (.iload 4, 2) := by decide +kernel
theorem dX1_enterLong_26 : decode cX1_enterLong 26 = .ok (.iload_n 1, 1) := by decide +kernel
theorem dX1_enterLong_27 : decode cX1_enterLong 27 = .ok (.if_icmp .ne 7, 3) := by decide +kernel
theorem dX1_enterLong_30 : decode cX1_enterLong 30 = .ok (.iconst 2, 1) := by decide +kernel
theorem dX1_enterLong_31 : decode cX1_enterLong 31 = .ok (.goto 4, 3) := by decide +kernel
theorem dX1_enterLong_34 : decode cX1_enterLong 34 = .ok (.iconst 3, 1) := by decide +kernel
theorem dX1_enterLong_35 : decode cX1_enterLong 35 = .ok (.iastore, 1) := by decide +kernel
theorem dX1_enterLong_36 : decode cX1_enterLong 36 = .ok (.aload_n 0, 1) := by decide +kernel
theorem dX1_enterLong_37 : decode cX1_enterLong 37 = .ok (.getfield 18, 3) := by decide +kernel
theorem dX1_enterLong_40 : decode cX1_enterLong 40 = .ok (.iload 4, 2) := by decide +kernel
theorem dX1_enterLong_42 : decode cX1_enterLong 42 = .ok (.iload_n 3, 1) := by decide +kernel
theorem dX1_enterLong_43 : decode cX1_enterLong 43 = .ok (.aload_n 0, 1) := by decide +kernel
theorem dX1_enterLong_44 : decode cX1_enterLong 44 = .ok (.getfield 29, 3) := by decide +kernel
theorem dX1_enterLong_47 : decode cX1_enterLong 47 = .ok (.invokestatic 110, 3) := by decide +kernel
theorem dX1_enterLong_50 : decode cX1_enterLong 50 = .ok (.iastore, 1) := by decide +kernel
theorem dX1_enterLong_51 : decode cX1_enterLong 51 = .ok (.iload_n 3, 1) := by decide +kernel
theorem dX1_enterLong_52 : decode cX1_enterLong 52 = .ok (.aload_n 0, 1) := by decide +kernel
theorem dX1_enterLong_53 : decode cX1_enterLong 53 = .ok (.getfield 29, 3) := by decide +kernel
theorem dX1_enterLong_56 : decode cX1_enterLong 56 = .ok (.isub, 1) := by decide +kernel
theorem dX1_enterLong_57 : decode cX1_enterLong 57 = .ok (.istore_n 3, 1) := by decide +kernel
theorem dX1_enterLong_58 : decode cX1_enterLong 58 = .ok (.iinc 4 1, 3) := by decide +kernel
theorem dX1_enterLong_61 : decode cX1_enterLong 61 = .ok (.goto (-56), 3) := by decide +kernel
theorem dX1_enterLong_64 : decode cX1_enterLong 64 = .ok (.aload_n 0, 1) := by decide +kernel
theorem dX1_enterLong_65 : decode cX1_enterLong 65 = .ok (.getfield 21, 3) := by decide +kernel
theorem dX1_enterLong_68 : decode cX1_enterLong 68 = .ok (.iload_n 1, 1) := by decide +kernel
theorem dX1_enterLong_69 : decode cX1_enterLong 69 = .ok (.lconst 1, 1) := by decide +kernel
theorem dX1_enterLong_70 : decode cX1_enterLong 70 = .ok (.lastore, 1) := by decide +kernel
theorem dX1_enterLong_71 : decode cX1_enterLong 71 = .ok (.return_, 1) := by decide +kernel
theorem dX1_freePagesBut_0 : decode cX1_freePagesBut 0 = .ok (.iconst 0, 1) := by decide +kernel
theorem dX1_freePagesBut_1 : decode cX1_freePagesBut 1 = .ok (.istore_n 2, 1) := by decide +kernel
theorem dX1_freePagesBut_2 : decode cX1_freePagesBut 2 = .ok (.iconst 0, 1) := by decide +kernel
theorem dX1_freePagesBut_3 : decode cX1_freePagesBut 3 = .ok (.istore_n 3, 1) := by decide +kernel
theorem dX1_freePagesBut_4 : decode cX1_freePagesBut 4 = .ok (.iload_n 3, 1) := by decide +kernel
theorem dX1_freePagesBut_5 : decode cX1_freePagesBut 5 = .ok (.aload_n 0, 1) := by decide +kernel
theorem dX1_freePagesBut_6 : decode cX1_freePagesBut 6 = .ok (.getfield 25, 3) := by decide +kernel
theorem dX1_freePagesBut_9 : decode cX1_freePagesBut 9 = .ok (.if_icmp .ge 32, 3) := by decide +kernel
theorem dX1_freePagesBut_12 : decode cX1_freePagesBut 12 = .ok (.aload_n 0, 1) := by decide +kernel
theorem dX1_freePagesBut_13 : decode cX1_freePagesBut 13 = .ok (.getfield 15, 3) := by decide +kernel
theorem dX1_freePagesBut_16 : decode cX1_freePagesBut 16 = .ok (.iload_n 3, 1) := by decide +kernel
theorem dX1_freePagesBut_17 : decode cX1_freePagesBut 17 = .ok (.iaload, 1) := by decide +kernel
theorem dX1_freePagesBut_18 : decode cX1_freePagesBut 18 = .ok (.ifCond .eq 17, 3) := by decide +kernel
theorem dX1_freePagesBut_21 : decode cX1_freePagesBut 21 = .ok (.aload_n 1, 1) := by decide +kernel
theorem dX1_freePagesBut_22 : decode cX1_freePagesBut 22 = .ok (.iload_n 3, 1) := by decide +kernel
theorem dX1_freePagesBut_23 : decode cX1_freePagesBut 23 = .ok (.baload, 1) := by decide +kernel
theorem dX1_freePagesBut_24 : decode cX1_freePagesBut 24 = .ok (.ifCond .ne 11, 3) := by decide +kernel
theorem dX1_freePagesBut_27 : decode cX1_freePagesBut 27 = .ok (.aload_n 0, 1) := by decide +kernel
theorem dX1_freePagesBut_28 : decode cX1_freePagesBut 28 = .ok (.iload_n 3, 1) := by decide +kernel
theorem dX1_freePagesBut_29 : decode cX1_freePagesBut 29 = .ok (.invokevirtual 115, 3) := by decide +kernel
theorem dX1_freePagesBut_32 : decode cX1_freePagesBut 32 = .ok (.iinc 2 1, 3) := by decide +kernel
theorem dX1_freePagesBut_35 : decode cX1_freePagesBut 35 = .ok (.iinc 3 1, 3) := by decide +kernel
theorem dX1_freePagesBut_38 : decode cX1_freePagesBut 38 = .ok (.goto (-34), 3) := by decide +kernel
theorem dX1_freePagesBut_41 : decode cX1_freePagesBut 41 = .ok (.iload_n 2, 1) := by decide +kernel
theorem dX1_freePagesBut_42 : decode cX1_freePagesBut 42 = .ok (.ireturn, 1) := by decide +kernel
theorem dX1_freePage_0 : decode cX1_freePage 0 = .ok (.iconst 0, 1) := by decide +kernel
theorem dX1_freePage_1 : decode cX1_freePage 1 = .ok (.istore_n 2, 1) := by decide +kernel
theorem dX1_freePage_2 : decode cX1_freePage 2 = .ok (.iload_n 2, 1) := by decide +kernel
theorem dX1_freePage_3 : decode cX1_freePage 3 = .ok (.aload_n 0, 1) := by decide +kernel
theorem dX1_freePage_4 : decode cX1_freePage 4 = .ok (.getfield 29, 3) := by decide +kernel
theorem dX1_freePage_7 : decode cX1_freePage 7 = .ok (.if_icmp .ge 21, 3) := by decide +kernel
theorem dX1_freePage_10 : decode cX1_freePage 10 = .ok (.aload_n 0, 1) := by decide +kernel
theorem dX1_freePage_11 : decode cX1_freePage 11 = .ok (.getfield 9, 3) := by decide +kernel
theorem dX1_freePage_14 : decode cX1_freePage 14 = .ok (.aload_n 0, 1) := by decide +kernel
theorem dX1_freePage_15 : decode cX1_freePage 15 = .ok (.iload_n 1, 1) := by decide +kernel
theorem dX1_freePage_16 : decode cX1_freePage 16 = .ok (.iload_n 2, 1) := by decide +kernel
theorem dX1_freePage_17 : decode cX1_freePage 17 = .ok (.invokevirtual 73, 3) := by decide +kernel
theorem dX1_freePage_20 : decode cX1_freePage 20 = .ok (.iconst 0, 1) := by decide +kernel
theorem dX1_freePage_21 : decode cX1_freePage 21 = .ok (.iastore, 1) := by decide +kernel
theorem dX1_freePage_22 : decode cX1_freePage 22 = .ok (.iinc 2 1, 3) := by decide +kernel
theorem dX1_freePage_25 : decode cX1_freePage 25 = .ok (.goto (-23), 3) := by decide +kernel
theorem dX1_freePage_28 : decode cX1_freePage 28 = .ok (.aload_n 0, 1) := by decide +kernel
theorem dX1_freePage_29 : decode cX1_freePage 29 = .ok (.getfield 15, 3) := by decide +kernel
theorem dX1_freePage_32 : decode cX1_freePage 32 = .ok (.iload_n 1, 1) := by decide +kernel
theorem dX1_freePage_33 : decode cX1_freePage 33 = .ok (.iconst 0, 1) := by decide +kernel
theorem dX1_freePage_34 : decode cX1_freePage 34 = .ok (.iastore, 1) := by decide +kernel
theorem dX1_freePage_35 : decode cX1_freePage 35 = .ok (.aload_n 0, 1) := by decide +kernel
theorem dX1_freePage_36 : decode cX1_freePage 36 = .ok (.getfield 18, 3) := by decide +kernel
theorem dX1_freePage_39 : decode cX1_freePage 39 = .ok (.iload_n 1, 1) := by decide +kernel
theorem dX1_freePage_40 : decode cX1_freePage 40 = .ok (.iconst 0, 1) := by decide +kernel
theorem dX1_freePage_41 : decode cX1_freePage 41 = .ok (.iastore, 1) := by decide +kernel
theorem dX1_freePage_42 : decode cX1_freePage 42 = .ok (.aload_n 0, 1) := by decide +kernel
theorem dX1_freePage_43 : decode cX1_freePage 43 = .ok (.getfield 21, 3) := by decide +kernel
theorem dX1_freePage_46 : decode cX1_freePage 46 = .ok (.iload_n 1, 1) := by decide +kernel
theorem dX1_freePage_47 : decode cX1_freePage 47 = .ok (.lconst 0, 1) := by decide +kernel
theorem dX1_freePage_48 : decode cX1_freePage 48 = .ok (.lastore, 1) := by decide +kernel
theorem dX1_freePage_49 : decode cX1_freePage 49 = .ok (.return_, 1) := by decide +kernel
theorem dX2_init_0 : decode cX2_init 0 = .ok (.aload_n 0, 1) := by decide +kernel
theorem dX2_init_1 : decode cX2_init 1 = .ok (.invokespecial 1, 3) := by decide +kernel
theorem dX2_init_4 : decode cX2_init 4 = .ok (.aload_n 0, 1) := by decide +kernel
theorem dX2_init_5 : decode cX2_init 5 = .ok (.new 7, 3) := by decide +kernel
theorem dX2_init_8 : decode cX2_init 8 = .ok (.dup, 1) := by decide +kernel
theorem dX2_init_9 : decode cX2_init 9 = .ok (.invokespecial 9, 3) := by decide +kernel
theorem dX2_init_12 : decode cX2_init 12 = .ok (.putfield 10, 3) := by decide +kernel
theorem dX2_init_15 : decode cX2_init 15 = .ok (.aload_n 0, 1) := by decide +kernel
theorem dX2_init_16 : decode cX2_init 16 = .ok (.new 16, 3) := by decide +kernel
theorem dX2_init_19 : decode cX2_init 19 = .ok (.dup, 1) := by decide +kernel
theorem dX2_init_20 : decode cX2_init 20 = .ok (.aload_n 0, 1) := by decide +kernel
theorem dX2_init_21 : decode cX2_init 21 = .ok (.getfield 10, 3) := by decide +kernel
theorem dX2_init_24 : decode cX2_init 24 = .ok (.invokespecial 18, 3) := by decide +kernel
theorem dX2_init_27 : decode cX2_init 27 = .ok (.putfield 21, 3) := by decide +kernel
theorem dX2_init_30 : decode cX2_init 30 = .ok (.aload_n 0, 1) := by decide +kernel
theorem dX2_init_31 : decode cX2_init 31 = .ok (.bipush 32, 2) := by decide +kernel
theorem dX2_init_33 : decode cX2_init 33 = .ok (.newarray .int, 2) := by decide +kernel
theorem dX2_init_35 : decode cX2_init 35 = .ok (.putfield 25, 3) := by decide +kernel
theorem dX2_init_38 : decode cX2_init 38 = .ok (.aload_n 0, 1) := by decide +kernel
theorem dX2_init_39 : decode cX2_init 39 = .ok (.bipush 32, 2) := by decide +kernel
theorem dX2_init_41 : decode cX2_init 41 = .ok (.newarray .int, 2) := by decide +kernel
theorem dX2_init_43 : decode cX2_init 43 = .ok (.putfield 29, 3) := by decide +kernel
theorem dX2_init_46 : decode cX2_init 46 = .ok (.aload_n 0, 1) := by decide +kernel
theorem dX2_init_47 : decode cX2_init 47 = .ok (.bipush 16, 2) := by decide +kernel
theorem dX2_init_49 : decode cX2_init 49 = .ok (.bipush 32, 2) := by decide +kernel
theorem dX2_init_51 : decode cX2_init 51 = .ok (.invokevirtual 32, 3) := by decide +kernel
theorem dX2_init_54 : decode cX2_init 54 = .ok (.return_, 1) := by decide +kernel
theorem dX2_format_0 : decode cX2_format 0 = .ok (.iload_n 1, 1) := by decide +kernel
theorem dX2_format_1 : decode cX2_format 1 = .ok (.iconst 4, 1) := by decide +kernel
theorem dX2_format_2 : decode cX2_format 2 = .ok (.if_icmp .lt 9, 3) := by decide +kernel
theorem dX2_format_5 : decode cX2_format 5 = .ok (.iload_n 1, 1) := by decide +kernel
theorem dX2_format_6 : decode cX2_format 6 = .ok (.bipush 64, 2) := by decide +kernel
theorem dX2_format_8 : decode cX2_format 8 = .ok (.if_icmp .le 13, 3) := by decide +kernel
theorem dX2_format_11 : decode cX2_format 11 = .ok (.new 36, 3) := by decide +kernel
theorem dX2_format_14 : decode cX2_format 14 = .ok (.dup, 1) := by decide +kernel
theorem dX2_format_15 : decode cX2_format 15 = .ok (.ldc 38, 2) := by decide +kernel
theorem dX2_format_17 : decode cX2_format 17 = .ok (.invokespecial 40, 3) := by decide +kernel
theorem dX2_format_20 : decode cX2_format 20 = .ok (.athrow, 1) := by decide +kernel
theorem dX2_format_21 : decode cX2_format 21 = .ok (.iload_n 2, 1) := by decide +kernel
theorem dX2_format_22 : decode cX2_format 22 = .ok (.bipush 8, 2) := by decide +kernel
theorem dX2_format_24 : decode cX2_format 24 = .ok (.if_icmp .lt 9, 3) := by decide +kernel
theorem dX2_format_27 : decode cX2_format 27 = .ok (.iload_n 2, 1) := by decide +kernel
theorem dX2_format_28 : decode cX2_format 28 = .ok (.bipush 64, 2) := by decide +kernel
theorem dX2_format_30 : decode cX2_format 30 = .ok (.if_icmp .le 13, 3) := by decide +kernel
theorem dX2_format_33 : decode cX2_format 33 = .ok (.new 36, 3) := by decide +kernel
theorem dX2_format_36 : decode cX2_format 36 = .ok (.dup, 1) := by decide +kernel
theorem dX2_format_37 : decode cX2_format 37 = .ok (.ldc 43, 2) := by decide +kernel
theorem dX2_format_39 : decode cX2_format 39 = .ok (.invokespecial 40, 3) := by decide +kernel
theorem dX2_format_42 : decode cX2_format 42 = .ok (.athrow, 1) := by decide +kernel
theorem dX2_format_43 : decode cX2_format 43 = .ok (.aload_n 0, 1) := by decide +kernel
theorem dX2_format_44 : decode cX2_format 44 = .ok (.iload_n 1, 1) := by decide +kernel
theorem dX2_format_45 : decode cX2_format 45 = .ok (.iload_n 2, 1) := by decide +kernel
theorem dX2_format_46 : decode cX2_format 46 = .ok (.invokevirtual 32, 3) := by decide +kernel
theorem dX2_format_49 : decode cX2_format 49 = .ok (.return_, 1) := by decide +kernel
theorem dX2_make_0 : decode cX2_make 0 = .ok (.iload_n 1, 1) := by decide +kernel
theorem dX2_make_1 : decode cX2_make 1 = .ok (.invokestatic 45, 3) := by decide +kernel
theorem dX2_make_4 : decode cX2_make 4 = .ok (.iload_n 2, 1) := by decide +kernel
theorem dX2_make_5 : decode cX2_make 5 = .ok (.ifCond .lt 9, 3) := by decide +kernel
theorem dX2_make_8 : decode cX2_make 8 = .ok (.iload_n 2, 1) := by decide +kernel
theorem dX2_make_9 : decode cX2_make 9 = .ok (.bipush 31, 2) := by decide +kernel
theorem dX2_make_11 : decode cX2_make 11 = .ok (.if_icmp .le 13, 3) := by decide +kernel
theorem dX2_make_14 : decode cX2_make 14 = .ok (.new 36, 3) := by decide +kernel
theorem dX2_make_17 : decode cX2_make 17 = .ok (.dup, 1) := by decide +kernel
theorem dX2_make_18 : decode cX2_make 18 = .ok (.ldc 49, 2) := by decide +kernel
theorem dX2_make_20 : decode cX2_make 20 = .ok (.invokespecial 40, 3) := by decide +kernel
theorem dX2_make_23 : decode cX2_make 23 = .ok (.athrow, 1) := by decide +kernel
theorem dX2_make_24 : decode cX2_make 24 = .ok (.iload_n 3, 1) := by decide +kernel
theorem dX2_make_25 : decode cX2_make 25 = .ok (.ifCond .lt 10, 3) := by decide +kernel
theorem dX2_make_28 : decode cX2_make 28 = .ok (.iload_n 3, 1) := by decide +kernel
theorem dX2_make_29 : decode cX2_make 29 = .ok (.sipush 200, 3) := by decide +kernel
theorem dX2_make_32 : decode cX2_make 32 = .ok (.if_icmp .le 13, 3) := by decide +kernel
theorem dX2_make_35 : decode cX2_make 35 = .ok (.new 36, 3) := by decide +kernel
theorem dX2_make_38 : decode cX2_make 38 = .ok (.dup, 1) := by decide +kernel
theorem dX2_make_39 : decode cX2_make 39 = .ok (.ldc 51, 2) := by decide +kernel
theorem dX2_make_41 : decode cX2_make 41 = .ok (.invokespecial 40, 3) := by decide +kernel
theorem dX2_make_44 : decode cX2_make 44 = .ok (.athrow, 1) := by decide +kernel
theorem dX2_make_45 : decode cX2_make 45 = .ok (.iconst 1, 1) := by decide +kernel
theorem dX2_make_46 : decode cX2_make 46 = .ok (.iload_n 2, 1) := by decide +kernel
theorem dX2_make_47 : decode cX2_make 47 = .ok (.iadd, 1) := by decide +kernel
theorem dX2_make_48 : decode cX2_make 48 = .ok (.iload_n 3, 1) := by decide +kernel
theorem dX2_make_49 : decode cX2_make 49 = .ok (.iadd, 1) := by decide +kernel
theorem dX2_make_50 : decode cX2_make 50 = .ok (.istore 4, 2) := by decide +kernel
theorem dX2_make_52 : decode cX2_make 52 = .ok (.aload_n 0, 1) := by decide +kernel
theorem dX2_make_53 : decode cX2_make 53 = .ok (.getfield 10, 3) := by decide +kernel
theorem dX2_make_56 : decode cX2_make 56 = .ok (.iload 4, 2) := by decide +kernel
theorem dX2_make_58 : decode cX2_make 58 = .ok (.invokevirtual 53, 3) := by decide +kernel
theorem dX2_make_61 : decode cX2_make 61 = .ok (.istore 5, 2) := by decide +kernel
theorem dX2_make_63 : decode cX2_make 63 = .ok (.iload 5, 2) := by decide +kernel
theorem dX2_make_65 : decode cX2_make 65 = .ok (.iconst (-1), 1) := by decide +kernel
theorem dX2_make_66 : decode cX2_make 66 = .ok (.if_icmp .ne 30, 3) := by decide +kernel
theorem dX2_make_69 : decode cX2_make 69 = .ok (.aload_n 0, 1) := by decide +kernel
theorem dX2_make_70 : decode cX2_make 70 = .ok (.getfield 21, 3) := by decide +kernel
theorem dX2_make_73 : decode cX2_make 73 = .ok (.aload_n 0, 1) := by decide +kernel
theorem dX2_make_74 : decode cX2_make 74 = .ok (.getfield 25, 3) := by decide +kernel
theorem dX2_make_77 : decode cX2_make 77 = .ok (.aload_n 0, 1) := by decide +kernel
theorem dX2_make_78 : decode cX2_make 78 = .ok (.getfield 29, 3) := by decide +kernel
theorem dX2_make_81 : decode cX2_make 81 = .ok (.invokevirtual 57, 3) := by decide +kernel
theorem dX2_make_84 : decode cX2_make 84 = .ok (.pop, 1) := by decide +kernel
theorem dX2_make_85 : decode cX2_make 85 = .ok (.aload_n 0, 1) := by decide +kernel
theorem dX2_make_86 : decode cX2_make 86 = .ok (.getfield 10, 3) := by decide +kernel
theorem dX2_make_89 : decode cX2_make 89 = .ok (.iload 4, 2) := by decide +kernel
theorem dX2_make_91 : decode cX2_make 91 = .ok (.invokevirtual 53, 3) := by decide +kernel
theorem dX2_make_94 : decode cX2_make 94 = .ok (.istore 5, 2) := by decide +kernel
theorem dX2_make_96 : decode cX2_make 96 = .ok (.iload 5, 2) := by decide +kernel
theorem dX2_make_98 : decode cX2_make 98 = .ok (.iconst (-1), 1) := by decide +kernel
theorem dX2_make_99 : decode cX2_make 99 = .ok (.if_icmp .ne 5, 3) := by decide +kernel
theorem dX2_make_102 : decode cX2_make 102 = .ok (.iconst 0, 1) := by decide +kernel
theorem dX2_make_103 : decode cX2_make 103 = .ok (.ireturn, 1) := by decide +kernel
theorem dX2_make_104 : decode cX2_make 104 = .ok (.aload_n 0, 1) := by decide +kernel
theorem dX2_make_105 : decode cX2_make 105 = .ok (.getfield 10, 3) := by decide +kernel
theorem dX2_make_108 : decode cX2_make 108 = .ok (.iload 5, 2) := by decide +kernel
theorem dX2_make_110 : decode cX2_make 110 = .ok (.iload_n 2, 1) := by decide +kernel
theorem dX2_make_111 : decode cX2_make 111 = .ok (.iload_n 3, 1) := by decide +kernel
theorem dX2_make_112 : decode cX2_make 112 = .ok (.invokevirtual 61, 3) := by decide +kernel
theorem dX2_make_115 : decode cX2_make 115 = .ok (.aload_n 0, 1) := by decide +kernel
theorem dX2_make_116 : decode cX2_make 116 = .ok (.getfield 25, 3) := by decide +kernel
theorem dX2_make_119 : decode cX2_make 119 = .ok (.iload_n 1, 1) := by decide +kernel
theorem dX2_make_120 : decode cX2_make 120 = .ok (.iload 5, 2) := by decide +kernel
theorem dX2_make_122 : decode cX2_make 122 = .ok (.iastore, 1) := by decide +kernel
theorem dX2_make_123 : decode cX2_make 123 = .ok (.iconst 1, 1) := by decide +kernel
theorem dX2_make_124 : decode cX2_make 124 = .ok (.ireturn, 1) := by decide +kernel
theorem dX2_copy_0 : decode cX2_copy 0 = .ok (.iload_n 1, 1) := by decide +kernel
theorem dX2_copy_1 : decode cX2_copy 1 = .ok (.invokestatic 45, 3) := by decide +kernel
theorem dX2_copy_4 : decode cX2_copy 4 = .ok (.iload_n 2, 1) := by decide +kernel
theorem dX2_copy_5 : decode cX2_copy 5 = .ok (.invokestatic 45, 3) := by decide +kernel
theorem dX2_copy_8 : decode cX2_copy 8 = .ok (.aload_n 0, 1) := by decide +kernel
theorem dX2_copy_9 : decode cX2_copy 9 = .ok (.getfield 25, 3) := by decide +kernel
theorem dX2_copy_12 : decode cX2_copy 12 = .ok (.iload_n 2, 1) := by decide +kernel
theorem dX2_copy_13 : decode cX2_copy 13 = .ok (.aload_n 0, 1) := by decide +kernel
theorem dX2_copy_14 : decode cX2_copy 14 = .ok (.getfield 25, 3) := by decide +kernel
theorem dX2_copy_17 : decode cX2_copy 17 = .ok (.iload_n 1, 1) := by decide +kernel
theorem dX2_copy_18 : decode cX2_copy 18 = .ok (.iaload, 1) := by decide +kernel
theorem dX2_copy_19 : decode cX2_copy 19 = .ok (.iastore, 1) := by decide +kernel
theorem dX2_copy_20 : decode cX2_copy 20 = .ok (.return_, 1) := by decide +kernel
theorem dX2_drop_0 : decode cX2_drop 0 = .ok (.iload_n 1, 1) := by decide +kernel
theorem dX2_drop_1 : decode cX2_drop 1 = .ok (.invokestatic 45, 3) := by decide +kernel
theorem dX2_drop_4 : decode cX2_drop 4 = .ok (.aload_n 0, 1) := by decide +kernel
theorem dX2_drop_5 : decode cX2_drop 5 = .ok (.getfield 25, 3) := by decide +kernel
theorem dX2_drop_8 : decode cX2_drop 8 = .ok (.iload_n 1, 1) := by decide +kernel
theorem dX2_drop_9 : decode cX2_drop 9 = .ok (.iconst (-1), 1) := by decide +kernel
theorem dX2_drop_10 : decode cX2_drop 10 = .ok (.iastore, 1) := by decide +kernel
theorem dX2_drop_11 : decode cX2_drop 11 = .ok (.return_, 1) := by decide +kernel
theorem dX2_link_0 : decode cX2_link 0 = .ok (.iload_n 1, 1) := by decide +kernel
theorem dX2_link_1 : decode cX2_link 1 = .ok (.invokestatic 45, 3) := by decide +kernel
theorem dX2_link_4 : decode cX2_link 4 = .ok (.iload_n 3, 1) := by decide +kernel
theorem dX2_link_5 : decode cX2_link 5 = .ok (.invokestatic 45, 3) := by decide +kernel
theorem dX2_link_8 : decode cX2_link 8 = .ok (.aload_n 0, 1) := by decide +kernel
theorem dX2_link_9 : decode cX2_link 9 = .ok (.iload_n 1, 1) := by decide +kernel
theorem dX2_link_10 : decode cX2_link 10 = .ok (.invokevirtual 65, 3) := by decide +kernel
theorem dX2_link_13 : decode cX2_link 13 = .ok (.aload_n 0, 1) := by decide +kernel
theorem dX2_link_14 : decode cX2_link 14 = .ok (.iload_n 1, 1) := by decide +kernel
theorem dX2_link_15 : decode cX2_link 15 = .ok (.iload_n 2, 1) := by decide +kernel
theorem dX2_link_16 : decode cX2_link 16 = .ok (.invokevirtual 68, 3) := by decide +kernel
theorem dX2_link_19 : decode cX2_link 19 = .ok (.aload_n 0, 1) := by decide +kernel
theorem dX2_link_20 : decode cX2_link 20 = .ok (.getfield 10, 3) := by decide +kernel
theorem dX2_link_23 : decode cX2_link 23 = .ok (.aload_n 0, 1) := by decide +kernel
theorem dX2_link_24 : decode cX2_link 24 = .ok (.getfield 25, 3) := by decide +kernel
theorem dX2_link_27 : decode cX2_link 27 = .ok (.iload_n 1, 1) := by decide +kernel
theorem dX2_link_28 : decode cX2_link 28 = .ok (.iaload, 1) := by decide +kernel
theorem dX2_link_29 : decode cX2_link 29 = .ok (.iload_n 2, 1) := by decide +kernel
theorem dX2_link_30 : decode cX2_link 30 = .ok (.aload_n 0, 1) := by decide +kernel
theorem dX2_link_31 : decode cX2_link 31 = .ok (.getfield 25, 3) := by decide +kernel
theorem dX2_link_34 : decode cX2_link 34 = .ok (.iload_n 3, 1) := by decide +kernel
theorem dX2_link_35 : decode cX2_link 35 = .ok (.iaload, 1) := by decide +kernel
theorem dX2_link_36 : decode cX2_link 36 = .ok (.invokevirtual 71, 3) := by decide +kernel
theorem dX2_link_39 : decode cX2_link 39 = .ok (.return_, 1) := by decide +kernel
theorem dX2_follow_0 : decode cX2_follow 0 = .ok (.iload_n 1, 1) := by decide +kernel
theorem dX2_follow_1 : decode cX2_follow 1 = .ok (.invokestatic 45, 3) := by decide +kernel
theorem dX2_follow_4 : decode cX2_follow 4 = .ok (.iload_n 3, 1) := by decide +kernel
theorem dX2_follow_5 : decode cX2_follow 5 = .ok (.invokestatic 45, 3) := by decide +kernel
theorem dX2_follow_8 : decode cX2_follow 8 = .ok (.aload_n 0, 1) := by decide +kernel
theorem dX2_follow_9 : decode cX2_follow 9 = .ok (.iload_n 1, 1) := by decide +kernel
theorem dX2_follow_10 : decode cX2_follow 10 = .ok (.invokevirtual 65, 3) := by decide +kernel
theorem dX2_follow_13 : decode cX2_follow 13 = .ok (.aload_n 0, 1) := by decide +kernel
theorem dX2_follow_14 : decode cX2_follow 14 = .ok (.iload_n 1, 1) := by decide +kernel
theorem dX2_follow_15 : decode cX2_follow 15 = .ok (.iload_n 2, 1) := by decide +kernel
theorem dX2_follow_16 : decode cX2_follow 16 = .ok (.invokevirtual 68, 3) := by decide +kernel
theorem dX2_follow_19 : decode cX2_follow 19 = .ok (.aload_n 0, 1) := by decide +kernel
theorem dX2_follow_20 : decode cX2_follow 20 = .ok (.getfield 25, 3) := by decide +kernel
theorem dX2_follow_23 : decode cX2_follow 23 = .ok (.iload_n 3, 1) := by decide +kernel
theorem dX2_follow_24 : decode cX2_follow 24 = .ok (.aload_n 0, 1) := by decide +kernel
theorem dX2_follow_25 : decode cX2_follow 25 = .ok (.getfield 10, 3) := by decide +kernel
theorem dX2_follow_28 : decode cX2_follow 28 = .ok (.aload_n 0, 1) := by decide +kernel
theorem dX2_follow_29 : decode cX2_follow 29 = .ok (.getfield 25, 3) := by decide +kernel
theorem dX2_follow_32 : decode cX2_follow 32 = .ok (.iload_n 1, 1) := by decide +kernel
theorem dX2_follow_33 : decode cX2_follow 33 = .ok (.iaload, 1) := by decide +kernel
theorem dX2_follow_34 : decode cX2_follow 34 = .ok (.iload_n 2, 1) := by decide +kernel
theorem dX2_follow_35 : decode cX2_follow 35 = .ok (.invokevirtual 74, 3) := by decide +kernel
theorem dX2_follow_38 : decode cX2_follow 38 = .ok (.iastore, 1) := by decide +kernel
theorem dX2_follow_39 : decode cX2_follow 39 = .ok (.aload_n 0, 1) := by decide +kernel
theorem dX2_follow_40 : decode cX2_follow 40 = .ok (.getfield 25, 3) := by decide +kernel
theorem dX2_follow_43 : decode cX2_follow 43 = .ok (.iload_n 3, 1) := by decide +kernel
theorem dX2_follow_44 : decode cX2_follow 44 = .ok (.iaload, 1) := by decide +kernel
theorem dX2_follow_45 : decode cX2_follow 45 = .ok (.ireturn, 1) := by decide +kernel
theorem dX2_set_0 : decode cX2_set 0 = .ok (.iload_n 1, 1) := by decide +kernel
theorem dX2_set_1 : decode cX2_set 1 = .ok (.invokestatic 45, 3) := by decide +kernel
theorem dX2_set_4 : decode cX2_set 4 = .ok (.aload_n 0, 1) := by decide +kernel
theorem dX2_set_5 : decode cX2_set 5 = .ok (.iload_n 1, 1) := by decide +kernel
theorem dX2_set_6 : decode cX2_set 6 = .ok (.invokevirtual 65, 3) := by decide +kernel
theorem dX2_set_9 : decode cX2_set 9 = .ok (.iload_n 2, 1) := by decide +kernel
theorem dX2_set_10 : decode cX2_set 10 = .ok (.ifCond .lt 20, 3) := by decide +kernel
theorem dX2_set_13 : decode cX2_set 13 = .ok (.iload_n 2, 1) := by decide +kernel
theorem dX2_set_14 : decode cX2_set 14 = .ok (.aload_n 0, 1) := by decide +kernel
theorem dX2_set_15 : decode cX2_set 15 = .ok (.getfield 10, 3) := by decide +kernel
theorem dX2_set_18 : decode cX2_set 18 = .ok (.aload_n 0, 1) := by decide +kernel
theorem dX2_set_19 : decode cX2_set 19 = .ok (.getfield 25, 3) := by decide +kernel
theorem dX2_set_22 : decode cX2_set 22 = .ok (.iload_n 1, 1) := by decide +kernel
theorem dX2_set_23 : decode cX2_set 23 = .ok (.iaload, 1) := by decide +kernel
theorem dX2_set_24 : decode cX2_set 24 = .ok (.invokevirtual 78, 3) := by decide +kernel
theorem dX2_set_27 : decode cX2_set 27 = .ok (.if_icmp .lt 13, 3) := by decide +kernel
theorem dX2_set_30 : decode cX2_set 30 = .ok (.new 81, 3) := by decide +kernel
theorem dX2_set_33 : decode cX2_set 33 = .ok (.dup, 1) := by decide +kernel
theorem dX2_set_34 : decode cX2_set 34 = .ok (.ldc 83, 2) := by decide +kernel
theorem dX2_set_36 : decode cX2_set 36 = .ok (.invokespecial 85, 3) := by decide +kernel
theorem dX2_set_39 : decode cX2_set 39 = .ok (.athrow, 1) := by decide +kernel
theorem dX2_set_40 : decode cX2_set 40 = .ok (.aload_n 0, 1) := by decide +kernel
theorem dX2_set_41 : decode cX2_set 41 = .ok (.getfield 10, 3) := by decide +kernel
theorem dX2_set_44 : decode cX2_set 44 = .ok (.aload_n 0, 1) := by decide +kernel
theorem dX2_set_45 : decode cX2_set 45 = .ok (.getfield 25, 3) := by decide +kernel
theorem dX2_set_48 : decode cX2_set 48 = .ok (.iload_n 1, 1) := by decide +kernel
theorem dX2_set_49 : decode cX2_set 49 = .ok (.iaload, 1) := by decide +kernel
theorem dX2_set_50 : decode cX2_set 50 = .ok (.iload_n 2, 1) := by decide +kernel
theorem dX2_set_51 : decode cX2_set 51 = .ok (.iload_n 3, 1) := by decide +kernel
theorem dX2_set_52 : decode cX2_set 52 = .ok (.invokevirtual 86, 3) := by decide +kernel
theorem dX2_set_55 : decode cX2_set 55 = .ok (.ireturn, 1) := by decide +kernel
theorem dX2_loose_0 : decode cX2_loose 0 = .ok (.iload_n 1, 1) := by decide +kernel
theorem dX2_loose_1 : decode cX2_loose 1 = .ok (.invokestatic 45, 3) := by decide +kernel
theorem dX2_loose_4 : decode cX2_loose 4 = .ok (.aload_n 0, 1) := by decide +kernel
theorem dX2_loose_5 : decode cX2_loose 5 = .ok (.getfield 29, 3) := by decide +kernel
theorem dX2_loose_8 : decode cX2_loose 8 = .ok (.iload_n 1, 1) := by decide +kernel
theorem dX2_loose_9 : decode cX2_loose 9 = .ok (.iaload, 1) := by decide +kernel
theorem dX2_loose_10 : decode cX2_loose 10 = .ok (.istore_n 3, 1) := by decide +kernel
theorem dX2_loose_11 : decode cX2_loose 11 = .ok (.aload_n 0, 1) := by decide +kernel
theorem dX2_loose_12 : decode cX2_loose 12 = .ok (.getfield 29, 3) := by decide +kernel
theorem dX2_loose_15 : decode cX2_loose 15 = .ok (.iload_n 1, 1) := by decide +kernel
theorem dX2_loose_16 : decode cX2_loose 16 = .ok (.iload_n 2, 1) := by decide +kernel
theorem dX2_loose_17 : decode cX2_loose 17 = .ok (.iastore, 1) := by decide +kernel
theorem dX2_loose_18 : decode cX2_loose 18 = .ok (.iload_n 3, 1) := by decide +kernel
theorem dX2_loose_19 : decode cX2_loose 19 = .ok (.ireturn, 1) := by decide +kernel
theorem dX2_take_0 : decode cX2_take 0 = .ok (.iload_n 2, 1) := by decide +kernel
theorem dX2_take_1 : decode cX2_take 1 = .ok (.invokestatic 45, 3) := by decide +kernel
theorem dX2_take_4 : decode cX2_take 4 = .ok (.aload_n 0, 1) := by decide +kernel
theorem dX2_take_5 : decode cX2_take 5 = .ok (.getfield 10, 3) := by decide +kernel
theorem dX2_take_8 : decode cX2_take 8 = .ok (.iload_n 1, 1) := by decide +kernel
theorem dX2_take_9 : decode cX2_take 9 = .ok (.invokevirtual 90, 3) := by decide +kernel
theorem dX2_take_12 : decode cX2_take 12 = .ok (.ifCond .ne 5, 3) := by decide +kernel
theorem dX2_take_15 : decode cX2_take 15 = .ok (.iconst 0, 1) := by decide +kernel
theorem dX2_take_16 : decode cX2_take 16 = .ok (.ireturn, 1) := by decide +kernel
theorem dX2_take_17 : decode cX2_take 17 = .ok (.aload_n 0, 1) := by decide +kernel
theorem dX2_take_18 : decode cX2_take 18 = .ok (.getfield 25, 3) := by decide +kernel
theorem dX2_take_21 : decode cX2_take 21 = .ok (.iload_n 2, 1) := by decide +kernel
theorem dX2_take_22 : decode cX2_take 22 = .ok (.iload_n 1, 1) := by decide +kernel
theorem dX2_take_23 : decode cX2_take 23 = .ok (.iastore, 1) := by decide +kernel
theorem dX2_take_24 : decode cX2_take 24 = .ok (.iconst 1, 1) := by decide +kernel
theorem dX2_take_25 : decode cX2_take 25 = .ok (.ireturn, 1) := by decide +kernel
theorem dX2_collect_0 : decode cX2_collect 0 = .ok (.aload_n 0, 1) := by decide +kernel
theorem dX2_collect_1 : decode cX2_collect 1 = .ok (.getfield 21, 3) := by decide +kernel
theorem dX2_collect_4 : decode cX2_collect 4 = .ok (.aload_n 0, 1) := by decide +kernel
theorem dX2_collect_5 : decode cX2_collect 5 = .ok (.getfield 25, 3) := by decide +kernel
theorem dX2_collect_8 : decode cX2_collect 8 = .ok (.aload_n 0, 1) := by decide +kernel
theorem dX2_collect_9 : decode cX2_collect 9 = .ok (.getfield 29, 3) := by decide +kernel
theorem dX2_collect_12 : decode cX2_collect 12 = .ok (.invokevirtual 57, 3) := by decide +kernel
theorem dX2_collect_15 : decode cX2_collect 15 = .ok (.ifCond .eq 13, 3) := by decide +kernel
theorem dX2_collect_18 : decode cX2_collect 18 = .ok (.aload_n 0, 1) := by decide +kernel
theorem dX2_collect_19 : decode cX2_collect 19 = .ok (.getfield 10, 3) := by decide +kernel
theorem dX2_collect_22 : decode cX2_collect 22 = .ok (.invokevirtual 94, 3) := by decide +kernel
theorem dX2_collect_25 : decode cX2_collect 25 = .ok (.goto 4, 3) := by decide +kernel
theorem dX2_collect_28 : decode cX2_collect 28 = .ok (.iconst (-1), 1) := by decide +kernel
theorem dX2_collect_29 : decode cX2_collect 29 = .ok (.ireturn, 1) := by decide +kernel
theorem dX2_root_0 : decode cX2_root 0 = .ok (.iload_n 1, 1) := by decide +kernel
theorem dX2_root_1 : decode cX2_root 1 = .ok (.invokestatic 98, 3) := by decide +kernel
theorem dX2_root_4 : decode cX2_root 4 = .ok (.ifCond .eq 12, 3) := by decide +kernel
theorem dX2_root_7 : decode cX2_root 7 = .ok (.aload_n 0, 1) := by decide +kernel
theorem dX2_root_8 : decode cX2_root 8 = .ok (.getfield 25, 3) := by decide +kernel
theorem dX2_root_11 : decode cX2_root 11 = .ok (.iload_n 1, 1) := by decide +kernel
theorem dX2_root_12 : decode cX2_root 12 = .ok (.iaload, 1) := by decide +kernel
theorem dX2_root_13 : decode cX2_root 13 = .ok (.goto 4, 3) := by decide +kernel
theorem dX2_root_16 : decode cX2_root 16 = .ok (.iconst (-1), 1) := by decide +kernel
theorem dX2_root_17 : decode cX2_root 17 = .ok (.ireturn, 1) := by decide +kernel
theorem dX2_word_0 : decode cX2_word 0 = .ok (.aload_n 0, 1) := by decide +kernel
theorem dX2_word_1 : decode cX2_word 1 = .ok (.getfield 10, 3) := by decide +kernel
theorem dX2_word_4 : decode cX2_word 4 = .ok (.iload_n 1, 1) := by decide +kernel
theorem dX2_word_5 : decode cX2_word 5 = .ok (.invokevirtual 101, 3) := by decide +kernel
theorem dX2_word_8 : decode cX2_word 8 = .ok (.ifCond .eq 14, 3) := by decide +kernel
theorem dX2_word_11 : decode cX2_word 11 = .ok (.aload_n 0, 1) := by decide +kernel
theorem dX2_word_12 : decode cX2_word 12 = .ok (.getfield 10, 3) := by decide +kernel
theorem dX2_word_15 : decode cX2_word 15 = .ok (.iload_n 1, 1) := by decide +kernel
theorem dX2_word_16 : decode cX2_word 16 = .ok (.invokevirtual 104, 3) := by decide +kernel
theorem dX2_word_19 : decode cX2_word 19 = .ok (.goto 4, 3) := by decide +kernel
theorem dX2_word_22 : decode cX2_word 22 = .ok (.iconst 0, 1) := by decide +kernel
theorem dX2_word_23 : decode cX2_word 23 = .ok (.ireturn, 1) := by decide +kernel
theorem dX2_object_0 : decode cX2_object 0 = .ok (.aload_n 0, 1) := by decide +kernel
theorem dX2_object_1 : decode cX2_object 1 = .ok (.getfield 10, 3) := by decide +kernel
theorem dX2_object_4 : decode cX2_object 4 = .ok (.iload_n 1, 1) := by decide +kernel
theorem dX2_object_5 : decode cX2_object 5 = .ok (.invokevirtual 90, 3) := by decide +kernel
theorem dX2_object_8 : decode cX2_object 8 = .ok (.ifCond .ne 5, 3) := by decide +kernel
theorem dX2_object_11 : decode cX2_object 11 = .ok (.iconst (-1), 1) := by decide +kernel
theorem dX2_object_12 : decode cX2_object 12 = .ok (.ireturn, 1) := by decide +kernel
theorem dX2_object_13 : decode cX2_object 13 = .ok (.iload_n 2, 1) := by decide +kernel
theorem dX2_object_14 : decode cX2_object 14 = .ok (.tableswitch 53 0 2 #[26, 35, 44], 26) := by decide +kernel
theorem dX2_object_40 : decode cX2_object 40 = .ok (.aload_n 0, 1) := by decide +kernel
theorem dX2_object_41 : decode cX2_object 41 = .ok (.getfield 10, 3) := by decide +kernel
theorem dX2_object_44 : decode cX2_object 44 = .ok (.iload_n 1, 1) := by decide +kernel
theorem dX2_object_45 : decode cX2_object 45 = .ok (.invokevirtual 107, 3) := by decide +kernel
theorem dX2_object_48 : decode cX2_object 48 = .ok (.ireturn, 1) := by decide +kernel
theorem dX2_object_49 : decode cX2_object 49 = .ok (.aload_n 0, 1) := by decide +kernel
theorem dX2_object_50 : decode cX2_object 50 = .ok (.getfield 10, 3) := by decide +kernel
theorem dX2_object_53 : decode cX2_object 53 = .ok (.iload_n 1, 1) := by decide +kernel
theorem dX2_object_54 : decode cX2_object 54 = .ok (.invokevirtual 78, 3) := by decide +kernel
theorem dX2_object_57 : decode cX2_object 57 = .ok (.ireturn, 1) := by decide +kernel
theorem dX2_object_58 : decode cX2_object 58 = .ok (.aload_n 0, 1) := by decide +kernel
theorem dX2_object_59 : decode cX2_object 59 = .ok (.getfield 10, 3) := by decide +kernel
theorem dX2_object_62 : decode cX2_object 62 = .ok (.iload_n 1, 1) := by decide +kernel
theorem dX2_object_63 : decode cX2_object 63 = .ok (.invokevirtual 110, 3) := by decide +kernel
theorem dX2_object_66 : decode cX2_object 66 = .ok (.ireturn, 1) := by decide +kernel
theorem dX2_object_67 : decode cX2_object 67 = .ok (.iconst (-1), 1) := by decide +kernel
theorem dX2_object_68 : decode cX2_object 68 = .ok (.ireturn, 1) := by decide +kernel
theorem dX2_page_0 : decode cX2_page 0 = .ok (.aload_n 0, 1) := by decide +kernel
theorem dX2_page_1 : decode cX2_page 1 = .ok (.getfield 10, 3) := by decide +kernel
theorem dX2_page_4 : decode cX2_page 4 = .ok (.iload_n 1, 1) := by decide +kernel
theorem dX2_page_5 : decode cX2_page 5 = .ok (.invokevirtual 113, 3) := by decide +kernel
theorem dX2_page_8 : decode cX2_page 8 = .ok (.ifCond .ne 5, 3) := by decide +kernel
theorem dX2_page_11 : decode cX2_page 11 = .ok (.iconst (-1), 1) := by decide +kernel
theorem dX2_page_12 : decode cX2_page 12 = .ok (.ireturn, 1) := by decide +kernel
theorem dX2_page_13 : decode cX2_page 13 = .ok (.iload_n 2, 1) := by decide +kernel
theorem dX2_page_14 : decode cX2_page 14 = .ok (.tableswitch 66 0 3 #[30, 39, 48, 57], 30) := by decide +kernel
theorem dX2_page_44 : decode cX2_page 44 = .ok (.aload_n 0, 1) := by decide +kernel
theorem dX2_page_45 : decode cX2_page 45 = .ok (.getfield 10, 3) := by decide +kernel
theorem dX2_page_48 : decode cX2_page 48 = .ok (.iload_n 1, 1) := by decide +kernel
theorem dX2_page_49 : decode cX2_page 49 = .ok (.invokevirtual 116, 3) := by decide +kernel
theorem dX2_page_52 : decode cX2_page 52 = .ok (.ireturn, 1) := by decide +kernel
theorem dX2_page_53 : decode cX2_page 53 = .ok (.aload_n 0, 1) := by decide +kernel
theorem dX2_page_54 : decode cX2_page 54 = .ok (.getfield 10, 3) := by decide +kernel
theorem dX2_page_57 : decode cX2_page 57 = .ok (.iload_n 1, 1) := by decide +kernel
theorem dX2_page_58 : decode cX2_page 58 = .ok (.invokevirtual 119, 3) := by decide +kernel
theorem dX2_page_61 : decode cX2_page 61 = .ok (.ireturn, 1) := by decide +kernel
theorem dX2_page_62 : decode cX2_page 62 = .ok (.aload_n 0, 1) := by decide +kernel
theorem dX2_page_63 : decode cX2_page 63 = .ok (.getfield 10, 3) := by decide +kernel
theorem dX2_page_66 : decode cX2_page 66 = .ok (.iload_n 1, 1) := by decide +kernel
theorem dX2_page_67 : decode cX2_page 67 = .ok (.invokevirtual 122, 3) := by decide +kernel
theorem dX2_page_70 : decode cX2_page 70 = .ok (.ireturn, 1) := by decide +kernel
theorem dX2_page_71 : decode cX2_page 71 = .ok (.aload_n 0, 1) := by decide +kernel
theorem dX2_page_72 : decode cX2_page 72 = .ok (.getfield 21, 3) := by decide +kernel
theorem dX2_page_75 : decode cX2_page 75 = .ok (.iload_n 1, 1) := by decide +kernel
theorem dX2_page_76 : decode cX2_page 76 = .ok (.invokevirtual 125, 3) := by decide +kernel
theorem dX2_page_79 : decode cX2_page 79 = .ok (.ireturn, 1) := by decide +kernel
theorem dX2_page_80 : decode cX2_page 80 = .ok (.iconst (-1), 1) := by decide +kernel
theorem dX2_page_81 : decode cX2_page 81 = .ok (.ireturn, 1) := by decide +kernel
theorem dX2_look_0 : decode cX2_look 0 = .ok (.iload_n 1, 1) := by decide +kernel
theorem dX2_look_1 : decode cX2_look 1 = .ok (.tableswitch 171 0 12 #[67, 75, 83, 91, 99, 107, 115, 123, 131, 139, 147, 155, 163], 67) := by decide +kernel
theorem dX2_look_68 : decode cX2_look 68 = .ok (.aload_n 0, 1) := by decide +kernel
theorem dX2_look_69 : decode cX2_look 69 = .ok (.getfield 10, 3) := by decide +kernel
theorem dX2_look_72 : decode cX2_look 72 = .ok (.invokevirtual 128, 3) := by decide +kernel
theorem dX2_look_75 : decode cX2_look 75 = .ok (.ireturn, 1) := by decide +kernel
theorem dX2_look_76 : decode cX2_look 76 = .ok (.aload_n 0, 1) := by decide +kernel
theorem dX2_look_77 : decode cX2_look 77 = .ok (.getfield 10, 3) := by decide +kernel
theorem dX2_look_80 : decode cX2_look 80 = .ok (.invokevirtual 131, 3) := by decide +kernel
theorem dX2_look_83 : decode cX2_look 83 = .ok (.ireturn, 1) := by decide +kernel
theorem dX2_look_84 : decode cX2_look 84 = .ok (.aload_n 0, 1) := by decide +kernel
theorem dX2_look_85 : decode cX2_look 85 = .ok (.getfield 10, 3) := by decide +kernel
theorem dX2_look_88 : decode cX2_look 88 = .ok (.invokevirtual 94, 3) := by decide +kernel
theorem dX2_look_91 : decode cX2_look 91 = .ok (.ireturn, 1) := by decide +kernel
theorem dX2_look_92 : decode cX2_look 92 = .ok (.aload_n 0, 1) := by decide +kernel
theorem dX2_look_93 : decode cX2_look 93 = .ok (.getfield 10, 3) := by decide +kernel
theorem dX2_look_96 : decode cX2_look 96 = .ok (.invokevirtual 134, 3) := by decide +kernel
theorem dX2_look_99 : decode cX2_look 99 = .ok (.ireturn, 1) := by decide +kernel
theorem dX2_look_100 : decode cX2_look 100 = .ok (.aload_n 0, 1) := by decide +kernel
theorem dX2_look_101 : decode cX2_look 101 = .ok (.getfield 10, 3) := by decide +kernel
theorem dX2_look_104 : decode cX2_look 104 = .ok (.invokevirtual 137, 3) := by decide +kernel
theorem dX2_look_107 : decode cX2_look 107 = .ok (.ireturn, 1) := by decide +kernel
theorem dX2_look_108 : decode cX2_look 108 = .ok (.aload_n 0, 1) := by decide +kernel
theorem dX2_look_109 : decode cX2_look 109 = .ok (.getfield 10, 3) := by decide +kernel
theorem dX2_look_112 : decode cX2_look 112 = .ok (.invokevirtual 140, 3) := by decide +kernel
theorem dX2_look_115 : decode cX2_look 115 = .ok (.ireturn, 1) := by decide +kernel
theorem dX2_look_116 : decode cX2_look 116 = .ok (.aload_n 0, 1) := by decide +kernel
theorem dX2_look_117 : decode cX2_look 117 = .ok (.getfield 21, 3) := by decide +kernel
theorem dX2_look_120 : decode cX2_look 120 = .ok (.invokevirtual 143, 3) := by decide +kernel
theorem dX2_look_123 : decode cX2_look 123 = .ok (.ireturn, 1) := by decide +kernel
theorem dX2_look_124 : decode cX2_look 124 = .ok (.aload_n 0, 1) := by decide +kernel
theorem dX2_look_125 : decode cX2_look 125 = .ok (.getfield 21, 3) := by decide +kernel
theorem dX2_look_128 : decode cX2_look 128 = .ok (.invokevirtual 146, 3) := by decide +kernel
theorem dX2_look_131 : decode cX2_look 131 = .ok (.ireturn, 1) := by decide +kernel
theorem dX2_look_132 : decode cX2_look 132 = .ok (.aload_n 0, 1) := by decide +kernel
theorem dX2_look_133 : decode cX2_look 133 = .ok (.getfield 21, 3) := by decide +kernel
theorem dX2_look_136 : decode cX2_look 136 = .ok (.invokevirtual 149, 3) := by decide +kernel
theorem dX2_look_139 : decode cX2_look 139 = .ok (.ireturn, 1) := by decide +kernel
theorem dX2_look_140 : decode cX2_look 140 = .ok (.aload_n 0, 1) := by decide +kernel
theorem dX2_look_141 : decode cX2_look 141 = .ok (.getfield 21, 3) := by decide +kernel
theorem dX2_look_144 : decode cX2_look 144 = .ok (.invokevirtual 152, 3) := by decide +kernel
theorem dX2_look_147 : decode cX2_look 147 = .ok (.ireturn, 1) := by decide +kernel
theorem dX2_look_148 : decode cX2_look 148 = .ok (.aload_n 0, 1) := by decide +kernel
theorem dX2_look_149 : decode cX2_look 149 = .ok (.getfield 21, 3) := by decide +kernel
theorem dX2_look_152 : decode cX2_look 152 = .ok (.invokevirtual 155, 3) := by decide +kernel
theorem dX2_look_155 : decode cX2_look 155 = .ok (.ireturn, 1) := by decide +kernel
theorem dX2_look_156 : decode cX2_look 156 = .ok (.aload_n 0, 1) := by decide +kernel
theorem dX2_look_157 : decode cX2_look 157 = .ok (.getfield 21, 3) := by decide +kernel
theorem dX2_look_160 : decode cX2_look 160 = .ok (.invokevirtual 158, 3) := by decide +kernel
theorem dX2_look_163 : decode cX2_look 163 = .ok (.ireturn, 1) := by decide +kernel
theorem dX2_look_164 : decode cX2_look 164 = .ok (.aload_n 0, 1) := by decide +kernel
theorem dX2_look_165 : decode cX2_look 165 = .ok (.getfield 21, 3) := by decide +kernel
theorem dX2_look_168 : decode cX2_look 168 = .ok (.invokevirtual 161, 3) := by decide +kernel
theorem dX2_look_171 : decode cX2_look 171 = .ok (.ireturn, 1) := by decide +kernel
theorem dX2_look_172 : decode cX2_look 172 = .ok (.iconst (-1), 1) := by decide +kernel
theorem dX2_look_173 : decode cX2_look 173 = .ok (.ireturn, 1) := by decide +kernel
theorem dX2_startOver_0 : decode cX2_startOver 0 = .ok (.aload_n 0, 1) := by decide +kernel
theorem dX2_startOver_1 : decode cX2_startOver 1 = .ok (.getfield 10, 3) := by decide +kernel
theorem dX2_startOver_4 : decode cX2_startOver 4 = .ok (.iload_n 1, 1) := by decide +kernel
theorem dX2_startOver_5 : decode cX2_startOver 5 = .ok (.iload_n 2, 1) := by decide +kernel
theorem dX2_startOver_6 : decode cX2_startOver 6 = .ok (.invokevirtual 164, 3) := by decide +kernel
theorem dX2_startOver_9 : decode cX2_startOver 9 = .ok (.aload_n 0, 1) := by decide +kernel
theorem dX2_startOver_10 : decode cX2_startOver 10 = .ok (.getfield 21, 3) := by decide +kernel
theorem dX2_startOver_13 : decode cX2_startOver 13 = .ok (.invokevirtual 165, 3) := by decide +kernel
theorem dX2_startOver_16 : decode cX2_startOver 16 = .ok (.aload_n 0, 1) := by decide +kernel
theorem dX2_startOver_17 : decode cX2_startOver 17 = .ok (.getfield 25, 3) := by decide +kernel
theorem dX2_startOver_20 : decode cX2_startOver 20 = .ok (.iconst (-1), 1) := by decide +kernel
theorem dX2_startOver_21 : decode cX2_startOver 21 = .ok (.invokestatic 167, 3) := by decide +kernel
theorem dX2_startOver_24 : decode cX2_startOver 24 = .ok (.aload_n 0, 1) := by decide +kernel
theorem dX2_startOver_25 : decode cX2_startOver 25 = .ok (.getfield 29, 3) := by decide +kernel
theorem dX2_startOver_28 : decode cX2_startOver 28 = .ok (.iconst (-1), 1) := by decide +kernel
theorem dX2_startOver_29 : decode cX2_startOver 29 = .ok (.invokestatic 167, 3) := by decide +kernel
theorem dX2_startOver_32 : decode cX2_startOver 32 = .ok (.return_, 1) := by decide +kernel
theorem dX2_isRoot_0 : decode cX2_isRoot 0 = .ok (.iload_n 0, 1) := by decide +kernel
theorem dX2_isRoot_1 : decode cX2_isRoot 1 = .ok (.ifCond .lt 13, 3) := by decide +kernel
theorem dX2_isRoot_4 : decode cX2_isRoot 4 = .ok (.iload_n 0, 1) := by decide +kernel
theorem dX2_isRoot_5 : decode cX2_isRoot 5 = .ok (.bipush 32, 2) := by decide +kernel
theorem dX2_isRoot_7 : decode cX2_isRoot 7 = .ok (.if_icmp .ge 7, 3) := by decide +kernel
theorem dX2_isRoot_10 : decode cX2_isRoot 10 = .ok (.iconst 1, 1) := by decide +kernel
theorem dX2_isRoot_11 : decode cX2_isRoot 11 = .ok (.goto 4, 3) := by decide +kernel
theorem dX2_isRoot_14 : decode cX2_isRoot 14 = .ok (.iconst 0, 1) := by decide +kernel
theorem dX2_isRoot_15 : decode cX2_isRoot 15 = .ok (.ireturn, 1) := by decide +kernel
theorem dX2_needRoot_0 : decode cX2_needRoot 0 = .ok (.iload_n 0, 1) := by decide +kernel
theorem dX2_needRoot_1 : decode cX2_needRoot 1 = .ok (.invokestatic 98, 3) := by decide +kernel
theorem dX2_needRoot_4 : decode cX2_needRoot 4 = .ok (.ifCond .ne 13, 3) := by decide +kernel
theorem dX2_needRoot_7 : decode cX2_needRoot 7 = .ok (.new 36, 3) := by decide +kernel
theorem dX2_needRoot_10 : decode cX2_needRoot 10 = .ok (.dup, 1) := by decide +kernel
theorem dX2_needRoot_11 : decode cX2_needRoot 11 = .ok (.ldc 173, 2) := by decide +kernel
theorem dX2_needRoot_13 : decode cX2_needRoot 13 = .ok (.invokespecial 40, 3) := by decide +kernel
theorem dX2_needRoot_16 : decode cX2_needRoot 16 = .ok (.athrow, 1) := by decide +kernel
theorem dX2_needRoot_17 : decode cX2_needRoot 17 = .ok (.return_, 1) := by decide +kernel
theorem dX2_needObject_0 : decode cX2_needObject 0 = .ok (.aload_n 0, 1) := by decide +kernel
theorem dX2_needObject_1 : decode cX2_needObject 1 = .ok (.getfield 25, 3) := by decide +kernel
theorem dX2_needObject_4 : decode cX2_needObject 4 = .ok (.iload_n 1, 1) := by decide +kernel
theorem dX2_needObject_5 : decode cX2_needObject 5 = .ok (.iaload, 1) := by decide +kernel
theorem dX2_needObject_6 : decode cX2_needObject 6 = .ok (.iconst (-1), 1) := by decide +kernel
theorem dX2_needObject_7 : decode cX2_needObject 7 = .ok (.if_icmp .ne 13, 3) := by decide +kernel
theorem dX2_needObject_10 : decode cX2_needObject 10 = .ok (.new 175, 3) := by decide +kernel
theorem dX2_needObject_13 : decode cX2_needObject 13 = .ok (.dup, 1) := by decide +kernel
theorem dX2_needObject_14 : decode cX2_needObject 14 = .ok (.ldc 177, 2) := by decide +kernel
theorem dX2_needObject_16 : decode cX2_needObject 16 = .ok (.invokespecial 179, 3) := by decide +kernel
theorem dX2_needObject_19 : decode cX2_needObject 19 = .ok (.athrow, 1) := by decide +kernel
theorem dX2_needObject_20 : decode cX2_needObject 20 = .ok (.return_, 1) := by decide +kernel
theorem dX2_needRef_0 : decode cX2_needRef 0 = .ok (.iload_n 2, 1) := by decide +kernel
theorem dX2_needRef_1 : decode cX2_needRef 1 = .ok (.ifCond .lt 20, 3) := by decide +kernel
theorem dX2_needRef_4 : decode cX2_needRef 4 = .ok (.iload_n 2, 1) := by decide +kernel
theorem dX2_needRef_5 : decode cX2_needRef 5 = .ok (.aload_n 0, 1) := by decide +kernel
theorem dX2_needRef_6 : decode cX2_needRef 6 = .ok (.getfield 10, 3) := by decide +kernel
theorem dX2_needRef_9 : decode cX2_needRef 9 = .ok (.aload_n 0, 1) := by decide +kernel
theorem dX2_needRef_10 : decode cX2_needRef 10 = .ok (.getfield 25, 3) := by decide +kernel
theorem dX2_needRef_13 : decode cX2_needRef 13 = .ok (.iload_n 1, 1) := by decide +kernel
theorem dX2_needRef_14 : decode cX2_needRef 14 = .ok (.iaload, 1) := by decide +kernel
theorem dX2_needRef_15 : decode cX2_needRef 15 = .ok (.invokevirtual 107, 3) := by decide +kernel
theorem dX2_needRef_18 : decode cX2_needRef 18 = .ok (.if_icmp .lt 13, 3) := by decide +kernel
theorem dX2_needRef_21 : decode cX2_needRef 21 = .ok (.new 81, 3) := by decide +kernel
theorem dX2_needRef_24 : decode cX2_needRef 24 = .ok (.dup, 1) := by decide +kernel
theorem dX2_needRef_25 : decode cX2_needRef 25 = .ok (.ldc 180, 2) := by decide +kernel
theorem dX2_needRef_27 : decode cX2_needRef 27 = .ok (.invokespecial 85, 3) := by decide +kernel
theorem dX2_needRef_30 : decode cX2_needRef 30 = .ok (.athrow, 1) := by decide +kernel
theorem dX2_needRef_31 : decode cX2_needRef 31 = .ok (.return_, 1) := by decide +kernel
end
section
theorem dX3_thrown_0 : decode cX3_thrown 0 = .ok (.aload_n 0, 1) := by decide +kernel
theorem dX3_thrown_1 : decode cX3_thrown 1 = .ok (.getfield 1, 3) := by decide +kernel
theorem dX3_thrown_4 : decode cX3_thrown 4 = .ok (.ireturn, 1) := by decide +kernel
theorem dX3_throwing_0 : decode cX3_throwing 0 = .ok (.aload_n 0, 1) := by decide +kernel
theorem dX3_throwing_1 : decode cX3_throwing 1 = .ok (.iload_n 1, 1) := by decide +kernel
theorem dX3_throwing_2 : decode cX3_throwing 2 = .ok (.putfield 1, 3) := by decide +kernel
theorem dX3_throwing_5 : decode cX3_throwing 5 = .ok (.iconst 0, 1) := by decide +kernel
theorem dX3_throwing_6 : decode cX3_throwing 6 = .ok (.ireturn, 1) := by decide +kernel
theorem dX3_init_0 : decode cX3_init 0 = .ok (.aload_n 0, 1) := by decide +kernel
theorem dX3_init_1 : decode cX3_init 1 = .ok (.invokespecial 7, 3) := by decide +kernel
theorem dX3_init_4 : decode cX3_init 4 = .ok (.aload_n 0, 1) := by decide +kernel
theorem dX3_init_5 : decode cX3_init 5 = .ok (.bipush 64, 2) := by decide +kernel
theorem dX3_init_7 : decode cX3_init 7 = .ok (.newarray .int, 2) := by decide +kernel
theorem dX3_init_9 : decode cX3_init 9 = .ok (.putfield 13, 3) := by decide +kernel
theorem dX3_init_12 : decode cX3_init 12 = .ok (.aload_n 0, 1) := by decide +kernel
theorem dX3_init_13 : decode cX3_init 13 = .ok (.bipush 64, 2) := by decide +kernel
theorem dX3_init_15 : decode cX3_init 15 = .ok (.newarray .int, 2) := by decide +kernel
theorem dX3_init_17 : decode cX3_init 17 = .ok (.putfield 17, 3) := by decide +kernel
theorem dX3_init_20 : decode cX3_init 20 = .ok (.aload_n 0, 1) := by decide +kernel
theorem dX3_init_21 : decode cX3_init 21 = .ok (.bipush 64, 2) := by decide +kernel
theorem dX3_init_23 : decode cX3_init 23 = .ok (.newarray .boolean, 2) := by decide +kernel
theorem dX3_init_25 : decode cX3_init 25 = .ok (.putfield 20, 3) := by decide +kernel
theorem dX3_init_28 : decode cX3_init 28 = .ok (.aload_n 0, 1) := by decide +kernel
theorem dX3_init_29 : decode cX3_init 29 = .ok (.sipush 4200, 3) := by decide +kernel
theorem dX3_init_32 : decode cX3_init 32 = .ok (.newarray .int, 2) := by decide +kernel
theorem dX3_init_34 : decode cX3_init 34 = .ok (.putfield 24, 3) := by decide +kernel
theorem dX3_init_37 : decode cX3_init 37 = .ok (.aload_n 0, 1) := by decide +kernel
theorem dX3_init_38 : decode cX3_init 38 = .ok (.sipush 4200, 3) := by decide +kernel
theorem dX3_init_41 : decode cX3_init 41 = .ok (.newarray .int, 2) := by decide +kernel
theorem dX3_init_43 : decode cX3_init 43 = .ok (.putfield 27, 3) := by decide +kernel
theorem dX3_init_46 : decode cX3_init 46 = .ok (.aload_n 0, 1) := by decide +kernel
theorem dX3_init_47 : decode cX3_init 47 = .ok (.sipush 4200, 3) := by decide +kernel
theorem dX3_init_50 : decode cX3_init 50 = .ok (.newarray .int, 2) := by decide +kernel
theorem dX3_init_52 : decode cX3_init 52 = .ok (.putfield 30, 3) := by decide +kernel
theorem dX3_init_55 : decode cX3_init 55 = .ok (.aload_n 0, 1) := by decide +kernel
theorem dX3_init_56 : decode cX3_init 56 = .ok (.sipush 4200, 3) := by decide +kernel
theorem dX3_init_59 : decode cX3_init 59 = .ok (.newarray .int, 2) := by decide +kernel
theorem dX3_init_61 : decode cX3_init 61 = .ok (.putfield 33, 3) := by decide +kernel
theorem dX3_init_64 : decode cX3_init 64 = .ok (.aload_n 0, 1) := by decide +kernel
theorem dX3_init_65 : decode cX3_init 65 = .ok (.sipush 9000, 3) := by decide +kernel
theorem dX3_init_68 : decode cX3_init 68 = .ok (.newarray .int, 2) := by decide +kernel
theorem dX3_init_70 : decode cX3_init 70 = .ok (.putfield 36, 3) := by decide +kernel
theorem dX3_init_73 : decode cX3_init 73 = .ok (.aload_n 0, 1) := by decide +kernel
theorem dX3_init_74 : decode cX3_init 74 = .ok (.bipush 32, 2) := by decide +kernel
theorem dX3_init_76 : decode cX3_init 76 = .ok (.newarray .int, 2) := by decide +kernel
theorem dX3_init_78 : decode cX3_init 78 = .ok (.putfield 39, 3) := by decide +kernel
theorem dX3_init_81 : decode cX3_init 81 = .ok (.aload_n 0, 1) := by decide +kernel
theorem dX3_init_82 : decode cX3_init 82 = .ok (.bipush 32, 2) := by decide +kernel
theorem dX3_init_84 : decode cX3_init 84 = .ok (.newarray .int, 2) := by decide +kernel
theorem dX3_init_86 : decode cX3_init 86 = .ok (.putfield 42, 3) := by decide +kernel
theorem dX3_init_89 : decode cX3_init 89 = .ok (.aload_n 0, 1) := by decide +kernel
theorem dX3_init_90 : decode cX3_init 90 = .ok (.bipush 13, 2) := by decide +kernel
theorem dX3_init_92 : decode cX3_init 92 = .ok (.newarray .int, 2) := by decide +kernel
theorem dX3_init_94 : decode cX3_init 94 = .ok (.putfield 45, 3) := by decide +kernel
theorem dX3_init_97 : decode cX3_init 97 = .ok (.aload_n 0, 1) := by decide +kernel
theorem dX3_init_98 : decode cX3_init 98 = .ok (.sipush 4200, 3) := by decide +kernel
theorem dX3_init_101 : decode cX3_init 101 = .ok (.newarray .int, 2) := by decide +kernel
theorem dX3_init_103 : decode cX3_init 103 = .ok (.putfield 48, 3) := by decide +kernel
theorem dX3_init_106 : decode cX3_init 106 = .ok (.aload_n 0, 1) := by decide +kernel
theorem dX3_init_107 : decode cX3_init 107 = .ok (.sipush 4200, 3) := by decide +kernel
theorem dX3_init_110 : decode cX3_init 110 = .ok (.newarray .int, 2) := by decide +kernel
theorem dX3_init_112 : decode cX3_init 112 = .ok (.putfield 51, 3) := by decide +kernel
theorem dX3_init_115 : decode cX3_init 115 = .ok (.aload_n 0, 1) := by decide +kernel
theorem dX3_init_116 : decode cX3_init 116 = .ok (.bipush 64, 2) := by decide +kernel
theorem dX3_init_118 : decode cX3_init 118 = .ok (.newarray .boolean, 2) := by decide +kernel
theorem dX3_init_120 : decode cX3_init 120 = .ok (.putfield 54, 3) := by decide +kernel
theorem dX3_init_123 : decode cX3_init 123 = .ok (.aload_n 0, 1) := by decide +kernel
theorem dX3_init_124 : decode cX3_init 124 = .ok (.bipush 64, 2) := by decide +kernel
theorem dX3_init_126 : decode cX3_init 126 = .ok (.newarray .int, 2) := by decide +kernel
theorem dX3_init_128 : decode cX3_init 128 = .ok (.putfield 57, 3) := by decide +kernel
theorem dX3_init_131 : decode cX3_init 131 = .ok (.aload_n 0, 1) := by decide +kernel
theorem dX3_init_132 : decode cX3_init 132 = .ok (.sipush 4200, 3) := by decide +kernel
theorem dX3_init_135 : decode cX3_init 135 = .ok (.newarray .int, 2) := by decide +kernel
theorem dX3_init_137 : decode cX3_init 137 = .ok (.putfield 60, 3) := by decide +kernel
theorem dX3_init_140 : decode cX3_init 140 = .ok (.aload_n 0, 1) := by decide +kernel
theorem dX3_init_141 : decode cX3_init 141 = .ok (.bipush 16, 2) := by decide +kernel
theorem dX3_init_143 : decode cX3_init 143 = .ok (.bipush 32, 2) := by decide +kernel
theorem dX3_init_145 : decode cX3_init 145 = .ok (.invokevirtual 63, 3) := by decide +kernel
theorem dX3_init_148 : decode cX3_init 148 = .ok (.return_, 1) := by decide +kernel
theorem dX3_anew_0 : decode cX3_anew 0 = .ok (.aload_n 0, 1) := by decide +kernel
theorem dX3_anew_1 : decode cX3_anew 1 = .ok (.iload_n 1, 1) := by decide +kernel
theorem dX3_anew_2 : decode cX3_anew 2 = .ok (.putfield 67, 3) := by decide +kernel
theorem dX3_anew_5 : decode cX3_anew 5 = .ok (.aload_n 0, 1) := by decide +kernel
theorem dX3_anew_6 : decode cX3_anew 6 = .ok (.iload_n 2, 1) := by decide +kernel
theorem dX3_anew_7 : decode cX3_anew 7 = .ok (.putfield 70, 3) := by decide +kernel
theorem dX3_anew_10 : decode cX3_anew 10 = .ok (.aload_n 0, 1) := by decide +kernel
theorem dX3_anew_11 : decode cX3_anew 11 = .ok (.iconst (-1), 1) := by decide +kernel
theorem dX3_anew_12 : decode cX3_anew 12 = .ok (.putfield 73, 3) := by decide +kernel
theorem dX3_anew_15 : decode cX3_anew 15 = .ok (.aload_n 0, 1) := by decide +kernel
theorem dX3_anew_16 : decode cX3_anew 16 = .ok (.iconst 0, 1) := by decide +kernel
theorem dX3_anew_17 : decode cX3_anew 17 = .ok (.putfield 76, 3) := by decide +kernel
theorem dX3_anew_20 : decode cX3_anew 20 = .ok (.aload_n 0, 1) := by decide +kernel
theorem dX3_anew_21 : decode cX3_anew 21 = .ok (.iconst 0, 1) := by decide +kernel
theorem dX3_anew_22 : decode cX3_anew 22 = .ok (.putfield 79, 3) := by decide +kernel
theorem dX3_anew_25 : decode cX3_anew 25 = .ok (.iconst 0, 1) := by decide +kernel
theorem dX3_anew_26 : decode cX3_anew 26 = .ok (.istore_n 3, 1) := by decide +kernel
theorem dX3_anew_27 : decode cX3_anew 27 = .ok (.iload_n 3, 1) := by decide +kernel
theorem dX3_anew_28 : decode cX3_anew 28 = .ok (.bipush 64, 2) := by decide +kernel
theorem dX3_anew_30 : decode cX3_anew 30 = .ok (.if_icmp .ge 30, 3) := by decide +kernel
theorem dX3_anew_33 : decode cX3_anew 33 = .ok (.aload_n 0, 1) := by decide +kernel
theorem dX3_anew_34 : decode cX3_anew 34 = .ok (.getfield 13, 3) := by decide +kernel
theorem dX3_anew_37 : decode cX3_anew 37 = .ok (.iload_n 3, 1) := by decide +kernel
theorem dX3_anew_38 : decode cX3_anew 38 = .ok (.iconst 0, 1) := by decide +kernel
theorem dX3_anew_39 : decode cX3_anew 39 = .ok (.iastore, 1) := by decide +kernel
theorem dX3_anew_40 : decode cX3_anew 40 = .ok (.aload_n 0, 1) := by decide +kernel
theorem dX3_anew_41 : decode cX3_anew 41 = .ok (.getfield 17, 3) := by decide +kernel
theorem dX3_anew_44 : decode cX3_anew 44 = .ok (.iload_n 3, 1) := by decide +kernel
theorem dX3_anew_45 : decode cX3_anew 45 = .ok (.iconst 0, 1) := by decide +kernel
theorem dX3_anew_46 : decode cX3_anew 46 = .ok (.iastore, 1) := by decide +kernel
theorem dX3_anew_47 : decode cX3_anew 47 = .ok (.aload_n 0, 1) := by decide +kernel
theorem dX3_anew_48 : decode cX3_anew 48 = .ok (.getfield 20, 3) := by decide +kernel
theorem dX3_anew_51 : decode cX3_anew 51 = .ok (.iload_n 3, 1) := by decide +kernel
theorem dX3_anew_52 : decode cX3_anew 52 = .ok (.iconst 0, 1) := by decide +kernel
theorem dX3_anew_53 : decode cX3_anew 53 = .ok (.bastore, 1) := by decide +kernel
theorem dX3_anew_54 : decode cX3_anew 54 = .ok (.iinc 3 1, 3) := by decide +kernel
theorem dX3_anew_57 : decode cX3_anew 57 = .ok (.goto (-30), 3) := by decide +kernel
theorem dX3_anew_60 : decode cX3_anew 60 = .ok (.iconst 0, 1) := by decide +kernel
theorem dX3_anew_61 : decode cX3_anew 61 = .ok (.istore_n 3, 1) := by decide +kernel
theorem dX3_anew_62 : decode cX3_anew 62 = .ok (.iload_n 3, 1) := by decide +kernel
theorem dX3_anew_63 : decode cX3_anew 63 = .ok (.bipush 32, 2) := by decide +kernel
theorem dX3_anew_65 : decode cX3_anew 65 = .ok (.if_icmp .ge 23, 3) := by decide +kernel
theorem dX3_anew_68 : decode cX3_anew 68 = .ok (.aload_n 0, 1) := by decide +kernel
theorem dX3_anew_69 : decode cX3_anew 69 = .ok (.getfield 39, 3) := by decide +kernel
theorem dX3_anew_72 : decode cX3_anew 72 = .ok (.iload_n 3, 1) := by decide +kernel
theorem dX3_anew_73 : decode cX3_anew 73 = .ok (.iconst (-1), 1) := by decide +kernel
theorem dX3_anew_74 : decode cX3_anew 74 = .ok (.iastore, 1) := by decide +kernel
theorem dX3_anew_75 : decode cX3_anew 75 = .ok (.aload_n 0, 1) := by decide +kernel
theorem dX3_anew_76 : decode cX3_anew 76 = .ok (.getfield 42, 3) := by decide +kernel
theorem dX3_anew_79 : decode cX3_anew 79 = .ok (.iload_n 3, 1) := by decide +kernel
theorem dX3_anew_80 : decode cX3_anew 80 = .ok (.iconst (-1), 1) := by decide +kernel
theorem dX3_anew_81 : decode cX3_anew 81 = .ok (.iastore, 1) := by decide +kernel
theorem dX3_anew_82 : decode cX3_anew 82 = .ok (.iinc 3 1, 3) := by decide +kernel
theorem dX3_anew_85 : decode cX3_anew 85 = .ok (.goto (-23), 3) := by decide +kernel
theorem dX3_anew_88 : decode cX3_anew 88 = .ok (.iconst 0, 1) := by decide +kernel
theorem dX3_anew_89 : decode cX3_anew 89 = .ok (.istore_n 3, 1) := by decide +kernel
theorem dX3_anew_90 : decode cX3_anew 90 = .ok (.iload_n 3, 1) := by decide +kernel
theorem dX3_anew_91 : decode cX3_anew 91 = .ok (.bipush 13, 2) := by decide +kernel
theorem dX3_anew_93 : decode cX3_anew 93 = .ok (.if_icmp .ge 16, 3) := by decide +kernel
theorem dX3_anew_96 : decode cX3_anew 96 = .ok (.aload_n 0, 1) := by decide +kernel
theorem dX3_anew_97 : decode cX3_anew 97 = .ok (.getfield 45, 3) := by decide +kernel
theorem dX3_anew_100 : decode cX3_anew 100 = .ok (.iload_n 3, 1) := by decide +kernel
theorem dX3_anew_101 : decode cX3_anew 101 = .ok (.iconst 0, 1) := by decide +kernel
theorem dX3_anew_102 : decode cX3_anew 102 = .ok (.iastore, 1) := by decide +kernel
theorem dX3_anew_103 : decode cX3_anew 103 = .ok (.iinc 3 1, 3) := by decide +kernel
theorem dX3_anew_106 : decode cX3_anew 106 = .ok (.goto (-16), 3) := by decide +kernel
theorem dX3_anew_109 : decode cX3_anew 109 = .ok (.return_, 1) := by decide +kernel
theorem dX3_format_0 : decode cX3_format 0 = .ok (.aload_n 0, 1) := by decide +kernel
theorem dX3_format_1 : decode cX3_format 1 = .ok (.iconst 0, 1) := by decide +kernel
theorem dX3_format_2 : decode cX3_format 2 = .ok (.putfield 1, 3) := by decide +kernel
theorem dX3_format_5 : decode cX3_format 5 = .ok (.iload_n 1, 1) := by decide +kernel
theorem dX3_format_6 : decode cX3_format 6 = .ok (.iconst 4, 1) := by decide +kernel
theorem dX3_format_7 : decode cX3_format 7 = .ok (.if_icmp .lt 21, 3) := by decide +kernel
theorem dX3_format_10 : decode cX3_format 10 = .ok (.iload_n 1, 1) := by decide +kernel
theorem dX3_format_11 : decode cX3_format 11 = .ok (.bipush 64, 2) := by decide +kernel
theorem dX3_format_13 : decode cX3_format 13 = .ok (.if_icmp .gt 15, 3) := by decide +kernel
theorem dX3_format_16 : decode cX3_format 16 = .ok (.iload_n 2, 1) := by decide +kernel
theorem dX3_format_17 : decode cX3_format 17 = .ok (.bipush 8, 2) := by decide +kernel
theorem dX3_format_19 : decode cX3_format 19 = .ok (.if_icmp .lt 9, 3) := by decide +kernel
theorem dX3_format_22 : decode cX3_format 22 = .ok (.iload_n 2, 1) := by decide +kernel
theorem dX3_format_23 : decode cX3_format 23 = .ok (.bipush 64, 2) := by decide +kernel
theorem dX3_format_25 : decode cX3_format 25 = .ok (.if_icmp .le 9, 3) := by decide +kernel
theorem dX3_format_28 : decode cX3_format 28 = .ok (.aload_n 0, 1) := by decide +kernel
theorem dX3_format_29 : decode cX3_format 29 = .ok (.iconst 1, 1) := by decide +kernel
theorem dX3_format_30 : decode cX3_format 30 = .ok (.putfield 1, 3) := by decide +kernel
theorem dX3_format_33 : decode cX3_format 33 = .ok (.return_, 1) := by decide +kernel
theorem dX3_format_34 : decode cX3_format 34 = .ok (.aload_n 0, 1) := by decide +kernel
theorem dX3_format_35 : decode cX3_format 35 = .ok (.iload_n 1, 1) := by decide +kernel
theorem dX3_format_36 : decode cX3_format 36 = .ok (.iload_n 2, 1) := by decide +kernel
theorem dX3_format_37 : decode cX3_format 37 = .ok (.invokevirtual 63, 3) := by decide +kernel
theorem dX3_format_40 : decode cX3_format 40 = .ok (.return_, 1) := by decide +kernel
theorem dX3_sizeOf_0 : decode cX3_sizeOf 0 = .ok (.iconst 1, 1) := by decide +kernel
theorem dX3_sizeOf_1 : decode cX3_sizeOf 1 = .ok (.aload_n 0, 1) := by decide +kernel
theorem dX3_sizeOf_2 : decode cX3_sizeOf 2 = .ok (.getfield 27, 3) := by decide +kernel
theorem dX3_sizeOf_5 : decode cX3_sizeOf 5 = .ok (.iload_n 1, 1) := by decide +kernel
theorem dX3_sizeOf_6 : decode cX3_sizeOf 6 = .ok (.iaload, 1) := by decide +kernel
theorem dX3_sizeOf_7 : decode cX3_sizeOf 7 = .ok (.iadd, 1) := by decide +kernel
theorem dX3_sizeOf_8 : decode cX3_sizeOf 8 = .ok (.aload_n 0, 1) := by decide +kernel
theorem dX3_sizeOf_9 : decode cX3_sizeOf 9 = .ok (.getfield 30, 3) := by decide +kernel
theorem dX3_sizeOf_12 : decode cX3_sizeOf 12 = .ok (.iload_n 1, 1) := by decide +kernel
theorem dX3_sizeOf_13 : decode cX3_sizeOf 13 = .ok (.iaload, 1) := by decide +kernel
theorem dX3_sizeOf_14 : decode cX3_sizeOf 14 = .ok (.iadd, 1) := by decide +kernel
theorem dX3_sizeOf_15 : decode cX3_sizeOf 15 = .ok (.ireturn, 1) := by decide +kernel
theorem dX3_isLong_0 : decode cX3_isLong 0 = .ok (.aload_n 0, 1) := by decide +kernel
theorem dX3_isLong_1 : decode cX3_isLong 1 = .ok (.iload_n 1, 1) := by decide +kernel
theorem dX3_isLong_2 : decode cX3_isLong 2 = .ok (.invokevirtual 82, 3) := by decide +kernel
theorem dX3_isLong_5 : decode cX3_isLong 5 = .ok (.aload_n 0, 1) := by decide +kernel
theorem dX3_isLong_6 : decode cX3_isLong 6 = .ok (.getfield 70, 3) := by decide +kernel
theorem dX3_isLong_9 : decode cX3_isLong 9 = .ok (.if_icmp .le 7, 3) := by decide +kernel
theorem dX3_isLong_12 : decode cX3_isLong 12 = .ok (.iconst 1, 1) := by decide +kernel
theorem dX3_isLong_13 : decode cX3_isLong 13 = .ok (.goto 4, 3) := by decide +kernel
theorem dX3_isLong_16 : decode cX3_isLong 16 = .ok (.iconst 0, 1) := by decide +kernel
theorem dX3_isLong_17 : decode cX3_isLong 17 = .ok (.ireturn, 1) := by decide +kernel
theorem dX3_used_0 : decode cX3_used 0 = .ok (.iconst 0, 1) := by decide +kernel
theorem dX3_used_1 : decode cX3_used 1 = .ok (.istore_n 1, 1) := by decide +kernel
theorem dX3_used_2 : decode cX3_used 2 = .ok (.iconst 0, 1) := by decide +kernel
theorem dX3_used_3 : decode cX3_used 3 = .ok (.istore_n 2, 1) := by decide +kernel
theorem dX3_used_4 : decode cX3_used 4 = .ok (.iload_n 2, 1) := by decide +kernel
theorem dX3_used_5 : decode cX3_used 5 = .ok (.aload_n 0, 1) := by decide +kernel
theorem dX3_used_6 : decode cX3_used 6 = .ok (.getfield 67, 3) := by decide +kernel
theorem dX3_used_9 : decode cX3_used 9 = .ok (.if_icmp .ge 26, 3) := by decide +kernel
theorem dX3_used_12 : decode cX3_used 12 = .ok (.iload_n 1, 1) := by decide +kernel
theorem dX3_used_13 : decode cX3_used 13 = .ok (.aload_n 0, 1) := by decide +kernel
theorem dX3_used_14 : decode cX3_used 14 = .ok (.getfield 13, 3) := by decide +kernel
theorem dX3_used_17 : decode cX3_used 17 = .ok (.iload_n 2, 1) := by decide +kernel
theorem dX3_used_18 : decode cX3_used 18 = .ok (.iaload, 1) := by decide +kernel
theorem dX3_used_19 : decode cX3_used 19 = .ok (.ifCond .ne 7, 3) := by decide +kernel
theorem dX3_used_22 : decode cX3_used 22 = .ok (.iconst 0, 1) := by decide +kernel
theorem dX3_used_23 : decode cX3_used 23 = .ok (.goto 4, 3) := by decide +kernel
theorem dX3_used_26 : decode cX3_used 26 = .ok (.iconst 1, 1) := by decide +kernel
theorem dX3_used_27 : decode cX3_used 27 = .ok (.iadd, 1) := by decide +kernel
theorem dX3_used_28 : decode cX3_used 28 = .ok (.istore_n 1, 1) := by decide +kernel
theorem dX3_used_29 : decode cX3_used 29 = .ok (.iinc 2 1, 3) := by decide +kernel
theorem dX3_used_32 : decode cX3_used 32 = .ok (.goto (-28), 3) := by decide +kernel
theorem dX3_used_35 : decode cX3_used 35 = .ok (.iload_n 1, 1) := by decide +kernel
theorem dX3_used_36 : decode cX3_used 36 = .ok (.ireturn, 1) := by decide +kernel
theorem dX3_laid_0 : decode cX3_laid 0 = .ok (.aload_n 0, 1) := by decide +kernel
theorem dX3_laid_1 : decode cX3_laid 1 = .ok (.getfield 67, 3) := by decide +kernel
theorem dX3_laid_4 : decode cX3_laid 4 = .ok (.iconst 2, 1) := by decide +kernel
theorem dX3_laid_5 : decode cX3_laid 5 = .ok (.idiv, 1) := by decide +kernel
theorem dX3_laid_6 : decode cX3_laid 6 = .ok (.aload_n 0, 1) := by decide +kernel
theorem dX3_laid_7 : decode cX3_laid 7 = .ok (.invokevirtual 86, 3) := by decide +kernel
theorem dX3_laid_10 : decode cX3_laid 10 = .ok (.isub, 1) := by decide +kernel
theorem dX3_laid_11 : decode cX3_laid 11 = .ok (.istore_n 2, 1) := by decide +kernel
theorem dX3_laid_12 : decode cX3_laid 12 = .ok (.iload_n 1, 1) := by decide +kernel
theorem dX3_laid_13 : decode cX3_laid 13 = .ok (.aload_n 0, 1) := by decide +kernel
theorem dX3_laid_14 : decode cX3_laid 14 = .ok (.getfield 70, 3) := by decide +kernel
theorem dX3_laid_17 : decode cX3_laid 17 = .ok (.if_icmp .le 148, 3) := by decide +kernel
theorem dX3_laid_20 : decode cX3_laid 20 = .ok (.iload_n 1, 1) := by decide +kernel
theorem dX3_laid_21 : decode cX3_laid 21 = .ok (.aload_n 0, 1) := by decide +kernel
theorem dX3_laid_22 : decode cX3_laid 22 = .ok (.getfield 70, 3) := by decide +kernel
theorem dX3_laid_25 : decode cX3_laid 25 = .ok (.iadd, 1) := by decide +kernel
theorem dX3_laid_26 : decode cX3_laid 26 = .ok (.iconst 1, 1) := by decide +kernel
theorem dX3_laid_27 : decode cX3_laid 27 = .ok (.isub, 1) := by decide +kernel
theorem dX3_laid_28 : decode cX3_laid 28 = .ok (.aload_n 0, 1) := by decide +kernel
theorem dX3_laid_29 : decode cX3_laid 29 = .ok (.getfield 70, 3) := by decide +kernel
theorem dX3_laid_32 : decode cX3_laid 32 = .ok (.idiv, 1) := by decide +kernel
theorem dX3_laid_33 : decode cX3_laid 33 = .ok (.istore_n 3, 1) := by decide +kernel
theorem dX3_laid_34 : decode cX3_laid 34 = .ok (.iconst 0, 1) := by decide +kernel
theorem dX3_laid_35 : decode cX3_laid 35 = .ok (.istore 4, 2) := by decide +kernel
theorem dX3_laid_37 : decode cX3_laid 37 = .ok (.iconst 0, 1) := by decide +kernel
theorem dX3_laid_38 : decode cX3_laid 38 = .ok (.istore 5, 2) := by decide +kernel
theorem dX3_laid_40 : decode cX3_laid 40 = .ok (.iload 5, 2) := by decide +kernel
theorem dX3_laid_42 : decode cX3_laid 42 = .ok (.aload_n 0, 1) := by decide +kernel
theorem dX3_laid_43 : decode cX3_laid 43 = .ok (.getfield 67, 3) := by decide +kernel
theorem dX3_laid_46 : decode cX3_laid 46 = .ok (.if_icmp .ge 117, 3) := by decide +kernel
theorem dX3_laid_49 : decode cX3_laid 49 = .ok (.iload_n 3, 1) := by decide +kernel
theorem dX3_laid_50 : decode cX3_laid 50 = .ok (.iload_n 2, 1) := by decide +kernel
theorem dX3_laid_51 : decode cX3_laid 51 = .ok (.if_icmp .gt 112, 3) := by decide +kernel
theorem dX3_laid_54 : decode cX3_laid 54 = .ok (.aload_n 0, 1) := by decide +kernel
theorem dX3_laid_55 : decode cX3_laid 55 = .ok (.getfield 13, 3) := by decide +kernel
theorem dX3_laid_58 : decode cX3_laid 58 = .ok (.iload 5, 2) := by decide +kernel
theorem dX3_laid_60 : decode cX3_laid 60 = .ok (.iaload, 1) := by decide +kernel
theorem dX3_laid_61 : decode cX3_laid 61 = .ok (.ifCond .ne 10, 3) := by decide +kernel
theorem dX3_laid_64 : decode cX3_laid 64 = .ok (.iload 4, 2) := by decide +kernel
theorem dX3_laid_66 : decode cX3_laid 66 = .ok (.iconst 1, 1) := by decide +kernel
theorem dX3_laid_67 : decode cX3_laid 67 = .ok (.iadd, 1) := by decide +kernel
theorem dX3_laid_68 : decode cX3_laid 68 = .ok (.goto 4, 3) := by decide +kernel
theorem dX3_laid_71 : decode cX3_laid 71 = .ok (.iconst 0, 1) := by decide +kernel
theorem dX3_laid_72 : decode cX3_laid 72 = .ok (.istore 4, 2) := by decide +kernel
theorem dX3_laid_74 : decode cX3_laid 74 = .ok (.iload 4, 2) := by decide +kernel
theorem dX3_laid_76 : decode cX3_laid 76 = .ok (.iload_n 3, 1) := by decide +kernel
theorem dX3_laid_77 : decode cX3_laid 77 = .ok (.if_icmp .ne 80, 3) := by decide +kernel
theorem dX3_laid_80 : decode cX3_laid 80 = .ok (.iload 5, 2) := by decide +kernel
theorem dX3_laid_82 : decode cX3_laid 82 = .ok (.iload_n 3, 1) := by decide +kernel
theorem dX3_laid_83 : decode cX3_laid 83 = .ok (.isub, 1) := by decide +kernel
theorem dX3_laid_84 : decode cX3_laid 84 = .ok (.iconst 1, 1) := by decide +kernel
theorem dX3_laid_85 : decode cX3_laid 85 = .ok (.iadd, 1) := by decide +kernel
theorem dX3_laid_86 : decode cX3_laid 86 = .ok (.istore 6, 2) := by decide +kernel
theorem dX3_laid_88 : decode cX3_laid 88 = .ok (.iconst 0, 1) := by decide +kernel
theorem dX3_laid_89 : decode cX3_laid 89 = .ok (.istore 7, 2) := by decide +kernel
theorem dX3_laid_91 : decode cX3_laid 91 = .ok (.iload 7, 2) := by decide +kernel
theorem dX3_laid_93 : decode cX3_laid 93 = .ok (.iload_n 3, 1) := by decide +kernel
theorem dX3_laid_94 : decode cX3_laid 94 = .ok (.if_icmp .ge 55, 3) := by decide +kernel
theorem dX3_laid_97 : decode cX3_laid 97 = .ok (.aload_n 0, 1) := by decide +kernel
theorem dX3_laid_98 : decode cX3_laid 98 = .ok (.getfield 13, 3) := by decide +kernel
theorem dX3_laid_101 : decode cX3_laid 101 = .ok (.iload 6, 2) := by decide +kernel
theorem dX3_laid_103 : decode cX3_laid 103 = .ok (.iload 7, 2) := by decide +kernel
theorem dX3_laid_105 : decode cX3_laid 105 = .ok (.iadd, 1) := by decide +kernel
theorem dX3_laid_106 : decode cX3_laid 106 = .ok (.iload 7, 2) := by decide +kernel
theorem dX3_laid_108 : decode cX3_laid 108 = .ok (.ifCond .ne 7, 3) := by decide +kernel
theorem dX3_laid_111 : decode cX3_laid 111 = .ok (.iconst 2, 1) := by decide +kernel
theorem dX3_laid_112 : decode cX3_laid 112 = .ok (.goto 4, 3) := by decide +kernel
theorem dX3_laid_115 : decode cX3_laid 115 = .ok (.iconst 3, 1) := by decide +kernel
theorem dX3_laid_116 : decode cX3_laid 116 = .ok (.iastore, 1) := by decide +kernel
theorem dX3_laid_117 : decode cX3_laid 117 = .ok (.aload_n 0, 1) := by decide +kernel
theorem dX3_laid_118 : decode cX3_laid 118 = .ok (.getfield 17, 3) := by decide +kernel
theorem dX3_laid_121 : decode cX3_laid 121 = .ok (.iload 6, 2) := by decide +kernel
theorem dX3_laid_123 : decode cX3_laid 123 = .ok (.iload 7, 2) := by decide +kernel
theorem dX3_laid_125 : decode cX3_laid 125 = .ok (.iadd, 1) := by decide +kernel
theorem dX3_laid_126 : decode cX3_laid 126 = .ok (.aload_n 0, 1) := by decide +kernel
theorem dX3_laid_127 : decode cX3_laid 127 = .ok (.getfield 70, 3) := by decide +kernel
theorem dX3_laid_130 : decode cX3_laid 130 = .ok (.iload_n 1, 1) := by decide +kernel
theorem dX3_laid_131 : decode cX3_laid 131 = .ok (.aload_n 0, 1) := by decide +kernel
theorem dX3_laid_132 : decode cX3_laid 132 = .ok (.getfield 70, 3) := by decide +kernel
theorem dX3_laid_135 : decode cX3_laid 135 = .ok (.iload 7, 2) := by decide +kernel
theorem dX3_laid_137 : decode cX3_laid 137 = .ok (.imul, 1) := by decide +kernel
theorem dX3_laid_138 : decode cX3_laid 138 = .ok (.isub, 1) := by decide +kernel
theorem dX3_laid_139 : decode cX3_laid 139 = .ok (.invokestatic 90, 3) := by decide +kernel
theorem dX3_laid_142 : decode cX3_laid 142 = .ok (.iastore, 1) := by decide +kernel
theorem dX3_laid_143 : decode cX3_laid 143 = .ok (.iinc 7 1, 3) := by decide +kernel
theorem dX3_laid_146 : decode cX3_laid 146 = .ok (.goto (-55), 3) := by decide +kernel
theorem dX3_laid_149 : decode cX3_laid 149 = .ok (.aload_n 0, 1) := by decide +kernel
theorem dX3_laid_150 : decode cX3_laid 150 = .ok (.getfield 70, 3) := by decide +kernel
theorem dX3_laid_153 : decode cX3_laid 153 = .ok (.iload 6, 2) := by decide +kernel
theorem dX3_laid_155 : decode cX3_laid 155 = .ok (.imul, 1) := by decide +kernel
theorem dX3_laid_156 : decode cX3_laid 156 = .ok (.ireturn, 1) := by decide +kernel
theorem dX3_laid_157 : decode cX3_laid 157 = .ok (.iinc 5 1, 3) := by decide +kernel
theorem dX3_laid_160 : decode cX3_laid 160 = .ok (.goto (-120), 3) := by decide +kernel
theorem dX3_laid_163 : decode cX3_laid 163 = .ok (.iconst (-1), 1) := by decide +kernel
theorem dX3_laid_164 : decode cX3_laid 164 = .ok (.ireturn, 1) := by decide +kernel
theorem dX3_laid_165 : decode cX3_laid 165 = .ok (.aload_n 0, 1) := by decide +kernel
theorem dX3_laid_166 : decode cX3_laid 166 = .ok (.getfield 73, 3) := by decide +kernel
theorem dX3_laid_169 : decode cX3_laid 169 = .ok (.iconst (-1), 1) := by decide +kernel
theorem dX3_laid_170 : decode cX3_laid 170 = .ok (.if_icmp .eq 21, 3) := by decide +kernel
theorem dX3_laid_173 : decode cX3_laid 173 = .ok (.aload_n 0, 1) := by decide +kernel
theorem dX3_laid_174 : decode cX3_laid 174 = .ok (.getfield 70, 3) := by decide +kernel
theorem dX3_laid_177 : decode cX3_laid 177 = .ok (.aload_n 0, 1) := by decide +kernel
theorem dX3_laid_178 : decode cX3_laid 178 = .ok (.getfield 17, 3) := by decide +kernel
theorem dX3_laid_181 : decode cX3_laid 181 = .ok (.aload_n 0, 1) := by decide +kernel
theorem dX3_laid_182 : decode cX3_laid 182 = .ok (.getfield 73, 3) := by decide +kernel
theorem dX3_laid_185 : decode cX3_laid 185 = .ok (.iaload, 1) := by decide +kernel
theorem dX3_laid_186 : decode cX3_laid 186 = .ok (.isub, 1) := by decide +kernel
theorem dX3_laid_187 : decode cX3_laid 187 = .ok (.iload_n 1, 1) := by decide +kernel
theorem dX3_laid_188 : decode cX3_laid 188 = .ok (.if_icmp .ge 62, 3) := by decide +kernel
theorem dX3_laid_191 : decode cX3_laid 191 = .ok (.iconst 0, 1) := by decide +kernel
theorem dX3_laid_192 : decode cX3_laid 192 = .ok (.istore_n 3, 1) := by decide +kernel
theorem dX3_laid_193 : decode cX3_laid 193 = .ok (.iload_n 3, 1) := by decide +kernel
theorem dX3_laid_194 : decode cX3_laid 194 = .ok (.aload_n 0, 1) := by decide +kernel
theorem dX3_laid_195 : decode cX3_laid 195 = .ok (.getfield 67, 3) := by decide +kernel
theorem dX3_laid_198 : decode cX3_laid 198 = .ok (.if_icmp .ge 18, 3) := by decide +kernel
theorem dX3_laid_201 : decode cX3_laid 201 = .ok (.aload_n 0, 1) := by decide +kernel
theorem dX3_laid_202 : decode cX3_laid 202 = .ok (.getfield 13, 3) := by decide +kernel
theorem dX3_laid_205 : decode cX3_laid 205 = .ok (.iload_n 3, 1) := by decide +kernel
theorem dX3_laid_206 : decode cX3_laid 206 = .ok (.iaload, 1) := by decide +kernel
theorem dX3_laid_207 : decode cX3_laid 207 = .ok (.ifCond .eq 9, 3) := by decide +kernel
theorem dX3_laid_210 : decode cX3_laid 210 = .ok (.iinc 3 1, 3) := by decide +kernel
theorem dX3_laid_213 : decode cX3_laid 213 = .ok (.goto (-20), 3) := by decide +kernel
theorem dX3_laid_216 : decode cX3_laid 216 = .ok (.iload_n 3, 1) := by decide +kernel
theorem dX3_laid_217 : decode cX3_laid 217 = .ok (.aload_n 0, 1) := by decide +kernel
theorem dX3_laid_218 : decode cX3_laid 218 = .ok (.getfield 67, 3) := by decide +kernel
theorem dX3_laid_221 : decode cX3_laid 221 = .ok (.if_icmp .eq 8, 3) := by decide +kernel
theorem dX3_laid_224 : decode cX3_laid 224 = .ok (.iload_n 2, 1) := by decide +kernel
theorem dX3_laid_225 : decode cX3_laid 225 = .ok (.iconst 1, 1) := by decide +kernel
theorem dX3_laid_226 : decode cX3_laid 226 = .ok (.if_icmp .ge 5, 3) := by decide +kernel
theorem dX3_laid_229 : decode cX3_laid 229 = .ok (.iconst (-1), 1) := by decide +kernel
theorem dX3_laid_230 : decode cX3_laid 230 = .ok (.ireturn, 1) := by decide +kernel
theorem dX3_laid_231 : decode cX3_laid 231 = .ok (.aload_n 0, 1) := by decide +kernel
theorem dX3_laid_232 : decode cX3_laid 232 = .ok (.getfield 13, 3) := by decide +kernel
theorem dX3_laid_235 : decode cX3_laid 235 = .ok (.iload_n 3, 1) := by decide +kernel
theorem dX3_laid_236 : decode cX3_laid 236 = .ok (.iconst 1, 1) := by decide +kernel
theorem dX3_laid_237 : decode cX3_laid 237 = .ok (.iastore, 1) := by decide +kernel
theorem dX3_laid_238 : decode cX3_laid 238 = .ok (.aload_n 0, 1) := by decide +kernel
theorem dX3_laid_239 : decode cX3_laid 239 = .ok (.getfield 17, 3) := by decide +kernel
theorem dX3_laid_242 : decode cX3_laid 242 = .ok (.iload_n 3, 1) := by decide +kernel
theorem dX3_laid_243 : decode cX3_laid 243 = .ok (.iconst 0, 1) := by decide +kernel
theorem dX3_laid_244 : decode cX3_laid 244 = .ok (.iastore, 1) := by decide +kernel
theorem dX3_laid_245 : decode cX3_laid 245 = .ok (.aload_n 0, 1) := by decide +kernel
theorem dX3_laid_246 : decode cX3_laid 246 = .ok (.iload_n 3, 1) := by decide +kernel
theorem dX3_laid_247 : decode cX3_laid 247 = .ok (.putfield 73, 3) := by decide +kernel
theorem dX3_laid_250 : decode cX3_laid 250 = .ok (.aload_n 0, 1) := by decide +kernel
theorem dX3_laid_251 : decode cX3_laid 251 = .ok (.getfield 70, 3) := by decide +kernel
theorem dX3_laid_254 : decode cX3_laid 254 = .ok (.aload_n 0, 1) := by decide +kernel
theorem dX3_laid_255 : decode cX3_laid 255 = .ok (.getfield 73, 3) := by decide +kernel
theorem dX3_laid_258 : decode cX3_laid 258 = .ok (.imul, 1) := by decide +kernel
theorem dX3_laid_259 : decode cX3_laid 259 = .ok (.aload_n 0, 1) := by decide +kernel
theorem dX3_laid_260 : decode cX3_laid 260 = .ok (.getfield 17, 3) := by decide +kernel
theorem dX3_laid_263 : decode cX3_laid 263 = .ok (.aload_n 0, 1) := by decide +kernel
theorem dX3_laid_264 : decode cX3_laid 264 = .ok (.getfield 73, 3) := by decide +kernel
theorem dX3_laid_267 : decode cX3_laid 267 = .ok (.iaload, 1) := by decide +kernel
theorem dX3_laid_268 : decode cX3_laid 268 = .ok (.iadd, 1) := by decide +kernel
theorem dX3_laid_269 : decode cX3_laid 269 = .ok (.istore_n 3, 1) := by decide +kernel
theorem dX3_laid_270 : decode cX3_laid 270 = .ok (.aload_n 0, 1) := by decide +kernel
theorem dX3_laid_271 : decode cX3_laid 271 = .ok (.getfield 17, 3) := by decide +kernel
theorem dX3_laid_274 : decode cX3_laid 274 = .ok (.aload_n 0, 1) := by decide +kernel
theorem dX3_laid_275 : decode cX3_laid 275 = .ok (.getfield 73, 3) := by decide +kernel
theorem dX3_laid_278 : decode cX3_laid 278 = .ok (.dup2, 1) := by decide +kernel
theorem dX3_laid_279 : decode cX3_laid 279 = .ok (.iaload, 1) := by decide +kernel
theorem dX3_laid_280 : decode cX3_laid 280 = .ok (.iload_n 1, 1) := by decide +kernel
theorem dX3_laid_281 : decode cX3_laid 281 = .ok (.iadd, 1) := by decide +kernel
theorem dX3_laid_282 : decode cX3_laid 282 = .ok (.iastore, 1) := by decide +kernel
theorem dX3_laid_283 : decode cX3_laid 283 = .ok (.iload_n 3, 1) := by decide +kernel
theorem dX3_laid_284 : decode cX3_laid 284 = .ok (.ireturn, 1) := by decide +kernel
theorem dX3_isRoot_0 : decode cX3_isRoot 0 = .ok (.iload_n 0, 1) := by decide +kernel
theorem dX3_isRoot_1 : decode cX3_isRoot 1 = .ok (.ifCond .lt 13, 3) := by decide +kernel
theorem dX3_isRoot_4 : decode cX3_isRoot 4 = .ok (.iload_n 0, 1) := by decide +kernel
theorem dX3_isRoot_5 : decode cX3_isRoot 5 = .ok (.bipush 32, 2) := by decide +kernel
theorem dX3_isRoot_7 : decode cX3_isRoot 7 = .ok (.if_icmp .ge 7, 3) := by decide +kernel
theorem dX3_isRoot_10 : decode cX3_isRoot 10 = .ok (.iconst 1, 1) := by decide +kernel
theorem dX3_isRoot_11 : decode cX3_isRoot 11 = .ok (.goto 4, 3) := by decide +kernel
theorem dX3_isRoot_14 : decode cX3_isRoot 14 = .ok (.iconst 0, 1) := by decide +kernel
theorem dX3_isRoot_15 : decode cX3_isRoot 15 = .ok (.ireturn, 1) := by decide +kernel
theorem dX3_make_0 : decode cX3_make 0 = .ok (.aload_n 0, 1) := by decide +kernel
theorem dX3_make_1 : decode cX3_make 1 = .ok (.iconst 0, 1) := by decide +kernel
theorem dX3_make_2 : decode cX3_make 2 = .ok (.putfield 1, 3) := by decide +kernel
theorem dX3_make_5 : decode cX3_make 5 = .ok (.iload_n 1, 1) := by decide +kernel
theorem dX3_make_6 : decode cX3_make 6 = .ok (.invokestatic 96, 3) := by decide +kernel
theorem dX3_make_9 : decode cX3_make 9 = .ok (.ifCond .eq 24, 3) := by decide +kernel
theorem dX3_make_12 : decode cX3_make 12 = .ok (.iload_n 2, 1) := by decide +kernel
theorem dX3_make_13 : decode cX3_make 13 = .ok (.ifCond .lt 20, 3) := by decide +kernel
theorem dX3_make_16 : decode cX3_make 16 = .ok (.iload_n 2, 1) := by decide +kernel
theorem dX3_make_17 : decode cX3_make 17 = .ok (.bipush 31, 2) := by decide +kernel
theorem dX3_make_19 : decode cX3_make 19 = .ok (.if_icmp .gt 14, 3) := by decide +kernel
theorem dX3_make_22 : decode cX3_make 22 = .ok (.iload_n 3, 1) := by decide +kernel
theorem dX3_make_23 : decode cX3_make 23 = .ok (.ifCond .lt 10, 3) := by decide +kernel
theorem dX3_make_26 : decode cX3_make 26 = .ok (.iload_n 3, 1) := by decide +kernel
theorem dX3_make_27 : decode cX3_make 27 = .ok (.sipush 200, 3) := by decide +kernel
theorem dX3_make_30 : decode cX3_make 30 = .ok (.if_icmp .le 10, 3) := by decide +kernel
theorem dX3_make_33 : decode cX3_make 33 = .ok (.aload_n 0, 1) := by decide +kernel
theorem dX3_make_34 : decode cX3_make 34 = .ok (.iconst 1, 1) := by decide +kernel
theorem dX3_make_35 : decode cX3_make 35 = .ok (.putfield 1, 3) := by decide +kernel
theorem dX3_make_38 : decode cX3_make 38 = .ok (.iconst 0, 1) := by decide +kernel
theorem dX3_make_39 : decode cX3_make 39 = .ok (.ireturn, 1) := by decide +kernel
theorem dX3_make_40 : decode cX3_make 40 = .ok (.aload_n 0, 1) := by decide +kernel
theorem dX3_make_41 : decode cX3_make 41 = .ok (.iconst 1, 1) := by decide +kernel
theorem dX3_make_42 : decode cX3_make 42 = .ok (.iload_n 2, 1) := by decide +kernel
theorem dX3_make_43 : decode cX3_make 43 = .ok (.iadd, 1) := by decide +kernel
theorem dX3_make_44 : decode cX3_make 44 = .ok (.iload_n 3, 1) := by decide +kernel
theorem dX3_make_45 : decode cX3_make 45 = .ok (.iadd, 1) := by decide +kernel
theorem dX3_make_46 : decode cX3_make 46 = .ok (.invokevirtual 100, 3) := by decide +kernel
theorem dX3_make_49 : decode cX3_make 49 = .ok (.istore 4, 2) := by decide +kernel
theorem dX3_make_51 : decode cX3_make 51 = .ok (.iload 4, 2) := by decide +kernel
theorem dX3_make_53 : decode cX3_make 53 = .ok (.iconst (-1), 1) := by decide +kernel
theorem dX3_make_54 : decode cX3_make 54 = .ok (.if_icmp .ne 23, 3) := by decide +kernel
theorem dX3_make_57 : decode cX3_make 57 = .ok (.aload_n 0, 1) := by decide +kernel
theorem dX3_make_58 : decode cX3_make 58 = .ok (.invokevirtual 103, 3) := by decide +kernel
theorem dX3_make_61 : decode cX3_make 61 = .ok (.ifCond .ne 5, 3) := by decide +kernel
theorem dX3_make_64 : decode cX3_make 64 = .ok (.iconst 0, 1) := by decide +kernel
theorem dX3_make_65 : decode cX3_make 65 = .ok (.ireturn, 1) := by decide +kernel
theorem dX3_make_66 : decode cX3_make 66 = .ok (.aload_n 0, 1) := by decide +kernel
theorem dX3_make_67 : decode cX3_make 67 = .ok (.iconst 1, 1) := by decide +kernel
theorem dX3_make_68 : decode cX3_make 68 = .ok (.iload_n 2, 1) := by decide +kernel
theorem dX3_make_69 : decode cX3_make 69 = .ok (.iadd, 1) := by decide +kernel
theorem dX3_make_70 : decode cX3_make 70 = .ok (.iload_n 3, 1) := by decide +kernel
theorem dX3_make_71 : decode cX3_make 71 = .ok (.iadd, 1) := by decide +kernel
theorem dX3_make_72 : decode cX3_make 72 = .ok (.invokevirtual 100, 3) := by decide +kernel
theorem dX3_make_75 : decode cX3_make 75 = .ok (.istore 4, 2) := by decide +kernel
theorem dX3_make_77 : decode cX3_make 77 = .ok (.iload 4, 2) := by decide +kernel
theorem dX3_make_79 : decode cX3_make 79 = .ok (.iconst (-1), 1) := by decide +kernel
theorem dX3_make_80 : decode cX3_make 80 = .ok (.if_icmp .ne 5, 3) := by decide +kernel
theorem dX3_make_83 : decode cX3_make 83 = .ok (.iconst 0, 1) := by decide +kernel
theorem dX3_make_84 : decode cX3_make 84 = .ok (.ireturn, 1) := by decide +kernel
theorem dX3_make_85 : decode cX3_make 85 = .ok (.aload_n 0, 1) := by decide +kernel
theorem dX3_make_86 : decode cX3_make 86 = .ok (.getfield 76, 3) := by decide +kernel
theorem dX3_make_89 : decode cX3_make 89 = .ok (.istore 5, 2) := by decide +kernel
theorem dX3_make_91 : decode cX3_make 91 = .ok (.aload_n 0, 1) := by decide +kernel
theorem dX3_make_92 : decode cX3_make 92 = .ok (.dup, 1) := by decide +kernel
theorem dX3_make_93 : decode cX3_make 93 = .ok (.getfield 76, 3) := by decide +kernel
theorem dX3_make_96 : decode cX3_make 96 = .ok (.iconst 1, 1) := by decide +kernel
theorem dX3_make_97 : decode cX3_make 97 = .ok (.iadd, 1) := by decide +kernel
theorem dX3_make_98 : decode cX3_make 98 = .ok (.putfield 76, 3) := by decide +kernel
theorem dX3_make_101 : decode cX3_make 101 = .ok (.aload_n 0, 1) := by decide +kernel
theorem dX3_make_102 : decode cX3_make 102 = .ok (.getfield 24, 3) := by decide +kernel
theorem dX3_make_105 : decode cX3_make 105 = .ok (.iload 5, 2) := by decide +kernel
theorem dX3_make_107 : decode cX3_make 107 = .ok (.iload 4, 2) := by decide +kernel
theorem dX3_make_109 : decode cX3_make 109 = .ok (.iastore, 1) := by decide +kernel
theorem dX3_make_110 : decode cX3_make 110 = .ok (.aload_n 0, 1) := by decide +kernel
theorem dX3_make_111 : decode cX3_make 111 = .ok (.getfield 27, 3) := by decide +kernel
theorem dX3_make_114 : decode cX3_make 114 = .ok (.iload 5, 2) := by decide +kernel
theorem dX3_make_116 : decode cX3_make 116 = .ok (.iload_n 2, 1) := by decide +kernel
theorem dX3_make_117 : decode cX3_make 117 = .ok (.iastore, 1) := by decide +kernel
theorem dX3_make_118 : decode cX3_make 118 = .ok (.aload_n 0, 1) := by decide +kernel
theorem dX3_make_119 : decode cX3_make 119 = .ok (.getfield 30, 3) := by decide +kernel
theorem dX3_make_122 : decode cX3_make 122 = .ok (.iload 5, 2) := by decide +kernel
theorem dX3_make_124 : decode cX3_make 124 = .ok (.iload_n 3, 1) := by decide +kernel
theorem dX3_make_125 : decode cX3_make 125 = .ok (.iastore, 1) := by decide +kernel
theorem dX3_make_126 : decode cX3_make 126 = .ok (.aload_n 0, 1) := by decide +kernel
theorem dX3_make_127 : decode cX3_make 127 = .ok (.getfield 33, 3) := by decide +kernel
theorem dX3_make_130 : decode cX3_make 130 = .ok (.iload 5, 2) := by decide +kernel
theorem dX3_make_132 : decode cX3_make 132 = .ok (.aload_n 0, 1) := by decide +kernel
theorem dX3_make_133 : decode cX3_make 133 = .ok (.getfield 79, 3) := by decide +kernel
theorem dX3_make_136 : decode cX3_make 136 = .ok (.iastore, 1) := by decide +kernel
theorem dX3_make_137 : decode cX3_make 137 = .ok (.iconst 0, 1) := by decide +kernel
theorem dX3_make_138 : decode cX3_make 138 = .ok (.istore 6, 2) := by decide +kernel
theorem dX3_make_140 : decode cX3_make 140 = .ok (.iload 6, 2) := by decide +kernel
theorem dX3_make_142 : decode cX3_make 142 = .ok (.iload_n 2, 1) := by decide +kernel
theorem dX3_make_143 : decode cX3_make 143 = .ok (.iload_n 3, 1) := by decide +kernel
theorem dX3_make_144 : decode cX3_make 144 = .ok (.iadd, 1) := by decide +kernel
theorem dX3_make_145 : decode cX3_make 145 = .ok (.if_icmp .ge 39, 3) := by decide +kernel
theorem dX3_make_148 : decode cX3_make 148 = .ok (.aload_n 0, 1) := by decide +kernel
theorem dX3_make_149 : decode cX3_make 149 = .ok (.getfield 36, 3) := by decide +kernel
theorem dX3_make_152 : decode cX3_make 152 = .ok (.aload_n 0, 1) := by decide +kernel
theorem dX3_make_153 : decode cX3_make 153 = .ok (.getfield 79, 3) := by decide +kernel
theorem dX3_make_156 : decode cX3_make 156 = .ok (.iload 6, 2) := by decide +kernel
theorem dX3_make_158 : decode cX3_make 158 = .ok (.iload_n 2, 1) := by decide +kernel
theorem dX3_make_159 : decode cX3_make 159 = .ok (.if_icmp .ge 7, 3) := by decide +kernel
theorem dX3_make_162 : decode cX3_make 162 = .ok (.iconst (-1), 1) := by decide +kernel
theorem dX3_make_163 : decode cX3_make 163 = .ok (.goto 4, 3) := by decide +kernel
theorem dX3_make_166 : decode cX3_make 166 = .ok (.iconst 0, 1) := by decide +kernel
theorem dX3_make_167 : decode cX3_make 167 = .ok (.iastore, 1) := by decide +kernel
theorem dX3_make_168 : decode cX3_make 168 = .ok (.aload_n 0, 1) := by decide +kernel
theorem dX3_make_169 : decode cX3_make 169 = .ok (.dup, 1) := by decide +kernel
theorem dX3_make_170 : decode cX3_make 170 = .ok (.getfield 79, 3) := by decide +kernel
theorem dX3_make_173 : decode cX3_make 173 = .ok (.iconst 1, 1) := by decide +kernel
theorem dX3_make_174 : decode cX3_make 174 = .ok (.iadd, 1) := by decide +kernel
theorem dX3_make_175 : decode cX3_make 175 = .ok (.putfield 79, 3) := by decide +kernel
theorem dX3_make_178 : decode cX3_make 178 = .ok (.iinc 6 1, 3) := by decide +kernel
theorem dX3_make_181 : decode cX3_make 181 = .ok (.goto (-41), 3) := by decide +kernel
theorem dX3_make_184 : decode cX3_make 184 = .ok (.aload_n 0, 1) := by decide +kernel
theorem dX3_make_185 : decode cX3_make 185 = .ok (.getfield 39, 3) := by decide +kernel
theorem dX3_make_188 : decode cX3_make 188 = .ok (.iload_n 1, 1) := by decide +kernel
theorem dX3_make_189 : decode cX3_make 189 = .ok (.iload 5, 2) := by decide +kernel
theorem dX3_make_191 : decode cX3_make 191 = .ok (.iastore, 1) := by decide +kernel
theorem dX3_make_192 : decode cX3_make 192 = .ok (.iconst 1, 1) := by decide +kernel
theorem dX3_make_193 : decode cX3_make 193 = .ok (.ireturn, 1) := by decide +kernel
theorem dX3_firstOf_0 : decode cX3_firstOf 0 = .ok (.iload_n 1, 1) := by decide +kernel
theorem dX3_firstOf_1 : decode cX3_firstOf 1 = .ok (.istore_n 2, 1) := by decide +kernel
theorem dX3_firstOf_2 : decode cX3_firstOf 2 = .ok (.aload_n 0, 1) := by decide +kernel
theorem dX3_firstOf_3 : decode cX3_firstOf 3 = .ok (.getfield 13, 3) := by decide +kernel
theorem dX3_firstOf_6 : decode cX3_firstOf 6 = .ok (.iload_n 2, 1) := by decide +kernel
theorem dX3_firstOf_7 : decode cX3_firstOf 7 = .ok (.iaload, 1) := by decide +kernel
theorem dX3_firstOf_8 : decode cX3_firstOf 8 = .ok (.iconst 3, 1) := by decide +kernel
theorem dX3_firstOf_9 : decode cX3_firstOf 9 = .ok (.if_icmp .ne 9, 3) := by decide +kernel
theorem dX3_firstOf_12 : decode cX3_firstOf 12 = .ok (.iinc 2 (-1), 3) := by decide +kernel
theorem dX3_firstOf_15 : decode cX3_firstOf 15 = .ok (.goto (-13), 3) := by decide +kernel
theorem dX3_firstOf_18 : decode cX3_firstOf 18 = .ok (.iload_n 2, 1) := by decide +kernel
theorem dX3_firstOf_19 : decode cX3_firstOf 19 = .ok (.ireturn, 1) := by decide +kernel
theorem dX3_hits_0 : decode cX3_hits 0 = .ok (.iconst 0, 1) := by decide +kernel
theorem dX3_hits_1 : decode cX3_hits 1 = .ok (.istore_n 1, 1) := by decide +kernel
theorem dX3_hits_2 : decode cX3_hits 2 = .ok (.iload_n 1, 1) := by decide +kernel
theorem dX3_hits_3 : decode cX3_hits 3 = .ok (.bipush 64, 2) := by decide +kernel
theorem dX3_hits_5 : decode cX3_hits 5 = .ok (.if_icmp .ge 16, 3) := by decide +kernel
theorem dX3_hits_8 : decode cX3_hits 8 = .ok (.aload_n 0, 1) := by decide +kernel
theorem dX3_hits_9 : decode cX3_hits 9 = .ok (.getfield 54, 3) := by decide +kernel
theorem dX3_hits_12 : decode cX3_hits 12 = .ok (.iload_n 1, 1) := by decide +kernel
theorem dX3_hits_13 : decode cX3_hits 13 = .ok (.iconst 0, 1) := by decide +kernel
theorem dX3_hits_14 : decode cX3_hits 14 = .ok (.bastore, 1) := by decide +kernel
theorem dX3_hits_15 : decode cX3_hits 15 = .ok (.iinc 1 1, 3) := by decide +kernel
theorem dX3_hits_18 : decode cX3_hits 18 = .ok (.goto (-16), 3) := by decide +kernel
theorem dX3_hits_21 : decode cX3_hits 21 = .ok (.iconst 0, 1) := by decide +kernel
theorem dX3_hits_22 : decode cX3_hits 22 = .ok (.istore_n 1, 1) := by decide +kernel
theorem dX3_hits_23 : decode cX3_hits 23 = .ok (.iload_n 1, 1) := by decide +kernel
theorem dX3_hits_24 : decode cX3_hits 24 = .ok (.bipush 32, 2) := by decide +kernel
theorem dX3_hits_26 : decode cX3_hits 26 = .ok (.if_icmp .ge 126, 3) := by decide +kernel
theorem dX3_hits_29 : decode cX3_hits 29 = .ok (.aload_n 0, 1) := by decide +kernel
theorem dX3_hits_30 : decode cX3_hits 30 = .ok (.getfield 42, 3) := by decide +kernel
theorem dX3_hits_33 : decode cX3_hits 33 = .ok (.iload_n 1, 1) := by decide +kernel
theorem dX3_hits_34 : decode cX3_hits 34 = .ok (.iaload, 1) := by decide +kernel
theorem dX3_hits_35 : decode cX3_hits 35 = .ok (.ifCond .lt 111, 3) := by decide +kernel
theorem dX3_hits_38 : decode cX3_hits 38 = .ok (.aload_n 0, 1) := by decide +kernel
theorem dX3_hits_39 : decode cX3_hits 39 = .ok (.getfield 42, 3) := by decide +kernel
theorem dX3_hits_42 : decode cX3_hits 42 = .ok (.iload_n 1, 1) := by decide +kernel
theorem dX3_hits_43 : decode cX3_hits 43 = .ok (.iaload, 1) := by decide +kernel
theorem dX3_hits_44 : decode cX3_hits 44 = .ok (.aload_n 0, 1) := by decide +kernel
theorem dX3_hits_45 : decode cX3_hits 45 = .ok (.getfield 67, 3) := by decide +kernel
theorem dX3_hits_48 : decode cX3_hits 48 = .ok (.aload_n 0, 1) := by decide +kernel
theorem dX3_hits_49 : decode cX3_hits 49 = .ok (.getfield 70, 3) := by decide +kernel
theorem dX3_hits_52 : decode cX3_hits 52 = .ok (.imul, 1) := by decide +kernel
theorem dX3_hits_53 : decode cX3_hits 53 = .ok (.if_icmp .ge 93, 3) := by decide +kernel
theorem dX3_hits_56 : decode cX3_hits 56 = .ok (.aload_n 0, 1) := by decide +kernel
theorem dX3_hits_57 : decode cX3_hits 57 = .ok (.getfield 13, 3) := by decide +kernel
theorem dX3_hits_60 : decode cX3_hits 60 = .ok (.aload_n 0, 1) := by decide +kernel
theorem dX3_hits_61 : decode cX3_hits 61 = .ok (.getfield 42, 3) := by decide +kernel
theorem dX3_hits_64 : decode cX3_hits 64 = .ok (.iload_n 1, 1) := by decide +kernel
theorem dX3_hits_65 : decode cX3_hits 65 = .ok (.iaload, 1) := by decide +kernel
theorem dX3_hits_66 : decode cX3_hits 66 = .ok (.aload_n 0, 1) := by decide +kernel
theorem dX3_hits_67 : decode cX3_hits 67 = .ok (.getfield 70, 3) := by decide +kernel
theorem dX3_hits_70 : decode cX3_hits 70 = .ok (.idiv, 1) := by decide +kernel
theorem dX3_hits_71 : decode cX3_hits 71 = .ok (.iaload, 1) := by decide +kernel
theorem dX3_hits_72 : decode cX3_hits 72 = .ok (.ifCond .ne 6, 3) := by decide +kernel
theorem dX3_hits_75 : decode cX3_hits 75 = .ok (.goto 71, 3) := by decide +kernel
theorem dX3_hits_78 : decode cX3_hits 78 = .ok (.aload_n 0, 1) := by decide +kernel
theorem dX3_hits_79 : decode cX3_hits 79 = .ok (.aload_n 0, 1) := by decide +kernel
theorem dX3_hits_80 : decode cX3_hits 80 = .ok (.getfield 42, 3) := by decide +kernel
theorem dX3_hits_83 : decode cX3_hits 83 = .ok (.iload_n 1, 1) := by decide +kernel
theorem dX3_hits_84 : decode cX3_hits 84 = .ok (.iaload, 1) := by decide +kernel
theorem dX3_hits_85 : decode cX3_hits 85 = .ok (.aload_n 0, 1) := by decide +kernel
theorem dX3_hits_86 : decode cX3_hits 86 = .ok (.getfield 70, 3) := by decide +kernel
theorem dX3_hits_89 : decode cX3_hits 89 = .ok (.idiv, 1) := by decide +kernel
theorem dX3_hits_90 : decode cX3_hits 90 = .ok (.invokevirtual 107, 3) := by decide +kernel
theorem dX3_hits_93 : decode cX3_hits 93 = .ok (.istore_n 2, 1) := by decide +kernel
theorem dX3_hits_94 : decode cX3_hits 94 = .ok (.aload_n 0, 1) := by decide +kernel
theorem dX3_hits_95 : decode cX3_hits 95 = .ok (.getfield 54, 3) := by decide +kernel
theorem dX3_hits_98 : decode cX3_hits 98 = .ok (.iload_n 2, 1) := by decide +kernel
theorem dX3_hits_99 : decode cX3_hits 99 = .ok (.iconst 1, 1) := by decide +kernel
theorem dX3_hits_100 : decode cX3_hits 100 = .ok (.bastore, 1) := by decide +kernel
theorem dX3_hits_101 : decode cX3_hits 101 = .ok (.iload_n 2, 1) := by decide +kernel
theorem dX3_hits_102 : decode cX3_hits 102 = .ok (.iconst 1, 1) := by decide +kernel
theorem dX3_hits_103 : decode cX3_hits 103 = .ok (.iadd, 1) := by decide +kernel
theorem dX3_hits_104 : decode cX3_hits 104 = .ok (.istore_n 3, 1) := by decide +kernel
theorem dX3_hits_105 : decode cX3_hits 105 = .ok (.iload_n 3, 1) := by decide +kernel
theorem dX3_hits_106 : decode cX3_hits 106 = .ok (.aload_n 0, 1) := by decide +kernel
theorem dX3_hits_107 : decode cX3_hits 107 = .ok (.getfield 67, 3) := by decide +kernel
theorem dX3_hits_110 : decode cX3_hits 110 = .ok (.if_icmp .ge 36, 3) := by decide +kernel
theorem dX3_hits_113 : decode cX3_hits 113 = .ok (.aload_n 0, 1) := by decide +kernel
theorem dX3_hits_114 : decode cX3_hits 114 = .ok (.getfield 13, 3) := by decide +kernel
theorem dX3_hits_117 : decode cX3_hits 117 = .ok (.iload_n 2, 1) := by decide +kernel
theorem dX3_hits_118 : decode cX3_hits 118 = .ok (.iaload, 1) := by decide +kernel
theorem dX3_hits_119 : decode cX3_hits 119 = .ok (.iconst 2, 1) := by decide +kernel
theorem dX3_hits_120 : decode cX3_hits 120 = .ok (.if_icmp .ne 26, 3) := by decide +kernel
theorem dX3_hits_123 : decode cX3_hits 123 = .ok (.aload_n 0, 1) := by decide +kernel
theorem dX3_hits_124 : decode cX3_hits 124 = .ok (.getfield 13, 3) := by decide +kernel
theorem dX3_hits_127 : decode cX3_hits 127 = .ok (.iload_n 3, 1) := by decide +kernel
theorem dX3_hits_128 : decode cX3_hits 128 = .ok (.iaload, 1) := by decide +kernel
theorem dX3_hits_129 : decode cX3_hits 129 = .ok (.iconst 3, 1) := by decide +kernel
theorem dX3_hits_130 : decode cX3_hits 130 = .ok (.if_icmp .ne 16, 3) := by decide +kernel
theorem dX3_hits_133 : decode cX3_hits 133 = .ok (.aload_n 0, 1) := by decide +kernel
theorem dX3_hits_134 : decode cX3_hits 134 = .ok (.getfield 54, 3) := by decide +kernel
theorem dX3_hits_137 : decode cX3_hits 137 = .ok (.iload_n 3, 1) := by decide +kernel
theorem dX3_hits_138 : decode cX3_hits 138 = .ok (.iconst 1, 1) := by decide +kernel
theorem dX3_hits_139 : decode cX3_hits 139 = .ok (.bastore, 1) := by decide +kernel
theorem dX3_hits_140 : decode cX3_hits 140 = .ok (.iinc 3 1, 3) := by decide +kernel
theorem dX3_hits_143 : decode cX3_hits 143 = .ok (.goto (-38), 3) := by decide +kernel
theorem dX3_hits_146 : decode cX3_hits 146 = .ok (.iinc 1 1, 3) := by decide +kernel
theorem dX3_hits_149 : decode cX3_hits 149 = .ok (.goto (-126), 3) := by decide +kernel
theorem dX3_hits_152 : decode cX3_hits 152 = .ok (.return_, 1) := by decide +kernel
theorem dX3_stays_0 : decode cX3_stays 0 = .ok (.aload_n 0, 1) := by decide +kernel
theorem dX3_stays_1 : decode cX3_stays 1 = .ok (.getfield 51, 3) := by decide +kernel
theorem dX3_stays_4 : decode cX3_stays 4 = .ok (.iload_n 1, 1) := by decide +kernel
theorem dX3_stays_5 : decode cX3_stays 5 = .ok (.aload_n 0, 1) := by decide +kernel
theorem dX3_stays_6 : decode cX3_stays 6 = .ok (.getfield 24, 3) := by decide +kernel
theorem dX3_stays_9 : decode cX3_stays 9 = .ok (.iload_n 1, 1) := by decide +kernel
theorem dX3_stays_10 : decode cX3_stays 10 = .ok (.iaload, 1) := by decide +kernel
theorem dX3_stays_11 : decode cX3_stays 11 = .ok (.iastore, 1) := by decide +kernel
theorem dX3_stays_12 : decode cX3_stays 12 = .ok (.aload_n 0, 1) := by decide +kernel
theorem dX3_stays_13 : decode cX3_stays 13 = .ok (.getfield 48, 3) := by decide +kernel
theorem dX3_stays_16 : decode cX3_stays 16 = .ok (.aload_n 0, 1) := by decide +kernel
theorem dX3_stays_17 : decode cX3_stays 17 = .ok (.getfield 110, 3) := by decide +kernel
theorem dX3_stays_20 : decode cX3_stays 20 = .ok (.iload_n 1, 1) := by decide +kernel
theorem dX3_stays_21 : decode cX3_stays 21 = .ok (.iastore, 1) := by decide +kernel
theorem dX3_stays_22 : decode cX3_stays 22 = .ok (.aload_n 0, 1) := by decide +kernel
theorem dX3_stays_23 : decode cX3_stays 23 = .ok (.dup, 1) := by decide +kernel
theorem dX3_stays_24 : decode cX3_stays 24 = .ok (.getfield 110, 3) := by decide +kernel
theorem dX3_stays_27 : decode cX3_stays 27 = .ok (.iconst 1, 1) := by decide +kernel
theorem dX3_stays_28 : decode cX3_stays 28 = .ok (.iadd, 1) := by decide +kernel
theorem dX3_stays_29 : decode cX3_stays 29 = .ok (.putfield 110, 3) := by decide +kernel
theorem dX3_stays_32 : decode cX3_stays 32 = .ok (.return_, 1) := by decide +kernel
theorem dX3_comes_0 : decode cX3_comes 0 = .ok (.iload_n 1, 1) := by decide +kernel
theorem dX3_comes_1 : decode cX3_comes 1 = .ok (.iconst (-1), 1) := by decide +kernel
theorem dX3_comes_2 : decode cX3_comes 2 = .ok (.if_icmp .eq 13, 3) := by decide +kernel
theorem dX3_comes_5 : decode cX3_comes 5 = .ok (.aload_n 0, 1) := by decide +kernel
theorem dX3_comes_6 : decode cX3_comes 6 = .ok (.getfield 51, 3) := by decide +kernel
theorem dX3_comes_9 : decode cX3_comes 9 = .ok (.iload_n 1, 1) := by decide +kernel
theorem dX3_comes_10 : decode cX3_comes 10 = .ok (.iaload, 1) := by decide +kernel
theorem dX3_comes_11 : decode cX3_comes 11 = .ok (.iconst (-1), 1) := by decide +kernel
theorem dX3_comes_12 : decode cX3_comes 12 = .ok (.if_icmp .eq 5, 3) := by decide +kernel
theorem dX3_comes_15 : decode cX3_comes 15 = .ok (.iconst 1, 1) := by decide +kernel
theorem dX3_comes_16 : decode cX3_comes 16 = .ok (.ireturn, 1) := by decide +kernel
theorem dX3_comes_17 : decode cX3_comes 17 = .ok (.aload_n 0, 1) := by decide +kernel
theorem dX3_comes_18 : decode cX3_comes 18 = .ok (.iload_n 1, 1) := by decide +kernel
theorem dX3_comes_19 : decode cX3_comes 19 = .ok (.invokevirtual 113, 3) := by decide +kernel
theorem dX3_comes_22 : decode cX3_comes 22 = .ok (.ifCond .eq 10, 3) := by decide +kernel
theorem dX3_comes_25 : decode cX3_comes 25 = .ok (.aload_n 0, 1) := by decide +kernel
theorem dX3_comes_26 : decode cX3_comes 26 = .ok (.iload_n 1, 1) := by decide +kernel
theorem dX3_comes_27 : decode cX3_comes 27 = .ok (.invokevirtual 116, 3) := by decide +kernel
theorem dX3_comes_30 : decode cX3_comes 30 = .ok (.iconst 1, 1) := by decide +kernel
theorem dX3_comes_31 : decode cX3_comes 31 = .ok (.ireturn, 1) := by decide +kernel
theorem dX3_comes_32 : decode cX3_comes 32 = .ok (.aload_n 0, 1) := by decide +kernel
theorem dX3_comes_33 : decode cX3_comes 33 = .ok (.getfield 120, 3) := by decide +kernel
theorem dX3_comes_36 : decode cX3_comes 36 = .ok (.iconst (-1), 1) := by decide +kernel
theorem dX3_comes_37 : decode cX3_comes 37 = .ok (.if_icmp .eq 20, 3) := by decide +kernel
theorem dX3_comes_40 : decode cX3_comes 40 = .ok (.aload_n 0, 1) := by decide +kernel
theorem dX3_comes_41 : decode cX3_comes 41 = .ok (.getfield 70, 3) := by decide +kernel
theorem dX3_comes_44 : decode cX3_comes 44 = .ok (.aload_n 0, 1) := by decide +kernel
theorem dX3_comes_45 : decode cX3_comes 45 = .ok (.getfield 123, 3) := by decide +kernel
theorem dX3_comes_48 : decode cX3_comes 48 = .ok (.isub, 1) := by decide +kernel
theorem dX3_comes_49 : decode cX3_comes 49 = .ok (.aload_n 0, 1) := by decide +kernel
theorem dX3_comes_50 : decode cX3_comes 50 = .ok (.iload_n 1, 1) := by decide +kernel
theorem dX3_comes_51 : decode cX3_comes 51 = .ok (.invokevirtual 82, 3) := by decide +kernel
theorem dX3_comes_54 : decode cX3_comes 54 = .ok (.if_icmp .ge 74, 3) := by decide +kernel
theorem dX3_comes_57 : decode cX3_comes 57 = .ok (.iconst 0, 1) := by decide +kernel
theorem dX3_comes_58 : decode cX3_comes 58 = .ok (.istore_n 2, 1) := by decide +kernel
theorem dX3_comes_59 : decode cX3_comes 59 = .ok (.iload_n 2, 1) := by decide +kernel
theorem dX3_comes_60 : decode cX3_comes 60 = .ok (.aload_n 0, 1) := by decide +kernel
theorem dX3_comes_61 : decode cX3_comes 61 = .ok (.getfield 67, 3) := by decide +kernel
theorem dX3_comes_64 : decode cX3_comes 64 = .ok (.if_icmp .ge 27, 3) := by decide +kernel
theorem dX3_comes_67 : decode cX3_comes 67 = .ok (.aload_n 0, 1) := by decide +kernel
theorem dX3_comes_68 : decode cX3_comes 68 = .ok (.getfield 13, 3) := by decide +kernel
theorem dX3_comes_71 : decode cX3_comes 71 = .ok (.iload_n 2, 1) := by decide +kernel
theorem dX3_comes_72 : decode cX3_comes 72 = .ok (.iaload, 1) := by decide +kernel
theorem dX3_comes_73 : decode cX3_comes 73 = .ok (.ifCond .ne 12, 3) := by decide +kernel
theorem dX3_comes_76 : decode cX3_comes 76 = .ok (.aload_n 0, 1) := by decide +kernel
theorem dX3_comes_77 : decode cX3_comes 77 = .ok (.getfield 57, 3) := by decide +kernel
theorem dX3_comes_80 : decode cX3_comes 80 = .ok (.iload_n 2, 1) := by decide +kernel
theorem dX3_comes_81 : decode cX3_comes 81 = .ok (.iaload, 1) := by decide +kernel
theorem dX3_comes_82 : decode cX3_comes 82 = .ok (.ifCond .eq 9, 3) := by decide +kernel
theorem dX3_comes_85 : decode cX3_comes 85 = .ok (.iinc 2 1, 3) := by decide +kernel
theorem dX3_comes_88 : decode cX3_comes 88 = .ok (.goto (-29), 3) := by decide +kernel
theorem dX3_comes_91 : decode cX3_comes 91 = .ok (.iload_n 2, 1) := by decide +kernel
theorem dX3_comes_92 : decode cX3_comes 92 = .ok (.aload_n 0, 1) := by decide +kernel
theorem dX3_comes_93 : decode cX3_comes 93 = .ok (.getfield 67, 3) := by decide +kernel
theorem dX3_comes_96 : decode cX3_comes 96 = .ok (.if_icmp .ne 5, 3) := by decide +kernel
theorem dX3_comes_99 : decode cX3_comes 99 = .ok (.iconst 0, 1) := by decide +kernel
theorem dX3_comes_100 : decode cX3_comes 100 = .ok (.ireturn, 1) := by decide +kernel
theorem dX3_comes_101 : decode cX3_comes 101 = .ok (.aload_n 0, 1) := by decide +kernel
theorem dX3_comes_102 : decode cX3_comes 102 = .ok (.iload_n 2, 1) := by decide +kernel
theorem dX3_comes_103 : decode cX3_comes 103 = .ok (.putfield 120, 3) := by decide +kernel
theorem dX3_comes_106 : decode cX3_comes 106 = .ok (.aload_n 0, 1) := by decide +kernel
theorem dX3_comes_107 : decode cX3_comes 107 = .ok (.iconst 0, 1) := by decide +kernel
theorem dX3_comes_108 : decode cX3_comes 108 = .ok (.putfield 123, 3) := by decide +kernel
theorem dX3_comes_111 : decode cX3_comes 111 = .ok (.aload_n 0, 1) := by decide +kernel
theorem dX3_comes_112 : decode cX3_comes 112 = .ok (.getfield 57, 3) := by decide +kernel
theorem dX3_comes_115 : decode cX3_comes 115 = .ok (.iload_n 2, 1) := by decide +kernel
theorem dX3_comes_116 : decode cX3_comes 116 = .ok (.iconst 1, 1) := by decide +kernel
theorem dX3_comes_117 : decode cX3_comes 117 = .ok (.iastore, 1) := by decide +kernel
theorem dX3_comes_118 : decode cX3_comes 118 = .ok (.aload_n 0, 1) := by decide +kernel
theorem dX3_comes_119 : decode cX3_comes 119 = .ok (.dup, 1) := by decide +kernel
theorem dX3_comes_120 : decode cX3_comes 120 = .ok (.getfield 126, 3) := by decide +kernel
theorem dX3_comes_123 : decode cX3_comes 123 = .ok (.iconst 1, 1) := by decide +kernel
theorem dX3_comes_124 : decode cX3_comes 124 = .ok (.iadd, 1) := by decide +kernel
theorem dX3_comes_125 : decode cX3_comes 125 = .ok (.putfield 126, 3) := by decide +kernel
theorem dX3_comes_128 : decode cX3_comes 128 = .ok (.aload_n 0, 1) := by decide +kernel
theorem dX3_comes_129 : decode cX3_comes 129 = .ok (.getfield 51, 3) := by decide +kernel
theorem dX3_comes_132 : decode cX3_comes 132 = .ok (.iload_n 1, 1) := by decide +kernel
theorem dX3_comes_133 : decode cX3_comes 133 = .ok (.aload_n 0, 1) := by decide +kernel
theorem dX3_comes_134 : decode cX3_comes 134 = .ok (.getfield 70, 3) := by decide +kernel
theorem dX3_comes_137 : decode cX3_comes 137 = .ok (.aload_n 0, 1) := by decide +kernel
theorem dX3_comes_138 : decode cX3_comes 138 = .ok (.getfield 120, 3) := by decide +kernel
theorem dX3_comes_141 : decode cX3_comes 141 = .ok (.imul, 1) := by decide +kernel
theorem dX3_comes_142 : decode cX3_comes 142 = .ok (.aload_n 0, 1) := by decide +kernel
theorem dX3_comes_143 : decode cX3_comes 143 = .ok (.getfield 123, 3) := by decide +kernel
theorem dX3_comes_146 : decode cX3_comes 146 = .ok (.iadd, 1) := by decide +kernel
theorem dX3_comes_147 : decode cX3_comes 147 = .ok (.iastore, 1) := by decide +kernel
theorem dX3_comes_148 : decode cX3_comes 148 = .ok (.aload_n 0, 1) := by decide +kernel
theorem dX3_comes_149 : decode cX3_comes 149 = .ok (.dup, 1) := by decide +kernel
theorem dX3_comes_150 : decode cX3_comes 150 = .ok (.getfield 123, 3) := by decide +kernel
theorem dX3_comes_153 : decode cX3_comes 153 = .ok (.aload_n 0, 1) := by decide +kernel
theorem dX3_comes_154 : decode cX3_comes 154 = .ok (.iload_n 1, 1) := by decide +kernel
theorem dX3_comes_155 : decode cX3_comes 155 = .ok (.invokevirtual 82, 3) := by decide +kernel
theorem dX3_comes_158 : decode cX3_comes 158 = .ok (.iadd, 1) := by decide +kernel
theorem dX3_comes_159 : decode cX3_comes 159 = .ok (.putfield 123, 3) := by decide +kernel
theorem dX3_comes_162 : decode cX3_comes 162 = .ok (.aload_n 0, 1) := by decide +kernel
theorem dX3_comes_163 : decode cX3_comes 163 = .ok (.getfield 57, 3) := by decide +kernel
theorem dX3_comes_166 : decode cX3_comes 166 = .ok (.aload_n 0, 1) := by decide +kernel
theorem dX3_comes_167 : decode cX3_comes 167 = .ok (.getfield 120, 3) := by decide +kernel
theorem dX3_comes_170 : decode cX3_comes 170 = .ok (.iconst 1, 1) := by decide +kernel
theorem dX3_comes_171 : decode cX3_comes 171 = .ok (.aload_n 0, 1) := by decide +kernel
theorem dX3_comes_172 : decode cX3_comes 172 = .ok (.getfield 123, 3) := by decide +kernel
theorem dX3_comes_175 : decode cX3_comes 175 = .ok (.iadd, 1) := by decide +kernel
theorem dX3_comes_176 : decode cX3_comes 176 = .ok (.iastore, 1) := by decide +kernel
theorem dX3_comes_177 : decode cX3_comes 177 = .ok (.aload_n 0, 1) := by decide +kernel
theorem dX3_comes_178 : decode cX3_comes 178 = .ok (.getfield 48, 3) := by decide +kernel
theorem dX3_comes_181 : decode cX3_comes 181 = .ok (.aload_n 0, 1) := by decide +kernel
theorem dX3_comes_182 : decode cX3_comes 182 = .ok (.getfield 110, 3) := by decide +kernel
theorem dX3_comes_185 : decode cX3_comes 185 = .ok (.iload_n 1, 1) := by decide +kernel
theorem dX3_comes_186 : decode cX3_comes 186 = .ok (.iastore, 1) := by decide +kernel
theorem dX3_comes_187 : decode cX3_comes 187 = .ok (.aload_n 0, 1) := by decide +kernel
theorem dX3_comes_188 : decode cX3_comes 188 = .ok (.dup, 1) := by decide +kernel
theorem dX3_comes_189 : decode cX3_comes 189 = .ok (.getfield 110, 3) := by decide +kernel
theorem dX3_comes_192 : decode cX3_comes 192 = .ok (.iconst 1, 1) := by decide +kernel
theorem dX3_comes_193 : decode cX3_comes 193 = .ok (.iadd, 1) := by decide +kernel
theorem dX3_comes_194 : decode cX3_comes 194 = .ok (.putfield 110, 3) := by decide +kernel
theorem dX3_comes_197 : decode cX3_comes 197 = .ok (.aload_n 0, 1) := by decide +kernel
theorem dX3_comes_198 : decode cX3_comes 198 = .ok (.dup, 1) := by decide +kernel
theorem dX3_comes_199 : decode cX3_comes 199 = .ok (.getfield 129, 3) := by decide +kernel
theorem dX3_comes_202 : decode cX3_comes 202 = .ok (.iconst 1, 1) := by decide +kernel
theorem dX3_comes_203 : decode cX3_comes 203 = .ok (.iadd, 1) := by decide +kernel
theorem dX3_comes_204 : decode cX3_comes 204 = .ok (.putfield 129, 3) := by decide +kernel
theorem dX3_comes_207 : decode cX3_comes 207 = .ok (.iconst 1, 1) := by decide +kernel
theorem dX3_comes_208 : decode cX3_comes 208 = .ok (.ireturn, 1) := by decide +kernel
theorem dX3_rows_0 : decode cX3_rows 0 = .ok (.aload_n 0, 1) := by decide +kernel
theorem dX3_rows_1 : decode cX3_rows 1 = .ok (.iconst 0, 1) := by decide +kernel
theorem dX3_rows_2 : decode cX3_rows 2 = .ok (.putfield 110, 3) := by decide +kernel
theorem dX3_rows_5 : decode cX3_rows 5 = .ok (.aload_n 0, 1) := by decide +kernel
theorem dX3_rows_6 : decode cX3_rows 6 = .ok (.iconst 0, 1) := by decide +kernel
theorem dX3_rows_7 : decode cX3_rows 7 = .ok (.putfield 126, 3) := by decide +kernel
theorem dX3_rows_10 : decode cX3_rows 10 = .ok (.aload_n 0, 1) := by decide +kernel
theorem dX3_rows_11 : decode cX3_rows 11 = .ok (.iconst 0, 1) := by decide +kernel
theorem dX3_rows_12 : decode cX3_rows 12 = .ok (.putfield 129, 3) := by decide +kernel
theorem dX3_rows_15 : decode cX3_rows 15 = .ok (.aload_n 0, 1) := by decide +kernel
theorem dX3_rows_16 : decode cX3_rows 16 = .ok (.iconst (-1), 1) := by decide +kernel
theorem dX3_rows_17 : decode cX3_rows 17 = .ok (.putfield 120, 3) := by decide +kernel
theorem dX3_rows_20 : decode cX3_rows 20 = .ok (.aload_n 0, 1) := by decide +kernel
theorem dX3_rows_21 : decode cX3_rows 21 = .ok (.iconst 0, 1) := by decide +kernel
theorem dX3_rows_22 : decode cX3_rows 22 = .ok (.putfield 123, 3) := by decide +kernel
theorem dX3_rows_25 : decode cX3_rows 25 = .ok (.iconst 0, 1) := by decide +kernel
theorem dX3_rows_26 : decode cX3_rows 26 = .ok (.istore_n 1, 1) := by decide +kernel
theorem dX3_rows_27 : decode cX3_rows 27 = .ok (.iload_n 1, 1) := by decide +kernel
theorem dX3_rows_28 : decode cX3_rows 28 = .ok (.bipush 64, 2) := by decide +kernel
theorem dX3_rows_30 : decode cX3_rows 30 = .ok (.if_icmp .ge 16, 3) := by decide +kernel
theorem dX3_rows_33 : decode cX3_rows 33 = .ok (.aload_n 0, 1) := by decide +kernel
theorem dX3_rows_34 : decode cX3_rows 34 = .ok (.getfield 57, 3) := by decide +kernel
theorem dX3_rows_37 : decode cX3_rows 37 = .ok (.iload_n 1, 1) := by decide +kernel
theorem dX3_rows_38 : decode cX3_rows 38 = .ok (.iconst 0, 1) := by decide +kernel
theorem dX3_rows_39 : decode cX3_rows 39 = .ok (.iastore, 1) := by decide +kernel
theorem dX3_rows_40 : decode cX3_rows 40 = .ok (.iinc 1 1, 3) := by decide +kernel
theorem dX3_rows_43 : decode cX3_rows 43 = .ok (.goto (-16), 3) := by decide +kernel
theorem dX3_rows_46 : decode cX3_rows 46 = .ok (.iconst 0, 1) := by decide +kernel
theorem dX3_rows_47 : decode cX3_rows 47 = .ok (.istore_n 1, 1) := by decide +kernel
theorem dX3_rows_48 : decode cX3_rows 48 = .ok (.iload_n 1, 1) := by decide +kernel
theorem dX3_rows_49 : decode cX3_rows 49 = .ok (.aload_n 0, 1) := by decide +kernel
theorem dX3_rows_50 : decode cX3_rows 50 = .ok (.getfield 76, 3) := by decide +kernel
theorem dX3_rows_53 : decode cX3_rows 53 = .ok (.if_icmp .ge 16, 3) := by decide +kernel
theorem dX3_rows_56 : decode cX3_rows 56 = .ok (.aload_n 0, 1) := by decide +kernel
theorem dX3_rows_57 : decode cX3_rows 57 = .ok (.getfield 51, 3) := by decide +kernel
theorem dX3_rows_60 : decode cX3_rows 60 = .ok (.iload_n 1, 1) := by decide +kernel
theorem dX3_rows_61 : decode cX3_rows 61 = .ok (.iconst (-1), 1) := by decide +kernel
theorem dX3_rows_62 : decode cX3_rows 62 = .ok (.iastore, 1) := by decide +kernel
theorem dX3_rows_63 : decode cX3_rows 63 = .ok (.iinc 1 1, 3) := by decide +kernel
theorem dX3_rows_66 : decode cX3_rows 66 = .ok (.goto (-18), 3) := by decide +kernel
theorem dX3_rows_69 : decode cX3_rows 69 = .ok (.aload_n 0, 1) := by decide +kernel
theorem dX3_rows_70 : decode cX3_rows 70 = .ok (.invokevirtual 132, 3) := by decide +kernel
theorem dX3_rows_73 : decode cX3_rows 73 = .ok (.iconst 0, 1) := by decide +kernel
theorem dX3_rows_74 : decode cX3_rows 74 = .ok (.istore_n 1, 1) := by decide +kernel
theorem dX3_rows_75 : decode cX3_rows 75 = .ok (.iload_n 1, 1) := by decide +kernel
theorem dX3_rows_76 : decode cX3_rows 76 = .ok (.aload_n 0, 1) := by decide +kernel
theorem dX3_rows_77 : decode cX3_rows 77 = .ok (.getfield 67, 3) := by decide +kernel
theorem dX3_rows_80 : decode cX3_rows 80 = .ok (.aload_n 0, 1) := by decide +kernel
theorem dX3_rows_81 : decode cX3_rows 81 = .ok (.getfield 70, 3) := by decide +kernel
theorem dX3_rows_84 : decode cX3_rows 84 = .ok (.imul, 1) := by decide +kernel
theorem dX3_rows_85 : decode cX3_rows 85 = .ok (.if_icmp .ge 39, 3) := by decide +kernel
theorem dX3_rows_88 : decode cX3_rows 88 = .ok (.aload_n 0, 1) := by decide +kernel
theorem dX3_rows_89 : decode cX3_rows 89 = .ok (.getfield 54, 3) := by decide +kernel
theorem dX3_rows_92 : decode cX3_rows 92 = .ok (.iload_n 1, 1) := by decide +kernel
theorem dX3_rows_93 : decode cX3_rows 93 = .ok (.aload_n 0, 1) := by decide +kernel
theorem dX3_rows_94 : decode cX3_rows 94 = .ok (.getfield 70, 3) := by decide +kernel
theorem dX3_rows_97 : decode cX3_rows 97 = .ok (.idiv, 1) := by decide +kernel
theorem dX3_rows_98 : decode cX3_rows 98 = .ok (.baload, 1) := by decide +kernel
theorem dX3_rows_99 : decode cX3_rows 99 = .ok (.ifCond .eq 19, 3) := by decide +kernel
theorem dX3_rows_102 : decode cX3_rows 102 = .ok (.aload_n 0, 1) := by decide +kernel
theorem dX3_rows_103 : decode cX3_rows 103 = .ok (.iload_n 1, 1) := by decide +kernel
theorem dX3_rows_104 : decode cX3_rows 104 = .ok (.invokevirtual 135, 3) := by decide +kernel
theorem dX3_rows_107 : decode cX3_rows 107 = .ok (.istore_n 2, 1) := by decide +kernel
theorem dX3_rows_108 : decode cX3_rows 108 = .ok (.iload_n 2, 1) := by decide +kernel
theorem dX3_rows_109 : decode cX3_rows 109 = .ok (.iconst (-1), 1) := by decide +kernel
theorem dX3_rows_110 : decode cX3_rows 110 = .ok (.if_icmp .eq 8, 3) := by decide +kernel
theorem dX3_rows_113 : decode cX3_rows 113 = .ok (.aload_n 0, 1) := by decide +kernel
theorem dX3_rows_114 : decode cX3_rows 114 = .ok (.iload_n 2, 1) := by decide +kernel
theorem dX3_rows_115 : decode cX3_rows 115 = .ok (.invokevirtual 116, 3) := by decide +kernel
theorem dX3_rows_118 : decode cX3_rows 118 = .ok (.iinc 1 1, 3) := by decide +kernel
theorem dX3_rows_121 : decode cX3_rows 121 = .ok (.goto (-46), 3) := by decide +kernel
theorem dX3_rows_124 : decode cX3_rows 124 = .ok (.iconst 0, 1) := by decide +kernel
theorem dX3_rows_125 : decode cX3_rows 125 = .ok (.istore_n 1, 1) := by decide +kernel
theorem dX3_rows_126 : decode cX3_rows 126 = .ok (.iload_n 1, 1) := by decide +kernel
theorem dX3_rows_127 : decode cX3_rows 127 = .ok (.bipush 32, 2) := by decide +kernel
theorem dX3_rows_129 : decode cX3_rows 129 = .ok (.if_icmp .ge 24, 3) := by decide +kernel
theorem dX3_rows_132 : decode cX3_rows 132 = .ok (.aload_n 0, 1) := by decide +kernel
theorem dX3_rows_133 : decode cX3_rows 133 = .ok (.aload_n 0, 1) := by decide +kernel
theorem dX3_rows_134 : decode cX3_rows 134 = .ok (.getfield 39, 3) := by decide +kernel
theorem dX3_rows_137 : decode cX3_rows 137 = .ok (.iload_n 1, 1) := by decide +kernel
theorem dX3_rows_138 : decode cX3_rows 138 = .ok (.iaload, 1) := by decide +kernel
theorem dX3_rows_139 : decode cX3_rows 139 = .ok (.invokevirtual 138, 3) := by decide +kernel
theorem dX3_rows_142 : decode cX3_rows 142 = .ok (.ifCond .ne 5, 3) := by decide +kernel
theorem dX3_rows_145 : decode cX3_rows 145 = .ok (.iconst 0, 1) := by decide +kernel
theorem dX3_rows_146 : decode cX3_rows 146 = .ok (.ireturn, 1) := by decide +kernel
theorem dX3_rows_147 : decode cX3_rows 147 = .ok (.iinc 1 1, 3) := by decide +kernel
theorem dX3_rows_150 : decode cX3_rows 150 = .ok (.goto (-24), 3) := by decide +kernel
theorem dX3_rows_153 : decode cX3_rows 153 = .ok (.iconst 0, 1) := by decide +kernel
theorem dX3_rows_154 : decode cX3_rows 154 = .ok (.istore_n 1, 1) := by decide +kernel
theorem dX3_rows_155 : decode cX3_rows 155 = .ok (.iload_n 1, 1) := by decide +kernel
theorem dX3_rows_156 : decode cX3_rows 156 = .ok (.aload_n 0, 1) := by decide +kernel
theorem dX3_rows_157 : decode cX3_rows 157 = .ok (.getfield 110, 3) := by decide +kernel
theorem dX3_rows_160 : decode cX3_rows 160 = .ok (.if_icmp .ge 59, 3) := by decide +kernel
theorem dX3_rows_163 : decode cX3_rows 163 = .ok (.iconst 0, 1) := by decide +kernel
theorem dX3_rows_164 : decode cX3_rows 164 = .ok (.istore_n 2, 1) := by decide +kernel
theorem dX3_rows_165 : decode cX3_rows 165 = .ok (.iload_n 2, 1) := by decide +kernel
theorem dX3_rows_166 : decode cX3_rows 166 = .ok (.aload_n 0, 1) := by decide +kernel
theorem dX3_rows_167 : decode cX3_rows 167 = .ok (.getfield 27, 3) := by decide +kernel
theorem dX3_rows_170 : decode cX3_rows 170 = .ok (.aload_n 0, 1) := by decide +kernel
theorem dX3_rows_171 : decode cX3_rows 171 = .ok (.getfield 48, 3) := by decide +kernel
theorem dX3_rows_174 : decode cX3_rows 174 = .ok (.iload_n 1, 1) := by decide +kernel
theorem dX3_rows_175 : decode cX3_rows 175 = .ok (.iaload, 1) := by decide +kernel
theorem dX3_rows_176 : decode cX3_rows 176 = .ok (.iaload, 1) := by decide +kernel
theorem dX3_rows_177 : decode cX3_rows 177 = .ok (.if_icmp .ge 36, 3) := by decide +kernel
theorem dX3_rows_180 : decode cX3_rows 180 = .ok (.aload_n 0, 1) := by decide +kernel
theorem dX3_rows_181 : decode cX3_rows 181 = .ok (.aload_n 0, 1) := by decide +kernel
theorem dX3_rows_182 : decode cX3_rows 182 = .ok (.getfield 36, 3) := by decide +kernel
theorem dX3_rows_185 : decode cX3_rows 185 = .ok (.aload_n 0, 1) := by decide +kernel
theorem dX3_rows_186 : decode cX3_rows 186 = .ok (.getfield 33, 3) := by decide +kernel
theorem dX3_rows_189 : decode cX3_rows 189 = .ok (.aload_n 0, 1) := by decide +kernel
theorem dX3_rows_190 : decode cX3_rows 190 = .ok (.getfield 48, 3) := by decide +kernel
theorem dX3_rows_193 : decode cX3_rows 193 = .ok (.iload_n 1, 1) := by decide +kernel
theorem dX3_rows_194 : decode cX3_rows 194 = .ok (.iaload, 1) := by decide +kernel
theorem dX3_rows_195 : decode cX3_rows 195 = .ok (.iaload, 1) := by decide +kernel
theorem dX3_rows_196 : decode cX3_rows 196 = .ok (.iload_n 2, 1) := by decide +kernel
theorem dX3_rows_197 : decode cX3_rows 197 = .ok (.iadd, 1) := by decide +kernel
theorem dX3_rows_198 : decode cX3_rows 198 = .ok (.iaload, 1) := by decide +kernel
theorem dX3_rows_199 : decode cX3_rows 199 = .ok (.invokevirtual 138, 3) := by decide +kernel
theorem dX3_rows_202 : decode cX3_rows 202 = .ok (.ifCond .ne 5, 3) := by decide +kernel
theorem dX3_rows_205 : decode cX3_rows 205 = .ok (.iconst 0, 1) := by decide +kernel
theorem dX3_rows_206 : decode cX3_rows 206 = .ok (.ireturn, 1) := by decide +kernel
theorem dX3_rows_207 : decode cX3_rows 207 = .ok (.iinc 2 1, 3) := by decide +kernel
theorem dX3_rows_210 : decode cX3_rows 210 = .ok (.goto (-45), 3) := by decide +kernel
theorem dX3_rows_213 : decode cX3_rows 213 = .ok (.iinc 1 1, 3) := by decide +kernel
theorem dX3_rows_216 : decode cX3_rows 216 = .ok (.goto (-61), 3) := by decide +kernel
theorem dX3_rows_219 : decode cX3_rows 219 = .ok (.iconst 1, 1) := by decide +kernel
theorem dX3_rows_220 : decode cX3_rows 220 = .ok (.ireturn, 1) := by decide +kernel
theorem dX3_collected_0 : decode cX3_collected 0 = .ok (.aload_n 0, 1) := by decide +kernel
theorem dX3_collected_1 : decode cX3_collected 1 = .ok (.invokevirtual 141, 3) := by decide +kernel
theorem dX3_collected_4 : decode cX3_collected 4 = .ok (.ifCond .ne 16, 3) := by decide +kernel
theorem dX3_collected_7 : decode cX3_collected 7 = .ok (.aload_n 0, 1) := by decide +kernel
theorem dX3_collected_8 : decode cX3_collected 8 = .ok (.getfield 45, 3) := by decide +kernel
theorem dX3_collected_11 : decode cX3_collected 11 = .ok (.bipush 7, 2) := by decide +kernel
theorem dX3_collected_13 : decode cX3_collected 13 = .ok (.dup2, 1) := by decide +kernel
theorem dX3_collected_14 : decode cX3_collected 14 = .ok (.iaload, 1) := by decide +kernel
theorem dX3_collected_15 : decode cX3_collected 15 = .ok (.iconst 1, 1) := by decide +kernel
theorem dX3_collected_16 : decode cX3_collected 16 = .ok (.iadd, 1) := by decide +kernel
theorem dX3_collected_17 : decode cX3_collected 17 = .ok (.iastore, 1) := by decide +kernel
theorem dX3_collected_18 : decode cX3_collected 18 = .ok (.iconst 0, 1) := by decide +kernel
theorem dX3_collected_19 : decode cX3_collected 19 = .ok (.ireturn, 1) := by decide +kernel
theorem dX3_collected_20 : decode cX3_collected 20 = .ok (.aload_n 0, 1) := by decide +kernel
theorem dX3_collected_21 : decode cX3_collected 21 = .ok (.getfield 45, 3) := by decide +kernel
theorem dX3_collected_24 : decode cX3_collected 24 = .ok (.bipush 6, 2) := by decide +kernel
theorem dX3_collected_26 : decode cX3_collected 26 = .ok (.dup2, 1) := by decide +kernel
theorem dX3_collected_27 : decode cX3_collected 27 = .ok (.iaload, 1) := by decide +kernel
theorem dX3_collected_28 : decode cX3_collected 28 = .ok (.iconst 1, 1) := by decide +kernel
theorem dX3_collected_29 : decode cX3_collected 29 = .ok (.iadd, 1) := by decide +kernel
theorem dX3_collected_30 : decode cX3_collected 30 = .ok (.iastore, 1) := by decide +kernel
theorem dX3_collected_31 : decode cX3_collected 31 = .ok (.aload_n 0, 1) := by decide +kernel
theorem dX3_collected_32 : decode cX3_collected 32 = .ok (.getfield 45, 3) := by decide +kernel
theorem dX3_collected_35 : decode cX3_collected 35 = .ok (.bipush 9, 2) := by decide +kernel
theorem dX3_collected_37 : decode cX3_collected 37 = .ok (.aload_n 0, 1) := by decide +kernel
theorem dX3_collected_38 : decode cX3_collected 38 = .ok (.getfield 110, 3) := by decide +kernel
theorem dX3_collected_41 : decode cX3_collected 41 = .ok (.iastore, 1) := by decide +kernel
theorem dX3_collected_42 : decode cX3_collected 42 = .ok (.aload_n 0, 1) := by decide +kernel
theorem dX3_collected_43 : decode cX3_collected 43 = .ok (.getfield 45, 3) := by decide +kernel
theorem dX3_collected_46 : decode cX3_collected 46 = .ok (.bipush 10, 2) := by decide +kernel
theorem dX3_collected_48 : decode cX3_collected 48 = .ok (.aload_n 0, 1) := by decide +kernel
theorem dX3_collected_49 : decode cX3_collected 49 = .ok (.getfield 129, 3) := by decide +kernel
theorem dX3_collected_52 : decode cX3_collected 52 = .ok (.iastore, 1) := by decide +kernel
theorem dX3_collected_53 : decode cX3_collected 53 = .ok (.aload_n 0, 1) := by decide +kernel
theorem dX3_collected_54 : decode cX3_collected 54 = .ok (.getfield 45, 3) := by decide +kernel
theorem dX3_collected_57 : decode cX3_collected 57 = .ok (.bipush 11, 2) := by decide +kernel
theorem dX3_collected_59 : decode cX3_collected 59 = .ok (.aload_n 0, 1) := by decide +kernel
theorem dX3_collected_60 : decode cX3_collected 60 = .ok (.getfield 126, 3) := by decide +kernel
theorem dX3_collected_63 : decode cX3_collected 63 = .ok (.iastore, 1) := by decide +kernel
theorem dX3_collected_64 : decode cX3_collected 64 = .ok (.aload_n 0, 1) := by decide +kernel
theorem dX3_collected_65 : decode cX3_collected 65 = .ok (.getfield 45, 3) := by decide +kernel
theorem dX3_collected_68 : decode cX3_collected 68 = .ok (.bipush 8, 2) := by decide +kernel
theorem dX3_collected_70 : decode cX3_collected 70 = .ok (.iconst 0, 1) := by decide +kernel
theorem dX3_collected_71 : decode cX3_collected 71 = .ok (.iastore, 1) := by decide +kernel
theorem dX3_collected_72 : decode cX3_collected 72 = .ok (.iconst 0, 1) := by decide +kernel
theorem dX3_collected_73 : decode cX3_collected 73 = .ok (.istore_n 1, 1) := by decide +kernel
theorem dX3_collected_74 : decode cX3_collected 74 = .ok (.iload_n 1, 1) := by decide +kernel
theorem dX3_collected_75 : decode cX3_collected 75 = .ok (.aload_n 0, 1) := by decide +kernel
theorem dX3_collected_76 : decode cX3_collected 76 = .ok (.getfield 67, 3) := by decide +kernel
theorem dX3_collected_79 : decode cX3_collected 79 = .ok (.if_icmp .ge 45, 3) := by decide +kernel
theorem dX3_collected_82 : decode cX3_collected 82 = .ok (.aload_n 0, 1) := by decide +kernel
theorem dX3_collected_83 : decode cX3_collected 83 = .ok (.getfield 20, 3) := by decide +kernel
theorem dX3_collected_86 : decode cX3_collected 86 = .ok (.iload_n 1, 1) := by decide +kernel
theorem dX3_collected_87 : decode cX3_collected 87 = .ok (.aload_n 0, 1) := by decide +kernel
theorem dX3_collected_88 : decode cX3_collected 88 = .ok (.getfield 54, 3) := by decide +kernel
theorem dX3_collected_91 : decode cX3_collected 91 = .ok (.iload_n 1, 1) := by decide +kernel
theorem dX3_collected_92 : decode cX3_collected 92 = .ok (.baload, 1) := by decide +kernel
theorem dX3_collected_93 : decode cX3_collected 93 = .ok (.bastore, 1) := by decide +kernel
theorem dX3_collected_94 : decode cX3_collected 94 = .ok (.aload_n 0, 1) := by decide +kernel
theorem dX3_collected_95 : decode cX3_collected 95 = .ok (.getfield 45, 3) := by decide +kernel
theorem dX3_collected_98 : decode cX3_collected 98 = .ok (.bipush 8, 2) := by decide +kernel
theorem dX3_collected_100 : decode cX3_collected 100 = .ok (.dup2, 1) := by decide +kernel
theorem dX3_collected_101 : decode cX3_collected 101 = .ok (.iaload, 1) := by decide +kernel
theorem dX3_collected_102 : decode cX3_collected 102 = .ok (.aload_n 0, 1) := by decide +kernel
theorem dX3_collected_103 : decode cX3_collected 103 = .ok (.getfield 54, 3) := by decide +kernel
theorem dX3_collected_106 : decode cX3_collected 106 = .ok (.iload_n 1, 1) := by decide +kernel
theorem dX3_collected_107 : decode cX3_collected 107 = .ok (.baload, 1) := by decide +kernel
theorem dX3_collected_108 : decode cX3_collected 108 = .ok (.ifCond .eq 7, 3) := by decide +kernel
theorem dX3_collected_111 : decode cX3_collected 111 = .ok (.iconst 1, 1) := by decide +kernel
theorem dX3_collected_112 : decode cX3_collected 112 = .ok (.goto 4, 3) := by decide +kernel
theorem dX3_collected_115 : decode cX3_collected 115 = .ok (.iconst 0, 1) := by decide +kernel
theorem dX3_collected_116 : decode cX3_collected 116 = .ok (.iadd, 1) := by decide +kernel
theorem dX3_collected_117 : decode cX3_collected 117 = .ok (.iastore, 1) := by decide +kernel
theorem dX3_collected_118 : decode cX3_collected 118 = .ok (.iinc 1 1, 3) := by decide +kernel
theorem dX3_collected_121 : decode cX3_collected 121 = .ok (.goto (-47), 3) := by decide +kernel
theorem dX3_collected_124 : decode cX3_collected 124 = .ok (.iconst 0, 1) := by decide +kernel
theorem dX3_collected_125 : decode cX3_collected 125 = .ok (.istore_n 1, 1) := by decide +kernel
theorem dX3_collected_126 : decode cX3_collected 126 = .ok (.iload_n 1, 1) := by decide +kernel
theorem dX3_collected_127 : decode cX3_collected 127 = .ok (.aload_n 0, 1) := by decide +kernel
theorem dX3_collected_128 : decode cX3_collected 128 = .ok (.getfield 110, 3) := by decide +kernel
theorem dX3_collected_131 : decode cX3_collected 131 = .ok (.if_icmp .ge 77, 3) := by decide +kernel
theorem dX3_collected_134 : decode cX3_collected 134 = .ok (.aload_n 0, 1) := by decide +kernel
theorem dX3_collected_135 : decode cX3_collected 135 = .ok (.getfield 24, 3) := by decide +kernel
theorem dX3_collected_138 : decode cX3_collected 138 = .ok (.aload_n 0, 1) := by decide +kernel
theorem dX3_collected_139 : decode cX3_collected 139 = .ok (.getfield 48, 3) := by decide +kernel
theorem dX3_collected_142 : decode cX3_collected 142 = .ok (.iload_n 1, 1) := by decide +kernel
theorem dX3_collected_143 : decode cX3_collected 143 = .ok (.iaload, 1) := by decide +kernel
theorem dX3_collected_144 : decode cX3_collected 144 = .ok (.iaload, 1) := by decide +kernel
theorem dX3_collected_145 : decode cX3_collected 145 = .ok (.aload_n 0, 1) := by decide +kernel
theorem dX3_collected_146 : decode cX3_collected 146 = .ok (.getfield 70, 3) := by decide +kernel
theorem dX3_collected_149 : decode cX3_collected 149 = .ok (.idiv, 1) := by decide +kernel
theorem dX3_collected_150 : decode cX3_collected 150 = .ok (.istore_n 2, 1) := by decide +kernel
theorem dX3_collected_151 : decode cX3_collected 151 = .ok (.iload_n 2, 1) := by decide +kernel
theorem dX3_collected_152 : decode cX3_collected 152 = .ok (.istore_n 3, 1) := by decide +kernel
theorem dX3_collected_153 : decode cX3_collected 153 = .ok (.iload_n 3, 1) := by decide +kernel
theorem dX3_collected_154 : decode cX3_collected 154 = .ok (.aload_n 0, 1) := by decide +kernel
theorem dX3_collected_155 : decode cX3_collected 155 = .ok (.getfield 67, 3) := by decide +kernel
theorem dX3_collected_158 : decode cX3_collected 158 = .ok (.if_icmp .ge 44, 3) := by decide +kernel
theorem dX3_collected_161 : decode cX3_collected 161 = .ok (.aload_n 0, 1) := by decide +kernel
theorem dX3_collected_162 : decode cX3_collected 162 = .ok (.aload_n 0, 1) := by decide +kernel
theorem dX3_collected_163 : decode cX3_collected 163 = .ok (.getfield 48, 3) := by decide +kernel
theorem dX3_collected_166 : decode cX3_collected 166 = .ok (.iload_n 1, 1) := by decide +kernel
theorem dX3_collected_167 : decode cX3_collected 167 = .ok (.iaload, 1) := by decide +kernel
theorem dX3_collected_168 : decode cX3_collected 168 = .ok (.invokevirtual 113, 3) := by decide +kernel
theorem dX3_collected_171 : decode cX3_collected 171 = .ok (.ifCond .eq 31, 3) := by decide +kernel
theorem dX3_collected_174 : decode cX3_collected 174 = .ok (.iload_n 3, 1) := by decide +kernel
theorem dX3_collected_175 : decode cX3_collected 175 = .ok (.iload_n 2, 1) := by decide +kernel
theorem dX3_collected_176 : decode cX3_collected 176 = .ok (.if_icmp .eq 13, 3) := by decide +kernel
theorem dX3_collected_179 : decode cX3_collected 179 = .ok (.aload_n 0, 1) := by decide +kernel
theorem dX3_collected_180 : decode cX3_collected 180 = .ok (.getfield 13, 3) := by decide +kernel
theorem dX3_collected_183 : decode cX3_collected 183 = .ok (.iload_n 3, 1) := by decide +kernel
theorem dX3_collected_184 : decode cX3_collected 184 = .ok (.iaload, 1) := by decide +kernel
theorem dX3_collected_185 : decode cX3_collected 185 = .ok (.iconst 3, 1) := by decide +kernel
theorem dX3_collected_186 : decode cX3_collected 186 = .ok (.if_icmp .ne 16, 3) := by decide +kernel
theorem dX3_collected_189 : decode cX3_collected 189 = .ok (.aload_n 0, 1) := by decide +kernel
theorem dX3_collected_190 : decode cX3_collected 190 = .ok (.getfield 54, 3) := by decide +kernel
theorem dX3_collected_193 : decode cX3_collected 193 = .ok (.iload_n 3, 1) := by decide +kernel
theorem dX3_collected_194 : decode cX3_collected 194 = .ok (.iconst 1, 1) := by decide +kernel
theorem dX3_collected_195 : decode cX3_collected 195 = .ok (.bastore, 1) := by decide +kernel
theorem dX3_collected_196 : decode cX3_collected 196 = .ok (.iinc 3 1, 3) := by decide +kernel
theorem dX3_collected_199 : decode cX3_collected 199 = .ok (.goto (-46), 3) := by decide +kernel
theorem dX3_collected_202 : decode cX3_collected 202 = .ok (.iinc 1 1, 3) := by decide +kernel
theorem dX3_collected_205 : decode cX3_collected 205 = .ok (.goto (-79), 3) := by decide +kernel
theorem dX3_collected_208 : decode cX3_collected 208 = .ok (.aload_n 0, 1) := by decide +kernel
theorem dX3_collected_209 : decode cX3_collected 209 = .ok (.getfield 45, 3) := by decide +kernel
theorem dX3_collected_212 : decode cX3_collected 212 = .ok (.bipush 12, 2) := by decide +kernel
theorem dX3_collected_214 : decode cX3_collected 214 = .ok (.iconst 0, 1) := by decide +kernel
theorem dX3_collected_215 : decode cX3_collected 215 = .ok (.iastore, 1) := by decide +kernel
theorem dX3_collected_216 : decode cX3_collected 216 = .ok (.iconst 0, 1) := by decide +kernel
theorem dX3_collected_217 : decode cX3_collected 217 = .ok (.istore_n 1, 1) := by decide +kernel
theorem dX3_collected_218 : decode cX3_collected 218 = .ok (.iload_n 1, 1) := by decide +kernel
theorem dX3_collected_219 : decode cX3_collected 219 = .ok (.aload_n 0, 1) := by decide +kernel
theorem dX3_collected_220 : decode cX3_collected 220 = .ok (.getfield 67, 3) := by decide +kernel
theorem dX3_collected_223 : decode cX3_collected 223 = .ok (.if_icmp .ge 85, 3) := by decide +kernel
theorem dX3_collected_226 : decode cX3_collected 226 = .ok (.aload_n 0, 1) := by decide +kernel
theorem dX3_collected_227 : decode cX3_collected 227 = .ok (.getfield 57, 3) := by decide +kernel
theorem dX3_collected_230 : decode cX3_collected 230 = .ok (.iload_n 1, 1) := by decide +kernel
theorem dX3_collected_231 : decode cX3_collected 231 = .ok (.iaload, 1) := by decide +kernel
theorem dX3_collected_232 : decode cX3_collected 232 = .ok (.ifCond .le 27, 3) := by decide +kernel
theorem dX3_collected_235 : decode cX3_collected 235 = .ok (.aload_n 0, 1) := by decide +kernel
theorem dX3_collected_236 : decode cX3_collected 236 = .ok (.getfield 13, 3) := by decide +kernel
theorem dX3_collected_239 : decode cX3_collected 239 = .ok (.iload_n 1, 1) := by decide +kernel
theorem dX3_collected_240 : decode cX3_collected 240 = .ok (.iconst 1, 1) := by decide +kernel
theorem dX3_collected_241 : decode cX3_collected 241 = .ok (.iastore, 1) := by decide +kernel
theorem dX3_collected_242 : decode cX3_collected 242 = .ok (.aload_n 0, 1) := by decide +kernel
theorem dX3_collected_243 : decode cX3_collected 243 = .ok (.getfield 17, 3) := by decide +kernel
theorem dX3_collected_246 : decode cX3_collected 246 = .ok (.iload_n 1, 1) := by decide +kernel
theorem dX3_collected_247 : decode cX3_collected 247 = .ok (.aload_n 0, 1) := by decide +kernel
theorem dX3_collected_248 : decode cX3_collected 248 = .ok (.getfield 57, 3) := by decide +kernel
theorem dX3_collected_251 : decode cX3_collected 251 = .ok (.iload_n 1, 1) := by decide +kernel
theorem dX3_collected_252 : decode cX3_collected 252 = .ok (.iaload, 1) := by decide +kernel
theorem dX3_collected_253 : decode cX3_collected 253 = .ok (.iconst 1, 1) := by decide +kernel
theorem dX3_collected_254 : decode cX3_collected 254 = .ok (.isub, 1) := by decide +kernel
theorem dX3_collected_255 : decode cX3_collected 255 = .ok (.iastore, 1) := by decide +kernel
theorem dX3_collected_256 : decode cX3_collected 256 = .ok (.goto 46, 3) := by decide +kernel
theorem dX3_collected_259 : decode cX3_collected 259 = .ok (.aload_n 0, 1) := by decide +kernel
theorem dX3_collected_260 : decode cX3_collected 260 = .ok (.getfield 13, 3) := by decide +kernel
theorem dX3_collected_263 : decode cX3_collected 263 = .ok (.iload_n 1, 1) := by decide +kernel
theorem dX3_collected_264 : decode cX3_collected 264 = .ok (.iaload, 1) := by decide +kernel
theorem dX3_collected_265 : decode cX3_collected 265 = .ok (.ifCond .eq 37, 3) := by decide +kernel
theorem dX3_collected_268 : decode cX3_collected 268 = .ok (.aload_n 0, 1) := by decide +kernel
theorem dX3_collected_269 : decode cX3_collected 269 = .ok (.getfield 54, 3) := by decide +kernel
theorem dX3_collected_272 : decode cX3_collected 272 = .ok (.iload_n 1, 1) := by decide +kernel
theorem dX3_collected_273 : decode cX3_collected 273 = .ok (.baload, 1) := by decide +kernel
theorem dX3_collected_274 : decode cX3_collected 274 = .ok (.ifCond .ne 28, 3) := by decide +kernel
theorem dX3_collected_277 : decode cX3_collected 277 = .ok (.aload_n 0, 1) := by decide +kernel
theorem dX3_collected_278 : decode cX3_collected 278 = .ok (.getfield 13, 3) := by decide +kernel
theorem dX3_collected_281 : decode cX3_collected 281 = .ok (.iload_n 1, 1) := by decide +kernel
theorem dX3_collected_282 : decode cX3_collected 282 = .ok (.iconst 0, 1) := by decide +kernel
theorem dX3_collected_283 : decode cX3_collected 283 = .ok (.iastore, 1) := by decide +kernel
theorem dX3_collected_284 : decode cX3_collected 284 = .ok (.aload_n 0, 1) := by decide +kernel
theorem dX3_collected_285 : decode cX3_collected 285 = .ok (.getfield 17, 3) := by decide +kernel
theorem dX3_collected_288 : decode cX3_collected 288 = .ok (.iload_n 1, 1) := by decide +kernel
theorem dX3_collected_289 : decode cX3_collected 289 = .ok (.iconst 0, 1) := by decide +kernel
theorem dX3_collected_290 : decode cX3_collected 290 = .ok (.iastore, 1) := by decide +kernel
theorem dX3_collected_291 : decode cX3_collected 291 = .ok (.aload_n 0, 1) := by decide +kernel
theorem dX3_collected_292 : decode cX3_collected 292 = .ok (.getfield 45, 3) := by decide +kernel
theorem dX3_collected_295 : decode cX3_collected 295 = .ok (.bipush 12, 2) := by decide +kernel
theorem dX3_collected_297 : decode cX3_collected 297 = .ok (.dup2, 1) := by decide +kernel
theorem dX3_collected_298 : decode cX3_collected 298 = .ok (.iaload, 1) := by decide +kernel
theorem dX3_collected_299 : decode cX3_collected 299 = .ok (.iconst 1, 1) := by decide +kernel
theorem dX3_collected_300 : decode cX3_collected 300 = .ok (.iadd, 1) := by decide +kernel
theorem dX3_collected_301 : decode cX3_collected 301 = .ok (.iastore, 1) := by decide +kernel
theorem dX3_collected_302 : decode cX3_collected 302 = .ok (.iinc 1 1, 3) := by decide +kernel
theorem dX3_collected_305 : decode cX3_collected 305 = .ok (.goto (-87), 3) := by decide +kernel
theorem dX3_collected_308 : decode cX3_collected 308 = .ok (.aload_n 0, 1) := by decide +kernel
theorem dX3_collected_309 : decode cX3_collected 309 = .ok (.aload_n 0, 1) := by decide +kernel
theorem dX3_collected_310 : decode cX3_collected 310 = .ok (.getfield 120, 3) := by decide +kernel
theorem dX3_collected_313 : decode cX3_collected 313 = .ok (.putfield 73, 3) := by decide +kernel
theorem dX3_collected_316 : decode cX3_collected 316 = .ok (.aload_n 0, 1) := by decide +kernel
theorem dX3_collected_317 : decode cX3_collected 317 = .ok (.invokevirtual 144, 3) := by decide +kernel
theorem dX3_collected_320 : decode cX3_collected 320 = .ok (.iconst 1, 1) := by decide +kernel
theorem dX3_collected_321 : decode cX3_collected 321 = .ok (.ireturn, 1) := by decide +kernel
theorem dX3_goes_0 : decode cX3_goes 0 = .ok (.iconst 0, 1) := by decide +kernel
theorem dX3_goes_1 : decode cX3_goes 1 = .ok (.istore_n 1, 1) := by decide +kernel
theorem dX3_goes_2 : decode cX3_goes 2 = .ok (.iconst 0, 1) := by decide +kernel
theorem dX3_goes_3 : decode cX3_goes 3 = .ok (.istore_n 2, 1) := by decide +kernel
theorem dX3_goes_4 : decode cX3_goes 4 = .ok (.iload_n 2, 1) := by decide +kernel
theorem dX3_goes_5 : decode cX3_goes 5 = .ok (.aload_n 0, 1) := by decide +kernel
theorem dX3_goes_6 : decode cX3_goes 6 = .ok (.getfield 76, 3) := by decide +kernel
theorem dX3_goes_9 : decode cX3_goes 9 = .ok (.if_icmp .ge 48, 3) := by decide +kernel
theorem dX3_goes_12 : decode cX3_goes 12 = .ok (.aload_n 0, 1) := by decide +kernel
theorem dX3_goes_13 : decode cX3_goes 13 = .ok (.getfield 60, 3) := by decide +kernel
theorem dX3_goes_16 : decode cX3_goes 16 = .ok (.iload_n 2, 1) := by decide +kernel
theorem dX3_goes_17 : decode cX3_goes 17 = .ok (.aload_n 0, 1) := by decide +kernel
theorem dX3_goes_18 : decode cX3_goes 18 = .ok (.getfield 51, 3) := by decide +kernel
theorem dX3_goes_21 : decode cX3_goes 21 = .ok (.iload_n 2, 1) := by decide +kernel
theorem dX3_goes_22 : decode cX3_goes 22 = .ok (.iaload, 1) := by decide +kernel
theorem dX3_goes_23 : decode cX3_goes 23 = .ok (.iconst (-1), 1) := by decide +kernel
theorem dX3_goes_24 : decode cX3_goes 24 = .ok (.if_icmp .ne 7, 3) := by decide +kernel
theorem dX3_goes_27 : decode cX3_goes 27 = .ok (.iconst (-1), 1) := by decide +kernel
theorem dX3_goes_28 : decode cX3_goes 28 = .ok (.goto 4, 3) := by decide +kernel
theorem dX3_goes_31 : decode cX3_goes 31 = .ok (.iload_n 1, 1) := by decide +kernel
theorem dX3_goes_32 : decode cX3_goes 32 = .ok (.iastore, 1) := by decide +kernel
theorem dX3_goes_33 : decode cX3_goes 33 = .ok (.iload_n 1, 1) := by decide +kernel
theorem dX3_goes_34 : decode cX3_goes 34 = .ok (.aload_n 0, 1) := by decide +kernel
theorem dX3_goes_35 : decode cX3_goes 35 = .ok (.getfield 51, 3) := by decide +kernel
theorem dX3_goes_38 : decode cX3_goes 38 = .ok (.iload_n 2, 1) := by decide +kernel
theorem dX3_goes_39 : decode cX3_goes 39 = .ok (.iaload, 1) := by decide +kernel
theorem dX3_goes_40 : decode cX3_goes 40 = .ok (.iconst (-1), 1) := by decide +kernel
theorem dX3_goes_41 : decode cX3_goes 41 = .ok (.if_icmp .ne 7, 3) := by decide +kernel
theorem dX3_goes_44 : decode cX3_goes 44 = .ok (.iconst 0, 1) := by decide +kernel
theorem dX3_goes_45 : decode cX3_goes 45 = .ok (.goto 4, 3) := by decide +kernel
theorem dX3_goes_48 : decode cX3_goes 48 = .ok (.iconst 1, 1) := by decide +kernel
theorem dX3_goes_49 : decode cX3_goes 49 = .ok (.iadd, 1) := by decide +kernel
theorem dX3_goes_50 : decode cX3_goes 50 = .ok (.istore_n 1, 1) := by decide +kernel
theorem dX3_goes_51 : decode cX3_goes 51 = .ok (.iinc 2 1, 3) := by decide +kernel
theorem dX3_goes_54 : decode cX3_goes 54 = .ok (.goto (-50), 3) := by decide +kernel
theorem dX3_goes_57 : decode cX3_goes 57 = .ok (.iconst 0, 1) := by decide +kernel
theorem dX3_goes_58 : decode cX3_goes 58 = .ok (.istore_n 2, 1) := by decide +kernel
theorem dX3_goes_59 : decode cX3_goes 59 = .ok (.iload_n 2, 1) := by decide +kernel
theorem dX3_goes_60 : decode cX3_goes 60 = .ok (.bipush 32, 2) := by decide +kernel
theorem dX3_goes_62 : decode cX3_goes 62 = .ok (.if_icmp .ge 40, 3) := by decide +kernel
theorem dX3_goes_65 : decode cX3_goes 65 = .ok (.aload_n 0, 1) := by decide +kernel
theorem dX3_goes_66 : decode cX3_goes 66 = .ok (.getfield 39, 3) := by decide +kernel
theorem dX3_goes_69 : decode cX3_goes 69 = .ok (.iload_n 2, 1) := by decide +kernel
theorem dX3_goes_70 : decode cX3_goes 70 = .ok (.aload_n 0, 1) := by decide +kernel
theorem dX3_goes_71 : decode cX3_goes 71 = .ok (.getfield 39, 3) := by decide +kernel
theorem dX3_goes_74 : decode cX3_goes 74 = .ok (.iload_n 2, 1) := by decide +kernel
theorem dX3_goes_75 : decode cX3_goes 75 = .ok (.iaload, 1) := by decide +kernel
theorem dX3_goes_76 : decode cX3_goes 76 = .ok (.iconst (-1), 1) := by decide +kernel
theorem dX3_goes_77 : decode cX3_goes 77 = .ok (.if_icmp .ne 7, 3) := by decide +kernel
theorem dX3_goes_80 : decode cX3_goes 80 = .ok (.iconst (-1), 1) := by decide +kernel
theorem dX3_goes_81 : decode cX3_goes 81 = .ok (.goto 14, 3) := by decide +kernel
theorem dX3_goes_84 : decode cX3_goes 84 = .ok (.aload_n 0, 1) := by decide +kernel
theorem dX3_goes_85 : decode cX3_goes 85 = .ok (.getfield 60, 3) := by decide +kernel
theorem dX3_goes_88 : decode cX3_goes 88 = .ok (.aload_n 0, 1) := by decide +kernel
theorem dX3_goes_89 : decode cX3_goes 89 = .ok (.getfield 39, 3) := by decide +kernel
theorem dX3_goes_92 : decode cX3_goes 92 = .ok (.iload_n 2, 1) := by decide +kernel
theorem dX3_goes_93 : decode cX3_goes 93 = .ok (.iaload, 1) := by decide +kernel
theorem dX3_goes_94 : decode cX3_goes 94 = .ok (.iaload, 1) := by decide +kernel
theorem dX3_goes_95 : decode cX3_goes 95 = .ok (.iastore, 1) := by decide +kernel
theorem dX3_goes_96 : decode cX3_goes 96 = .ok (.iinc 2 1, 3) := by decide +kernel
theorem dX3_goes_99 : decode cX3_goes 99 = .ok (.goto (-40), 3) := by decide +kernel
theorem dX3_goes_102 : decode cX3_goes 102 = .ok (.iconst 0, 1) := by decide +kernel
theorem dX3_goes_103 : decode cX3_goes 103 = .ok (.istore_n 2, 1) := by decide +kernel
theorem dX3_goes_104 : decode cX3_goes 104 = .ok (.iconst 0, 1) := by decide +kernel
theorem dX3_goes_105 : decode cX3_goes 105 = .ok (.istore_n 3, 1) := by decide +kernel
theorem dX3_goes_106 : decode cX3_goes 106 = .ok (.iload_n 3, 1) := by decide +kernel
theorem dX3_goes_107 : decode cX3_goes 107 = .ok (.aload_n 0, 1) := by decide +kernel
theorem dX3_goes_108 : decode cX3_goes 108 = .ok (.getfield 76, 3) := by decide +kernel
theorem dX3_goes_111 : decode cX3_goes 111 = .ok (.if_icmp .ge 161, 3) := by decide +kernel
theorem dX3_goes_114 : decode cX3_goes 114 = .ok (.aload_n 0, 1) := by decide +kernel
theorem dX3_goes_115 : decode cX3_goes 115 = .ok (.getfield 60, 3) := by decide +kernel
theorem dX3_goes_118 : decode cX3_goes 118 = .ok (.iload_n 3, 1) := by decide +kernel
theorem dX3_goes_119 : decode cX3_goes 119 = .ok (.iaload, 1) := by decide +kernel
theorem dX3_goes_120 : decode cX3_goes 120 = .ok (.istore 4, 2) := by decide +kernel
theorem dX3_goes_122 : decode cX3_goes 122 = .ok (.iload 4, 2) := by decide +kernel
theorem dX3_goes_124 : decode cX3_goes 124 = .ok (.iconst (-1), 1) := by decide +kernel
theorem dX3_goes_125 : decode cX3_goes 125 = .ok (.if_icmp .ne 6, 3) := by decide +kernel
theorem dX3_goes_128 : decode cX3_goes 128 = .ok (.goto 138, 3) := by decide +kernel
theorem dX3_goes_131 : decode cX3_goes 131 = .ok (.aload_n 0, 1) := by decide +kernel
theorem dX3_goes_132 : decode cX3_goes 132 = .ok (.getfield 33, 3) := by decide +kernel
theorem dX3_goes_135 : decode cX3_goes 135 = .ok (.iload_n 3, 1) := by decide +kernel
theorem dX3_goes_136 : decode cX3_goes 136 = .ok (.iaload, 1) := by decide +kernel
theorem dX3_goes_137 : decode cX3_goes 137 = .ok (.istore 5, 2) := by decide +kernel
theorem dX3_goes_139 : decode cX3_goes 139 = .ok (.aload_n 0, 1) := by decide +kernel
theorem dX3_goes_140 : decode cX3_goes 140 = .ok (.getfield 27, 3) := by decide +kernel
theorem dX3_goes_143 : decode cX3_goes 143 = .ok (.iload_n 3, 1) := by decide +kernel
theorem dX3_goes_144 : decode cX3_goes 144 = .ok (.iaload, 1) := by decide +kernel
theorem dX3_goes_145 : decode cX3_goes 145 = .ok (.aload_n 0, 1) := by decide +kernel
theorem dX3_goes_146 : decode cX3_goes 146 = .ok (.getfield 30, 3) := by decide +kernel
theorem dX3_goes_149 : decode cX3_goes 149 = .ok (.iload_n 3, 1) := by decide +kernel
theorem dX3_goes_150 : decode cX3_goes 150 = .ok (.iaload, 1) := by decide +kernel
theorem dX3_goes_151 : decode cX3_goes 151 = .ok (.iadd, 1) := by decide +kernel
theorem dX3_goes_152 : decode cX3_goes 152 = .ok (.istore 6, 2) := by decide +kernel
theorem dX3_goes_154 : decode cX3_goes 154 = .ok (.aload_n 0, 1) := by decide +kernel
theorem dX3_goes_155 : decode cX3_goes 155 = .ok (.getfield 27, 3) := by decide +kernel
theorem dX3_goes_158 : decode cX3_goes 158 = .ok (.iload_n 3, 1) := by decide +kernel
theorem dX3_goes_159 : decode cX3_goes 159 = .ok (.iaload, 1) := by decide +kernel
theorem dX3_goes_160 : decode cX3_goes 160 = .ok (.istore 7, 2) := by decide +kernel
theorem dX3_goes_162 : decode cX3_goes 162 = .ok (.aload_n 0, 1) := by decide +kernel
theorem dX3_goes_163 : decode cX3_goes 163 = .ok (.getfield 24, 3) := by decide +kernel
theorem dX3_goes_166 : decode cX3_goes 166 = .ok (.iload 4, 2) := by decide +kernel
theorem dX3_goes_168 : decode cX3_goes 168 = .ok (.aload_n 0, 1) := by decide +kernel
theorem dX3_goes_169 : decode cX3_goes 169 = .ok (.getfield 51, 3) := by decide +kernel
theorem dX3_goes_172 : decode cX3_goes 172 = .ok (.iload_n 3, 1) := by decide +kernel
theorem dX3_goes_173 : decode cX3_goes 173 = .ok (.iaload, 1) := by decide +kernel
theorem dX3_goes_174 : decode cX3_goes 174 = .ok (.iastore, 1) := by decide +kernel
theorem dX3_goes_175 : decode cX3_goes 175 = .ok (.aload_n 0, 1) := by decide +kernel
theorem dX3_goes_176 : decode cX3_goes 176 = .ok (.getfield 27, 3) := by decide +kernel
theorem dX3_goes_179 : decode cX3_goes 179 = .ok (.iload 4, 2) := by decide +kernel
theorem dX3_goes_181 : decode cX3_goes 181 = .ok (.iload 7, 2) := by decide +kernel
theorem dX3_goes_183 : decode cX3_goes 183 = .ok (.iastore, 1) := by decide +kernel
theorem dX3_goes_184 : decode cX3_goes 184 = .ok (.aload_n 0, 1) := by decide +kernel
theorem dX3_goes_185 : decode cX3_goes 185 = .ok (.getfield 30, 3) := by decide +kernel
theorem dX3_goes_188 : decode cX3_goes 188 = .ok (.iload 4, 2) := by decide +kernel
theorem dX3_goes_190 : decode cX3_goes 190 = .ok (.iload 6, 2) := by decide +kernel
theorem dX3_goes_192 : decode cX3_goes 192 = .ok (.iload 7, 2) := by decide +kernel
theorem dX3_goes_194 : decode cX3_goes 194 = .ok (.isub, 1) := by decide +kernel
theorem dX3_goes_195 : decode cX3_goes 195 = .ok (.iastore, 1) := by decide +kernel
theorem dX3_goes_196 : decode cX3_goes 196 = .ok (.aload_n 0, 1) := by decide +kernel
theorem dX3_goes_197 : decode cX3_goes 197 = .ok (.getfield 33, 3) := by decide +kernel
theorem dX3_goes_200 : decode cX3_goes 200 = .ok (.iload 4, 2) := by decide +kernel
theorem dX3_goes_202 : decode cX3_goes 202 = .ok (.iload_n 2, 1) := by decide +kernel
theorem dX3_goes_203 : decode cX3_goes 203 = .ok (.iastore, 1) := by decide +kernel
theorem dX3_goes_204 : decode cX3_goes 204 = .ok (.iconst 0, 1) := by decide +kernel
theorem dX3_goes_205 : decode cX3_goes 205 = .ok (.istore 8, 2) := by decide +kernel
theorem dX3_goes_207 : decode cX3_goes 207 = .ok (.iload 8, 2) := by decide +kernel
theorem dX3_goes_209 : decode cX3_goes 209 = .ok (.iload 6, 2) := by decide +kernel
theorem dX3_goes_211 : decode cX3_goes 211 = .ok (.if_icmp .ge 55, 3) := by decide +kernel
theorem dX3_goes_214 : decode cX3_goes 214 = .ok (.aload_n 0, 1) := by decide +kernel
theorem dX3_goes_215 : decode cX3_goes 215 = .ok (.getfield 36, 3) := by decide +kernel
theorem dX3_goes_218 : decode cX3_goes 218 = .ok (.iload 5, 2) := by decide +kernel
theorem dX3_goes_220 : decode cX3_goes 220 = .ok (.iload 8, 2) := by decide +kernel
theorem dX3_goes_222 : decode cX3_goes 222 = .ok (.iadd, 1) := by decide +kernel
theorem dX3_goes_223 : decode cX3_goes 223 = .ok (.iaload, 1) := by decide +kernel
theorem dX3_goes_224 : decode cX3_goes 224 = .ok (.istore 9, 2) := by decide +kernel
theorem dX3_goes_226 : decode cX3_goes 226 = .ok (.aload_n 0, 1) := by decide +kernel
theorem dX3_goes_227 : decode cX3_goes 227 = .ok (.getfield 36, 3) := by decide +kernel
theorem dX3_goes_230 : decode cX3_goes 230 = .ok (.iload_n 2, 1) := by decide +kernel
theorem dX3_goes_231 : decode cX3_goes 231 = .ok (.iload 8, 2) := by decide +kernel
theorem dX3_goes_233 : decode cX3_goes 233 = .ok (.iload 7, 2) := by decide +kernel
theorem dX3_goes_235 : decode cX3_goes 235 = .ok (.if_icmp .ge 19, 3) := by decide +kernel
theorem dX3_goes_238 : decode cX3_goes 238 = .ok (.iload 9, 2) := by decide +kernel
theorem dX3_goes_240 : decode cX3_goes 240 = .ok (.iconst (-1), 1) := by decide +kernel
theorem dX3_goes_241 : decode cX3_goes 241 = .ok (.if_icmp .eq 13, 3) := by decide +kernel
theorem dX3_goes_244 : decode cX3_goes 244 = .ok (.aload_n 0, 1) := by decide +kernel
theorem dX3_goes_245 : decode cX3_goes 245 = .ok (.getfield 60, 3) := by decide +kernel
theorem dX3_goes_248 : decode cX3_goes 248 = .ok (.iload 9, 2) := by decide +kernel
theorem dX3_goes_250 : decode cX3_goes 250 = .ok (.iaload, 1) := by decide +kernel
theorem dX3_goes_251 : decode cX3_goes 251 = .ok (.goto 5, 3) := by decide +kernel
theorem dX3_goes_254 : decode cX3_goes 254 = .ok (.iload 9, 2) := by decide +kernel
theorem dX3_goes_256 : decode cX3_goes 256 = .ok (.iastore, 1) := by decide +kernel
theorem dX3_goes_257 : decode cX3_goes 257 = .ok (.iinc 2 1, 3) := by decide +kernel
theorem dX3_goes_260 : decode cX3_goes 260 = .ok (.iinc 8 1, 3) := by decide +kernel
theorem dX3_goes_263 : decode cX3_goes 263 = .ok (.goto (-56), 3) := by decide +kernel
theorem dX3_goes_266 : decode cX3_goes 266 = .ok (.iinc 3 1, 3) := by decide +kernel
theorem dX3_goes_269 : decode cX3_goes 269 = .ok (.goto (-163), 3) := by decide +kernel
theorem dX3_goes_272 : decode cX3_goes 272 = .ok (.aload_n 0, 1) := by decide +kernel
theorem dX3_goes_273 : decode cX3_goes 273 = .ok (.iload_n 1, 1) := by decide +kernel
theorem dX3_goes_274 : decode cX3_goes 274 = .ok (.putfield 76, 3) := by decide +kernel
theorem dX3_goes_277 : decode cX3_goes 277 = .ok (.aload_n 0, 1) := by decide +kernel
theorem dX3_goes_278 : decode cX3_goes 278 = .ok (.iload_n 2, 1) := by decide +kernel
theorem dX3_goes_279 : decode cX3_goes 279 = .ok (.putfield 79, 3) := by decide +kernel
theorem dX3_goes_282 : decode cX3_goes 282 = .ok (.return_, 1) := by decide +kernel
theorem dX3_collect_0 : decode cX3_collect 0 = .ok (.aload_n 0, 1) := by decide +kernel
theorem dX3_collect_1 : decode cX3_collect 1 = .ok (.iconst 0, 1) := by decide +kernel
theorem dX3_collect_2 : decode cX3_collect 2 = .ok (.putfield 1, 3) := by decide +kernel
theorem dX3_collect_5 : decode cX3_collect 5 = .ok (.aload_n 0, 1) := by decide +kernel
theorem dX3_collect_6 : decode cX3_collect 6 = .ok (.invokevirtual 103, 3) := by decide +kernel
theorem dX3_collect_9 : decode cX3_collect 9 = .ok (.ifCond .eq 10, 3) := by decide +kernel
theorem dX3_collect_12 : decode cX3_collect 12 = .ok (.aload_n 0, 1) := by decide +kernel
theorem dX3_collect_13 : decode cX3_collect 13 = .ok (.invokevirtual 86, 3) := by decide +kernel
theorem dX3_collect_16 : decode cX3_collect 16 = .ok (.goto 4, 3) := by decide +kernel
theorem dX3_collect_19 : decode cX3_collect 19 = .ok (.iconst (-1), 1) := by decide +kernel
theorem dX3_collect_20 : decode cX3_collect 20 = .ok (.ireturn, 1) := by decide +kernel
theorem dX3_at_0 : decode cX3_at 0 = .ok (.iconst 0, 1) := by decide +kernel
theorem dX3_at_1 : decode cX3_at 1 = .ok (.istore_n 2, 1) := by decide +kernel
theorem dX3_at_2 : decode cX3_at 2 = .ok (.iload_n 2, 1) := by decide +kernel
theorem dX3_at_3 : decode cX3_at 3 = .ok (.aload_n 0, 1) := by decide +kernel
theorem dX3_at_4 : decode cX3_at 4 = .ok (.getfield 76, 3) := by decide +kernel
theorem dX3_at_7 : decode cX3_at 7 = .ok (.if_icmp .ge 21, 3) := by decide +kernel
theorem dX3_at_10 : decode cX3_at 10 = .ok (.aload_n 0, 1) := by decide +kernel
theorem dX3_at_11 : decode cX3_at 11 = .ok (.getfield 24, 3) := by decide +kernel
theorem dX3_at_14 : decode cX3_at 14 = .ok (.iload_n 2, 1) := by decide +kernel
theorem dX3_at_15 : decode cX3_at 15 = .ok (.iaload, 1) := by decide +kernel
theorem dX3_at_16 : decode cX3_at 16 = .ok (.iload_n 1, 1) := by decide +kernel
theorem dX3_at_17 : decode cX3_at 17 = .ok (.if_icmp .ne 5, 3) := by decide +kernel
theorem dX3_at_20 : decode cX3_at 20 = .ok (.iload_n 2, 1) := by decide +kernel
theorem dX3_at_21 : decode cX3_at 21 = .ok (.ireturn, 1) := by decide +kernel
theorem dX3_at_22 : decode cX3_at 22 = .ok (.iinc 2 1, 3) := by decide +kernel
theorem dX3_at_25 : decode cX3_at 25 = .ok (.goto (-23), 3) := by decide +kernel
theorem dX3_at_28 : decode cX3_at 28 = .ok (.iconst (-1), 1) := by decide +kernel
theorem dX3_at_29 : decode cX3_at 29 = .ok (.ireturn, 1) := by decide +kernel
theorem dX3_addressOf_0 : decode cX3_addressOf 0 = .ok (.iload_n 1, 1) := by decide +kernel
theorem dX3_addressOf_1 : decode cX3_addressOf 1 = .ok (.iconst (-1), 1) := by decide +kernel
theorem dX3_addressOf_2 : decode cX3_addressOf 2 = .ok (.if_icmp .ne 7, 3) := by decide +kernel
theorem dX3_addressOf_5 : decode cX3_addressOf 5 = .ok (.iconst (-1), 1) := by decide +kernel
theorem dX3_addressOf_6 : decode cX3_addressOf 6 = .ok (.goto 9, 3) := by decide +kernel
theorem dX3_addressOf_9 : decode cX3_addressOf 9 = .ok (.aload_n 0, 1) := by decide +kernel
theorem dX3_addressOf_10 : decode cX3_addressOf 10 = .ok (.getfield 24, 3) := by decide +kernel
theorem dX3_addressOf_13 : decode cX3_addressOf 13 = .ok (.iload_n 1, 1) := by decide +kernel
theorem dX3_addressOf_14 : decode cX3_addressOf 14 = .ok (.iaload, 1) := by decide +kernel
theorem dX3_addressOf_15 : decode cX3_addressOf 15 = .ok (.ireturn, 1) := by decide +kernel
theorem dX3_copy_0 : decode cX3_copy 0 = .ok (.aload_n 0, 1) := by decide +kernel
theorem dX3_copy_1 : decode cX3_copy 1 = .ok (.iconst 0, 1) := by decide +kernel
theorem dX3_copy_2 : decode cX3_copy 2 = .ok (.putfield 1, 3) := by decide +kernel
theorem dX3_copy_5 : decode cX3_copy 5 = .ok (.iload_n 1, 1) := by decide +kernel
theorem dX3_copy_6 : decode cX3_copy 6 = .ok (.invokestatic 96, 3) := by decide +kernel
theorem dX3_copy_9 : decode cX3_copy 9 = .ok (.ifCond .eq 10, 3) := by decide +kernel
theorem dX3_copy_12 : decode cX3_copy 12 = .ok (.iload_n 2, 1) := by decide +kernel
theorem dX3_copy_13 : decode cX3_copy 13 = .ok (.invokestatic 96, 3) := by decide +kernel
theorem dX3_copy_16 : decode cX3_copy 16 = .ok (.ifCond .ne 9, 3) := by decide +kernel
theorem dX3_copy_19 : decode cX3_copy 19 = .ok (.aload_n 0, 1) := by decide +kernel
theorem dX3_copy_20 : decode cX3_copy 20 = .ok (.iconst 1, 1) := by decide +kernel
theorem dX3_copy_21 : decode cX3_copy 21 = .ok (.putfield 1, 3) := by decide +kernel
theorem dX3_copy_24 : decode cX3_copy 24 = .ok (.return_, 1) := by decide +kernel
theorem dX3_copy_25 : decode cX3_copy 25 = .ok (.aload_n 0, 1) := by decide +kernel
theorem dX3_copy_26 : decode cX3_copy 26 = .ok (.getfield 39, 3) := by decide +kernel
theorem dX3_copy_29 : decode cX3_copy 29 = .ok (.iload_n 2, 1) := by decide +kernel
theorem dX3_copy_30 : decode cX3_copy 30 = .ok (.aload_n 0, 1) := by decide +kernel
theorem dX3_copy_31 : decode cX3_copy 31 = .ok (.getfield 39, 3) := by decide +kernel
theorem dX3_copy_34 : decode cX3_copy 34 = .ok (.iload_n 1, 1) := by decide +kernel
theorem dX3_copy_35 : decode cX3_copy 35 = .ok (.iaload, 1) := by decide +kernel
theorem dX3_copy_36 : decode cX3_copy 36 = .ok (.iastore, 1) := by decide +kernel
theorem dX3_copy_37 : decode cX3_copy 37 = .ok (.return_, 1) := by decide +kernel
theorem dX3_drop_0 : decode cX3_drop 0 = .ok (.aload_n 0, 1) := by decide +kernel
theorem dX3_drop_1 : decode cX3_drop 1 = .ok (.iconst 0, 1) := by decide +kernel
theorem dX3_drop_2 : decode cX3_drop 2 = .ok (.putfield 1, 3) := by decide +kernel
theorem dX3_drop_5 : decode cX3_drop 5 = .ok (.iload_n 1, 1) := by decide +kernel
theorem dX3_drop_6 : decode cX3_drop 6 = .ok (.invokestatic 96, 3) := by decide +kernel
theorem dX3_drop_9 : decode cX3_drop 9 = .ok (.ifCond .ne 9, 3) := by decide +kernel
theorem dX3_drop_12 : decode cX3_drop 12 = .ok (.aload_n 0, 1) := by decide +kernel
theorem dX3_drop_13 : decode cX3_drop 13 = .ok (.iconst 1, 1) := by decide +kernel
theorem dX3_drop_14 : decode cX3_drop 14 = .ok (.putfield 1, 3) := by decide +kernel
theorem dX3_drop_17 : decode cX3_drop 17 = .ok (.return_, 1) := by decide +kernel
theorem dX3_drop_18 : decode cX3_drop 18 = .ok (.aload_n 0, 1) := by decide +kernel
theorem dX3_drop_19 : decode cX3_drop 19 = .ok (.getfield 39, 3) := by decide +kernel
theorem dX3_drop_22 : decode cX3_drop 22 = .ok (.iload_n 1, 1) := by decide +kernel
theorem dX3_drop_23 : decode cX3_drop 23 = .ok (.iconst (-1), 1) := by decide +kernel
theorem dX3_drop_24 : decode cX3_drop 24 = .ok (.iastore, 1) := by decide +kernel
theorem dX3_drop_25 : decode cX3_drop 25 = .ok (.return_, 1) := by decide +kernel
theorem dX3_wrong_0 : decode cX3_wrong 0 = .ok (.iload_n 1, 1) := by decide +kernel
theorem dX3_wrong_1 : decode cX3_wrong 1 = .ok (.invokestatic 96, 3) := by decide +kernel
theorem dX3_wrong_4 : decode cX3_wrong 4 = .ok (.ifCond .eq 10, 3) := by decide +kernel
theorem dX3_wrong_7 : decode cX3_wrong 7 = .ok (.iload_n 3, 1) := by decide +kernel
theorem dX3_wrong_8 : decode cX3_wrong 8 = .ok (.invokestatic 96, 3) := by decide +kernel
theorem dX3_wrong_11 : decode cX3_wrong 11 = .ok (.ifCond .ne 5, 3) := by decide +kernel
theorem dX3_wrong_14 : decode cX3_wrong 14 = .ok (.iconst 1, 1) := by decide +kernel
theorem dX3_wrong_15 : decode cX3_wrong 15 = .ok (.ireturn, 1) := by decide +kernel
theorem dX3_wrong_16 : decode cX3_wrong 16 = .ok (.aload_n 0, 1) := by decide +kernel
theorem dX3_wrong_17 : decode cX3_wrong 17 = .ok (.getfield 39, 3) := by decide +kernel
theorem dX3_wrong_20 : decode cX3_wrong 20 = .ok (.iload_n 1, 1) := by decide +kernel
theorem dX3_wrong_21 : decode cX3_wrong 21 = .ok (.iaload, 1) := by decide +kernel
theorem dX3_wrong_22 : decode cX3_wrong 22 = .ok (.iconst (-1), 1) := by decide +kernel
theorem dX3_wrong_23 : decode cX3_wrong 23 = .ok (.if_icmp .ne 5, 3) := by decide +kernel
theorem dX3_wrong_26 : decode cX3_wrong 26 = .ok (.iconst 2, 1) := by decide +kernel
theorem dX3_wrong_27 : decode cX3_wrong 27 = .ok (.ireturn, 1) := by decide +kernel
theorem dX3_wrong_28 : decode cX3_wrong 28 = .ok (.iload_n 2, 1) := by decide +kernel
theorem dX3_wrong_29 : decode cX3_wrong 29 = .ok (.ifCond .lt 18, 3) := by decide +kernel
theorem dX3_wrong_32 : decode cX3_wrong 32 = .ok (.iload_n 2, 1) := by decide +kernel
theorem dX3_wrong_33 : decode cX3_wrong 33 = .ok (.aload_n 0, 1) := by decide +kernel
theorem dX3_wrong_34 : decode cX3_wrong 34 = .ok (.getfield 27, 3) := by decide +kernel
theorem dX3_wrong_37 : decode cX3_wrong 37 = .ok (.aload_n 0, 1) := by decide +kernel
theorem dX3_wrong_38 : decode cX3_wrong 38 = .ok (.getfield 39, 3) := by decide +kernel
theorem dX3_wrong_41 : decode cX3_wrong 41 = .ok (.iload_n 1, 1) := by decide +kernel
theorem dX3_wrong_42 : decode cX3_wrong 42 = .ok (.iaload, 1) := by decide +kernel
theorem dX3_wrong_43 : decode cX3_wrong 43 = .ok (.iaload, 1) := by decide +kernel
theorem dX3_wrong_44 : decode cX3_wrong 44 = .ok (.if_icmp .lt 7, 3) := by decide +kernel
theorem dX3_wrong_47 : decode cX3_wrong 47 = .ok (.iconst 3, 1) := by decide +kernel
theorem dX3_wrong_48 : decode cX3_wrong 48 = .ok (.goto 4, 3) := by decide +kernel
theorem dX3_wrong_51 : decode cX3_wrong 51 = .ok (.iconst 0, 1) := by decide +kernel
theorem dX3_wrong_52 : decode cX3_wrong 52 = .ok (.ireturn, 1) := by decide +kernel
theorem dX3_link_0 : decode cX3_link 0 = .ok (.aload_n 0, 1) := by decide +kernel
theorem dX3_link_1 : decode cX3_link 1 = .ok (.aload_n 0, 1) := by decide +kernel
theorem dX3_link_2 : decode cX3_link 2 = .ok (.iload_n 1, 1) := by decide +kernel
theorem dX3_link_3 : decode cX3_link 3 = .ok (.iload_n 2, 1) := by decide +kernel
theorem dX3_link_4 : decode cX3_link 4 = .ok (.iload_n 3, 1) := by decide +kernel
theorem dX3_link_5 : decode cX3_link 5 = .ok (.invokevirtual 147, 3) := by decide +kernel
theorem dX3_link_8 : decode cX3_link 8 = .ok (.putfield 1, 3) := by decide +kernel
theorem dX3_link_11 : decode cX3_link 11 = .ok (.aload_n 0, 1) := by decide +kernel
theorem dX3_link_12 : decode cX3_link 12 = .ok (.getfield 1, 3) := by decide +kernel
theorem dX3_link_15 : decode cX3_link 15 = .ok (.ifCond .ne 27, 3) := by decide +kernel
theorem dX3_link_18 : decode cX3_link 18 = .ok (.aload_n 0, 1) := by decide +kernel
theorem dX3_link_19 : decode cX3_link 19 = .ok (.getfield 36, 3) := by decide +kernel
theorem dX3_link_22 : decode cX3_link 22 = .ok (.aload_n 0, 1) := by decide +kernel
theorem dX3_link_23 : decode cX3_link 23 = .ok (.getfield 33, 3) := by decide +kernel
theorem dX3_link_26 : decode cX3_link 26 = .ok (.aload_n 0, 1) := by decide +kernel
theorem dX3_link_27 : decode cX3_link 27 = .ok (.getfield 39, 3) := by decide +kernel
theorem dX3_link_30 : decode cX3_link 30 = .ok (.iload_n 1, 1) := by decide +kernel
theorem dX3_link_31 : decode cX3_link 31 = .ok (.iaload, 1) := by decide +kernel
theorem dX3_link_32 : decode cX3_link 32 = .ok (.iaload, 1) := by decide +kernel
theorem dX3_link_33 : decode cX3_link 33 = .ok (.iload_n 2, 1) := by decide +kernel
theorem dX3_link_34 : decode cX3_link 34 = .ok (.iadd, 1) := by decide +kernel
theorem dX3_link_35 : decode cX3_link 35 = .ok (.aload_n 0, 1) := by decide +kernel
theorem dX3_link_36 : decode cX3_link 36 = .ok (.getfield 39, 3) := by decide +kernel
theorem dX3_link_39 : decode cX3_link 39 = .ok (.iload_n 3, 1) := by decide +kernel
theorem dX3_link_40 : decode cX3_link 40 = .ok (.iaload, 1) := by decide +kernel
theorem dX3_link_41 : decode cX3_link 41 = .ok (.iastore, 1) := by decide +kernel
theorem dX3_link_42 : decode cX3_link 42 = .ok (.return_, 1) := by decide +kernel
theorem dX3_follow_0 : decode cX3_follow 0 = .ok (.aload_n 0, 1) := by decide +kernel
theorem dX3_follow_1 : decode cX3_follow 1 = .ok (.aload_n 0, 1) := by decide +kernel
theorem dX3_follow_2 : decode cX3_follow 2 = .ok (.iload_n 1, 1) := by decide +kernel
theorem dX3_follow_3 : decode cX3_follow 3 = .ok (.iload_n 2, 1) := by decide +kernel
theorem dX3_follow_4 : decode cX3_follow 4 = .ok (.iload_n 3, 1) := by decide +kernel
theorem dX3_follow_5 : decode cX3_follow 5 = .ok (.invokevirtual 147, 3) := by decide +kernel
theorem dX3_follow_8 : decode cX3_follow 8 = .ok (.putfield 1, 3) := by decide +kernel
theorem dX3_follow_11 : decode cX3_follow 11 = .ok (.aload_n 0, 1) := by decide +kernel
theorem dX3_follow_12 : decode cX3_follow 12 = .ok (.getfield 1, 3) := by decide +kernel
theorem dX3_follow_15 : decode cX3_follow 15 = .ok (.ifCond .le 5, 3) := by decide +kernel
theorem dX3_follow_18 : decode cX3_follow 18 = .ok (.iconst 0, 1) := by decide +kernel
theorem dX3_follow_19 : decode cX3_follow 19 = .ok (.ireturn, 1) := by decide +kernel
theorem dX3_follow_20 : decode cX3_follow 20 = .ok (.aload_n 0, 1) := by decide +kernel
theorem dX3_follow_21 : decode cX3_follow 21 = .ok (.getfield 39, 3) := by decide +kernel
theorem dX3_follow_24 : decode cX3_follow 24 = .ok (.iload_n 3, 1) := by decide +kernel
theorem dX3_follow_25 : decode cX3_follow 25 = .ok (.aload_n 0, 1) := by decide +kernel
theorem dX3_follow_26 : decode cX3_follow 26 = .ok (.getfield 36, 3) := by decide +kernel
theorem dX3_follow_29 : decode cX3_follow 29 = .ok (.aload_n 0, 1) := by decide +kernel
theorem dX3_follow_30 : decode cX3_follow 30 = .ok (.getfield 33, 3) := by decide +kernel
theorem dX3_follow_33 : decode cX3_follow 33 = .ok (.aload_n 0, 1) := by decide +kernel
theorem dX3_follow_34 : decode cX3_follow 34 = .ok (.getfield 39, 3) := by decide +kernel
theorem dX3_follow_37 : decode cX3_follow 37 = .ok (.iload_n 1, 1) := by decide +kernel
theorem dX3_follow_38 : decode cX3_follow 38 = .ok (.iaload, 1) := by decide +kernel
theorem dX3_follow_39 : decode cX3_follow 39 = .ok (.iaload, 1) := by decide +kernel
theorem dX3_follow_40 : decode cX3_follow 40 = .ok (.iload_n 2, 1) := by decide +kernel
theorem dX3_follow_41 : decode cX3_follow 41 = .ok (.iadd, 1) := by decide +kernel
theorem dX3_follow_42 : decode cX3_follow 42 = .ok (.iaload, 1) := by decide +kernel
theorem dX3_follow_43 : decode cX3_follow 43 = .ok (.iastore, 1) := by decide +kernel
theorem dX3_follow_44 : decode cX3_follow 44 = .ok (.aload_n 0, 1) := by decide +kernel
theorem dX3_follow_45 : decode cX3_follow 45 = .ok (.aload_n 0, 1) := by decide +kernel
theorem dX3_follow_46 : decode cX3_follow 46 = .ok (.getfield 39, 3) := by decide +kernel
theorem dX3_follow_49 : decode cX3_follow 49 = .ok (.iload_n 3, 1) := by decide +kernel
theorem dX3_follow_50 : decode cX3_follow 50 = .ok (.iaload, 1) := by decide +kernel
theorem dX3_follow_51 : decode cX3_follow 51 = .ok (.invokevirtual 151, 3) := by decide +kernel
theorem dX3_follow_54 : decode cX3_follow 54 = .ok (.ireturn, 1) := by decide +kernel
theorem dX3_set_0 : decode cX3_set 0 = .ok (.aload_n 0, 1) := by decide +kernel
theorem dX3_set_1 : decode cX3_set 1 = .ok (.iconst 0, 1) := by decide +kernel
theorem dX3_set_2 : decode cX3_set 2 = .ok (.putfield 1, 3) := by decide +kernel
theorem dX3_set_5 : decode cX3_set 5 = .ok (.iload_n 1, 1) := by decide +kernel
theorem dX3_set_6 : decode cX3_set 6 = .ok (.invokestatic 96, 3) := by decide +kernel
theorem dX3_set_9 : decode cX3_set 9 = .ok (.ifCond .ne 9, 3) := by decide +kernel
theorem dX3_set_12 : decode cX3_set 12 = .ok (.aload_n 0, 1) := by decide +kernel
theorem dX3_set_13 : decode cX3_set 13 = .ok (.iconst 1, 1) := by decide +kernel
theorem dX3_set_14 : decode cX3_set 14 = .ok (.invokevirtual 154, 3) := by decide +kernel
theorem dX3_set_17 : decode cX3_set 17 = .ok (.ireturn, 1) := by decide +kernel
theorem dX3_set_18 : decode cX3_set 18 = .ok (.aload_n 0, 1) := by decide +kernel
theorem dX3_set_19 : decode cX3_set 19 = .ok (.getfield 39, 3) := by decide +kernel
theorem dX3_set_22 : decode cX3_set 22 = .ok (.iload_n 1, 1) := by decide +kernel
theorem dX3_set_23 : decode cX3_set 23 = .ok (.iaload, 1) := by decide +kernel
theorem dX3_set_24 : decode cX3_set 24 = .ok (.iconst (-1), 1) := by decide +kernel
theorem dX3_set_25 : decode cX3_set 25 = .ok (.if_icmp .ne 9, 3) := by decide +kernel
theorem dX3_set_28 : decode cX3_set 28 = .ok (.aload_n 0, 1) := by decide +kernel
theorem dX3_set_29 : decode cX3_set 29 = .ok (.iconst 2, 1) := by decide +kernel
theorem dX3_set_30 : decode cX3_set 30 = .ok (.invokevirtual 154, 3) := by decide +kernel
theorem dX3_set_33 : decode cX3_set 33 = .ok (.ireturn, 1) := by decide +kernel
theorem dX3_set_34 : decode cX3_set 34 = .ok (.aload_n 0, 1) := by decide +kernel
theorem dX3_set_35 : decode cX3_set 35 = .ok (.getfield 39, 3) := by decide +kernel
theorem dX3_set_38 : decode cX3_set 38 = .ok (.iload_n 1, 1) := by decide +kernel
theorem dX3_set_39 : decode cX3_set 39 = .ok (.iaload, 1) := by decide +kernel
theorem dX3_set_40 : decode cX3_set 40 = .ok (.istore 4, 2) := by decide +kernel
theorem dX3_set_42 : decode cX3_set 42 = .ok (.iload_n 2, 1) := by decide +kernel
theorem dX3_set_43 : decode cX3_set 43 = .ok (.ifCond .lt 14, 3) := by decide +kernel
theorem dX3_set_46 : decode cX3_set 46 = .ok (.iload_n 2, 1) := by decide +kernel
theorem dX3_set_47 : decode cX3_set 47 = .ok (.aload_n 0, 1) := by decide +kernel
theorem dX3_set_48 : decode cX3_set 48 = .ok (.getfield 30, 3) := by decide +kernel
theorem dX3_set_51 : decode cX3_set 51 = .ok (.iload 4, 2) := by decide +kernel
theorem dX3_set_53 : decode cX3_set 53 = .ok (.iaload, 1) := by decide +kernel
theorem dX3_set_54 : decode cX3_set 54 = .ok (.if_icmp .lt 9, 3) := by decide +kernel
theorem dX3_set_57 : decode cX3_set 57 = .ok (.aload_n 0, 1) := by decide +kernel
theorem dX3_set_58 : decode cX3_set 58 = .ok (.iconst 3, 1) := by decide +kernel
theorem dX3_set_59 : decode cX3_set 59 = .ok (.invokevirtual 154, 3) := by decide +kernel
theorem dX3_set_62 : decode cX3_set 62 = .ok (.ireturn, 1) := by decide +kernel
theorem dX3_set_63 : decode cX3_set 63 = .ok (.aload_n 0, 1) := by decide +kernel
theorem dX3_set_64 : decode cX3_set 64 = .ok (.getfield 36, 3) := by decide +kernel
theorem dX3_set_67 : decode cX3_set 67 = .ok (.aload_n 0, 1) := by decide +kernel
theorem dX3_set_68 : decode cX3_set 68 = .ok (.getfield 33, 3) := by decide +kernel
theorem dX3_set_71 : decode cX3_set 71 = .ok (.iload 4, 2) := by decide +kernel
theorem dX3_set_73 : decode cX3_set 73 = .ok (.iaload, 1) := by decide +kernel
theorem dX3_set_74 : decode cX3_set 74 = .ok (.aload_n 0, 1) := by decide +kernel
theorem dX3_set_75 : decode cX3_set 75 = .ok (.getfield 27, 3) := by decide +kernel
theorem dX3_set_78 : decode cX3_set 78 = .ok (.iload 4, 2) := by decide +kernel
theorem dX3_set_80 : decode cX3_set 80 = .ok (.iaload, 1) := by decide +kernel
theorem dX3_set_81 : decode cX3_set 81 = .ok (.iadd, 1) := by decide +kernel
theorem dX3_set_82 : decode cX3_set 82 = .ok (.iload_n 2, 1) := by decide +kernel
theorem dX3_set_83 : decode cX3_set 83 = .ok (.iadd, 1) := by decide +kernel
theorem dX3_set_84 : decode cX3_set 84 = .ok (.iaload, 1) := by decide +kernel
theorem dX3_set_85 : decode cX3_set 85 = .ok (.istore 5, 2) := by decide +kernel
theorem dX3_set_87 : decode cX3_set 87 = .ok (.aload_n 0, 1) := by decide +kernel
theorem dX3_set_88 : decode cX3_set 88 = .ok (.getfield 36, 3) := by decide +kernel
theorem dX3_set_91 : decode cX3_set 91 = .ok (.aload_n 0, 1) := by decide +kernel
theorem dX3_set_92 : decode cX3_set 92 = .ok (.getfield 33, 3) := by decide +kernel
theorem dX3_set_95 : decode cX3_set 95 = .ok (.iload 4, 2) := by decide +kernel
theorem dX3_set_97 : decode cX3_set 97 = .ok (.iaload, 1) := by decide +kernel
theorem dX3_set_98 : decode cX3_set 98 = .ok (.aload_n 0, 1) := by decide +kernel
theorem dX3_set_99 : decode cX3_set 99 = .ok (.getfield 27, 3) := by decide +kernel
theorem dX3_set_102 : decode cX3_set 102 = .ok (.iload 4, 2) := by decide +kernel
theorem dX3_set_104 : decode cX3_set 104 = .ok (.iaload, 1) := by decide +kernel
theorem dX3_set_105 : decode cX3_set 105 = .ok (.iadd, 1) := by decide +kernel
theorem dX3_set_106 : decode cX3_set 106 = .ok (.iload_n 2, 1) := by decide +kernel
theorem dX3_set_107 : decode cX3_set 107 = .ok (.iadd, 1) := by decide +kernel
theorem dX3_set_108 : decode cX3_set 108 = .ok (.iload_n 3, 1) := by decide +kernel
theorem dX3_set_109 : decode cX3_set 109 = .ok (.iastore, 1) := by decide +kernel
theorem dX3_set_110 : decode cX3_set 110 = .ok (.iload 5, 2) := by decide +kernel
theorem dX3_set_112 : decode cX3_set 112 = .ok (.ireturn, 1) := by decide +kernel
theorem dX3_loose_0 : decode cX3_loose 0 = .ok (.aload_n 0, 1) := by decide +kernel
theorem dX3_loose_1 : decode cX3_loose 1 = .ok (.iconst 0, 1) := by decide +kernel
theorem dX3_loose_2 : decode cX3_loose 2 = .ok (.putfield 1, 3) := by decide +kernel
theorem dX3_loose_5 : decode cX3_loose 5 = .ok (.iload_n 1, 1) := by decide +kernel
theorem dX3_loose_6 : decode cX3_loose 6 = .ok (.invokestatic 96, 3) := by decide +kernel
theorem dX3_loose_9 : decode cX3_loose 9 = .ok (.ifCond .ne 9, 3) := by decide +kernel
theorem dX3_loose_12 : decode cX3_loose 12 = .ok (.aload_n 0, 1) := by decide +kernel
theorem dX3_loose_13 : decode cX3_loose 13 = .ok (.iconst 1, 1) := by decide +kernel
theorem dX3_loose_14 : decode cX3_loose 14 = .ok (.invokevirtual 154, 3) := by decide +kernel
theorem dX3_loose_17 : decode cX3_loose 17 = .ok (.ireturn, 1) := by decide +kernel
theorem dX3_loose_18 : decode cX3_loose 18 = .ok (.aload_n 0, 1) := by decide +kernel
theorem dX3_loose_19 : decode cX3_loose 19 = .ok (.getfield 42, 3) := by decide +kernel
theorem dX3_loose_22 : decode cX3_loose 22 = .ok (.iload_n 1, 1) := by decide +kernel
theorem dX3_loose_23 : decode cX3_loose 23 = .ok (.iaload, 1) := by decide +kernel
theorem dX3_loose_24 : decode cX3_loose 24 = .ok (.istore_n 3, 1) := by decide +kernel
theorem dX3_loose_25 : decode cX3_loose 25 = .ok (.aload_n 0, 1) := by decide +kernel
theorem dX3_loose_26 : decode cX3_loose 26 = .ok (.getfield 42, 3) := by decide +kernel
theorem dX3_loose_29 : decode cX3_loose 29 = .ok (.iload_n 1, 1) := by decide +kernel
theorem dX3_loose_30 : decode cX3_loose 30 = .ok (.iload_n 2, 1) := by decide +kernel
theorem dX3_loose_31 : decode cX3_loose 31 = .ok (.iastore, 1) := by decide +kernel
theorem dX3_loose_32 : decode cX3_loose 32 = .ok (.iload_n 3, 1) := by decide +kernel
theorem dX3_loose_33 : decode cX3_loose 33 = .ok (.ireturn, 1) := by decide +kernel
theorem dX3_take_0 : decode cX3_take 0 = .ok (.aload_n 0, 1) := by decide +kernel
theorem dX3_take_1 : decode cX3_take 1 = .ok (.iconst 0, 1) := by decide +kernel
theorem dX3_take_2 : decode cX3_take 2 = .ok (.putfield 1, 3) := by decide +kernel
theorem dX3_take_5 : decode cX3_take 5 = .ok (.iload_n 2, 1) := by decide +kernel
theorem dX3_take_6 : decode cX3_take 6 = .ok (.invokestatic 96, 3) := by decide +kernel
theorem dX3_take_9 : decode cX3_take 9 = .ok (.ifCond .ne 10, 3) := by decide +kernel
theorem dX3_take_12 : decode cX3_take 12 = .ok (.aload_n 0, 1) := by decide +kernel
theorem dX3_take_13 : decode cX3_take 13 = .ok (.iconst 1, 1) := by decide +kernel
theorem dX3_take_14 : decode cX3_take 14 = .ok (.putfield 1, 3) := by decide +kernel
theorem dX3_take_17 : decode cX3_take 17 = .ok (.iconst 0, 1) := by decide +kernel
theorem dX3_take_18 : decode cX3_take 18 = .ok (.ireturn, 1) := by decide +kernel
theorem dX3_take_19 : decode cX3_take 19 = .ok (.iload_n 1, 1) := by decide +kernel
theorem dX3_take_20 : decode cX3_take 20 = .ok (.ifCond .ge 7, 3) := by decide +kernel
theorem dX3_take_23 : decode cX3_take 23 = .ok (.iconst (-1), 1) := by decide +kernel
theorem dX3_take_24 : decode cX3_take 24 = .ok (.goto 8, 3) := by decide +kernel
theorem dX3_take_27 : decode cX3_take 27 = .ok (.aload_n 0, 1) := by decide +kernel
theorem dX3_take_28 : decode cX3_take 28 = .ok (.iload_n 1, 1) := by decide +kernel
theorem dX3_take_29 : decode cX3_take 29 = .ok (.invokevirtual 135, 3) := by decide +kernel
theorem dX3_take_32 : decode cX3_take 32 = .ok (.istore_n 3, 1) := by decide +kernel
theorem dX3_take_33 : decode cX3_take 33 = .ok (.iload_n 3, 1) := by decide +kernel
theorem dX3_take_34 : decode cX3_take 34 = .ok (.iconst (-1), 1) := by decide +kernel
theorem dX3_take_35 : decode cX3_take 35 = .ok (.if_icmp .eq 10, 3) := by decide +kernel
theorem dX3_take_38 : decode cX3_take 38 = .ok (.aload_n 0, 1) := by decide +kernel
theorem dX3_take_39 : decode cX3_take 39 = .ok (.getfield 39, 3) := by decide +kernel
theorem dX3_take_42 : decode cX3_take 42 = .ok (.iload_n 2, 1) := by decide +kernel
theorem dX3_take_43 : decode cX3_take 43 = .ok (.iload_n 3, 1) := by decide +kernel
theorem dX3_take_44 : decode cX3_take 44 = .ok (.iastore, 1) := by decide +kernel
theorem dX3_take_45 : decode cX3_take 45 = .ok (.iload_n 3, 1) := by decide +kernel
theorem dX3_take_46 : decode cX3_take 46 = .ok (.iconst (-1), 1) := by decide +kernel
theorem dX3_take_47 : decode cX3_take 47 = .ok (.if_icmp .eq 7, 3) := by decide +kernel
theorem dX3_take_50 : decode cX3_take 50 = .ok (.iconst 1, 1) := by decide +kernel
theorem dX3_take_51 : decode cX3_take 51 = .ok (.goto 4, 3) := by decide +kernel
theorem dX3_take_54 : decode cX3_take 54 = .ok (.iconst 0, 1) := by decide +kernel
theorem dX3_take_55 : decode cX3_take 55 = .ok (.ireturn, 1) := by decide +kernel
theorem dX3_root_0 : decode cX3_root 0 = .ok (.aload_n 0, 1) := by decide +kernel
theorem dX3_root_1 : decode cX3_root 1 = .ok (.iconst 0, 1) := by decide +kernel
theorem dX3_root_2 : decode cX3_root 2 = .ok (.putfield 1, 3) := by decide +kernel
theorem dX3_root_5 : decode cX3_root 5 = .ok (.iload_n 1, 1) := by decide +kernel
theorem dX3_root_6 : decode cX3_root 6 = .ok (.invokestatic 96, 3) := by decide +kernel
theorem dX3_root_9 : decode cX3_root 9 = .ok (.ifCond .eq 16, 3) := by decide +kernel
theorem dX3_root_12 : decode cX3_root 12 = .ok (.aload_n 0, 1) := by decide +kernel
theorem dX3_root_13 : decode cX3_root 13 = .ok (.aload_n 0, 1) := by decide +kernel
theorem dX3_root_14 : decode cX3_root 14 = .ok (.getfield 39, 3) := by decide +kernel
theorem dX3_root_17 : decode cX3_root 17 = .ok (.iload_n 1, 1) := by decide +kernel
theorem dX3_root_18 : decode cX3_root 18 = .ok (.iaload, 1) := by decide +kernel
theorem dX3_root_19 : decode cX3_root 19 = .ok (.invokevirtual 151, 3) := by decide +kernel
theorem dX3_root_22 : decode cX3_root 22 = .ok (.goto 4, 3) := by decide +kernel
theorem dX3_root_25 : decode cX3_root 25 = .ok (.iconst (-1), 1) := by decide +kernel
theorem dX3_root_26 : decode cX3_root 26 = .ok (.ireturn, 1) := by decide +kernel
theorem dX3_word_0 : decode cX3_word 0 = .ok (.aload_n 0, 1) := by decide +kernel
theorem dX3_word_1 : decode cX3_word 1 = .ok (.iconst 0, 1) := by decide +kernel
theorem dX3_word_2 : decode cX3_word 2 = .ok (.putfield 1, 3) := by decide +kernel
theorem dX3_word_5 : decode cX3_word 5 = .ok (.iconst 0, 1) := by decide +kernel
theorem dX3_word_6 : decode cX3_word 6 = .ok (.istore_n 2, 1) := by decide +kernel
theorem dX3_word_7 : decode cX3_word 7 = .ok (.iload_n 2, 1) := by decide +kernel
theorem dX3_word_8 : decode cX3_word 8 = .ok (.aload_n 0, 1) := by decide +kernel
theorem dX3_word_9 : decode cX3_word 9 = .ok (.getfield 76, 3) := by decide +kernel
theorem dX3_word_12 : decode cX3_word 12 = .ok (.if_icmp .ge 99, 3) := by decide +kernel
theorem dX3_word_15 : decode cX3_word 15 = .ok (.iload_n 1, 1) := by decide +kernel
theorem dX3_word_16 : decode cX3_word 16 = .ok (.aload_n 0, 1) := by decide +kernel
theorem dX3_word_17 : decode cX3_word 17 = .ok (.getfield 24, 3) := by decide +kernel
theorem dX3_word_20 : decode cX3_word 20 = .ok (.iload_n 2, 1) := by decide +kernel
theorem dX3_word_21 : decode cX3_word 21 = .ok (.iaload, 1) := by decide +kernel
theorem dX3_word_22 : decode cX3_word 22 = .ok (.isub, 1) := by decide +kernel
theorem dX3_word_23 : decode cX3_word 23 = .ok (.istore_n 3, 1) := by decide +kernel
theorem dX3_word_24 : decode cX3_word 24 = .ok (.iload_n 1, 1) := by decide +kernel
theorem dX3_word_25 : decode cX3_word 25 = .ok (.ifCond .lt 80, 3) := by decide +kernel
theorem dX3_word_28 : decode cX3_word 28 = .ok (.iload_n 3, 1) := by decide +kernel
theorem dX3_word_29 : decode cX3_word 29 = .ok (.ifCond .lt 76, 3) := by decide +kernel
theorem dX3_word_32 : decode cX3_word 32 = .ok (.iload_n 3, 1) := by decide +kernel
theorem dX3_word_33 : decode cX3_word 33 = .ok (.aload_n 0, 1) := by decide +kernel
theorem dX3_word_34 : decode cX3_word 34 = .ok (.iload_n 2, 1) := by decide +kernel
theorem dX3_word_35 : decode cX3_word 35 = .ok (.invokevirtual 82, 3) := by decide +kernel
theorem dX3_word_38 : decode cX3_word 38 = .ok (.if_icmp .lt 6, 3) := by decide +kernel
theorem dX3_word_41 : decode cX3_word 41 = .ok (.goto 64, 3) := by decide +kernel
theorem dX3_word_44 : decode cX3_word 44 = .ok (.iload_n 3, 1) := by decide +kernel
theorem dX3_word_45 : decode cX3_word 45 = .ok (.ifCond .ne 21, 3) := by decide +kernel
theorem dX3_word_48 : decode cX3_word 48 = .ok (.sipush 256, 3) := by decide +kernel
theorem dX3_word_51 : decode cX3_word 51 = .ok (.aload_n 0, 1) := by decide +kernel
theorem dX3_word_52 : decode cX3_word 52 = .ok (.getfield 27, 3) := by decide +kernel
theorem dX3_word_55 : decode cX3_word 55 = .ok (.iload_n 2, 1) := by decide +kernel
theorem dX3_word_56 : decode cX3_word 56 = .ok (.iaload, 1) := by decide +kernel
theorem dX3_word_57 : decode cX3_word 57 = .ok (.imul, 1) := by decide +kernel
theorem dX3_word_58 : decode cX3_word 58 = .ok (.aload_n 0, 1) := by decide +kernel
theorem dX3_word_59 : decode cX3_word 59 = .ok (.getfield 30, 3) := by decide +kernel
theorem dX3_word_62 : decode cX3_word 62 = .ok (.iload_n 2, 1) := by decide +kernel
theorem dX3_word_63 : decode cX3_word 63 = .ok (.iaload, 1) := by decide +kernel
theorem dX3_word_64 : decode cX3_word 64 = .ok (.iadd, 1) := by decide +kernel
theorem dX3_word_65 : decode cX3_word 65 = .ok (.ireturn, 1) := by decide +kernel
theorem dX3_word_66 : decode cX3_word 66 = .ok (.aload_n 0, 1) := by decide +kernel
theorem dX3_word_67 : decode cX3_word 67 = .ok (.getfield 36, 3) := by decide +kernel
theorem dX3_word_70 : decode cX3_word 70 = .ok (.aload_n 0, 1) := by decide +kernel
theorem dX3_word_71 : decode cX3_word 71 = .ok (.getfield 33, 3) := by decide +kernel
theorem dX3_word_74 : decode cX3_word 74 = .ok (.iload_n 2, 1) := by decide +kernel
theorem dX3_word_75 : decode cX3_word 75 = .ok (.iaload, 1) := by decide +kernel
theorem dX3_word_76 : decode cX3_word 76 = .ok (.iload_n 3, 1) := by decide +kernel
theorem dX3_word_77 : decode cX3_word 77 = .ok (.iadd, 1) := by decide +kernel
theorem dX3_word_78 : decode cX3_word 78 = .ok (.iconst 1, 1) := by decide +kernel
theorem dX3_word_79 : decode cX3_word 79 = .ok (.isub, 1) := by decide +kernel
theorem dX3_word_80 : decode cX3_word 80 = .ok (.iaload, 1) := by decide +kernel
theorem dX3_word_81 : decode cX3_word 81 = .ok (.istore 4, 2) := by decide +kernel
theorem dX3_word_83 : decode cX3_word 83 = .ok (.iload_n 3, 1) := by decide +kernel
theorem dX3_word_84 : decode cX3_word 84 = .ok (.aload_n 0, 1) := by decide +kernel
theorem dX3_word_85 : decode cX3_word 85 = .ok (.getfield 27, 3) := by decide +kernel
theorem dX3_word_88 : decode cX3_word 88 = .ok (.iload_n 2, 1) := by decide +kernel
theorem dX3_word_89 : decode cX3_word 89 = .ok (.iaload, 1) := by decide +kernel
theorem dX3_word_90 : decode cX3_word 90 = .ok (.if_icmp .gt 12, 3) := by decide +kernel
theorem dX3_word_93 : decode cX3_word 93 = .ok (.aload_n 0, 1) := by decide +kernel
theorem dX3_word_94 : decode cX3_word 94 = .ok (.iload 4, 2) := by decide +kernel
theorem dX3_word_96 : decode cX3_word 96 = .ok (.invokevirtual 151, 3) := by decide +kernel
theorem dX3_word_99 : decode cX3_word 99 = .ok (.goto 5, 3) := by decide +kernel
theorem dX3_word_102 : decode cX3_word 102 = .ok (.iload 4, 2) := by decide +kernel
theorem dX3_word_104 : decode cX3_word 104 = .ok (.ireturn, 1) := by decide +kernel
theorem dX3_word_105 : decode cX3_word 105 = .ok (.iinc 2 1, 3) := by decide +kernel
theorem dX3_word_108 : decode cX3_word 108 = .ok (.goto (-101), 3) := by decide +kernel
theorem dX3_word_111 : decode cX3_word 111 = .ok (.iconst 0, 1) := by decide +kernel
theorem dX3_word_112 : decode cX3_word 112 = .ok (.ireturn, 1) := by decide +kernel
theorem dX3_object_0 : decode cX3_object 0 = .ok (.aload_n 0, 1) := by decide +kernel
theorem dX3_object_1 : decode cX3_object 1 = .ok (.iconst 0, 1) := by decide +kernel
theorem dX3_object_2 : decode cX3_object 2 = .ok (.putfield 1, 3) := by decide +kernel
theorem dX3_object_5 : decode cX3_object 5 = .ok (.iload_n 1, 1) := by decide +kernel
theorem dX3_object_6 : decode cX3_object 6 = .ok (.ifCond .ge 7, 3) := by decide +kernel
theorem dX3_object_9 : decode cX3_object 9 = .ok (.iconst (-1), 1) := by decide +kernel
theorem dX3_object_10 : decode cX3_object 10 = .ok (.goto 8, 3) := by decide +kernel
theorem dX3_object_13 : decode cX3_object 13 = .ok (.aload_n 0, 1) := by decide +kernel
theorem dX3_object_14 : decode cX3_object 14 = .ok (.iload_n 1, 1) := by decide +kernel
theorem dX3_object_15 : decode cX3_object 15 = .ok (.invokevirtual 135, 3) := by decide +kernel
theorem dX3_object_18 : decode cX3_object 18 = .ok (.istore_n 3, 1) := by decide +kernel
theorem dX3_object_19 : decode cX3_object 19 = .ok (.iload_n 3, 1) := by decide +kernel
theorem dX3_object_20 : decode cX3_object 20 = .ok (.iconst (-1), 1) := by decide +kernel
theorem dX3_object_21 : decode cX3_object 21 = .ok (.if_icmp .ne 5, 3) := by decide +kernel
theorem dX3_object_24 : decode cX3_object 24 = .ok (.iconst (-1), 1) := by decide +kernel
theorem dX3_object_25 : decode cX3_object 25 = .ok (.ireturn, 1) := by decide +kernel
theorem dX3_object_26 : decode cX3_object 26 = .ok (.iload_n 2, 1) := by decide +kernel
theorem dX3_object_27 : decode cX3_object 27 = .ok (.ifCond .ne 12, 3) := by decide +kernel
theorem dX3_object_30 : decode cX3_object 30 = .ok (.aload_n 0, 1) := by decide +kernel
theorem dX3_object_31 : decode cX3_object 31 = .ok (.getfield 27, 3) := by decide +kernel
theorem dX3_object_34 : decode cX3_object 34 = .ok (.iload_n 3, 1) := by decide +kernel
theorem dX3_object_35 : decode cX3_object 35 = .ok (.iaload, 1) := by decide +kernel
theorem dX3_object_36 : decode cX3_object 36 = .ok (.goto 31, 3) := by decide +kernel
theorem dX3_object_39 : decode cX3_object 39 = .ok (.iload_n 2, 1) := by decide +kernel
theorem dX3_object_40 : decode cX3_object 40 = .ok (.iconst 1, 1) := by decide +kernel
theorem dX3_object_41 : decode cX3_object 41 = .ok (.if_icmp .ne 12, 3) := by decide +kernel
theorem dX3_object_44 : decode cX3_object 44 = .ok (.aload_n 0, 1) := by decide +kernel
theorem dX3_object_45 : decode cX3_object 45 = .ok (.getfield 30, 3) := by decide +kernel
theorem dX3_object_48 : decode cX3_object 48 = .ok (.iload_n 3, 1) := by decide +kernel
theorem dX3_object_49 : decode cX3_object 49 = .ok (.iaload, 1) := by decide +kernel
theorem dX3_object_50 : decode cX3_object 50 = .ok (.goto 17, 3) := by decide +kernel
theorem dX3_object_53 : decode cX3_object 53 = .ok (.iload_n 2, 1) := by decide +kernel
theorem dX3_object_54 : decode cX3_object 54 = .ok (.iconst 2, 1) := by decide +kernel
theorem dX3_object_55 : decode cX3_object 55 = .ok (.if_icmp .ne 11, 3) := by decide +kernel
theorem dX3_object_58 : decode cX3_object 58 = .ok (.aload_n 0, 1) := by decide +kernel
theorem dX3_object_59 : decode cX3_object 59 = .ok (.iload_n 3, 1) := by decide +kernel
theorem dX3_object_60 : decode cX3_object 60 = .ok (.invokevirtual 82, 3) := by decide +kernel
theorem dX3_object_63 : decode cX3_object 63 = .ok (.goto 4, 3) := by decide +kernel
theorem dX3_object_66 : decode cX3_object 66 = .ok (.iconst (-1), 1) := by decide +kernel
theorem dX3_object_67 : decode cX3_object 67 = .ok (.ireturn, 1) := by decide +kernel
theorem dX3_beginningIn_0 : decode cX3_beginningIn 0 = .ok (.iconst 0, 1) := by decide +kernel
theorem dX3_beginningIn_1 : decode cX3_beginningIn 1 = .ok (.istore_n 2, 1) := by decide +kernel
theorem dX3_beginningIn_2 : decode cX3_beginningIn 2 = .ok (.iconst 0, 1) := by decide +kernel
theorem dX3_beginningIn_3 : decode cX3_beginningIn 3 = .ok (.istore_n 3, 1) := by decide +kernel
theorem dX3_beginningIn_4 : decode cX3_beginningIn 4 = .ok (.iload_n 3, 1) := by decide +kernel
theorem dX3_beginningIn_5 : decode cX3_beginningIn 5 = .ok (.aload_n 0, 1) := by decide +kernel
theorem dX3_beginningIn_6 : decode cX3_beginningIn 6 = .ok (.getfield 76, 3) := by decide +kernel
theorem dX3_beginningIn_9 : decode cX3_beginningIn 9 = .ok (.if_icmp .ge 32, 3) := by decide +kernel
theorem dX3_beginningIn_12 : decode cX3_beginningIn 12 = .ok (.iload_n 2, 1) := by decide +kernel
theorem dX3_beginningIn_13 : decode cX3_beginningIn 13 = .ok (.aload_n 0, 1) := by decide +kernel
theorem dX3_beginningIn_14 : decode cX3_beginningIn 14 = .ok (.getfield 24, 3) := by decide +kernel
theorem dX3_beginningIn_17 : decode cX3_beginningIn 17 = .ok (.iload_n 3, 1) := by decide +kernel
theorem dX3_beginningIn_18 : decode cX3_beginningIn 18 = .ok (.iaload, 1) := by decide +kernel
theorem dX3_beginningIn_19 : decode cX3_beginningIn 19 = .ok (.aload_n 0, 1) := by decide +kernel
theorem dX3_beginningIn_20 : decode cX3_beginningIn 20 = .ok (.getfield 70, 3) := by decide +kernel
theorem dX3_beginningIn_23 : decode cX3_beginningIn 23 = .ok (.idiv, 1) := by decide +kernel
theorem dX3_beginningIn_24 : decode cX3_beginningIn 24 = .ok (.iload_n 1, 1) := by decide +kernel
theorem dX3_beginningIn_25 : decode cX3_beginningIn 25 = .ok (.if_icmp .ne 7, 3) := by decide +kernel
theorem dX3_beginningIn_28 : decode cX3_beginningIn 28 = .ok (.iconst 1, 1) := by decide +kernel
theorem dX3_beginningIn_29 : decode cX3_beginningIn 29 = .ok (.goto 4, 3) := by decide +kernel
theorem dX3_beginningIn_32 : decode cX3_beginningIn 32 = .ok (.iconst 0, 1) := by decide +kernel
theorem dX3_beginningIn_33 : decode cX3_beginningIn 33 = .ok (.iadd, 1) := by decide +kernel
theorem dX3_beginningIn_34 : decode cX3_beginningIn 34 = .ok (.istore_n 2, 1) := by decide +kernel
theorem dX3_beginningIn_35 : decode cX3_beginningIn 35 = .ok (.iinc 3 1, 3) := by decide +kernel
theorem dX3_beginningIn_38 : decode cX3_beginningIn 38 = .ok (.goto (-34), 3) := by decide +kernel
theorem dX3_beginningIn_41 : decode cX3_beginningIn 41 = .ok (.iload_n 2, 1) := by decide +kernel
theorem dX3_beginningIn_42 : decode cX3_beginningIn 42 = .ok (.ireturn, 1) := by decide +kernel
theorem dX3_page_0 : decode cX3_page 0 = .ok (.aload_n 0, 1) := by decide +kernel
theorem dX3_page_1 : decode cX3_page 1 = .ok (.iconst 0, 1) := by decide +kernel
theorem dX3_page_2 : decode cX3_page 2 = .ok (.putfield 1, 3) := by decide +kernel
theorem dX3_page_5 : decode cX3_page 5 = .ok (.iload_n 1, 1) := by decide +kernel
theorem dX3_page_6 : decode cX3_page 6 = .ok (.ifCond .lt 11, 3) := by decide +kernel
theorem dX3_page_9 : decode cX3_page 9 = .ok (.iload_n 1, 1) := by decide +kernel
theorem dX3_page_10 : decode cX3_page 10 = .ok (.aload_n 0, 1) := by decide +kernel
theorem dX3_page_11 : decode cX3_page 11 = .ok (.getfield 67, 3) := by decide +kernel
theorem dX3_page_14 : decode cX3_page 14 = .ok (.if_icmp .lt 5, 3) := by decide +kernel
theorem dX3_page_17 : decode cX3_page 17 = .ok (.iconst (-1), 1) := by decide +kernel
theorem dX3_page_18 : decode cX3_page 18 = .ok (.ireturn, 1) := by decide +kernel
theorem dX3_page_19 : decode cX3_page 19 = .ok (.iload_n 2, 1) := by decide +kernel
theorem dX3_page_20 : decode cX3_page 20 = .ok (.tableswitch 67 0 3 #[32, 39, 46, 52], 32) := by decide +kernel
theorem dX3_page_52 : decode cX3_page 52 = .ok (.aload_n 0, 1) := by decide +kernel
theorem dX3_page_53 : decode cX3_page 53 = .ok (.getfield 13, 3) := by decide +kernel
theorem dX3_page_56 : decode cX3_page 56 = .ok (.iload_n 1, 1) := by decide +kernel
theorem dX3_page_57 : decode cX3_page 57 = .ok (.iaload, 1) := by decide +kernel
theorem dX3_page_58 : decode cX3_page 58 = .ok (.ireturn, 1) := by decide +kernel
theorem dX3_page_59 : decode cX3_page 59 = .ok (.aload_n 0, 1) := by decide +kernel
theorem dX3_page_60 : decode cX3_page 60 = .ok (.getfield 17, 3) := by decide +kernel
theorem dX3_page_63 : decode cX3_page 63 = .ok (.iload_n 1, 1) := by decide +kernel
theorem dX3_page_64 : decode cX3_page 64 = .ok (.iaload, 1) := by decide +kernel
theorem dX3_page_65 : decode cX3_page 65 = .ok (.ireturn, 1) := by decide +kernel
theorem dX3_page_66 : decode cX3_page 66 = .ok (.aload_n 0, 1) := by decide +kernel
theorem dX3_page_67 : decode cX3_page 67 = .ok (.iload_n 1, 1) := by decide +kernel
theorem dX3_page_68 : decode cX3_page 68 = .ok (.invokevirtual 157, 3) := by decide +kernel
theorem dX3_page_71 : decode cX3_page 71 = .ok (.ireturn, 1) := by decide +kernel
theorem dX3_page_72 : decode cX3_page 72 = .ok (.aload_n 0, 1) := by decide +kernel
theorem dX3_page_73 : decode cX3_page 73 = .ok (.getfield 20, 3) := by decide +kernel
theorem dX3_page_76 : decode cX3_page 76 = .ok (.iload_n 1, 1) := by decide +kernel
theorem dX3_page_77 : decode cX3_page 77 = .ok (.baload, 1) := by decide +kernel
theorem dX3_page_78 : decode cX3_page 78 = .ok (.ifCond .eq 7, 3) := by decide +kernel
theorem dX3_page_81 : decode cX3_page 81 = .ok (.iconst 1, 1) := by decide +kernel
theorem dX3_page_82 : decode cX3_page 82 = .ok (.goto 4, 3) := by decide +kernel
theorem dX3_page_85 : decode cX3_page 85 = .ok (.iconst 0, 1) := by decide +kernel
theorem dX3_page_86 : decode cX3_page 86 = .ok (.ireturn, 1) := by decide +kernel
theorem dX3_page_87 : decode cX3_page 87 = .ok (.iconst (-1), 1) := by decide +kernel
theorem dX3_page_88 : decode cX3_page 88 = .ok (.ireturn, 1) := by decide +kernel
theorem dX3_allWords_0 : decode cX3_allWords 0 = .ok (.iconst 0, 1) := by decide +kernel
theorem dX3_allWords_1 : decode cX3_allWords 1 = .ok (.istore_n 1, 1) := by decide +kernel
theorem dX3_allWords_2 : decode cX3_allWords 2 = .ok (.iconst 0, 1) := by decide +kernel
theorem dX3_allWords_3 : decode cX3_allWords 3 = .ok (.istore_n 2, 1) := by decide +kernel
theorem dX3_allWords_4 : decode cX3_allWords 4 = .ok (.iload_n 2, 1) := by decide +kernel
theorem dX3_allWords_5 : decode cX3_allWords 5 = .ok (.aload_n 0, 1) := by decide +kernel
theorem dX3_allWords_6 : decode cX3_allWords 6 = .ok (.getfield 76, 3) := by decide +kernel
theorem dX3_allWords_9 : decode cX3_allWords 9 = .ok (.if_icmp .ge 17, 3) := by decide +kernel
theorem dX3_allWords_12 : decode cX3_allWords 12 = .ok (.iload_n 1, 1) := by decide +kernel
theorem dX3_allWords_13 : decode cX3_allWords 13 = .ok (.aload_n 0, 1) := by decide +kernel
theorem dX3_allWords_14 : decode cX3_allWords 14 = .ok (.iload_n 2, 1) := by decide +kernel
theorem dX3_allWords_15 : decode cX3_allWords 15 = .ok (.invokevirtual 82, 3) := by decide +kernel
theorem dX3_allWords_18 : decode cX3_allWords 18 = .ok (.iadd, 1) := by decide +kernel
theorem dX3_allWords_19 : decode cX3_allWords 19 = .ok (.istore_n 1, 1) := by decide +kernel
theorem dX3_allWords_20 : decode cX3_allWords 20 = .ok (.iinc 2 1, 3) := by decide +kernel
theorem dX3_allWords_23 : decode cX3_allWords 23 = .ok (.goto (-19), 3) := by decide +kernel
theorem dX3_allWords_26 : decode cX3_allWords 26 = .ok (.iload_n 1, 1) := by decide +kernel
theorem dX3_allWords_27 : decode cX3_allWords 27 = .ok (.ireturn, 1) := by decide +kernel
theorem dX3_look_0 : decode cX3_look 0 = .ok (.aload_n 0, 1) := by decide +kernel
theorem dX3_look_1 : decode cX3_look 1 = .ok (.iconst 0, 1) := by decide +kernel
theorem dX3_look_2 : decode cX3_look 2 = .ok (.putfield 1, 3) := by decide +kernel
theorem dX3_look_5 : decode cX3_look 5 = .ok (.iload_n 1, 1) := by decide +kernel
theorem dX3_look_6 : decode cX3_look 6 = .ok (.tableswitch 68 0 5 #[38, 43, 48, 53, 58, 63], 38) := by decide +kernel
theorem dX3_look_44 : decode cX3_look 44 = .ok (.aload_n 0, 1) := by decide +kernel
theorem dX3_look_45 : decode cX3_look 45 = .ok (.getfield 67, 3) := by decide +kernel
theorem dX3_look_48 : decode cX3_look 48 = .ok (.ireturn, 1) := by decide +kernel
theorem dX3_look_49 : decode cX3_look 49 = .ok (.aload_n 0, 1) := by decide +kernel
theorem dX3_look_50 : decode cX3_look 50 = .ok (.getfield 70, 3) := by decide +kernel
theorem dX3_look_53 : decode cX3_look 53 = .ok (.ireturn, 1) := by decide +kernel
theorem dX3_look_54 : decode cX3_look 54 = .ok (.aload_n 0, 1) := by decide +kernel
theorem dX3_look_55 : decode cX3_look 55 = .ok (.invokevirtual 86, 3) := by decide +kernel
theorem dX3_look_58 : decode cX3_look 58 = .ok (.ireturn, 1) := by decide +kernel
theorem dX3_look_59 : decode cX3_look 59 = .ok (.aload_n 0, 1) := by decide +kernel
theorem dX3_look_60 : decode cX3_look 60 = .ok (.getfield 73, 3) := by decide +kernel
theorem dX3_look_63 : decode cX3_look 63 = .ok (.ireturn, 1) := by decide +kernel
theorem dX3_look_64 : decode cX3_look 64 = .ok (.aload_n 0, 1) := by decide +kernel
theorem dX3_look_65 : decode cX3_look 65 = .ok (.getfield 76, 3) := by decide +kernel
theorem dX3_look_68 : decode cX3_look 68 = .ok (.ireturn, 1) := by decide +kernel
theorem dX3_look_69 : decode cX3_look 69 = .ok (.aload_n 0, 1) := by decide +kernel
theorem dX3_look_70 : decode cX3_look 70 = .ok (.invokevirtual 160, 3) := by decide +kernel
theorem dX3_look_73 : decode cX3_look 73 = .ok (.ireturn, 1) := by decide +kernel
theorem dX3_look_74 : decode cX3_look 74 = .ok (.iload_n 1, 1) := by decide +kernel
theorem dX3_look_75 : decode cX3_look 75 = .ok (.bipush 6, 2) := by decide +kernel
theorem dX3_look_77 : decode cX3_look 77 = .ok (.if_icmp .lt 18, 3) := by decide +kernel
theorem dX3_look_80 : decode cX3_look 80 = .ok (.iload_n 1, 1) := by decide +kernel
theorem dX3_look_81 : decode cX3_look 81 = .ok (.bipush 12, 2) := by decide +kernel
theorem dX3_look_83 : decode cX3_look 83 = .ok (.if_icmp .gt 12, 3) := by decide +kernel
theorem dX3_look_86 : decode cX3_look 86 = .ok (.aload_n 0, 1) := by decide +kernel
theorem dX3_look_87 : decode cX3_look 87 = .ok (.getfield 45, 3) := by decide +kernel
theorem dX3_look_90 : decode cX3_look 90 = .ok (.iload_n 1, 1) := by decide +kernel
theorem dX3_look_91 : decode cX3_look 91 = .ok (.iaload, 1) := by decide +kernel
theorem dX3_look_92 : decode cX3_look 92 = .ok (.goto 4, 3) := by decide +kernel
theorem dX3_look_95 : decode cX3_look 95 = .ok (.iconst (-1), 1) := by decide +kernel
theorem dX3_look_96 : decode cX3_look 96 = .ok (.ireturn, 1) := by decide +kernel
end
section
theorem dL_format_0 : decode cL_format 0 = .ok (.aload_n 0, 1) := by decide +kernel
theorem dL_format_1 : decode cL_format 1 = .ok (.iload_n 1, 1) := by decide +kernel
theorem dL_format_2 : decode cL_format 2 = .ok (.iload_n 2, 1) := by decide +kernel
theorem dL_format_3 : decode cL_format 3 = .ok (.invokevirtual 7, 3) := by decide +kernel
theorem dL_format_6 : decode cL_format 6 = .ok (.goto 6, 3) := by decide +kernel
theorem dL_format_9 : decode cL_format 9 = .ok (.astore_n 3, 1) := by decide +kernel
theorem dL_format_10 : decode cL_format 10 = .ok (.iconst 1, 1) := by decide +kernel
theorem dL_format_11 : decode cL_format 11 = .ok (.ireturn, 1) := by decide +kernel
theorem dL_format_12 : decode cL_format 12 = .ok (.iconst 0, 1) := by decide +kernel
theorem dL_format_13 : decode cL_format 13 = .ok (.ireturn, 1) := by decide +kernel
theorem dL_make_0 : decode cL_make 0 = .ok (.aload 4, 2) := by decide +kernel
theorem dL_make_2 : decode cL_make 2 = .ok (.iconst 0, 1) := by decide +kernel
theorem dL_make_3 : decode cL_make 3 = .ok (.aload_n 0, 1) := by decide +kernel
theorem dL_make_4 : decode cL_make 4 = .ok (.iload_n 1, 1) := by decide +kernel
theorem dL_make_5 : decode cL_make 5 = .ok (.iload_n 2, 1) := by decide +kernel
theorem dL_make_6 : decode cL_make 6 = .ok (.iload_n 3, 1) := by decide +kernel
theorem dL_make_7 : decode cL_make 7 = .ok (.invokevirtual 15, 3) := by decide +kernel
theorem dL_make_10 : decode cL_make 10 = .ok (.ifCond .eq 7, 3) := by decide +kernel
theorem dL_make_13 : decode cL_make 13 = .ok (.lconst 1, 1) := by decide +kernel
theorem dL_make_14 : decode cL_make 14 = .ok (.goto 4, 3) := by decide +kernel
theorem dL_make_17 : decode cL_make 17 = .ok (.lconst 0, 1) := by decide +kernel
theorem dL_make_18 : decode cL_make 18 = .ok (.lastore, 1) := by decide +kernel
theorem dL_make_19 : decode cL_make 19 = .ok (.goto 7, 3) := by decide +kernel
theorem dL_make_22 : decode cL_make 22 = .ok (.astore 5, 2) := by decide +kernel
theorem dL_make_24 : decode cL_make 24 = .ok (.iconst 1, 1) := by decide +kernel
theorem dL_make_25 : decode cL_make 25 = .ok (.ireturn, 1) := by decide +kernel
theorem dL_make_26 : decode cL_make 26 = .ok (.iconst 0, 1) := by decide +kernel
theorem dL_make_27 : decode cL_make 27 = .ok (.ireturn, 1) := by decide +kernel
theorem dL_copy_0 : decode cL_copy 0 = .ok (.aload_n 0, 1) := by decide +kernel
theorem dL_copy_1 : decode cL_copy 1 = .ok (.iload_n 1, 1) := by decide +kernel
theorem dL_copy_2 : decode cL_copy 2 = .ok (.iload_n 2, 1) := by decide +kernel
theorem dL_copy_3 : decode cL_copy 3 = .ok (.invokevirtual 19, 3) := by decide +kernel
theorem dL_copy_6 : decode cL_copy 6 = .ok (.goto 6, 3) := by decide +kernel
theorem dL_copy_9 : decode cL_copy 9 = .ok (.astore_n 3, 1) := by decide +kernel
theorem dL_copy_10 : decode cL_copy 10 = .ok (.iconst 1, 1) := by decide +kernel
theorem dL_copy_11 : decode cL_copy 11 = .ok (.ireturn, 1) := by decide +kernel
theorem dL_copy_12 : decode cL_copy 12 = .ok (.iconst 0, 1) := by decide +kernel
theorem dL_copy_13 : decode cL_copy 13 = .ok (.ireturn, 1) := by decide +kernel
theorem dL_drop_0 : decode cL_drop 0 = .ok (.aload_n 0, 1) := by decide +kernel
theorem dL_drop_1 : decode cL_drop 1 = .ok (.iload_n 1, 1) := by decide +kernel
theorem dL_drop_2 : decode cL_drop 2 = .ok (.invokevirtual 22, 3) := by decide +kernel
theorem dL_drop_5 : decode cL_drop 5 = .ok (.goto 6, 3) := by decide +kernel
theorem dL_drop_8 : decode cL_drop 8 = .ok (.astore_n 2, 1) := by decide +kernel
theorem dL_drop_9 : decode cL_drop 9 = .ok (.iconst 1, 1) := by decide +kernel
theorem dL_drop_10 : decode cL_drop 10 = .ok (.ireturn, 1) := by decide +kernel
theorem dL_drop_11 : decode cL_drop 11 = .ok (.iconst 0, 1) := by decide +kernel
theorem dL_drop_12 : decode cL_drop 12 = .ok (.ireturn, 1) := by decide +kernel
theorem dL_link_0 : decode cL_link 0 = .ok (.aload_n 0, 1) := by decide +kernel
theorem dL_link_1 : decode cL_link 1 = .ok (.iload_n 1, 1) := by decide +kernel
theorem dL_link_2 : decode cL_link 2 = .ok (.iload_n 2, 1) := by decide +kernel
theorem dL_link_3 : decode cL_link 3 = .ok (.iload_n 3, 1) := by decide +kernel
theorem dL_link_4 : decode cL_link 4 = .ok (.invokevirtual 26, 3) := by decide +kernel
theorem dL_link_7 : decode cL_link 7 = .ok (.goto 15, 3) := by decide +kernel
theorem dL_link_10 : decode cL_link 10 = .ok (.astore 4, 2) := by decide +kernel
theorem dL_link_12 : decode cL_link 12 = .ok (.iconst 1, 1) := by decide +kernel
theorem dL_link_13 : decode cL_link 13 = .ok (.ireturn, 1) := by decide +kernel
theorem dL_link_14 : decode cL_link 14 = .ok (.astore 4, 2) := by decide +kernel
theorem dL_link_16 : decode cL_link 16 = .ok (.iconst 2, 1) := by decide +kernel
theorem dL_link_17 : decode cL_link 17 = .ok (.ireturn, 1) := by decide +kernel
theorem dL_link_18 : decode cL_link 18 = .ok (.astore 4, 2) := by decide +kernel
theorem dL_link_20 : decode cL_link 20 = .ok (.iconst 3, 1) := by decide +kernel
theorem dL_link_21 : decode cL_link 21 = .ok (.ireturn, 1) := by decide +kernel
theorem dL_link_22 : decode cL_link 22 = .ok (.iconst 0, 1) := by decide +kernel
theorem dL_link_23 : decode cL_link 23 = .ok (.ireturn, 1) := by decide +kernel
theorem dL_follow_0 : decode cL_follow 0 = .ok (.aload 4, 2) := by decide +kernel
theorem dL_follow_2 : decode cL_follow 2 = .ok (.iconst 0, 1) := by decide +kernel
theorem dL_follow_3 : decode cL_follow 3 = .ok (.aload_n 0, 1) := by decide +kernel
theorem dL_follow_4 : decode cL_follow 4 = .ok (.iload_n 1, 1) := by decide +kernel
theorem dL_follow_5 : decode cL_follow 5 = .ok (.iload_n 2, 1) := by decide +kernel
theorem dL_follow_6 : decode cL_follow 6 = .ok (.iload_n 3, 1) := by decide +kernel
theorem dL_follow_7 : decode cL_follow 7 = .ok (.invokevirtual 34, 3) := by decide +kernel
theorem dL_follow_10 : decode cL_follow 10 = .ok (.i2l, 1) := by decide +kernel
theorem dL_follow_11 : decode cL_follow 11 = .ok (.lastore, 1) := by decide +kernel
theorem dL_follow_12 : decode cL_follow 12 = .ok (.goto 15, 3) := by decide +kernel
theorem dL_follow_15 : decode cL_follow 15 = .ok (.astore 5, 2) := by decide +kernel
theorem dL_follow_17 : decode cL_follow 17 = .ok (.iconst 1, 1) := by decide +kernel
theorem dL_follow_18 : decode cL_follow 18 = .ok (.ireturn, 1) := by decide +kernel
theorem dL_follow_19 : decode cL_follow 19 = .ok (.astore 5, 2) := by decide +kernel
theorem dL_follow_21 : decode cL_follow 21 = .ok (.iconst 2, 1) := by decide +kernel
theorem dL_follow_22 : decode cL_follow 22 = .ok (.ireturn, 1) := by decide +kernel
theorem dL_follow_23 : decode cL_follow 23 = .ok (.astore 5, 2) := by decide +kernel
theorem dL_follow_25 : decode cL_follow 25 = .ok (.iconst 3, 1) := by decide +kernel
theorem dL_follow_26 : decode cL_follow 26 = .ok (.ireturn, 1) := by decide +kernel
theorem dL_follow_27 : decode cL_follow 27 = .ok (.iconst 0, 1) := by decide +kernel
theorem dL_follow_28 : decode cL_follow 28 = .ok (.ireturn, 1) := by decide +kernel
theorem dL_set_0 : decode cL_set 0 = .ok (.aload 4, 2) := by decide +kernel
theorem dL_set_2 : decode cL_set 2 = .ok (.iconst 0, 1) := by decide +kernel
theorem dL_set_3 : decode cL_set 3 = .ok (.aload_n 0, 1) := by decide +kernel
theorem dL_set_4 : decode cL_set 4 = .ok (.iload_n 1, 1) := by decide +kernel
theorem dL_set_5 : decode cL_set 5 = .ok (.iload_n 2, 1) := by decide +kernel
theorem dL_set_6 : decode cL_set 6 = .ok (.iload_n 3, 1) := by decide +kernel
theorem dL_set_7 : decode cL_set 7 = .ok (.invokevirtual 38, 3) := by decide +kernel
theorem dL_set_10 : decode cL_set 10 = .ok (.i2l, 1) := by decide +kernel
theorem dL_set_11 : decode cL_set 11 = .ok (.lastore, 1) := by decide +kernel
theorem dL_set_12 : decode cL_set 12 = .ok (.goto 15, 3) := by decide +kernel
theorem dL_set_15 : decode cL_set 15 = .ok (.astore 5, 2) := by decide +kernel
theorem dL_set_17 : decode cL_set 17 = .ok (.iconst 1, 1) := by decide +kernel
theorem dL_set_18 : decode cL_set 18 = .ok (.ireturn, 1) := by decide +kernel
theorem dL_set_19 : decode cL_set 19 = .ok (.astore 5, 2) := by decide +kernel
theorem dL_set_21 : decode cL_set 21 = .ok (.iconst 2, 1) := by decide +kernel
theorem dL_set_22 : decode cL_set 22 = .ok (.ireturn, 1) := by decide +kernel
theorem dL_set_23 : decode cL_set 23 = .ok (.astore 5, 2) := by decide +kernel
theorem dL_set_25 : decode cL_set 25 = .ok (.iconst 3, 1) := by decide +kernel
theorem dL_set_26 : decode cL_set 26 = .ok (.ireturn, 1) := by decide +kernel
theorem dL_set_27 : decode cL_set 27 = .ok (.iconst 0, 1) := by decide +kernel
theorem dL_set_28 : decode cL_set 28 = .ok (.ireturn, 1) := by decide +kernel
theorem dL_loose_0 : decode cL_loose 0 = .ok (.aload_n 3, 1) := by decide +kernel
theorem dL_loose_1 : decode cL_loose 1 = .ok (.iconst 0, 1) := by decide +kernel
theorem dL_loose_2 : decode cL_loose 2 = .ok (.aload_n 0, 1) := by decide +kernel
theorem dL_loose_3 : decode cL_loose 3 = .ok (.iload_n 1, 1) := by decide +kernel
theorem dL_loose_4 : decode cL_loose 4 = .ok (.iload_n 2, 1) := by decide +kernel
theorem dL_loose_5 : decode cL_loose 5 = .ok (.invokevirtual 41, 3) := by decide +kernel
theorem dL_loose_8 : decode cL_loose 8 = .ok (.i2l, 1) := by decide +kernel
theorem dL_loose_9 : decode cL_loose 9 = .ok (.lastore, 1) := by decide +kernel
theorem dL_loose_10 : decode cL_loose 10 = .ok (.goto 7, 3) := by decide +kernel
theorem dL_loose_13 : decode cL_loose 13 = .ok (.astore 4, 2) := by decide +kernel
theorem dL_loose_15 : decode cL_loose 15 = .ok (.iconst 1, 1) := by decide +kernel
theorem dL_loose_16 : decode cL_loose 16 = .ok (.ireturn, 1) := by decide +kernel
theorem dL_loose_17 : decode cL_loose 17 = .ok (.iconst 0, 1) := by decide +kernel
theorem dL_loose_18 : decode cL_loose 18 = .ok (.ireturn, 1) := by decide +kernel
theorem dL_take_0 : decode cL_take 0 = .ok (.aload_n 3, 1) := by decide +kernel
theorem dL_take_1 : decode cL_take 1 = .ok (.iconst 0, 1) := by decide +kernel
theorem dL_take_2 : decode cL_take 2 = .ok (.aload_n 0, 1) := by decide +kernel
theorem dL_take_3 : decode cL_take 3 = .ok (.iload_n 1, 1) := by decide +kernel
theorem dL_take_4 : decode cL_take 4 = .ok (.iload_n 2, 1) := by decide +kernel
theorem dL_take_5 : decode cL_take 5 = .ok (.invokevirtual 45, 3) := by decide +kernel
theorem dL_take_8 : decode cL_take 8 = .ok (.ifCond .eq 7, 3) := by decide +kernel
theorem dL_take_11 : decode cL_take 11 = .ok (.lconst 1, 1) := by decide +kernel
theorem dL_take_12 : decode cL_take 12 = .ok (.goto 4, 3) := by decide +kernel
theorem dL_take_15 : decode cL_take 15 = .ok (.lconst 0, 1) := by decide +kernel
theorem dL_take_16 : decode cL_take 16 = .ok (.lastore, 1) := by decide +kernel
theorem dL_take_17 : decode cL_take 17 = .ok (.goto 7, 3) := by decide +kernel
theorem dL_take_20 : decode cL_take 20 = .ok (.astore 4, 2) := by decide +kernel
theorem dL_take_22 : decode cL_take 22 = .ok (.iconst 1, 1) := by decide +kernel
theorem dL_take_23 : decode cL_take 23 = .ok (.ireturn, 1) := by decide +kernel
theorem dL_take_24 : decode cL_take 24 = .ok (.iconst 0, 1) := by decide +kernel
theorem dL_take_25 : decode cL_take 25 = .ok (.ireturn, 1) := by decide +kernel
theorem dL_law_0 : decode cL_law 0 = .ok (.new 8, 3) := by decide +kernel
theorem dL_law_3 : decode cL_law 3 = .ok (.dup, 1) := by decide +kernel
theorem dL_law_4 : decode cL_law 4 = .ok (.invokespecial 49, 3) := by decide +kernel
theorem dL_law_7 : decode cL_law 7 = .ok (.astore_n 1, 1) := by decide +kernel
theorem dL_law_8 : decode cL_law 8 = .ok (.new 50, 3) := by decide +kernel
theorem dL_law_11 : decode cL_law 11 = .ok (.dup, 1) := by decide +kernel
theorem dL_law_12 : decode cL_law 12 = .ok (.invokespecial 52, 3) := by decide +kernel
theorem dL_law_15 : decode cL_law 15 = .ok (.astore_n 2, 1) := by decide +kernel
theorem dL_law_16 : decode cL_law 16 = .ok (.iconst 1, 1) := by decide +kernel
theorem dL_law_17 : decode cL_law 17 = .ok (.newarray .long, 2) := by decide +kernel
theorem dL_law_19 : decode cL_law 19 = .ok (.astore_n 3, 1) := by decide +kernel
theorem dL_law_20 : decode cL_law 20 = .ok (.iconst 0, 1) := by decide +kernel
theorem dL_law_21 : decode cL_law 21 = .ok (.istore 4, 2) := by decide +kernel
theorem dL_law_23 : decode cL_law 23 = .ok (.iload 4, 2) := by decide +kernel
theorem dL_law_25 : decode cL_law 25 = .ok (.aload_n 0, 1) := by decide +kernel
theorem dL_law_26 : decode cL_law 26 = .ok (.arraylength, 1) := by decide +kernel
theorem dL_law_27 : decode cL_law 27 = .ok (.iconst 4, 1) := by decide +kernel
theorem dL_law_28 : decode cL_law 28 = .ok (.isub, 1) := by decide +kernel
theorem dL_law_29 : decode cL_law 29 = .ok (.if_icmp .gt 833, 3) := by decide +kernel
theorem dL_law_32 : decode cL_law 32 = .ok (.aload_n 0, 1) := by decide +kernel
theorem dL_law_33 : decode cL_law 33 = .ok (.iload 4, 2) := by decide +kernel
theorem dL_law_35 : decode cL_law 35 = .ok (.iaload, 1) := by decide +kernel
theorem dL_law_36 : decode cL_law 36 = .ok (.bipush 15, 2) := by decide +kernel
theorem dL_law_38 : decode cL_law 38 = .ok (.iand, 1) := by decide +kernel
theorem dL_law_39 : decode cL_law 39 = .ok (.tableswitch 817 0 14 #[73, 121, 208, 256, 292, 352, 432, 512, 580, 655, 668, 693, 718, 755, 792], 73) := by decide +kernel
theorem dL_law_112 : decode cL_law 112 = .ok (.aload_n 1, 1) := by decide +kernel
theorem dL_law_113 : decode cL_law 113 = .ok (.aload_n 0, 1) := by decide +kernel
theorem dL_law_114 : decode cL_law 114 = .ok (.iload 4, 2) := by decide +kernel
theorem dL_law_116 : decode cL_law 116 = .ok (.iconst 1, 1) := by decide +kernel
theorem dL_law_117 : decode cL_law 117 = .ok (.iadd, 1) := by decide +kernel
theorem dL_law_118 : decode cL_law 118 = .ok (.iaload, 1) := by decide +kernel
theorem dL_law_119 : decode cL_law 119 = .ok (.aload_n 0, 1) := by decide +kernel
theorem dL_law_120 : decode cL_law 120 = .ok (.iload 4, 2) := by decide +kernel
theorem dL_law_122 : decode cL_law 122 = .ok (.iconst 2, 1) := by decide +kernel
theorem dL_law_123 : decode cL_law 123 = .ok (.iadd, 1) := by decide +kernel
theorem dL_law_124 : decode cL_law 124 = .ok (.iaload, 1) := by decide +kernel
theorem dL_law_125 : decode cL_law 125 = .ok (.invokestatic 53, 3) := by decide +kernel
theorem dL_law_128 : decode cL_law 128 = .ok (.istore 5, 2) := by decide +kernel
theorem dL_law_130 : decode cL_law 130 = .ok (.aload_n 2, 1) := by decide +kernel
theorem dL_law_131 : decode cL_law 131 = .ok (.aload_n 0, 1) := by decide +kernel
theorem dL_law_132 : decode cL_law 132 = .ok (.iload 4, 2) := by decide +kernel
theorem dL_law_134 : decode cL_law 134 = .ok (.iconst 1, 1) := by decide +kernel
theorem dL_law_135 : decode cL_law 135 = .ok (.iadd, 1) := by decide +kernel
theorem dL_law_136 : decode cL_law 136 = .ok (.iaload, 1) := by decide +kernel
theorem dL_law_137 : decode cL_law 137 = .ok (.aload_n 0, 1) := by decide +kernel
theorem dL_law_138 : decode cL_law 138 = .ok (.iload 4, 2) := by decide +kernel
theorem dL_law_140 : decode cL_law 140 = .ok (.iconst 2, 1) := by decide +kernel
theorem dL_law_141 : decode cL_law 141 = .ok (.iadd, 1) := by decide +kernel
theorem dL_law_142 : decode cL_law 142 = .ok (.iaload, 1) := by decide +kernel
theorem dL_law_143 : decode cL_law 143 = .ok (.invokevirtual 58, 3) := by decide +kernel
theorem dL_law_146 : decode cL_law 146 = .ok (.aload_n 2, 1) := by decide +kernel
theorem dL_law_147 : decode cL_law 147 = .ok (.invokevirtual 59, 3) := by decide +kernel
theorem dL_law_150 : decode cL_law 150 = .ok (.iload 5, 2) := by decide +kernel
theorem dL_law_152 : decode cL_law 152 = .ok (.if_icmp .eq 5, 3) := by decide +kernel
theorem dL_law_155 : decode cL_law 155 = .ok (.iconst 0, 1) := by decide +kernel
theorem dL_law_156 : decode cL_law 156 = .ok (.ireturn, 1) := by decide +kernel
theorem dL_law_157 : decode cL_law 157 = .ok (.goto 699, 3) := by decide +kernel
theorem dL_law_160 : decode cL_law 160 = .ok (.aload_n 1, 1) := by decide +kernel
theorem dL_law_161 : decode cL_law 161 = .ok (.aload_n 0, 1) := by decide +kernel
theorem dL_law_162 : decode cL_law 162 = .ok (.iload 4, 2) := by decide +kernel
theorem dL_law_164 : decode cL_law 164 = .ok (.iconst 1, 1) := by decide +kernel
theorem dL_law_165 : decode cL_law 165 = .ok (.iadd, 1) := by decide +kernel
theorem dL_law_166 : decode cL_law 166 = .ok (.iaload, 1) := by decide +kernel
theorem dL_law_167 : decode cL_law 167 = .ok (.aload_n 0, 1) := by decide +kernel
theorem dL_law_168 : decode cL_law 168 = .ok (.iload 4, 2) := by decide +kernel
theorem dL_law_170 : decode cL_law 170 = .ok (.iconst 2, 1) := by decide +kernel
theorem dL_law_171 : decode cL_law 171 = .ok (.iadd, 1) := by decide +kernel
theorem dL_law_172 : decode cL_law 172 = .ok (.iaload, 1) := by decide +kernel
theorem dL_law_173 : decode cL_law 173 = .ok (.aload_n 0, 1) := by decide +kernel
theorem dL_law_174 : decode cL_law 174 = .ok (.iload 4, 2) := by decide +kernel
theorem dL_law_176 : decode cL_law 176 = .ok (.iconst 3, 1) := by decide +kernel
theorem dL_law_177 : decode cL_law 177 = .ok (.iadd, 1) := by decide +kernel
theorem dL_law_178 : decode cL_law 178 = .ok (.iaload, 1) := by decide +kernel
theorem dL_law_179 : decode cL_law 179 = .ok (.aload_n 3, 1) := by decide +kernel
theorem dL_law_180 : decode cL_law 180 = .ok (.invokestatic 63, 3) := by decide +kernel
theorem dL_law_183 : decode cL_law 183 = .ok (.istore 5, 2) := by decide +kernel
theorem dL_law_185 : decode cL_law 185 = .ok (.aload_n 2, 1) := by decide +kernel
theorem dL_law_186 : decode cL_law 186 = .ok (.aload_n 0, 1) := by decide +kernel
theorem dL_law_187 : decode cL_law 187 = .ok (.iload 4, 2) := by decide +kernel
theorem dL_law_189 : decode cL_law 189 = .ok (.iconst 1, 1) := by decide +kernel
theorem dL_law_190 : decode cL_law 190 = .ok (.iadd, 1) := by decide +kernel
theorem dL_law_191 : decode cL_law 191 = .ok (.iaload, 1) := by decide +kernel
theorem dL_law_192 : decode cL_law 192 = .ok (.aload_n 0, 1) := by decide +kernel
theorem dL_law_193 : decode cL_law 193 = .ok (.iload 4, 2) := by decide +kernel
theorem dL_law_195 : decode cL_law 195 = .ok (.iconst 2, 1) := by decide +kernel
theorem dL_law_196 : decode cL_law 196 = .ok (.iadd, 1) := by decide +kernel
theorem dL_law_197 : decode cL_law 197 = .ok (.iaload, 1) := by decide +kernel
theorem dL_law_198 : decode cL_law 198 = .ok (.aload_n 0, 1) := by decide +kernel
theorem dL_law_199 : decode cL_law 199 = .ok (.iload 4, 2) := by decide +kernel
theorem dL_law_201 : decode cL_law 201 = .ok (.iconst 3, 1) := by decide +kernel
theorem dL_law_202 : decode cL_law 202 = .ok (.iadd, 1) := by decide +kernel
theorem dL_law_203 : decode cL_law 203 = .ok (.iaload, 1) := by decide +kernel
theorem dL_law_204 : decode cL_law 204 = .ok (.invokevirtual 66, 3) := by decide +kernel
theorem dL_law_207 : decode cL_law 207 = .ok (.istore 6, 2) := by decide +kernel
theorem dL_law_209 : decode cL_law 209 = .ok (.aload_n 2, 1) := by decide +kernel
theorem dL_law_210 : decode cL_law 210 = .ok (.invokevirtual 59, 3) := by decide +kernel
theorem dL_law_213 : decode cL_law 213 = .ok (.iload 5, 2) := by decide +kernel
theorem dL_law_215 : decode cL_law 215 = .ok (.if_icmp .eq 5, 3) := by decide +kernel
theorem dL_law_218 : decode cL_law 218 = .ok (.iconst 0, 1) := by decide +kernel
theorem dL_law_219 : decode cL_law 219 = .ok (.ireturn, 1) := by decide +kernel
theorem dL_law_220 : decode cL_law 220 = .ok (.iload 5, 2) := by decide +kernel
theorem dL_law_222 : decode cL_law 222 = .ok (.ifCond .ne 22, 3) := by decide +kernel
theorem dL_law_225 : decode cL_law 225 = .ok (.aload_n 3, 1) := by decide +kernel
theorem dL_law_226 : decode cL_law 226 = .ok (.iconst 0, 1) := by decide +kernel
theorem dL_law_227 : decode cL_law 227 = .ok (.laload, 1) := by decide +kernel
theorem dL_law_228 : decode cL_law 228 = .ok (.iload 6, 2) := by decide +kernel
theorem dL_law_230 : decode cL_law 230 = .ok (.ifCond .eq 7, 3) := by decide +kernel
theorem dL_law_233 : decode cL_law 233 = .ok (.lconst 1, 1) := by decide +kernel
theorem dL_law_234 : decode cL_law 234 = .ok (.goto 4, 3) := by decide +kernel
theorem dL_law_237 : decode cL_law 237 = .ok (.lconst 0, 1) := by decide +kernel
theorem dL_law_238 : decode cL_law 238 = .ok (.lcmp, 1) := by decide +kernel
theorem dL_law_239 : decode cL_law 239 = .ok (.ifCond .eq 5, 3) := by decide +kernel
theorem dL_law_242 : decode cL_law 242 = .ok (.iconst 0, 1) := by decide +kernel
theorem dL_law_243 : decode cL_law 243 = .ok (.ireturn, 1) := by decide +kernel
theorem dL_law_244 : decode cL_law 244 = .ok (.goto 612, 3) := by decide +kernel
theorem dL_law_247 : decode cL_law 247 = .ok (.aload_n 1, 1) := by decide +kernel
theorem dL_law_248 : decode cL_law 248 = .ok (.aload_n 0, 1) := by decide +kernel
theorem dL_law_249 : decode cL_law 249 = .ok (.iload 4, 2) := by decide +kernel
theorem dL_law_251 : decode cL_law 251 = .ok (.iconst 1, 1) := by decide +kernel
theorem dL_law_252 : decode cL_law 252 = .ok (.iadd, 1) := by decide +kernel
theorem dL_law_253 : decode cL_law 253 = .ok (.iaload, 1) := by decide +kernel
theorem dL_law_254 : decode cL_law 254 = .ok (.aload_n 0, 1) := by decide +kernel
theorem dL_law_255 : decode cL_law 255 = .ok (.iload 4, 2) := by decide +kernel
theorem dL_law_257 : decode cL_law 257 = .ok (.iconst 2, 1) := by decide +kernel
theorem dL_law_258 : decode cL_law 258 = .ok (.iadd, 1) := by decide +kernel
theorem dL_law_259 : decode cL_law 259 = .ok (.iaload, 1) := by decide +kernel
theorem dL_law_260 : decode cL_law 260 = .ok (.invokestatic 67, 3) := by decide +kernel
theorem dL_law_263 : decode cL_law 263 = .ok (.istore 5, 2) := by decide +kernel
theorem dL_law_265 : decode cL_law 265 = .ok (.aload_n 2, 1) := by decide +kernel
theorem dL_law_266 : decode cL_law 266 = .ok (.aload_n 0, 1) := by decide +kernel
theorem dL_law_267 : decode cL_law 267 = .ok (.iload 4, 2) := by decide +kernel
theorem dL_law_269 : decode cL_law 269 = .ok (.iconst 1, 1) := by decide +kernel
theorem dL_law_270 : decode cL_law 270 = .ok (.iadd, 1) := by decide +kernel
theorem dL_law_271 : decode cL_law 271 = .ok (.iaload, 1) := by decide +kernel
theorem dL_law_272 : decode cL_law 272 = .ok (.aload_n 0, 1) := by decide +kernel
theorem dL_law_273 : decode cL_law 273 = .ok (.iload 4, 2) := by decide +kernel
theorem dL_law_275 : decode cL_law 275 = .ok (.iconst 2, 1) := by decide +kernel
theorem dL_law_276 : decode cL_law 276 = .ok (.iadd, 1) := by decide +kernel
theorem dL_law_277 : decode cL_law 277 = .ok (.iaload, 1) := by decide +kernel
theorem dL_law_278 : decode cL_law 278 = .ok (.invokevirtual 69, 3) := by decide +kernel
theorem dL_law_281 : decode cL_law 281 = .ok (.aload_n 2, 1) := by decide +kernel
theorem dL_law_282 : decode cL_law 282 = .ok (.invokevirtual 59, 3) := by decide +kernel
theorem dL_law_285 : decode cL_law 285 = .ok (.iload 5, 2) := by decide +kernel
theorem dL_law_287 : decode cL_law 287 = .ok (.if_icmp .eq 5, 3) := by decide +kernel
theorem dL_law_290 : decode cL_law 290 = .ok (.iconst 0, 1) := by decide +kernel
theorem dL_law_291 : decode cL_law 291 = .ok (.ireturn, 1) := by decide +kernel
theorem dL_law_292 : decode cL_law 292 = .ok (.goto 564, 3) := by decide +kernel
theorem dL_law_295 : decode cL_law 295 = .ok (.aload_n 1, 1) := by decide +kernel
theorem dL_law_296 : decode cL_law 296 = .ok (.aload_n 0, 1) := by decide +kernel
theorem dL_law_297 : decode cL_law 297 = .ok (.iload 4, 2) := by decide +kernel
theorem dL_law_299 : decode cL_law 299 = .ok (.iconst 1, 1) := by decide +kernel
theorem dL_law_300 : decode cL_law 300 = .ok (.iadd, 1) := by decide +kernel
theorem dL_law_301 : decode cL_law 301 = .ok (.iaload, 1) := by decide +kernel
theorem dL_law_302 : decode cL_law 302 = .ok (.invokestatic 70, 3) := by decide +kernel
theorem dL_law_305 : decode cL_law 305 = .ok (.istore 5, 2) := by decide +kernel
theorem dL_law_307 : decode cL_law 307 = .ok (.aload_n 2, 1) := by decide +kernel
theorem dL_law_308 : decode cL_law 308 = .ok (.aload_n 0, 1) := by decide +kernel
theorem dL_law_309 : decode cL_law 309 = .ok (.iload 4, 2) := by decide +kernel
theorem dL_law_311 : decode cL_law 311 = .ok (.iconst 1, 1) := by decide +kernel
theorem dL_law_312 : decode cL_law 312 = .ok (.iadd, 1) := by decide +kernel
theorem dL_law_313 : decode cL_law 313 = .ok (.iaload, 1) := by decide +kernel
theorem dL_law_314 : decode cL_law 314 = .ok (.invokevirtual 73, 3) := by decide +kernel
theorem dL_law_317 : decode cL_law 317 = .ok (.aload_n 2, 1) := by decide +kernel
theorem dL_law_318 : decode cL_law 318 = .ok (.invokevirtual 59, 3) := by decide +kernel
theorem dL_law_321 : decode cL_law 321 = .ok (.iload 5, 2) := by decide +kernel
theorem dL_law_323 : decode cL_law 323 = .ok (.if_icmp .eq 5, 3) := by decide +kernel
theorem dL_law_326 : decode cL_law 326 = .ok (.iconst 0, 1) := by decide +kernel
theorem dL_law_327 : decode cL_law 327 = .ok (.ireturn, 1) := by decide +kernel
theorem dL_law_328 : decode cL_law 328 = .ok (.goto 528, 3) := by decide +kernel
theorem dL_law_331 : decode cL_law 331 = .ok (.aload_n 1, 1) := by decide +kernel
theorem dL_law_332 : decode cL_law 332 = .ok (.aload_n 0, 1) := by decide +kernel
theorem dL_law_333 : decode cL_law 333 = .ok (.iload 4, 2) := by decide +kernel
theorem dL_law_335 : decode cL_law 335 = .ok (.iconst 1, 1) := by decide +kernel
theorem dL_law_336 : decode cL_law 336 = .ok (.iadd, 1) := by decide +kernel
theorem dL_law_337 : decode cL_law 337 = .ok (.iaload, 1) := by decide +kernel
theorem dL_law_338 : decode cL_law 338 = .ok (.aload_n 0, 1) := by decide +kernel
theorem dL_law_339 : decode cL_law 339 = .ok (.iload 4, 2) := by decide +kernel
theorem dL_law_341 : decode cL_law 341 = .ok (.iconst 2, 1) := by decide +kernel
theorem dL_law_342 : decode cL_law 342 = .ok (.iadd, 1) := by decide +kernel
theorem dL_law_343 : decode cL_law 343 = .ok (.iaload, 1) := by decide +kernel
theorem dL_law_344 : decode cL_law 344 = .ok (.aload_n 0, 1) := by decide +kernel
theorem dL_law_345 : decode cL_law 345 = .ok (.iload 4, 2) := by decide +kernel
theorem dL_law_347 : decode cL_law 347 = .ok (.iconst 3, 1) := by decide +kernel
theorem dL_law_348 : decode cL_law 348 = .ok (.iadd, 1) := by decide +kernel
theorem dL_law_349 : decode cL_law 349 = .ok (.iaload, 1) := by decide +kernel
theorem dL_law_350 : decode cL_law 350 = .ok (.invokestatic 74, 3) := by decide +kernel
theorem dL_law_353 : decode cL_law 353 = .ok (.istore 5, 2) := by decide +kernel
theorem dL_law_355 : decode cL_law 355 = .ok (.aload_n 2, 1) := by decide +kernel
theorem dL_law_356 : decode cL_law 356 = .ok (.aload_n 0, 1) := by decide +kernel
theorem dL_law_357 : decode cL_law 357 = .ok (.iload 4, 2) := by decide +kernel
theorem dL_law_359 : decode cL_law 359 = .ok (.iconst 1, 1) := by decide +kernel
theorem dL_law_360 : decode cL_law 360 = .ok (.iadd, 1) := by decide +kernel
theorem dL_law_361 : decode cL_law 361 = .ok (.iaload, 1) := by decide +kernel
theorem dL_law_362 : decode cL_law 362 = .ok (.aload_n 0, 1) := by decide +kernel
theorem dL_law_363 : decode cL_law 363 = .ok (.iload 4, 2) := by decide +kernel
theorem dL_law_365 : decode cL_law 365 = .ok (.iconst 2, 1) := by decide +kernel
theorem dL_law_366 : decode cL_law 366 = .ok (.iadd, 1) := by decide +kernel
theorem dL_law_367 : decode cL_law 367 = .ok (.iaload, 1) := by decide +kernel
theorem dL_law_368 : decode cL_law 368 = .ok (.aload_n 0, 1) := by decide +kernel
theorem dL_law_369 : decode cL_law 369 = .ok (.iload 4, 2) := by decide +kernel
theorem dL_law_371 : decode cL_law 371 = .ok (.iconst 3, 1) := by decide +kernel
theorem dL_law_372 : decode cL_law 372 = .ok (.iadd, 1) := by decide +kernel
theorem dL_law_373 : decode cL_law 373 = .ok (.iaload, 1) := by decide +kernel
theorem dL_law_374 : decode cL_law 374 = .ok (.invokevirtual 77, 3) := by decide +kernel
theorem dL_law_377 : decode cL_law 377 = .ok (.aload_n 2, 1) := by decide +kernel
theorem dL_law_378 : decode cL_law 378 = .ok (.invokevirtual 59, 3) := by decide +kernel
theorem dL_law_381 : decode cL_law 381 = .ok (.iload 5, 2) := by decide +kernel
theorem dL_law_383 : decode cL_law 383 = .ok (.if_icmp .eq 5, 3) := by decide +kernel
theorem dL_law_386 : decode cL_law 386 = .ok (.iconst 0, 1) := by decide +kernel
theorem dL_law_387 : decode cL_law 387 = .ok (.ireturn, 1) := by decide +kernel
theorem dL_law_388 : decode cL_law 388 = .ok (.goto 468, 3) := by decide +kernel
theorem dL_law_391 : decode cL_law 391 = .ok (.aload_n 1, 1) := by decide +kernel
theorem dL_law_392 : decode cL_law 392 = .ok (.aload_n 0, 1) := by decide +kernel
theorem dL_law_393 : decode cL_law 393 = .ok (.iload 4, 2) := by decide +kernel
theorem dL_law_395 : decode cL_law 395 = .ok (.iconst 1, 1) := by decide +kernel
theorem dL_law_396 : decode cL_law 396 = .ok (.iadd, 1) := by decide +kernel
theorem dL_law_397 : decode cL_law 397 = .ok (.iaload, 1) := by decide +kernel
theorem dL_law_398 : decode cL_law 398 = .ok (.aload_n 0, 1) := by decide +kernel
theorem dL_law_399 : decode cL_law 399 = .ok (.iload 4, 2) := by decide +kernel
theorem dL_law_401 : decode cL_law 401 = .ok (.iconst 2, 1) := by decide +kernel
theorem dL_law_402 : decode cL_law 402 = .ok (.iadd, 1) := by decide +kernel
theorem dL_law_403 : decode cL_law 403 = .ok (.iaload, 1) := by decide +kernel
theorem dL_law_404 : decode cL_law 404 = .ok (.aload_n 0, 1) := by decide +kernel
theorem dL_law_405 : decode cL_law 405 = .ok (.iload 4, 2) := by decide +kernel
theorem dL_law_407 : decode cL_law 407 = .ok (.iconst 3, 1) := by decide +kernel
theorem dL_law_408 : decode cL_law 408 = .ok (.iadd, 1) := by decide +kernel
theorem dL_law_409 : decode cL_law 409 = .ok (.iaload, 1) := by decide +kernel
theorem dL_law_410 : decode cL_law 410 = .ok (.aload_n 3, 1) := by decide +kernel
theorem dL_law_411 : decode cL_law 411 = .ok (.invokestatic 78, 3) := by decide +kernel
theorem dL_law_414 : decode cL_law 414 = .ok (.istore 5, 2) := by decide +kernel
theorem dL_law_416 : decode cL_law 416 = .ok (.aload_n 2, 1) := by decide +kernel
theorem dL_law_417 : decode cL_law 417 = .ok (.aload_n 0, 1) := by decide +kernel
theorem dL_law_418 : decode cL_law 418 = .ok (.iload 4, 2) := by decide +kernel
theorem dL_law_420 : decode cL_law 420 = .ok (.iconst 1, 1) := by decide +kernel
theorem dL_law_421 : decode cL_law 421 = .ok (.iadd, 1) := by decide +kernel
theorem dL_law_422 : decode cL_law 422 = .ok (.iaload, 1) := by decide +kernel
theorem dL_law_423 : decode cL_law 423 = .ok (.aload_n 0, 1) := by decide +kernel
theorem dL_law_424 : decode cL_law 424 = .ok (.iload 4, 2) := by decide +kernel
theorem dL_law_426 : decode cL_law 426 = .ok (.iconst 2, 1) := by decide +kernel
theorem dL_law_427 : decode cL_law 427 = .ok (.iadd, 1) := by decide +kernel
theorem dL_law_428 : decode cL_law 428 = .ok (.iaload, 1) := by decide +kernel
theorem dL_law_429 : decode cL_law 429 = .ok (.aload_n 0, 1) := by decide +kernel
theorem dL_law_430 : decode cL_law 430 = .ok (.iload 4, 2) := by decide +kernel
theorem dL_law_432 : decode cL_law 432 = .ok (.iconst 3, 1) := by decide +kernel
theorem dL_law_433 : decode cL_law 433 = .ok (.iadd, 1) := by decide +kernel
theorem dL_law_434 : decode cL_law 434 = .ok (.iaload, 1) := by decide +kernel
theorem dL_law_435 : decode cL_law 435 = .ok (.invokevirtual 80, 3) := by decide +kernel
theorem dL_law_438 : decode cL_law 438 = .ok (.istore 6, 2) := by decide +kernel
theorem dL_law_440 : decode cL_law 440 = .ok (.aload_n 2, 1) := by decide +kernel
theorem dL_law_441 : decode cL_law 441 = .ok (.invokevirtual 59, 3) := by decide +kernel
theorem dL_law_444 : decode cL_law 444 = .ok (.iload 5, 2) := by decide +kernel
theorem dL_law_446 : decode cL_law 446 = .ok (.if_icmp .eq 5, 3) := by decide +kernel
theorem dL_law_449 : decode cL_law 449 = .ok (.iconst 0, 1) := by decide +kernel
theorem dL_law_450 : decode cL_law 450 = .ok (.ireturn, 1) := by decide +kernel
theorem dL_law_451 : decode cL_law 451 = .ok (.iload 5, 2) := by decide +kernel
theorem dL_law_453 : decode cL_law 453 = .ok (.ifCond .ne 15, 3) := by decide +kernel
theorem dL_law_456 : decode cL_law 456 = .ok (.aload_n 3, 1) := by decide +kernel
theorem dL_law_457 : decode cL_law 457 = .ok (.iconst 0, 1) := by decide +kernel
theorem dL_law_458 : decode cL_law 458 = .ok (.laload, 1) := by decide +kernel
theorem dL_law_459 : decode cL_law 459 = .ok (.iload 6, 2) := by decide +kernel
theorem dL_law_461 : decode cL_law 461 = .ok (.i2l, 1) := by decide +kernel
theorem dL_law_462 : decode cL_law 462 = .ok (.lcmp, 1) := by decide +kernel
theorem dL_law_463 : decode cL_law 463 = .ok (.ifCond .eq 5, 3) := by decide +kernel
theorem dL_law_466 : decode cL_law 466 = .ok (.iconst 0, 1) := by decide +kernel
theorem dL_law_467 : decode cL_law 467 = .ok (.ireturn, 1) := by decide +kernel
theorem dL_law_468 : decode cL_law 468 = .ok (.goto 388, 3) := by decide +kernel
theorem dL_law_471 : decode cL_law 471 = .ok (.aload_n 1, 1) := by decide +kernel
theorem dL_law_472 : decode cL_law 472 = .ok (.aload_n 0, 1) := by decide +kernel
theorem dL_law_473 : decode cL_law 473 = .ok (.iload 4, 2) := by decide +kernel
theorem dL_law_475 : decode cL_law 475 = .ok (.iconst 1, 1) := by decide +kernel
theorem dL_law_476 : decode cL_law 476 = .ok (.iadd, 1) := by decide +kernel
theorem dL_law_477 : decode cL_law 477 = .ok (.iaload, 1) := by decide +kernel
theorem dL_law_478 : decode cL_law 478 = .ok (.aload_n 0, 1) := by decide +kernel
theorem dL_law_479 : decode cL_law 479 = .ok (.iload 4, 2) := by decide +kernel
theorem dL_law_481 : decode cL_law 481 = .ok (.iconst 2, 1) := by decide +kernel
theorem dL_law_482 : decode cL_law 482 = .ok (.iadd, 1) := by decide +kernel
theorem dL_law_483 : decode cL_law 483 = .ok (.iaload, 1) := by decide +kernel
theorem dL_law_484 : decode cL_law 484 = .ok (.aload_n 0, 1) := by decide +kernel
theorem dL_law_485 : decode cL_law 485 = .ok (.iload 4, 2) := by decide +kernel
theorem dL_law_487 : decode cL_law 487 = .ok (.iconst 3, 1) := by decide +kernel
theorem dL_law_488 : decode cL_law 488 = .ok (.iadd, 1) := by decide +kernel
theorem dL_law_489 : decode cL_law 489 = .ok (.iaload, 1) := by decide +kernel
theorem dL_law_490 : decode cL_law 490 = .ok (.aload_n 3, 1) := by decide +kernel
theorem dL_law_491 : decode cL_law 491 = .ok (.invokestatic 81, 3) := by decide +kernel
theorem dL_law_494 : decode cL_law 494 = .ok (.istore 5, 2) := by decide +kernel
theorem dL_law_496 : decode cL_law 496 = .ok (.aload_n 2, 1) := by decide +kernel
theorem dL_law_497 : decode cL_law 497 = .ok (.aload_n 0, 1) := by decide +kernel
theorem dL_law_498 : decode cL_law 498 = .ok (.iload 4, 2) := by decide +kernel
theorem dL_law_500 : decode cL_law 500 = .ok (.iconst 1, 1) := by decide +kernel
theorem dL_law_501 : decode cL_law 501 = .ok (.iadd, 1) := by decide +kernel
theorem dL_law_502 : decode cL_law 502 = .ok (.iaload, 1) := by decide +kernel
theorem dL_law_503 : decode cL_law 503 = .ok (.aload_n 0, 1) := by decide +kernel
theorem dL_law_504 : decode cL_law 504 = .ok (.iload 4, 2) := by decide +kernel
theorem dL_law_506 : decode cL_law 506 = .ok (.iconst 2, 1) := by decide +kernel
theorem dL_law_507 : decode cL_law 507 = .ok (.iadd, 1) := by decide +kernel
theorem dL_law_508 : decode cL_law 508 = .ok (.iaload, 1) := by decide +kernel
theorem dL_law_509 : decode cL_law 509 = .ok (.aload_n 0, 1) := by decide +kernel
theorem dL_law_510 : decode cL_law 510 = .ok (.iload 4, 2) := by decide +kernel
theorem dL_law_512 : decode cL_law 512 = .ok (.iconst 3, 1) := by decide +kernel
theorem dL_law_513 : decode cL_law 513 = .ok (.iadd, 1) := by decide +kernel
theorem dL_law_514 : decode cL_law 514 = .ok (.iaload, 1) := by decide +kernel
theorem dL_law_515 : decode cL_law 515 = .ok (.invokevirtual 83, 3) := by decide +kernel
theorem dL_law_518 : decode cL_law 518 = .ok (.istore 6, 2) := by decide +kernel
theorem dL_law_520 : decode cL_law 520 = .ok (.aload_n 2, 1) := by decide +kernel
theorem dL_law_521 : decode cL_law 521 = .ok (.invokevirtual 59, 3) := by decide +kernel
theorem dL_law_524 : decode cL_law 524 = .ok (.iload 5, 2) := by decide +kernel
theorem dL_law_526 : decode cL_law 526 = .ok (.if_icmp .eq 5, 3) := by decide +kernel
theorem dL_law_529 : decode cL_law 529 = .ok (.iconst 0, 1) := by decide +kernel
theorem dL_law_530 : decode cL_law 530 = .ok (.ireturn, 1) := by decide +kernel
theorem dL_law_531 : decode cL_law 531 = .ok (.iload 5, 2) := by decide +kernel
theorem dL_law_533 : decode cL_law 533 = .ok (.ifCond .ne 15, 3) := by decide +kernel
theorem dL_law_536 : decode cL_law 536 = .ok (.aload_n 3, 1) := by decide +kernel
theorem dL_law_537 : decode cL_law 537 = .ok (.iconst 0, 1) := by decide +kernel
theorem dL_law_538 : decode cL_law 538 = .ok (.laload, 1) := by decide +kernel
theorem dL_law_539 : decode cL_law 539 = .ok (.iload 6, 2) := by decide +kernel
theorem dL_law_541 : decode cL_law 541 = .ok (.i2l, 1) := by decide +kernel
theorem dL_law_542 : decode cL_law 542 = .ok (.lcmp, 1) := by decide +kernel
theorem dL_law_543 : decode cL_law 543 = .ok (.ifCond .eq 5, 3) := by decide +kernel
theorem dL_law_546 : decode cL_law 546 = .ok (.iconst 0, 1) := by decide +kernel
theorem dL_law_547 : decode cL_law 547 = .ok (.ireturn, 1) := by decide +kernel
theorem dL_law_548 : decode cL_law 548 = .ok (.goto 308, 3) := by decide +kernel
theorem dL_law_551 : decode cL_law 551 = .ok (.aload_n 1, 1) := by decide +kernel
theorem dL_law_552 : decode cL_law 552 = .ok (.aload_n 0, 1) := by decide +kernel
theorem dL_law_553 : decode cL_law 553 = .ok (.iload 4, 2) := by decide +kernel
theorem dL_law_555 : decode cL_law 555 = .ok (.iconst 1, 1) := by decide +kernel
theorem dL_law_556 : decode cL_law 556 = .ok (.iadd, 1) := by decide +kernel
theorem dL_law_557 : decode cL_law 557 = .ok (.iaload, 1) := by decide +kernel
theorem dL_law_558 : decode cL_law 558 = .ok (.aload_n 0, 1) := by decide +kernel
theorem dL_law_559 : decode cL_law 559 = .ok (.iload 4, 2) := by decide +kernel
theorem dL_law_561 : decode cL_law 561 = .ok (.iconst 2, 1) := by decide +kernel
theorem dL_law_562 : decode cL_law 562 = .ok (.iadd, 1) := by decide +kernel
theorem dL_law_563 : decode cL_law 563 = .ok (.iaload, 1) := by decide +kernel
theorem dL_law_564 : decode cL_law 564 = .ok (.aload_n 3, 1) := by decide +kernel
theorem dL_law_565 : decode cL_law 565 = .ok (.invokestatic 84, 3) := by decide +kernel
theorem dL_law_568 : decode cL_law 568 = .ok (.istore 5, 2) := by decide +kernel
theorem dL_law_570 : decode cL_law 570 = .ok (.aload_n 2, 1) := by decide +kernel
theorem dL_law_571 : decode cL_law 571 = .ok (.aload_n 0, 1) := by decide +kernel
theorem dL_law_572 : decode cL_law 572 = .ok (.iload 4, 2) := by decide +kernel
theorem dL_law_574 : decode cL_law 574 = .ok (.iconst 1, 1) := by decide +kernel
theorem dL_law_575 : decode cL_law 575 = .ok (.iadd, 1) := by decide +kernel
theorem dL_law_576 : decode cL_law 576 = .ok (.iaload, 1) := by decide +kernel
theorem dL_law_577 : decode cL_law 577 = .ok (.aload_n 0, 1) := by decide +kernel
theorem dL_law_578 : decode cL_law 578 = .ok (.iload 4, 2) := by decide +kernel
theorem dL_law_580 : decode cL_law 580 = .ok (.iconst 2, 1) := by decide +kernel
theorem dL_law_581 : decode cL_law 581 = .ok (.iadd, 1) := by decide +kernel
theorem dL_law_582 : decode cL_law 582 = .ok (.iaload, 1) := by decide +kernel
theorem dL_law_583 : decode cL_law 583 = .ok (.invokevirtual 87, 3) := by decide +kernel
theorem dL_law_586 : decode cL_law 586 = .ok (.istore 6, 2) := by decide +kernel
theorem dL_law_588 : decode cL_law 588 = .ok (.aload_n 2, 1) := by decide +kernel
theorem dL_law_589 : decode cL_law 589 = .ok (.invokevirtual 59, 3) := by decide +kernel
theorem dL_law_592 : decode cL_law 592 = .ok (.iload 5, 2) := by decide +kernel
theorem dL_law_594 : decode cL_law 594 = .ok (.if_icmp .eq 5, 3) := by decide +kernel
theorem dL_law_597 : decode cL_law 597 = .ok (.iconst 0, 1) := by decide +kernel
theorem dL_law_598 : decode cL_law 598 = .ok (.ireturn, 1) := by decide +kernel
theorem dL_law_599 : decode cL_law 599 = .ok (.iload 5, 2) := by decide +kernel
theorem dL_law_601 : decode cL_law 601 = .ok (.ifCond .ne 15, 3) := by decide +kernel
theorem dL_law_604 : decode cL_law 604 = .ok (.aload_n 3, 1) := by decide +kernel
theorem dL_law_605 : decode cL_law 605 = .ok (.iconst 0, 1) := by decide +kernel
theorem dL_law_606 : decode cL_law 606 = .ok (.laload, 1) := by decide +kernel
theorem dL_law_607 : decode cL_law 607 = .ok (.iload 6, 2) := by decide +kernel
theorem dL_law_609 : decode cL_law 609 = .ok (.i2l, 1) := by decide +kernel
theorem dL_law_610 : decode cL_law 610 = .ok (.lcmp, 1) := by decide +kernel
theorem dL_law_611 : decode cL_law 611 = .ok (.ifCond .eq 5, 3) := by decide +kernel
theorem dL_law_614 : decode cL_law 614 = .ok (.iconst 0, 1) := by decide +kernel
theorem dL_law_615 : decode cL_law 615 = .ok (.ireturn, 1) := by decide +kernel
theorem dL_law_616 : decode cL_law 616 = .ok (.goto 240, 3) := by decide +kernel
theorem dL_law_619 : decode cL_law 619 = .ok (.aload_n 1, 1) := by decide +kernel
theorem dL_law_620 : decode cL_law 620 = .ok (.aload_n 0, 1) := by decide +kernel
theorem dL_law_621 : decode cL_law 621 = .ok (.iload 4, 2) := by decide +kernel
theorem dL_law_623 : decode cL_law 623 = .ok (.iconst 1, 1) := by decide +kernel
theorem dL_law_624 : decode cL_law 624 = .ok (.iadd, 1) := by decide +kernel
theorem dL_law_625 : decode cL_law 625 = .ok (.iaload, 1) := by decide +kernel
theorem dL_law_626 : decode cL_law 626 = .ok (.aload_n 0, 1) := by decide +kernel
theorem dL_law_627 : decode cL_law 627 = .ok (.iload 4, 2) := by decide +kernel
theorem dL_law_629 : decode cL_law 629 = .ok (.iconst 2, 1) := by decide +kernel
theorem dL_law_630 : decode cL_law 630 = .ok (.iadd, 1) := by decide +kernel
theorem dL_law_631 : decode cL_law 631 = .ok (.iaload, 1) := by decide +kernel
theorem dL_law_632 : decode cL_law 632 = .ok (.aload_n 3, 1) := by decide +kernel
theorem dL_law_633 : decode cL_law 633 = .ok (.invokestatic 88, 3) := by decide +kernel
theorem dL_law_636 : decode cL_law 636 = .ok (.istore 5, 2) := by decide +kernel
theorem dL_law_638 : decode cL_law 638 = .ok (.aload_n 2, 1) := by decide +kernel
theorem dL_law_639 : decode cL_law 639 = .ok (.aload_n 0, 1) := by decide +kernel
theorem dL_law_640 : decode cL_law 640 = .ok (.iload 4, 2) := by decide +kernel
theorem dL_law_642 : decode cL_law 642 = .ok (.iconst 1, 1) := by decide +kernel
theorem dL_law_643 : decode cL_law 643 = .ok (.iadd, 1) := by decide +kernel
theorem dL_law_644 : decode cL_law 644 = .ok (.iaload, 1) := by decide +kernel
theorem dL_law_645 : decode cL_law 645 = .ok (.aload_n 0, 1) := by decide +kernel
theorem dL_law_646 : decode cL_law 646 = .ok (.iload 4, 2) := by decide +kernel
theorem dL_law_648 : decode cL_law 648 = .ok (.iconst 2, 1) := by decide +kernel
theorem dL_law_649 : decode cL_law 649 = .ok (.iadd, 1) := by decide +kernel
theorem dL_law_650 : decode cL_law 650 = .ok (.iaload, 1) := by decide +kernel
theorem dL_law_651 : decode cL_law 651 = .ok (.invokevirtual 90, 3) := by decide +kernel
theorem dL_law_654 : decode cL_law 654 = .ok (.istore 6, 2) := by decide +kernel
theorem dL_law_656 : decode cL_law 656 = .ok (.aload_n 2, 1) := by decide +kernel
theorem dL_law_657 : decode cL_law 657 = .ok (.invokevirtual 59, 3) := by decide +kernel
theorem dL_law_660 : decode cL_law 660 = .ok (.iload 5, 2) := by decide +kernel
theorem dL_law_662 : decode cL_law 662 = .ok (.if_icmp .eq 5, 3) := by decide +kernel
theorem dL_law_665 : decode cL_law 665 = .ok (.iconst 0, 1) := by decide +kernel
theorem dL_law_666 : decode cL_law 666 = .ok (.ireturn, 1) := by decide +kernel
theorem dL_law_667 : decode cL_law 667 = .ok (.iload 5, 2) := by decide +kernel
theorem dL_law_669 : decode cL_law 669 = .ok (.ifCond .ne 22, 3) := by decide +kernel
theorem dL_law_672 : decode cL_law 672 = .ok (.aload_n 3, 1) := by decide +kernel
theorem dL_law_673 : decode cL_law 673 = .ok (.iconst 0, 1) := by decide +kernel
theorem dL_law_674 : decode cL_law 674 = .ok (.laload, 1) := by decide +kernel
theorem dL_law_675 : decode cL_law 675 = .ok (.iload 6, 2) := by decide +kernel
theorem dL_law_677 : decode cL_law 677 = .ok (.ifCond .eq 7, 3) := by decide +kernel
theorem dL_law_680 : decode cL_law 680 = .ok (.lconst 1, 1) := by decide +kernel
theorem dL_law_681 : decode cL_law 681 = .ok (.goto 4, 3) := by decide +kernel
theorem dL_law_684 : decode cL_law 684 = .ok (.lconst 0, 1) := by decide +kernel
theorem dL_law_685 : decode cL_law 685 = .ok (.lcmp, 1) := by decide +kernel
theorem dL_law_686 : decode cL_law 686 = .ok (.ifCond .eq 5, 3) := by decide +kernel
theorem dL_law_689 : decode cL_law 689 = .ok (.iconst 0, 1) := by decide +kernel
theorem dL_law_690 : decode cL_law 690 = .ok (.ireturn, 1) := by decide +kernel
theorem dL_law_691 : decode cL_law 691 = .ok (.goto 165, 3) := by decide +kernel
theorem dL_law_694 : decode cL_law 694 = .ok (.aload_n 1, 1) := by decide +kernel
theorem dL_law_695 : decode cL_law 695 = .ok (.invokevirtual 91, 3) := by decide +kernel
theorem dL_law_698 : decode cL_law 698 = .ok (.aload_n 2, 1) := by decide +kernel
theorem dL_law_699 : decode cL_law 699 = .ok (.invokevirtual 94, 3) := by decide +kernel
theorem dL_law_702 : decode cL_law 702 = .ok (.if_icmp .eq 154, 3) := by decide +kernel
theorem dL_law_705 : decode cL_law 705 = .ok (.iconst 0, 1) := by decide +kernel
theorem dL_law_706 : decode cL_law 706 = .ok (.ireturn, 1) := by decide +kernel
theorem dL_law_707 : decode cL_law 707 = .ok (.aload_n 1, 1) := by decide +kernel
theorem dL_law_708 : decode cL_law 708 = .ok (.aload_n 0, 1) := by decide +kernel
theorem dL_law_709 : decode cL_law 709 = .ok (.iload 4, 2) := by decide +kernel
theorem dL_law_711 : decode cL_law 711 = .ok (.iconst 1, 1) := by decide +kernel
theorem dL_law_712 : decode cL_law 712 = .ok (.iadd, 1) := by decide +kernel
theorem dL_law_713 : decode cL_law 713 = .ok (.iaload, 1) := by decide +kernel
theorem dL_law_714 : decode cL_law 714 = .ok (.invokevirtual 95, 3) := by decide +kernel
theorem dL_law_717 : decode cL_law 717 = .ok (.aload_n 2, 1) := by decide +kernel
theorem dL_law_718 : decode cL_law 718 = .ok (.aload_n 0, 1) := by decide +kernel
theorem dL_law_719 : decode cL_law 719 = .ok (.iload 4, 2) := by decide +kernel
theorem dL_law_721 : decode cL_law 721 = .ok (.iconst 1, 1) := by decide +kernel
theorem dL_law_722 : decode cL_law 722 = .ok (.iadd, 1) := by decide +kernel
theorem dL_law_723 : decode cL_law 723 = .ok (.iaload, 1) := by decide +kernel
theorem dL_law_724 : decode cL_law 724 = .ok (.invokevirtual 99, 3) := by decide +kernel
theorem dL_law_727 : decode cL_law 727 = .ok (.if_icmp .eq 129, 3) := by decide +kernel
theorem dL_law_730 : decode cL_law 730 = .ok (.iconst 0, 1) := by decide +kernel
theorem dL_law_731 : decode cL_law 731 = .ok (.ireturn, 1) := by decide +kernel
theorem dL_law_732 : decode cL_law 732 = .ok (.aload_n 1, 1) := by decide +kernel
theorem dL_law_733 : decode cL_law 733 = .ok (.aload_n 0, 1) := by decide +kernel
theorem dL_law_734 : decode cL_law 734 = .ok (.iload 4, 2) := by decide +kernel
theorem dL_law_736 : decode cL_law 736 = .ok (.iconst 1, 1) := by decide +kernel
theorem dL_law_737 : decode cL_law 737 = .ok (.iadd, 1) := by decide +kernel
theorem dL_law_738 : decode cL_law 738 = .ok (.iaload, 1) := by decide +kernel
theorem dL_law_739 : decode cL_law 739 = .ok (.invokevirtual 100, 3) := by decide +kernel
theorem dL_law_742 : decode cL_law 742 = .ok (.aload_n 2, 1) := by decide +kernel
theorem dL_law_743 : decode cL_law 743 = .ok (.aload_n 0, 1) := by decide +kernel
theorem dL_law_744 : decode cL_law 744 = .ok (.iload 4, 2) := by decide +kernel
theorem dL_law_746 : decode cL_law 746 = .ok (.iconst 1, 1) := by decide +kernel
theorem dL_law_747 : decode cL_law 747 = .ok (.iadd, 1) := by decide +kernel
theorem dL_law_748 : decode cL_law 748 = .ok (.iaload, 1) := by decide +kernel
theorem dL_law_749 : decode cL_law 749 = .ok (.invokevirtual 103, 3) := by decide +kernel
theorem dL_law_752 : decode cL_law 752 = .ok (.if_icmp .eq 104, 3) := by decide +kernel
theorem dL_law_755 : decode cL_law 755 = .ok (.iconst 0, 1) := by decide +kernel
theorem dL_law_756 : decode cL_law 756 = .ok (.ireturn, 1) := by decide +kernel
theorem dL_law_757 : decode cL_law 757 = .ok (.aload_n 1, 1) := by decide +kernel
theorem dL_law_758 : decode cL_law 758 = .ok (.aload_n 0, 1) := by decide +kernel
theorem dL_law_759 : decode cL_law 759 = .ok (.iload 4, 2) := by decide +kernel
theorem dL_law_761 : decode cL_law 761 = .ok (.iconst 1, 1) := by decide +kernel
theorem dL_law_762 : decode cL_law 762 = .ok (.iadd, 1) := by decide +kernel
theorem dL_law_763 : decode cL_law 763 = .ok (.iaload, 1) := by decide +kernel
theorem dL_law_764 : decode cL_law 764 = .ok (.aload_n 0, 1) := by decide +kernel
theorem dL_law_765 : decode cL_law 765 = .ok (.iload 4, 2) := by decide +kernel
theorem dL_law_767 : decode cL_law 767 = .ok (.iconst 2, 1) := by decide +kernel
theorem dL_law_768 : decode cL_law 768 = .ok (.iadd, 1) := by decide +kernel
theorem dL_law_769 : decode cL_law 769 = .ok (.iaload, 1) := by decide +kernel
theorem dL_law_770 : decode cL_law 770 = .ok (.invokevirtual 104, 3) := by decide +kernel
theorem dL_law_773 : decode cL_law 773 = .ok (.aload_n 2, 1) := by decide +kernel
theorem dL_law_774 : decode cL_law 774 = .ok (.aload_n 0, 1) := by decide +kernel
theorem dL_law_775 : decode cL_law 775 = .ok (.iload 4, 2) := by decide +kernel
theorem dL_law_777 : decode cL_law 777 = .ok (.iconst 1, 1) := by decide +kernel
theorem dL_law_778 : decode cL_law 778 = .ok (.iadd, 1) := by decide +kernel
theorem dL_law_779 : decode cL_law 779 = .ok (.iaload, 1) := by decide +kernel
theorem dL_law_780 : decode cL_law 780 = .ok (.aload_n 0, 1) := by decide +kernel
theorem dL_law_781 : decode cL_law 781 = .ok (.iload 4, 2) := by decide +kernel
theorem dL_law_783 : decode cL_law 783 = .ok (.iconst 2, 1) := by decide +kernel
theorem dL_law_784 : decode cL_law 784 = .ok (.iadd, 1) := by decide +kernel
theorem dL_law_785 : decode cL_law 785 = .ok (.iaload, 1) := by decide +kernel
theorem dL_law_786 : decode cL_law 786 = .ok (.invokevirtual 107, 3) := by decide +kernel
theorem dL_law_789 : decode cL_law 789 = .ok (.if_icmp .eq 67, 3) := by decide +kernel
theorem dL_law_792 : decode cL_law 792 = .ok (.iconst 0, 1) := by decide +kernel
theorem dL_law_793 : decode cL_law 793 = .ok (.ireturn, 1) := by decide +kernel
theorem dL_law_794 : decode cL_law 794 = .ok (.aload_n 1, 1) := by decide +kernel
theorem dL_law_795 : decode cL_law 795 = .ok (.aload_n 0, 1) := by decide +kernel
theorem dL_law_796 : decode cL_law 796 = .ok (.iload 4, 2) := by decide +kernel
theorem dL_law_798 : decode cL_law 798 = .ok (.iconst 1, 1) := by decide +kernel
theorem dL_law_799 : decode cL_law 799 = .ok (.iadd, 1) := by decide +kernel
theorem dL_law_800 : decode cL_law 800 = .ok (.iaload, 1) := by decide +kernel
theorem dL_law_801 : decode cL_law 801 = .ok (.aload_n 0, 1) := by decide +kernel
theorem dL_law_802 : decode cL_law 802 = .ok (.iload 4, 2) := by decide +kernel
theorem dL_law_804 : decode cL_law 804 = .ok (.iconst 2, 1) := by decide +kernel
theorem dL_law_805 : decode cL_law 805 = .ok (.iadd, 1) := by decide +kernel
theorem dL_law_806 : decode cL_law 806 = .ok (.iaload, 1) := by decide +kernel
theorem dL_law_807 : decode cL_law 807 = .ok (.invokevirtual 108, 3) := by decide +kernel
theorem dL_law_810 : decode cL_law 810 = .ok (.aload_n 2, 1) := by decide +kernel
theorem dL_law_811 : decode cL_law 811 = .ok (.aload_n 0, 1) := by decide +kernel
theorem dL_law_812 : decode cL_law 812 = .ok (.iload 4, 2) := by decide +kernel
theorem dL_law_814 : decode cL_law 814 = .ok (.iconst 1, 1) := by decide +kernel
theorem dL_law_815 : decode cL_law 815 = .ok (.iadd, 1) := by decide +kernel
theorem dL_law_816 : decode cL_law 816 = .ok (.iaload, 1) := by decide +kernel
theorem dL_law_817 : decode cL_law 817 = .ok (.aload_n 0, 1) := by decide +kernel
theorem dL_law_818 : decode cL_law 818 = .ok (.iload 4, 2) := by decide +kernel
theorem dL_law_820 : decode cL_law 820 = .ok (.iconst 2, 1) := by decide +kernel
theorem dL_law_821 : decode cL_law 821 = .ok (.iadd, 1) := by decide +kernel
theorem dL_law_822 : decode cL_law 822 = .ok (.iaload, 1) := by decide +kernel
theorem dL_law_823 : decode cL_law 823 = .ok (.invokevirtual 111, 3) := by decide +kernel
theorem dL_law_826 : decode cL_law 826 = .ok (.if_icmp .eq 30, 3) := by decide +kernel
theorem dL_law_829 : decode cL_law 829 = .ok (.iconst 0, 1) := by decide +kernel
theorem dL_law_830 : decode cL_law 830 = .ok (.ireturn, 1) := by decide +kernel
theorem dL_law_831 : decode cL_law 831 = .ok (.aload_n 1, 1) := by decide +kernel
theorem dL_law_832 : decode cL_law 832 = .ok (.aload_n 0, 1) := by decide +kernel
theorem dL_law_833 : decode cL_law 833 = .ok (.iload 4, 2) := by decide +kernel
theorem dL_law_835 : decode cL_law 835 = .ok (.iconst 1, 1) := by decide +kernel
theorem dL_law_836 : decode cL_law 836 = .ok (.iadd, 1) := by decide +kernel
theorem dL_law_837 : decode cL_law 837 = .ok (.iaload, 1) := by decide +kernel
theorem dL_law_838 : decode cL_law 838 = .ok (.invokevirtual 112, 3) := by decide +kernel
theorem dL_law_841 : decode cL_law 841 = .ok (.aload_n 2, 1) := by decide +kernel
theorem dL_law_842 : decode cL_law 842 = .ok (.aload_n 0, 1) := by decide +kernel
theorem dL_law_843 : decode cL_law 843 = .ok (.iload 4, 2) := by decide +kernel
theorem dL_law_845 : decode cL_law 845 = .ok (.iconst 1, 1) := by decide +kernel
theorem dL_law_846 : decode cL_law 846 = .ok (.iadd, 1) := by decide +kernel
theorem dL_law_847 : decode cL_law 847 = .ok (.iaload, 1) := by decide +kernel
theorem dL_law_848 : decode cL_law 848 = .ok (.invokevirtual 115, 3) := by decide +kernel
theorem dL_law_851 : decode cL_law 851 = .ok (.if_icmp .eq 5, 3) := by decide +kernel
theorem dL_law_854 : decode cL_law 854 = .ok (.iconst 0, 1) := by decide +kernel
theorem dL_law_855 : decode cL_law 855 = .ok (.ireturn, 1) := by decide +kernel
theorem dL_law_856 : decode cL_law 856 = .ok (.iinc 4 4, 3) := by decide +kernel
theorem dL_law_859 : decode cL_law 859 = .ok (.goto (-836), 3) := by decide +kernel
theorem dL_law_862 : decode cL_law 862 = .ok (.iconst 1, 1) := by decide +kernel
theorem dL_law_863 : decode cL_law 863 = .ok (.ireturn, 1) := by decide +kernel
theorem dJ13_bitCount_95d88_0 : decode cJ13_bitCount_95d88 0 = .ok (.lload_n 0, 1) := by decide +kernel
theorem dJ13_bitCount_95d88_1 : decode cJ13_bitCount_95d88 1 = .ok (.lload_n 0, 1) := by decide +kernel
theorem dJ13_bitCount_95d88_2 : decode cJ13_bitCount_95d88 2 = .ok (.iconst 1, 1) := by decide +kernel
theorem dJ13_bitCount_95d88_3 : decode cJ13_bitCount_95d88 3 = .ok (.lushr, 1) := by decide +kernel
theorem dJ13_bitCount_95d88_4 : decode cJ13_bitCount_95d88 4 = .ok (.ldc2_w 314, 3) := by decide +kernel
theorem dJ13_bitCount_95d88_7 : decode cJ13_bitCount_95d88 7 = .ok (.land, 1) := by decide +kernel
theorem dJ13_bitCount_95d88_8 : decode cJ13_bitCount_95d88 8 = .ok (.lsub, 1) := by decide +kernel
theorem dJ13_bitCount_95d88_9 : decode cJ13_bitCount_95d88 9 = .ok (.lstore_n 0, 1) := by decide +kernel
theorem dJ13_bitCount_95d88_10 : decode cJ13_bitCount_95d88 10 = .ok (.lload_n 0, 1) := by decide +kernel
theorem dJ13_bitCount_95d88_11 : decode cJ13_bitCount_95d88 11 = .ok (.ldc2_w 316, 3) := by decide +kernel
theorem dJ13_bitCount_95d88_14 : decode cJ13_bitCount_95d88 14 = .ok (.land, 1) := by decide +kernel
theorem dJ13_bitCount_95d88_15 : decode cJ13_bitCount_95d88 15 = .ok (.lload_n 0, 1) := by decide +kernel
theorem dJ13_bitCount_95d88_16 : decode cJ13_bitCount_95d88 16 = .ok (.iconst 2, 1) := by decide +kernel
theorem dJ13_bitCount_95d88_17 : decode cJ13_bitCount_95d88 17 = .ok (.lushr, 1) := by decide +kernel
theorem dJ13_bitCount_95d88_18 : decode cJ13_bitCount_95d88 18 = .ok (.ldc2_w 316, 3) := by decide +kernel
theorem dJ13_bitCount_95d88_21 : decode cJ13_bitCount_95d88 21 = .ok (.land, 1) := by decide +kernel
theorem dJ13_bitCount_95d88_22 : decode cJ13_bitCount_95d88 22 = .ok (.ladd, 1) := by decide +kernel
theorem dJ13_bitCount_95d88_23 : decode cJ13_bitCount_95d88 23 = .ok (.lstore_n 0, 1) := by decide +kernel
theorem dJ13_bitCount_95d88_24 : decode cJ13_bitCount_95d88 24 = .ok (.lload_n 0, 1) := by decide +kernel
theorem dJ13_bitCount_95d88_25 : decode cJ13_bitCount_95d88 25 = .ok (.lload_n 0, 1) := by decide +kernel
theorem dJ13_bitCount_95d88_26 : decode cJ13_bitCount_95d88 26 = .ok (.iconst 4, 1) := by decide +kernel
theorem dJ13_bitCount_95d88_27 : decode cJ13_bitCount_95d88 27 = .ok (.lushr, 1) := by decide +kernel
theorem dJ13_bitCount_95d88_28 : decode cJ13_bitCount_95d88 28 = .ok (.ladd, 1) := by decide +kernel
theorem dJ13_bitCount_95d88_29 : decode cJ13_bitCount_95d88 29 = .ok (.ldc2_w 318, 3) := by decide +kernel
theorem dJ13_bitCount_95d88_32 : decode cJ13_bitCount_95d88 32 = .ok (.land, 1) := by decide +kernel
theorem dJ13_bitCount_95d88_33 : decode cJ13_bitCount_95d88 33 = .ok (.lstore_n 0, 1) := by decide +kernel
theorem dJ13_bitCount_95d88_34 : decode cJ13_bitCount_95d88 34 = .ok (.lload_n 0, 1) := by decide +kernel
theorem dJ13_bitCount_95d88_35 : decode cJ13_bitCount_95d88 35 = .ok (.lload_n 0, 1) := by decide +kernel
theorem dJ13_bitCount_95d88_36 : decode cJ13_bitCount_95d88 36 = .ok (.bipush 8, 2) := by decide +kernel
theorem dJ13_bitCount_95d88_38 : decode cJ13_bitCount_95d88 38 = .ok (.lushr, 1) := by decide +kernel
theorem dJ13_bitCount_95d88_39 : decode cJ13_bitCount_95d88 39 = .ok (.ladd, 1) := by decide +kernel
theorem dJ13_bitCount_95d88_40 : decode cJ13_bitCount_95d88 40 = .ok (.lstore_n 0, 1) := by decide +kernel
theorem dJ13_bitCount_95d88_41 : decode cJ13_bitCount_95d88 41 = .ok (.lload_n 0, 1) := by decide +kernel
theorem dJ13_bitCount_95d88_42 : decode cJ13_bitCount_95d88 42 = .ok (.lload_n 0, 1) := by decide +kernel
theorem dJ13_bitCount_95d88_43 : decode cJ13_bitCount_95d88 43 = .ok (.bipush 16, 2) := by decide +kernel
theorem dJ13_bitCount_95d88_45 : decode cJ13_bitCount_95d88 45 = .ok (.lushr, 1) := by decide +kernel
theorem dJ13_bitCount_95d88_46 : decode cJ13_bitCount_95d88 46 = .ok (.ladd, 1) := by decide +kernel
theorem dJ13_bitCount_95d88_47 : decode cJ13_bitCount_95d88 47 = .ok (.lstore_n 0, 1) := by decide +kernel
theorem dJ13_bitCount_95d88_48 : decode cJ13_bitCount_95d88 48 = .ok (.lload_n 0, 1) := by decide +kernel
theorem dJ13_bitCount_95d88_49 : decode cJ13_bitCount_95d88 49 = .ok (.lload_n 0, 1) := by decide +kernel
theorem dJ13_bitCount_95d88_50 : decode cJ13_bitCount_95d88 50 = .ok (.bipush 32, 2) := by decide +kernel
theorem dJ13_bitCount_95d88_52 : decode cJ13_bitCount_95d88 52 = .ok (.lushr, 1) := by decide +kernel
theorem dJ13_bitCount_95d88_53 : decode cJ13_bitCount_95d88 53 = .ok (.ladd, 1) := by decide +kernel
theorem dJ13_bitCount_95d88_54 : decode cJ13_bitCount_95d88 54 = .ok (.lstore_n 0, 1) := by decide +kernel
theorem dJ13_bitCount_95d88_55 : decode cJ13_bitCount_95d88 55 = .ok (.lload_n 0, 1) := by decide +kernel
theorem dJ13_bitCount_95d88_56 : decode cJ13_bitCount_95d88 56 = .ok (.l2i, 1) := by decide +kernel
theorem dJ13_bitCount_95d88_57 : decode cJ13_bitCount_95d88 57 = .ok (.bipush 127, 2) := by decide +kernel
theorem dJ13_bitCount_95d88_59 : decode cJ13_bitCount_95d88 59 = .ok (.iand, 1) := by decide +kernel
theorem dJ13_bitCount_95d88_60 : decode cJ13_bitCount_95d88 60 = .ok (.ireturn, 1) := by decide +kernel
theorem dJ9_min_7cf53_0 : decode cJ9_min_7cf53 0 = .ok (.iload_n 0, 1) := by decide +kernel
theorem dJ9_min_7cf53_1 : decode cJ9_min_7cf53 1 = .ok (.iload_n 1, 1) := by decide +kernel
theorem dJ9_min_7cf53_2 : decode cJ9_min_7cf53 2 = .ok (.if_icmp .gt 7, 3) := by decide +kernel
theorem dJ9_min_7cf53_5 : decode cJ9_min_7cf53 5 = .ok (.iload_n 0, 1) := by decide +kernel
theorem dJ9_min_7cf53_6 : decode cJ9_min_7cf53 6 = .ok (.goto 4, 3) := by decide +kernel
theorem dJ9_min_7cf53_9 : decode cJ9_min_7cf53 9 = .ok (.iload_n 1, 1) := by decide +kernel
theorem dJ9_min_7cf53_10 : decode cJ9_min_7cf53 10 = .ok (.ireturn, 1) := by decide +kernel
theorem dJ7_fill_d0a16_0 : decode cJ7_fill_d0a16 0 = .ok (.iconst 0, 1) := by decide +kernel
theorem dJ7_fill_d0a16_1 : decode cJ7_fill_d0a16 1 = .ok (.istore_n 3, 1) := by decide +kernel
theorem dJ7_fill_d0a16_2 : decode cJ7_fill_d0a16 2 = .ok (.aload_n 0, 1) := by decide +kernel
theorem dJ7_fill_d0a16_3 : decode cJ7_fill_d0a16 3 = .ok (.arraylength, 1) := by decide +kernel
theorem dJ7_fill_d0a16_4 : decode cJ7_fill_d0a16 4 = .ok (.istore 4, 2) := by decide +kernel
theorem dJ7_fill_d0a16_6 : decode cJ7_fill_d0a16 6 = .ok (.iload_n 3, 1) := by decide +kernel
theorem dJ7_fill_d0a16_7 : decode cJ7_fill_d0a16 7 = .ok (.iload 4, 2) := by decide +kernel
theorem dJ7_fill_d0a16_9 : decode cJ7_fill_d0a16 9 = .ok (.if_icmp .ge 13, 3) := by decide +kernel
theorem dJ7_fill_d0a16_12 : decode cJ7_fill_d0a16 12 = .ok (.aload_n 0, 1) := by decide +kernel
theorem dJ7_fill_d0a16_13 : decode cJ7_fill_d0a16 13 = .ok (.iload_n 3, 1) := by decide +kernel
theorem dJ7_fill_d0a16_14 : decode cJ7_fill_d0a16 14 = .ok (.lload_n 1, 1) := by decide +kernel
theorem dJ7_fill_d0a16_15 : decode cJ7_fill_d0a16 15 = .ok (.lastore, 1) := by decide +kernel
theorem dJ7_fill_d0a16_16 : decode cJ7_fill_d0a16 16 = .ok (.iinc 3 1, 3) := by decide +kernel
theorem dJ7_fill_d0a16_19 : decode cJ7_fill_d0a16 19 = .ok (.goto (-13), 3) := by decide +kernel
theorem dJ7_fill_d0a16_22 : decode cJ7_fill_d0a16 22 = .ok (.return_, 1) := by decide +kernel
theorem dJ7_fill_53178_0 : decode cJ7_fill_53178 0 = .ok (.iconst 0, 1) := by decide +kernel
theorem dJ7_fill_53178_1 : decode cJ7_fill_53178 1 = .ok (.istore_n 2, 1) := by decide +kernel
theorem dJ7_fill_53178_2 : decode cJ7_fill_53178 2 = .ok (.aload_n 0, 1) := by decide +kernel
theorem dJ7_fill_53178_3 : decode cJ7_fill_53178 3 = .ok (.arraylength, 1) := by decide +kernel
theorem dJ7_fill_53178_4 : decode cJ7_fill_53178 4 = .ok (.istore_n 3, 1) := by decide +kernel
theorem dJ7_fill_53178_5 : decode cJ7_fill_53178 5 = .ok (.iload_n 2, 1) := by decide +kernel
theorem dJ7_fill_53178_6 : decode cJ7_fill_53178 6 = .ok (.iload_n 3, 1) := by decide +kernel
theorem dJ7_fill_53178_7 : decode cJ7_fill_53178 7 = .ok (.if_icmp .ge 13, 3) := by decide +kernel
theorem dJ7_fill_53178_10 : decode cJ7_fill_53178 10 = .ok (.aload_n 0, 1) := by decide +kernel
theorem dJ7_fill_53178_11 : decode cJ7_fill_53178 11 = .ok (.iload_n 2, 1) := by decide +kernel
theorem dJ7_fill_53178_12 : decode cJ7_fill_53178 12 = .ok (.iload_n 1, 1) := by decide +kernel
theorem dJ7_fill_53178_13 : decode cJ7_fill_53178 13 = .ok (.iastore, 1) := by decide +kernel
theorem dJ7_fill_53178_14 : decode cJ7_fill_53178 14 = .ok (.iinc 2 1, 3) := by decide +kernel
theorem dJ7_fill_53178_17 : decode cJ7_fill_53178 17 = .ok (.goto (-12), 3) := by decide +kernel
theorem dJ7_fill_53178_20 : decode cJ7_fill_53178 20 = .ok (.return_, 1) := by decide +kernel
end
section
/-! THE BASE: one list of words for all methods, the state as numbers, contracts and rows over any world that is read off a state -/
/-- the good words of the law's tables: every contract's list is its own code, and these -/
def TB : List Cond := lw_tbl.filter goodWord
theorem tb_in {w : Cond} (i : Nat) (h : lw_tbl[i]? = some w) (hg : goodWord w = true) : w ∈ TB := List.mem_filter.mpr ⟨List.mem_of_getElem? h, hg⟩
theorem tb_gd {w : Cond} (h : w ∈ TB) : w ∈ TB ∧ ((w.onTables && w.keeps) = true ∨ ∃ ty, w = .arrayClass ty) := ⟨h, good_of_word (List.mem_filter.mp h).2⟩
theorem tb_code {y : MethodName} {cc : ByteArray} {n : Nat} {ret : Option FieldType} (h : Cond.code y cc n ret ∈ TB) : GoodIn TB (Cond.code y cc n ret :: TB) := fun w hw => (List.mem_cons.mp hw).elim (fun e => by rw [e]; exact tb_gd h) (fun h => tb_gd h)
theorem tb_V {own C : String} {idx n : Nat} {y : MethodName} {cc : ByteArray} {ret : Option FieldType} (h1 : Cond.methodLink own idx y ∈ TB) (h2 : Cond.instanceMethod y ∈ TB) (h3 : Cond.selects C y y ∈ TB) (h4 : Cond.initialized C ∈ TB) (h5 : Cond.code y cc n ret ∈ TB) : GoodIn TB (wsV own idx C y (Cond.code y cc n ret :: TB)) := fun w hw => by
  rcases List.mem_append.mp hw with h | h
  · rcases List.mem_cons.mp h with e | h
    · rw [e]; exact tb_gd h1
    · rcases List.mem_cons.mp h with e | h
      · rw [e]; exact tb_gd h2
      · rcases List.mem_cons.mp h with e | h
        · rw [e]; exact tb_gd h3
        · rcases List.mem_cons.mp h with e | h
          · rw [e]; exact tb_gd h4
          · cases h
  · exact tb_code h5 w h
theorem tb_S {own : String} {idx n : Nat} {y : MethodName} {cc : ByteArray} {ret : Option FieldType} (h1 : Cond.methodLink own idx y ∈ TB) (h2 : Cond.static y ∈ TB) (h4 : Cond.initialized own ∈ TB) (h5 : Cond.code y cc n ret ∈ TB) : GoodIn TB (wsS own idx y (Cond.code y cc n ret :: TB)) := fun w hw => by
  rcases List.mem_append.mp hw with h | h
  · rcases List.mem_cons.mp h with e | h
    · rw [e]; exact tb_gd h1
    · rcases List.mem_cons.mp h with e | h
      · rw [e]; exact tb_gd h2
      · rcases List.mem_cons.mp h with e | h
        · rw [e]; exact tb_gd h4
        · cases h
  · exact tb_code h5 w h
/-- numbers of a state: of each cell its whole numbers by place; the long array's -/
abbrev St : Type := (Nat → Nat → Int32) × (Nat → Int64)
def pt (s : St) (c k : Nat) (v : Int32) : St := (fun i => if i = c then upd (s.1 i) k v else s.1 i, s.2)
def pf (s : St) (c : Nat) (f : Nat → Int32) : St := (fun i => if i = c then f else s.1 i, s.2)
def pg (s : St) (k : Nat) (v : Int64) : St := (s.1, vp_updL s.2 k v)
def ph (s : St) (f : Nat → Int64) : St := (s.1, f)
/-- a place in range, or nothing -/
def gd {α : Type} (i : Int32) (n : Nat) (k : Option α) : Option α := if i < 0 ∨ n ≤ i.toNatClampNeg then none else k
theorem gd_some {α : Type} {i : Int32} {n : Nat} {k : Option α} {o : α} (h : gd i n k = some o) : vp_in i n ∧ k = some o := by
  unfold gd at h
  split at h
  · cases h
  · exact ⟨by assumption, h⟩
/-- a divisor, or nothing -/
def dz {α : Type} (y : Int32) (k : Option α) : Option α := if y = 0 then none else k
theorem dz_some {α : Type} {y : Int32} {k : Option α} {o : α} (h : dz y k = some o) : ¬ y = 0 ∧ k = some o := by
  unfold dz at h
  split at h
  · cases h
  · exact ⟨by assumption, h⟩
/-- a truth, or nothing -/
def gz {α : Type} (y : Int32) (k : Option α) : Option α := if y = 0 ∨ y = 1 then k else none
theorem gz_some {α : Type} {y : Int32} {k : Option α} {o : α} (h : gz y k = some o) : narrow .boolean (.int y) = .int y ∧ k = some o := by
  unfold gz at h
  split at h
  · rename_i h1
    refine ⟨?_, h⟩
    rcases h1 with e | e <;> (rw [e]; rfl)
  · cases h
/-- one behind the other -/
def bd {α : Type} (x : Option (Int32 × St)) (k : Int32 → St → Option α) : Option α := match x with
  | none => none
  | some (r, u) => k r u
theorem bd_some {α : Type} {x : Option (Int32 × St)} {k : Int32 → St → Option α} {o : α} (h : bd x k = some o) : ∃ r u, x = some (r, u) ∧ k r u = some o := by
  cases x with
  | none => cases h
  | some q => obtain ⟨r, u⟩ := q; exact ⟨r, u, rfl, h⟩
def be {α β : Type} (x : Option β) (k : β → Option α) : Option α := match x with
  | none => none
  | some q => k q
theorem be_some {α β : Type} {x : Option β} {k : β → Option α} {o : α} (h : be x k = some o) : ∃ q, x = some q ∧ k q = some o := by
  cases x with
  | none => cases h
  | some q => exact ⟨q, rfl, h⟩
theorem if_t {α : Type} {c : Prop} [Decidable c] {a b : α} {o : α} (hc : c) (h : (if c then a else b) = o) : a = o := by rw [if_pos hc] at h; exact h
theorem if_f {α : Type} {c : Prop} [Decidable c] {a b : α} {o : α} (hc : ¬ c) (h : (if c then a else b) = o) : b = o := by rw [if_neg hc] at h; exact h
/-- what holds all through a method's body -/
def Env1 (p : Program) (s : State) (m : MethodId) (args : Array Value) (c : Code) (cc : ByteArray) (nL : Nat) (own : String) (D : va_G) (tys : List (ClassId × FieldType)) : Prop :=
  CallFix p m c cc nL s args TB own ∧ va_K D vwCl tys s
/-- what a method's caller finds -/
def CQ (D : va_G) (tys : List (ClassId × FieldType)) (w : St → va_W) (A : Nat → Prop) (r : Int32) (u : St) : Array Value → State → Outcome → State → Prop :=
  va_Qi (fun (r' : Int32) (u' : St) => r' = r ∧ u' = u) (fun u t => va_P D vwCl (w u) t.heap ∧ va_K D vwCl tys t ∧ va_D A (w u)) A
def CQv (D : va_G) (tys : List (ClassId × FieldType)) (w : St → va_W) (A : Nat → Prop) (u : St) : Array Value → State → Outcome → State → Prop :=
  va_Qv (fun (u' : St) => u' = u) (fun u t => va_P D vwCl (w u) t.heap ∧ va_K D vwCl tys t ∧ va_D A (w u)) A
def CP (D : va_G) (tys : List (ClassId × FieldType)) (w : St → va_W) (st : St) (sz : Nat) (av : List Value) : Array Value → State → Prop :=
  va_Pc av (fun U => U.heap.size = sz ∧ va_P D vwCl (w st) U.heap ∧ va_K D vwCl tys U ∧ va_D (fun _ => True) (w st))
abbrev rm (f k : Nat) : Room := { frames := f, cells := 0, slots := 0, locals := k }
/-- the contract of a method that answers an int: from st, with the arguments av, it answers r and leaves u -/
def Ci (l : Launch) (y : MethodName) (cc : ByteArray) (n : Nat) (ret : Option FieldType) (f k : Nat) (D : va_G) (tys : List (ClassId × FieldType)) (w : St → va_W) (st : St) (av : List Value) (r : Int32) (u : St) : Prop :=
  ∀ sz : Nat, Met l y (Cond.code y cc n ret :: TB) (rm f k) (CP D tys w st sz av) (CQ D tys w (va_A (w st) sz) r u) 0 0 (va_A (w st) sz)
def Cv (l : Launch) (y : MethodName) (cc : ByteArray) (n : Nat) (f k : Nat) (D : va_G) (tys : List (ClassId × FieldType)) (w : St → va_W) (st : St) (av : List Value) (u : St) : Prop :=
  ∀ sz : Nat, Met l y (Cond.code y cc n none :: TB) (rm f k) (CP D tys w st sz av) (CQv D tys w (va_A (w st) sz) u) 0 0 (va_A (w st) sz)
theorem cp_blind {D : va_G} {tys : List (ClassId × FieldType)} {w : St → va_W} {st : St} {sz : Nat} {av : List Value} : FrameBlind (CP D tys w st sz av) := fun a U g mk q => by
  obtain ⟨q0, q1, qP, qK, qD⟩ := q
  exact ⟨q0, q1, qP, va_K.moved (u := U) (U := U.calling g mk a) (Vm.Alike.refl U.vm) qK, qD⟩
section Bodies
variable {l : Launch} {y : MethodName} {cc : ByteArray} {n f k : Nat} {ret : Option FieldType} {D : va_G} {tys : List (ClassId × FieldType)} {w : St → va_W} {st u : St} {av : List Value} {r : Int32}
set_option maxHeartbeats 1000000 in
theorem body_i (hy : plainName y.cls = true) (hav : (lg_sl av).length ≤ n)
    (body : ∀ (p : Program) (e : Env) (s : State) (m : MethodId) (below : List Frame) (meth : Method) (c : Code) (A : Nat → Prop) (ls : Array Slot), Env1 p s m av.toArray c cc n y.cls D tys → meth.sig.returnType = ret → meth.locks = false →
      (∀ q : Nat, s.heap.size ≤ q → A q) → va_P D vwCl (w st) s.heap → va_D A (w st) → va_S A s.heap s.heap [] → lv_has ls n (lv_args 0 av) →
      W p l e (rm f k) s m av.toArray below meth c s.heap [] 0 0 (MQ below (CQ D tys w A r u) av.toArray s 0 0 A) (F0 m 0 ls [])) : Ci l y cc n ret f k D tys w st av r u := by
  intro sz
  refine Met.ofW (cc := cc) (maxL := n) (ret := ret) hy rfl ?_
  intro p e s m args below meth c s₁ B hml hv
  obtain ⟨rfl, hsz, hP, hK, hD0⟩ := hv
  have hts := atoms_spec (ws := Cond.code y cc n ret :: TB) B.pre
  have hown : s.vm.findClass y.cls = some m.cls := findClass_of_methodNamed B.named
  subst hsz
  have hD := hD0.self (sz := s.heap.size)
  have hA : ∀ q : Nat, s.heap.size ≤ q → va_A (w st) s.heap.size q := fun q h => Or.inr h
  have hl := lv_entry av (n := n) hav
  rw [lg_entry_eq]
  exact body p e s m below meth c (va_A (w st) s.heap.size) _ ⟨⟨B.exec, B.bytes, hml, hown, fun w hw => hts w (List.mem_cons_of_mem _ hw)⟩, hK⟩ B.returns B.notSynchronized hA hP hD va_S.rf hl
set_option maxHeartbeats 1000000 in
theorem body_v (hy : plainName y.cls = true) (hav : (lg_sl av).length ≤ n)
    (body : ∀ (p : Program) (e : Env) (s : State) (m : MethodId) (below : List Frame) (meth : Method) (c : Code) (A : Nat → Prop) (ls : Array Slot), Env1 p s m av.toArray c cc n y.cls D tys → meth.sig.returnType = none → meth.locks = false →
      (∀ q : Nat, s.heap.size ≤ q → A q) → va_P D vwCl (w st) s.heap → va_D A (w st) → va_S A s.heap s.heap [] → lv_has ls n (lv_args 0 av) →
      W p l e (rm f k) s m av.toArray below meth c s.heap [] 0 0 (MQ below (CQv D tys w A u) av.toArray s 0 0 A) (F0 m 0 ls [])) : Cv l y cc n f k D tys w st av u := by
  intro sz
  refine Met.ofW (cc := cc) (maxL := n) (ret := none) hy rfl ?_
  intro p e s m args below meth c s₁ B hml hv
  obtain ⟨rfl, hsz, hP, hK, hD0⟩ := hv
  have hts := atoms_spec (ws := Cond.code y cc n none :: TB) B.pre
  have hown : s.vm.findClass y.cls = some m.cls := findClass_of_methodNamed B.named
  subst hsz
  have hD := hD0.self (sz := s.heap.size)
  have hA : ∀ q : Nat, s.heap.size ≤ q → va_A (w st) s.heap.size q := fun q h => Or.inr h
  have hl := lv_entry av (n := n) hav
  rw [lg_entry_eq]
  exact body p e s m below meth c (va_A (w st) s.heap.size) _ ⟨⟨B.exec, B.bytes, hml, hown, fun w hw => hts w (List.mem_cons_of_mem _ hw)⟩, hK⟩ B.returns B.notSynchronized hA hP hD va_S.rf hl
end Bodies
section Ends1
variable {p : Program} {l : Launch} {e : Env} {R : Room} {s : State} {m : MethodId} {args : Array Value} {below : List Frame} {meth : Method} {c : Code} {H : Heap} {locs : List Loc} {pc nL : Nat} {ls : Array Slot} {cc : ByteArray} {own : String} {D : va_G} {tys : List (ClassId × FieldType)} {w : St → va_W} {u : St} {r : Int32} {A : Nat → Prop}
theorem end_i (E : Env1 p s m args c cc nL own D tys) (hr : meth.sig.returnType = some .int) (hlocks : meth.locks = false) (hP : va_P D vwCl (w u) H) (hD : va_D A (w u)) (hS : va_S A s.heap H locs) (hdg : decode cc pc = .ok (.ireturn, 1)) :
    W p l e R s m args below meth c H locs 0 0 (MQ below (CQ D tys w A r u) args s 0 0 A) (F0 m pc ls [.int r]) :=
  W.iret (v := r) E.1.1 E.1.2.1 hr (fun t ht hW => ⟨⟨r, u, rfl, ⟨rfl, rfl⟩, by rw [ht]; exact hP, va_K.moved hW.alike E.2, hD⟩, hS.F ht⟩) hS.2.2 hdg hlocks
theorem end_z (E : Env1 p s m args c cc nL own D tys) (hr : meth.sig.returnType = some .boolean) (hlocks : meth.locks = false) (hn : narrow .boolean (.int r) = .int r) (hP : va_P D vwCl (w u) H) (hD : va_D A (w u)) (hS : va_S A s.heap H locs) (hdg : decode cc pc = .ok (.ireturn, 1)) :
    W p l e R s m args below meth c H locs 0 0 (MQ below (CQ D tys w A r u) args s 0 0 A) (F0 m pc ls [.int r]) :=
  W.zret (v := r) E.1.1 E.1.2.1 hr hn (fun t ht hW => ⟨⟨r, u, rfl, ⟨rfl, rfl⟩, by rw [ht]; exact hP, va_K.moved hW.alike E.2, hD⟩, hS.F ht⟩) hS.2.2 hdg hlocks
theorem end_v (E : Env1 p s m args c cc nL own D tys) (hr : meth.sig.returnType = none) (hlocks : meth.locks = false) (hP : va_P D vwCl (w u) H) (hD : va_D A (w u)) (hS : va_S A s.heap H locs) (hdg : decode cc pc = .ok (.return_, 1)) :
    W p l e R s m args below meth c H locs 0 0 (MQ below (CQv D tys w A u) args s 0 0 A) (F0 m pc ls []) :=
  W.vret E.1.1 E.1.2.1 hr (fun t ht hW => ⟨⟨u, rfl, rfl, by rw [ht]; exact hP, va_K.moved hW.alike E.2, hD⟩, hS.F ht⟩) hS.2.2 hdg hlocks
end Ends1
section Calls1
variable {p : Program} {l : Launch} {e : Env} {R : Room} {s : State} {m : MethodId} {args : Array Value} {below : List Frame} {meth : Method} {c : Code} {H H0 : Heap} {locs : List Loc} {cells slots pc nL : Nat} {ls : Array Slot} {cc : ByteArray} {own : String} {D : va_G} {tys : List (ClassId × FieldType)} {w : St → va_W} {st u : St} {r : Int32} {A : Nat → Prop} {Q : State → Prop} {rest : List Value}
variable {C : String} {idx n' f' k' na b : Nat} {y : MethodName} {cc' : ByteArray} {ret : Option FieldType} {As st0 : List Value}
/-- how a call names its callee: the words, and the descriptor -/
def cwd (own : String) (idx : Nat) (C : String) (y : MethodName) (cc' : ByteArray) (n' : Nat) (ret : Option FieldType) (na : Nat) : Prop :=
  GoodIn TB (wsV own idx C y (Cond.code y cc' n' ret :: TB)) ∧ (y.cls = C ∧ y.cls ≠ "java/lang/invoke/MethodHandle" ∧ y.cls ≠ "java/lang/invoke/VarHandle" ∧ (parseMethodDescriptor y.desc).map (fun d => d.parameters.length) = some na)
def cwt (own : String) (idx : Nat) (y : MethodName) (cc' : ByteArray) (n' : Nat) (ret : Option FieldType) (na : Nat) : Prop :=
  GoodIn TB (wsS own idx y (Cond.code y cc' n' ret :: TB)) ∧ (y.cls = own ∧ y.cls ≠ "java/lang/invoke/MethodHandle" ∧ y.cls ≠ "java/lang/invoke/VarHandle" ∧ (parseMethodDescriptor y.desc).map (fun d => d.parameters.length) = some na)
theorem fr_all {H0 H : Heap} (hD : va_D A (w st)) (hS : va_S A H0 H locs) (hA : ∀ q : Nat, H0.size ≤ q → A q) : ∀ q, va_A (w st) H.size q → A q := fun q h => by
  rcases h with ⟨k, e, hk⟩ | h
  · exact hD.2 k _ hk
  · exact hA q (Nat.le_trans hS.1 h)
set_option maxHeartbeats 1000000 in
theorem call_i (E : Env1 p s m args c cc nL own D tys) (hA : ∀ q : Nat, s.heap.size ≤ q → A q) (hP : va_P D vwCl (w st) H) (hD : va_D A (w st)) (hS : va_S A s.heap H locs) (hls : ls.size = nL)
    (hM : Ci l y cc' n' ret f' k' D tys w st (.ref b :: As) r u) (cw : cwd own idx C y cc' n' ret na) (q0 : Nat) {ci : Nat} {fs : List Value} {qC : vw_C} (hc : vwCl[ci]? = some qC) (he : (w st)[q0]? = some (b, .inr (ci, fs))) (hC : qC.1 = C)
    (hn : As.length = na) (hst : st0 = As.reverse ++ .ref b :: rest) (hW : (rest.map fun v => v.category).sum ≤ 8) (hR : f' + 1 ≤ R.frames ∧ 8 + (n' + 11) + k' ≤ R.locals) (hcs : cells ≤ R.cells ∧ slots ≤ R.slots) (hdg : decode cc pc = .ok (.invokevirtual idx, 3))
    (kk : ∀ (H1 : Heap) (locs1 : List Loc), va_P D vwCl (w u) H1 → va_D A (w u) → va_S A s.heap H1 locs1 → W p l e R s m args below meth c H1 locs1 cells slots Q (F0 m (pc + 3) ls (.int r :: rest))) :
    W p l e R s m args below meth c H locs cells slots Q (F0 m pc ls st0) := by
  have hF := fr_all hD hS hA
  refine va_calli (va_runV (As := As) (rest := rest) E.1 (hM H.size) (cwV na E.1.2.2.2.2 cw.1 rfl rfl rfl cw.2 hR) ⟨cp_blind, by rw [← hC]; exact va_recv E.2 hP hc he, fun U hU hW => ⟨rfl, by rw [hU], by rw [hU]; exact hP, va_K.moved hW.alike E.2, hD.weaken (fun _ _ _ _ => trivial)⟩⟩ rfl hn hls hst (lv_room hW) hdg hcs) hS (fun q _ h => hF q h) hF (fun r1 u1 t H1 locs1 ht hvm hw hB hz1 hk1 hS1 => ?_)
  obtain ⟨rfl, rfl⟩ := hw
  obtain ⟨hP1, hK1, hD1⟩ := hB
  rw [ht] at hP1
  exact kk H1 locs1 hP1 (hD1.weaken (fun _ _ _ h => hF _ h)) hS1
set_option maxHeartbeats 1000000 in
theorem call_v (E : Env1 p s m args c cc nL own D tys) (hA : ∀ q : Nat, s.heap.size ≤ q → A q) (hP : va_P D vwCl (w st) H) (hD : va_D A (w st)) (hS : va_S A s.heap H locs) (hls : ls.size = nL)
    (hM : Cv l y cc' n' f' k' D tys w st (.ref b :: As) u) (cw : cwd own idx C y cc' n' none na) (q0 : Nat) {ci : Nat} {fs : List Value} {qC : vw_C} (hc : vwCl[ci]? = some qC) (he : (w st)[q0]? = some (b, .inr (ci, fs))) (hC : qC.1 = C)
    (hn : As.length = na) (hst : st0 = As.reverse ++ .ref b :: rest) (hW : (rest.map fun v => v.category).sum ≤ 8) (hR : f' + 1 ≤ R.frames ∧ 8 + (n' + 11) + k' ≤ R.locals) (hcs : cells ≤ R.cells ∧ slots ≤ R.slots) (hdg : decode cc pc = .ok (.invokevirtual idx, 3))
    (kk : ∀ (H1 : Heap) (locs1 : List Loc), va_P D vwCl (w u) H1 → va_D A (w u) → va_S A s.heap H1 locs1 → W p l e R s m args below meth c H1 locs1 cells slots Q (F0 m (pc + 3) ls rest)) :
    W p l e R s m args below meth c H locs cells slots Q (F0 m pc ls st0) := by
  have hF := fr_all hD hS hA
  refine va_callv (va_runV (As := As) (rest := rest) E.1 (hM H.size) (cwV na E.1.2.2.2.2 cw.1 rfl rfl rfl cw.2 hR) ⟨cp_blind, by rw [← hC]; exact va_recv E.2 hP hc he, fun U hU hW => ⟨rfl, by rw [hU], by rw [hU]; exact hP, va_K.moved hW.alike E.2, hD.weaken (fun _ _ _ _ => trivial)⟩⟩ rfl hn hls hst (lv_room hW) hdg hcs) hS (fun q _ h => hF q h) hF (fun u1 t H1 locs1 ht hvm hw hB hz1 hk1 hS1 => ?_)
  subst hw
  obtain ⟨hP1, hK1, hD1⟩ := hB
  rw [ht] at hP1
  exact kk H1 locs1 hP1 (hD1.weaken (fun _ _ _ h => hF _ h)) hS1
set_option maxHeartbeats 1000000 in
theorem calls_i (E : Env1 p s m args c cc nL own D tys) (hA : ∀ q : Nat, s.heap.size ≤ q → A q) (hP : va_P D vwCl (w st) H) (hD : va_D A (w st)) (hS : va_S A s.heap H locs) (hls : ls.size = nL)
    (hM : Ci l y cc' n' ret f' k' D tys w st As r u) (cw : cwt own idx y cc' n' ret na)
    (hn : As.length = na) (hst : st0 = As.reverse ++ rest) (hW : (rest.map fun v => v.category).sum ≤ 8) (hR : f' + 1 ≤ R.frames ∧ 8 + (n' + 11) + k' ≤ R.locals) (hcs : cells ≤ R.cells ∧ slots ≤ R.slots) (hdg : decode cc pc = .ok (.invokestatic idx, 3))
    (kk : ∀ (H1 : Heap) (locs1 : List Loc), va_P D vwCl (w u) H1 → va_D A (w u) → va_S A s.heap H1 locs1 → W p l e R s m args below meth c H1 locs1 cells slots Q (F0 m (pc + 3) ls (.int r :: rest))) :
    W p l e R s m args below meth c H locs cells slots Q (F0 m pc ls st0) := by
  have hF := fr_all hD hS hA
  refine va_calli (va_runS (As := As) (rest := rest) E.1 (hM H.size) (cwS na E.1.2.2.2.2 cw.1 rfl rfl rfl cw.2 hR) ⟨cp_blind, fun U hU hW => ⟨rfl, by rw [hU], by rw [hU]; exact hP, va_K.moved hW.alike E.2, hD.weaken (fun _ _ _ _ => trivial)⟩⟩ rfl hn hls hst (lv_room hW) hdg hcs) hS (fun q _ h => hF q h) hF (fun r1 u1 t H1 locs1 ht hvm hw hB hz1 hk1 hS1 => ?_)
  obtain ⟨rfl, rfl⟩ := hw
  obtain ⟨hP1, hK1, hD1⟩ := hB
  rw [ht] at hP1
  exact kk H1 locs1 hP1 (hD1.weaken (fun _ _ _ h => hF _ h)) hS1
end Calls1
section Ends2
variable {p : Program} {l : Launch} {e : Env} {R : Room} {s : State} {m : MethodId} {args : Array Value} {below : List Frame} {meth : Method} {c : Code} {H : Heap} {locs : List Loc} {pc nL cells slots : Nat} {ls : Array Slot} {cc : ByteArray} {own : String} {D : va_G} {tys : List (ClassId × FieldType)} {w : St → va_W} {st u : St} {v r : Int32} {A : Nat → Prop} {Q : State → Prop} {rest : List Value}
theorem endI (E : Env1 p s m args c cc nL own D tys) (hr : meth.sig.returnType = some .int) (hlocks : meth.locks = false) (hP : va_P D vwCl (w st) H) (hD : va_D A (w st)) (hS : va_S A s.heap H locs) (hdg : decode cc pc = .ok (.ireturn, 1)) (hF : some (v, st) = some (r, u)) :
    W p l e R s m args below meth c H locs 0 0 (MQ below (CQ D tys w A r u) args s 0 0 A) (F0 m pc ls [.int v]) := by
  cases hF; exact end_i E hr hlocks hP hD hS hdg
theorem endZ (E : Env1 p s m args c cc nL own D tys) (hr : meth.sig.returnType = some .boolean) (hlocks : meth.locks = false) (hP : va_P D vwCl (w st) H) (hD : va_D A (w st)) (hS : va_S A s.heap H locs) (hdg : decode cc pc = .ok (.ireturn, 1)) (hF : gz v (some (v, st)) = some (r, u)) :
    W p l e R s m args below meth c H locs 0 0 (MQ below (CQ D tys w A r u) args s 0 0 A) (F0 m pc ls [.int v]) := by
  obtain ⟨hn, hF⟩ := gz_some hF
  cases hF; exact end_z E hr hlocks hn hP hD hS hdg
theorem endZ0 (E : Env1 p s m args c cc nL own D tys) (hr : meth.sig.returnType = some .boolean) (hlocks : meth.locks = false) (hP : va_P D vwCl (w st) H) (hD : va_D A (w st)) (hS : va_S A s.heap H locs) (hdg : decode cc pc = .ok (.ireturn, 1)) (hn : narrow .boolean (.int v) = .int v) (hF : some (v, st) = some (r, u)) :
    W p l e R s m args below meth c H locs 0 0 (MQ below (CQ D tys w A r u) args s 0 0 A) (F0 m pc ls [.int v]) := by
  cases hF; exact end_z E hr hlocks hn hP hD hS hdg
theorem endV (E : Env1 p s m args c cc nL own D tys) (hr : meth.sig.returnType = none) (hlocks : meth.locks = false) (hP : va_P D vwCl (w st) H) (hD : va_D A (w st)) (hS : va_S A s.heap H locs) (hdg : decode cc pc = .ok (.return_, 1)) (hF : some (v, st) = some (r, u)) :
    W p l e R s m args below meth c H locs 0 0 (MQ below (CQv D tys w A u) args s 0 0 A) (F0 m pc ls []) := by
  cases hF; exact end_v E hr hlocks hP hD hS hdg
theorem topE {a b : Int32} (e1 : a = b) (kk : W p l e R s m args below meth c H locs cells slots Q (F0 m pc ls (.int b :: rest))) : W p l e R s m args below meth c H locs cells slots Q (F0 m pc ls (.int a :: rest)) := by
  rw [e1]; exact kk
theorem dia {g : JFrame} {jpc : Nat} {v1 : Int32} (k : W p l e R s m args below meth c H locs cells slots Q (F0 m jpc ls (.int v1 :: rest))) (b : W p l e R s m args below meth c H locs cells slots Q (F0 m jpc ls (.int v1 :: rest)) → W p l e R s m args below meth c H locs cells slots Q g) : W p l e R s m args below meth c H locs cells slots Q g := b k
end Ends2
end
section
/-! THE WORLDS: the cells of a LooseHeap with its Space and its Collector (numbers 0 to 13 of h), and of a LooseHeapModel (14 on), as a state has them; a row for each field and array -/
abbrev tyL (cI cJ cZ : ClassId) : List (ClassId × FieldType) := [(cI, .int), (cJ, .long), (cZ, .boolean)]
def wX (h : Nat → Nat) (cI cJ cZ : ClassId) (st : St) : va_W := [(h 0, .inr (2, [.ref (h 1), .ref (h 2), .ref (h 3), .ref (h 4)])),
  (h 1, .inr (1, [.ref (h 5), .ref (h 6), .ref (h 7), .ref (h 8), .int (st.1 1 4), .int (st.1 1 5), .int (st.1 1 6)])),
  (h 2, .inr (0, [.ref (h 1), .ref (h 9), .int (st.1 2 2), .ref (h 10), .ref (h 11), .ref (h 12), .int (st.1 2 6), .int (st.1 2 7), .int (st.1 2 8), .int (st.1 2 9), .int (st.1 2 10), .int (st.1 2 11), .ref (h 13), .int (st.1 2 13), .int (st.1 2 14), .int (st.1 2 15), .int (st.1 2 16), .int (st.1 2 17)])),
  (h 3, .inl (cI, 32, .inl (st.1 3))),
  (h 4, .inl (cI, 32, .inl (st.1 4))),
  (h 5, .inl (cI, 4096, .inl (st.1 5))),
  (h 6, .inl (cI, 64, .inl (st.1 6))),
  (h 7, .inl (cI, 64, .inl (st.1 7))),
  (h 8, .inl (cJ, 64, .inr (.inl st.2))),
  (h 9, .inl (cI, 4096, .inl (st.1 9))),
  (h 10, .inl (cI, 4096, .inl (st.1 10))),
  (h 11, .inl (cZ, 64, .inl (st.1 11))),
  (h 12, .inl (cZ, 64, .inl (st.1 12))),
  (h 13, .inl (cI, 64, .inl (st.1 13)))]
def wM (h : Nat → Nat) (cI cJ cZ : ClassId) (st : St) : va_W := [(h 14, .inr (3, [.int (st.1 14 0), .int (st.1 14 1), .int (st.1 14 2), .ref (h 15), .ref (h 16), .ref (h 17), .int (st.1 14 6), .int (st.1 14 7), .ref (h 18), .ref (h 19), .ref (h 20), .ref (h 21), .ref (h 22), .int (st.1 14 13), .ref (h 23), .ref (h 24), .ref (h 25), .ref (h 26), .int (st.1 14 18), .ref (h 27), .ref (h 28), .ref (h 29), .int (st.1 14 22), .int (st.1 14 23), .int (st.1 14 24), .int (st.1 14 25), .ref (h 30)])),
  (h 15, .inl (cI, 64, .inl (st.1 15))),
  (h 16, .inl (cI, 64, .inl (st.1 16))),
  (h 17, .inl (cZ, 64, .inl (st.1 17))),
  (h 18, .inl (cI, 4200, .inl (st.1 18))),
  (h 19, .inl (cI, 4200, .inl (st.1 19))),
  (h 20, .inl (cI, 4200, .inl (st.1 20))),
  (h 21, .inl (cI, 4200, .inl (st.1 21))),
  (h 22, .inl (cI, 9000, .inl (st.1 22))),
  (h 23, .inl (cI, 32, .inl (st.1 23))),
  (h 24, .inl (cI, 32, .inl (st.1 24))),
  (h 25, .inl (cI, 13, .inl (st.1 25))),
  (h 26, .inl (cI, 4200, .inl (st.1 26))),
  (h 27, .inl (cI, 4200, .inl (st.1 27))),
  (h 28, .inl (cZ, 64, .inl (st.1 28))),
  (h 29, .inl (cI, 64, .inl (st.1 29))),
  (h 30, .inl (cI, 4200, .inl (st.1 30)))]
set_option maxRecDepth 100000 in
theorem inX0 : ∀ w ∈ u_ws RX0 TX0 18, w ∈ TB := by decide +kernel
set_option maxRecDepth 100000 in
theorem inX1 : ∀ w ∈ u_ws RX1 TX1 7, w ∈ TB := by decide +kernel
set_option maxRecDepth 100000 in
theorem inX2 : ∀ w ∈ u_ws RX2 TX2 4, w ∈ TB := by decide +kernel
set_option maxRecDepth 100000 in
theorem inX3 : ∀ w ∈ u_ws RX3 TX3 27, w ∈ TB := by decide +kernel
section Rows1
variable {p : Program} {l : Launch} {e : Env} {R : Room} {s : State} {m : MethodId} {args : Array Value} {below : List Frame} {meth : Method} {c : Code} {H H0 : Heap} {locs : List Loc} {cells slots pc nL : Nat} {ls : Array Slot} {cc : ByteArray} {own : String} {D : va_G} {h : Nat → Nat} {cI cJ cZ : ClassId} {st : St} {A : Nat → Prop} {Q : State → Prop} {rest : List Value} {i v : Int32} {x : Int64}
theorem fl_2_0 : Cond.fieldLink RX0 9 "LooseHeap$Collector" "space" "LLooseHeap$Space;" ∈ TB := tb_in 103 (by decide +kernel) (by decide +kernel)
theorem g_2_0 (E : Env1 p s m args c cc nL RX0 D (tyL cI cJ cZ)) (hP : va_P D vwCl (wX h cI cJ cZ st) H) (hdg : decode cc pc = .ok (.getfield 9, 3)) (kk : W p l e R s m args below meth c H locs cells slots Q (F0 m (pc + 3) ls (.ref (h 1) :: rest))) : W p l e R s m args below meth c H locs cells slots Q (F0 m pc ls (.ref (h 2) :: rest)) :=
  va_get (D := D) (ci := 0) (C := RX0) (T := TX0) (N := 18) E.1.1 E.1.2.1 E.1.2.2.2.2 inX0 E.1.2.2.2.1 E.2 hP 2 rfl rfl 0 (by decide) (E.1.2.2.2.2 _ fl_2_0) (fun _ h => h) rfl hdg kk
theorem fl_2_1 : Cond.fieldLink RX0 15 "LooseHeap$Collector" "row" "[I" ∈ TB := tb_in 104 (by decide +kernel) (by decide +kernel)
theorem g_2_1 (E : Env1 p s m args c cc nL RX0 D (tyL cI cJ cZ)) (hP : va_P D vwCl (wX h cI cJ cZ st) H) (hdg : decode cc pc = .ok (.getfield 15, 3)) (kk : W p l e R s m args below meth c H locs cells slots Q (F0 m (pc + 3) ls (.ref (h 9) :: rest))) : W p l e R s m args below meth c H locs cells slots Q (F0 m pc ls (.ref (h 2) :: rest)) :=
  va_get (D := D) (ci := 0) (C := RX0) (T := TX0) (N := 18) E.1.1 E.1.2.1 E.1.2.2.2.2 inX0 E.1.2.2.2.1 E.2 hP 2 rfl rfl 1 (by decide) (E.1.2.2.2.2 _ fl_2_1) (fun _ h => h) rfl hdg kk
theorem fl_2_2 : Cond.fieldLink RX0 87 "LooseHeap$Collector" "rowLength" "I" ∈ TB := tb_in 105 (by decide +kernel) (by decide +kernel)
theorem g_2_2 (E : Env1 p s m args c cc nL RX0 D (tyL cI cJ cZ)) (hP : va_P D vwCl (wX h cI cJ cZ st) H) (hdg : decode cc pc = .ok (.getfield 87, 3)) (kk : W p l e R s m args below meth c H locs cells slots Q (F0 m (pc + 3) ls (.int (st.1 2 2) :: rest))) : W p l e R s m args below meth c H locs cells slots Q (F0 m pc ls (.ref (h 2) :: rest)) :=
  va_get (D := D) (ci := 0) (C := RX0) (T := TX0) (N := 18) E.1.1 E.1.2.1 E.1.2.2.2.2 inX0 E.1.2.2.2.1 E.2 hP 2 rfl rfl 2 (by decide) (E.1.2.2.2.2 _ fl_2_2) (fun _ h => h) rfl hdg kk
theorem s_2_2 (E : Env1 p s m args c cc nL RX0 D (tyL cI cJ cZ)) (hP : va_P D vwCl (wX h cI cJ cZ st) H) (hD : va_D A (wX h cI cJ cZ st)) (hS : va_S A H0 H locs) (hdg : decode cc pc = .ok (.putfield 87, 3)) (kk : ∀ (H1 : Heap) (locs1 : List Loc), va_P D vwCl (wX h cI cJ cZ (pt st 2 2 v)) H1 → va_D A (wX h cI cJ cZ (pt st 2 2 v)) → va_S A H0 H1 locs1 → W p l e R s m args below meth c H1 locs1 cells slots Q (F0 m (pc + 3) ls (rest))) : W p l e R s m args below meth c H locs cells slots Q (F0 m pc ls (.int v :: .ref (h 2) :: rest)) :=
  va_put (D := D) (ci := 0) (C := RX0) (T := TX0) (N := 18) (ty := .int) E.1.1 E.1.2.1 E.1.2.2.2.2 inX0 tyX0 tyX0_ok nmX0 E.1.2.2.2.1 E.2 hP hD hS 2 rfl rfl 2 (by decide) (E.1.2.2.2.2 _ fl_2_2) (fun _ h => h) rfl (by decide +kernel) rfl rfl (Nat.le_of_ble_eq_true rfl) hdg kk
theorem fl_2_3 : Cond.fieldLink RX0 19 "LooseHeap$Collector" "newAddresses" "[I" ∈ TB := tb_in 106 (by decide +kernel) (by decide +kernel)
theorem g_2_3 (E : Env1 p s m args c cc nL RX0 D (tyL cI cJ cZ)) (hP : va_P D vwCl (wX h cI cJ cZ st) H) (hdg : decode cc pc = .ok (.getfield 19, 3)) (kk : W p l e R s m args below meth c H locs cells slots Q (F0 m (pc + 3) ls (.ref (h 10) :: rest))) : W p l e R s m args below meth c H locs cells slots Q (F0 m pc ls (.ref (h 2) :: rest)) :=
  va_get (D := D) (ci := 0) (C := RX0) (T := TX0) (N := 18) E.1.1 E.1.2.1 E.1.2.2.2.2 inX0 E.1.2.2.2.1 E.2 hP 2 rfl rfl 3 (by decide) (E.1.2.2.2.2 _ fl_2_3) (fun _ h => h) rfl hdg kk
theorem fl_2_4 : Cond.fieldLink RX0 22 "LooseHeap$Collector" "hit" "[Z" ∈ TB := tb_in 107 (by decide +kernel) (by decide +kernel)
theorem g_2_4 (E : Env1 p s m args c cc nL RX0 D (tyL cI cJ cZ)) (hP : va_P D vwCl (wX h cI cJ cZ st) H) (hdg : decode cc pc = .ok (.getfield 22, 3)) (kk : W p l e R s m args below meth c H locs cells slots Q (F0 m (pc + 3) ls (.ref (h 11) :: rest))) : W p l e R s m args below meth c H locs cells slots Q (F0 m pc ls (.ref (h 2) :: rest)) :=
  va_get (D := D) (ci := 0) (C := RX0) (T := TX0) (N := 18) E.1.1 E.1.2.1 E.1.2.2.2.2 inX0 E.1.2.2.2.1 E.2 hP 2 rfl rfl 4 (by decide) (E.1.2.2.2.2 _ fl_2_4) (fun _ h => h) rfl hdg kk
theorem fl_2_5 : Cond.fieldLink RX0 26 "LooseHeap$Collector" "stays" "[Z" ∈ TB := tb_in 108 (by decide +kernel) (by decide +kernel)
theorem g_2_5 (E : Env1 p s m args c cc nL RX0 D (tyL cI cJ cZ)) (hP : va_P D vwCl (wX h cI cJ cZ st) H) (hdg : decode cc pc = .ok (.getfield 26, 3)) (kk : W p l e R s m args below meth c H locs cells slots Q (F0 m (pc + 3) ls (.ref (h 12) :: rest))) : W p l e R s m args below meth c H locs cells slots Q (F0 m pc ls (.ref (h 2) :: rest)) :=
  va_get (D := D) (ci := 0) (C := RX0) (T := TX0) (N := 18) E.1.1 E.1.2.1 E.1.2.2.2.2 inX0 E.1.2.2.2.1 E.2 hP 2 rfl rfl 5 (by decide) (E.1.2.2.2.2 _ fl_2_5) (fun _ h => h) rfl hdg kk
theorem fl_2_6 : Cond.fieldLink RX0 90 "LooseHeap$Collector" "target" "I" ∈ TB := tb_in 109 (by decide +kernel) (by decide +kernel)
theorem g_2_6 (E : Env1 p s m args c cc nL RX0 D (tyL cI cJ cZ)) (hP : va_P D vwCl (wX h cI cJ cZ st) H) (hdg : decode cc pc = .ok (.getfield 90, 3)) (kk : W p l e R s m args below meth c H locs cells slots Q (F0 m (pc + 3) ls (.int (st.1 2 6) :: rest))) : W p l e R s m args below meth c H locs cells slots Q (F0 m pc ls (.ref (h 2) :: rest)) :=
  va_get (D := D) (ci := 0) (C := RX0) (T := TX0) (N := 18) E.1.1 E.1.2.1 E.1.2.2.2.2 inX0 E.1.2.2.2.1 E.2 hP 2 rfl rfl 6 (by decide) (E.1.2.2.2.2 _ fl_2_6) (fun _ h => h) rfl hdg kk
theorem s_2_6 (E : Env1 p s m args c cc nL RX0 D (tyL cI cJ cZ)) (hP : va_P D vwCl (wX h cI cJ cZ st) H) (hD : va_D A (wX h cI cJ cZ st)) (hS : va_S A H0 H locs) (hdg : decode cc pc = .ok (.putfield 90, 3)) (kk : ∀ (H1 : Heap) (locs1 : List Loc), va_P D vwCl (wX h cI cJ cZ (pt st 2 6 v)) H1 → va_D A (wX h cI cJ cZ (pt st 2 6 v)) → va_S A H0 H1 locs1 → W p l e R s m args below meth c H1 locs1 cells slots Q (F0 m (pc + 3) ls (rest))) : W p l e R s m args below meth c H locs cells slots Q (F0 m pc ls (.int v :: .ref (h 2) :: rest)) :=
  va_put (D := D) (ci := 0) (C := RX0) (T := TX0) (N := 18) (ty := .int) E.1.1 E.1.2.1 E.1.2.2.2.2 inX0 tyX0 tyX0_ok nmX0 E.1.2.2.2.1 E.2 hP hD hS 2 rfl rfl 6 (by decide) (E.1.2.2.2.2 _ fl_2_6) (fun _ h => h) rfl (by decide +kernel) rfl rfl (Nat.le_of_ble_eq_true rfl) hdg kk
theorem fl_2_7 : Cond.fieldLink RX0 93 "LooseHeap$Collector" "targetFilled" "I" ∈ TB := tb_in 110 (by decide +kernel) (by decide +kernel)
theorem g_2_7 (E : Env1 p s m args c cc nL RX0 D (tyL cI cJ cZ)) (hP : va_P D vwCl (wX h cI cJ cZ st) H) (hdg : decode cc pc = .ok (.getfield 93, 3)) (kk : W p l e R s m args below meth c H locs cells slots Q (F0 m (pc + 3) ls (.int (st.1 2 7) :: rest))) : W p l e R s m args below meth c H locs cells slots Q (F0 m pc ls (.ref (h 2) :: rest)) :=
  va_get (D := D) (ci := 0) (C := RX0) (T := TX0) (N := 18) E.1.1 E.1.2.1 E.1.2.2.2.2 inX0 E.1.2.2.2.1 E.2 hP 2 rfl rfl 7 (by decide) (E.1.2.2.2.2 _ fl_2_7) (fun _ h => h) rfl hdg kk
theorem s_2_7 (E : Env1 p s m args c cc nL RX0 D (tyL cI cJ cZ)) (hP : va_P D vwCl (wX h cI cJ cZ st) H) (hD : va_D A (wX h cI cJ cZ st)) (hS : va_S A H0 H locs) (hdg : decode cc pc = .ok (.putfield 93, 3)) (kk : ∀ (H1 : Heap) (locs1 : List Loc), va_P D vwCl (wX h cI cJ cZ (pt st 2 7 v)) H1 → va_D A (wX h cI cJ cZ (pt st 2 7 v)) → va_S A H0 H1 locs1 → W p l e R s m args below meth c H1 locs1 cells slots Q (F0 m (pc + 3) ls (rest))) : W p l e R s m args below meth c H locs cells slots Q (F0 m pc ls (.int v :: .ref (h 2) :: rest)) :=
  va_put (D := D) (ci := 0) (C := RX0) (T := TX0) (N := 18) (ty := .int) E.1.1 E.1.2.1 E.1.2.2.2.2 inX0 tyX0 tyX0_ok nmX0 E.1.2.2.2.1 E.2 hP hD hS 2 rfl rfl 7 (by decide) (E.1.2.2.2.2 _ fl_2_7) (fun _ h => h) rfl (by decide +kernel) rfl rfl (Nat.le_of_ble_eq_true rfl) hdg kk
theorem fl_2_8 : Cond.fieldLink RX0 96 "LooseHeap$Collector" "moved" "I" ∈ TB := tb_in 111 (by decide +kernel) (by decide +kernel)
theorem g_2_8 (E : Env1 p s m args c cc nL RX0 D (tyL cI cJ cZ)) (hP : va_P D vwCl (wX h cI cJ cZ st) H) (hdg : decode cc pc = .ok (.getfield 96, 3)) (kk : W p l e R s m args below meth c H locs cells slots Q (F0 m (pc + 3) ls (.int (st.1 2 8) :: rest))) : W p l e R s m args below meth c H locs cells slots Q (F0 m pc ls (.ref (h 2) :: rest)) :=
  va_get (D := D) (ci := 0) (C := RX0) (T := TX0) (N := 18) E.1.1 E.1.2.1 E.1.2.2.2.2 inX0 E.1.2.2.2.1 E.2 hP 2 rfl rfl 8 (by decide) (E.1.2.2.2.2 _ fl_2_8) (fun _ h => h) rfl hdg kk
theorem s_2_8 (E : Env1 p s m args c cc nL RX0 D (tyL cI cJ cZ)) (hP : va_P D vwCl (wX h cI cJ cZ st) H) (hD : va_D A (wX h cI cJ cZ st)) (hS : va_S A H0 H locs) (hdg : decode cc pc = .ok (.putfield 96, 3)) (kk : ∀ (H1 : Heap) (locs1 : List Loc), va_P D vwCl (wX h cI cJ cZ (pt st 2 8 v)) H1 → va_D A (wX h cI cJ cZ (pt st 2 8 v)) → va_S A H0 H1 locs1 → W p l e R s m args below meth c H1 locs1 cells slots Q (F0 m (pc + 3) ls (rest))) : W p l e R s m args below meth c H locs cells slots Q (F0 m pc ls (.int v :: .ref (h 2) :: rest)) :=
  va_put (D := D) (ci := 0) (C := RX0) (T := TX0) (N := 18) (ty := .int) E.1.1 E.1.2.1 E.1.2.2.2.2 inX0 tyX0 tyX0_ok nmX0 E.1.2.2.2.1 E.2 hP hD hS 2 rfl rfl 8 (by decide) (E.1.2.2.2.2 _ fl_2_8) (fun _ h => h) rfl (by decide +kernel) rfl rfl (Nat.le_of_ble_eq_true rfl) hdg kk
theorem fl_2_9 : Cond.fieldLink RX0 99 "LooseHeap$Collector" "taken" "I" ∈ TB := tb_in 112 (by decide +kernel) (by decide +kernel)
theorem g_2_9 (E : Env1 p s m args c cc nL RX0 D (tyL cI cJ cZ)) (hP : va_P D vwCl (wX h cI cJ cZ st) H) (hdg : decode cc pc = .ok (.getfield 99, 3)) (kk : W p l e R s m args below meth c H locs cells slots Q (F0 m (pc + 3) ls (.int (st.1 2 9) :: rest))) : W p l e R s m args below meth c H locs cells slots Q (F0 m pc ls (.ref (h 2) :: rest)) :=
  va_get (D := D) (ci := 0) (C := RX0) (T := TX0) (N := 18) E.1.1 E.1.2.1 E.1.2.2.2.2 inX0 E.1.2.2.2.1 E.2 hP 2 rfl rfl 9 (by decide) (E.1.2.2.2.2 _ fl_2_9) (fun _ h => h) rfl hdg kk
theorem s_2_9 (E : Env1 p s m args c cc nL RX0 D (tyL cI cJ cZ)) (hP : va_P D vwCl (wX h cI cJ cZ st) H) (hD : va_D A (wX h cI cJ cZ st)) (hS : va_S A H0 H locs) (hdg : decode cc pc = .ok (.putfield 99, 3)) (kk : ∀ (H1 : Heap) (locs1 : List Loc), va_P D vwCl (wX h cI cJ cZ (pt st 2 9 v)) H1 → va_D A (wX h cI cJ cZ (pt st 2 9 v)) → va_S A H0 H1 locs1 → W p l e R s m args below meth c H1 locs1 cells slots Q (F0 m (pc + 3) ls (rest))) : W p l e R s m args below meth c H locs cells slots Q (F0 m pc ls (.int v :: .ref (h 2) :: rest)) :=
  va_put (D := D) (ci := 0) (C := RX0) (T := TX0) (N := 18) (ty := .int) E.1.1 E.1.2.1 E.1.2.2.2.2 inX0 tyX0 tyX0_ok nmX0 E.1.2.2.2.1 E.2 hP hD hS 2 rfl rfl 9 (by decide) (E.1.2.2.2.2 _ fl_2_9) (fun _ h => h) rfl (by decide +kernel) rfl rfl (Nat.le_of_ble_eq_true rfl) hdg kk
theorem fl_2_10 : Cond.fieldLink RX0 32 "LooseHeap$Collector" "done" "I" ∈ TB := tb_in 113 (by decide +kernel) (by decide +kernel)
theorem g_2_10 (E : Env1 p s m args c cc nL RX0 D (tyL cI cJ cZ)) (hP : va_P D vwCl (wX h cI cJ cZ st) H) (hdg : decode cc pc = .ok (.getfield 32, 3)) (kk : W p l e R s m args below meth c H locs cells slots Q (F0 m (pc + 3) ls (.int (st.1 2 10) :: rest))) : W p l e R s m args below meth c H locs cells slots Q (F0 m pc ls (.ref (h 2) :: rest)) :=
  va_get (D := D) (ci := 0) (C := RX0) (T := TX0) (N := 18) E.1.1 E.1.2.1 E.1.2.2.2.2 inX0 E.1.2.2.2.1 E.2 hP 2 rfl rfl 10 (by decide) (E.1.2.2.2.2 _ fl_2_10) (fun _ h => h) rfl hdg kk
theorem s_2_10 (E : Env1 p s m args c cc nL RX0 D (tyL cI cJ cZ)) (hP : va_P D vwCl (wX h cI cJ cZ st) H) (hD : va_D A (wX h cI cJ cZ st)) (hS : va_S A H0 H locs) (hdg : decode cc pc = .ok (.putfield 32, 3)) (kk : ∀ (H1 : Heap) (locs1 : List Loc), va_P D vwCl (wX h cI cJ cZ (pt st 2 10 v)) H1 → va_D A (wX h cI cJ cZ (pt st 2 10 v)) → va_S A H0 H1 locs1 → W p l e R s m args below meth c H1 locs1 cells slots Q (F0 m (pc + 3) ls (rest))) : W p l e R s m args below meth c H locs cells slots Q (F0 m pc ls (.int v :: .ref (h 2) :: rest)) :=
  va_put (D := D) (ci := 0) (C := RX0) (T := TX0) (N := 18) (ty := .int) E.1.1 E.1.2.1 E.1.2.2.2.2 inX0 tyX0 tyX0_ok nmX0 E.1.2.2.2.1 E.2 hP hD hS 2 rfl rfl 10 (by decide) (E.1.2.2.2.2 _ fl_2_10) (fun _ h => h) rfl (by decide +kernel) rfl rfl (Nat.le_of_ble_eq_true rfl) hdg kk
theorem fl_2_11 : Cond.fieldLink RX0 36 "LooseHeap$Collector" "givenUp" "I" ∈ TB := tb_in 114 (by decide +kernel) (by decide +kernel)
theorem g_2_11 (E : Env1 p s m args c cc nL RX0 D (tyL cI cJ cZ)) (hP : va_P D vwCl (wX h cI cJ cZ st) H) (hdg : decode cc pc = .ok (.getfield 36, 3)) (kk : W p l e R s m args below meth c H locs cells slots Q (F0 m (pc + 3) ls (.int (st.1 2 11) :: rest))) : W p l e R s m args below meth c H locs cells slots Q (F0 m pc ls (.ref (h 2) :: rest)) :=
  va_get (D := D) (ci := 0) (C := RX0) (T := TX0) (N := 18) E.1.1 E.1.2.1 E.1.2.2.2.2 inX0 E.1.2.2.2.1 E.2 hP 2 rfl rfl 11 (by decide) (E.1.2.2.2.2 _ fl_2_11) (fun _ h => h) rfl hdg kk
theorem s_2_11 (E : Env1 p s m args c cc nL RX0 D (tyL cI cJ cZ)) (hP : va_P D vwCl (wX h cI cJ cZ st) H) (hD : va_D A (wX h cI cJ cZ st)) (hS : va_S A H0 H locs) (hdg : decode cc pc = .ok (.putfield 36, 3)) (kk : ∀ (H1 : Heap) (locs1 : List Loc), va_P D vwCl (wX h cI cJ cZ (pt st 2 11 v)) H1 → va_D A (wX h cI cJ cZ (pt st 2 11 v)) → va_S A H0 H1 locs1 → W p l e R s m args below meth c H1 locs1 cells slots Q (F0 m (pc + 3) ls (rest))) : W p l e R s m args below meth c H locs cells slots Q (F0 m pc ls (.int v :: .ref (h 2) :: rest)) :=
  va_put (D := D) (ci := 0) (C := RX0) (T := TX0) (N := 18) (ty := .int) E.1.1 E.1.2.1 E.1.2.2.2.2 inX0 tyX0 tyX0_ok nmX0 E.1.2.2.2.1 E.2 hP hD hS 2 rfl rfl 11 (by decide) (E.1.2.2.2.2 _ fl_2_11) (fun _ h => h) rfl (by decide +kernel) rfl rfl (Nat.le_of_ble_eq_true rfl) hdg kk
theorem fl_2_12 : Cond.fieldLink RX0 29 "LooseHeap$Collector" "latestHit" "[I" ∈ TB := tb_in 115 (by decide +kernel) (by decide +kernel)
theorem g_2_12 (E : Env1 p s m args c cc nL RX0 D (tyL cI cJ cZ)) (hP : va_P D vwCl (wX h cI cJ cZ st) H) (hdg : decode cc pc = .ok (.getfield 29, 3)) (kk : W p l e R s m args below meth c H locs cells slots Q (F0 m (pc + 3) ls (.ref (h 13) :: rest))) : W p l e R s m args below meth c H locs cells slots Q (F0 m pc ls (.ref (h 2) :: rest)) :=
  va_get (D := D) (ci := 0) (C := RX0) (T := TX0) (N := 18) E.1.1 E.1.2.1 E.1.2.2.2.2 inX0 E.1.2.2.2.1 E.2 hP 2 rfl rfl 12 (by decide) (E.1.2.2.2.2 _ fl_2_12) (fun _ h => h) rfl hdg kk
theorem fl_2_13 : Cond.fieldLink RX0 45 "LooseHeap$Collector" "latestHitPages" "I" ∈ TB := tb_in 116 (by decide +kernel) (by decide +kernel)
theorem g_2_13 (E : Env1 p s m args c cc nL RX0 D (tyL cI cJ cZ)) (hP : va_P D vwCl (wX h cI cJ cZ st) H) (hdg : decode cc pc = .ok (.getfield 45, 3)) (kk : W p l e R s m args below meth c H locs cells slots Q (F0 m (pc + 3) ls (.int (st.1 2 13) :: rest))) : W p l e R s m args below meth c H locs cells slots Q (F0 m pc ls (.ref (h 2) :: rest)) :=
  va_get (D := D) (ci := 0) (C := RX0) (T := TX0) (N := 18) E.1.1 E.1.2.1 E.1.2.2.2.2 inX0 E.1.2.2.2.1 E.2 hP 2 rfl rfl 13 (by decide) (E.1.2.2.2.2 _ fl_2_13) (fun _ h => h) rfl hdg kk
theorem s_2_13 (E : Env1 p s m args c cc nL RX0 D (tyL cI cJ cZ)) (hP : va_P D vwCl (wX h cI cJ cZ st) H) (hD : va_D A (wX h cI cJ cZ st)) (hS : va_S A H0 H locs) (hdg : decode cc pc = .ok (.putfield 45, 3)) (kk : ∀ (H1 : Heap) (locs1 : List Loc), va_P D vwCl (wX h cI cJ cZ (pt st 2 13 v)) H1 → va_D A (wX h cI cJ cZ (pt st 2 13 v)) → va_S A H0 H1 locs1 → W p l e R s m args below meth c H1 locs1 cells slots Q (F0 m (pc + 3) ls (rest))) : W p l e R s m args below meth c H locs cells slots Q (F0 m pc ls (.int v :: .ref (h 2) :: rest)) :=
  va_put (D := D) (ci := 0) (C := RX0) (T := TX0) (N := 18) (ty := .int) E.1.1 E.1.2.1 E.1.2.2.2.2 inX0 tyX0 tyX0_ok nmX0 E.1.2.2.2.1 E.2 hP hD hS 2 rfl rfl 13 (by decide) (E.1.2.2.2.2 _ fl_2_13) (fun _ h => h) rfl (by decide +kernel) rfl rfl (Nat.le_of_ble_eq_true rfl) hdg kk
theorem fl_2_14 : Cond.fieldLink RX0 48 "LooseHeap$Collector" "latestRow" "I" ∈ TB := tb_in 117 (by decide +kernel) (by decide +kernel)
theorem g_2_14 (E : Env1 p s m args c cc nL RX0 D (tyL cI cJ cZ)) (hP : va_P D vwCl (wX h cI cJ cZ st) H) (hdg : decode cc pc = .ok (.getfield 48, 3)) (kk : W p l e R s m args below meth c H locs cells slots Q (F0 m (pc + 3) ls (.int (st.1 2 14) :: rest))) : W p l e R s m args below meth c H locs cells slots Q (F0 m pc ls (.ref (h 2) :: rest)) :=
  va_get (D := D) (ci := 0) (C := RX0) (T := TX0) (N := 18) E.1.1 E.1.2.1 E.1.2.2.2.2 inX0 E.1.2.2.2.1 E.2 hP 2 rfl rfl 14 (by decide) (E.1.2.2.2.2 _ fl_2_14) (fun _ h => h) rfl hdg kk
theorem s_2_14 (E : Env1 p s m args c cc nL RX0 D (tyL cI cJ cZ)) (hP : va_P D vwCl (wX h cI cJ cZ st) H) (hD : va_D A (wX h cI cJ cZ st)) (hS : va_S A H0 H locs) (hdg : decode cc pc = .ok (.putfield 48, 3)) (kk : ∀ (H1 : Heap) (locs1 : List Loc), va_P D vwCl (wX h cI cJ cZ (pt st 2 14 v)) H1 → va_D A (wX h cI cJ cZ (pt st 2 14 v)) → va_S A H0 H1 locs1 → W p l e R s m args below meth c H1 locs1 cells slots Q (F0 m (pc + 3) ls (rest))) : W p l e R s m args below meth c H locs cells slots Q (F0 m pc ls (.int v :: .ref (h 2) :: rest)) :=
  va_put (D := D) (ci := 0) (C := RX0) (T := TX0) (N := 18) (ty := .int) E.1.1 E.1.2.1 E.1.2.2.2.2 inX0 tyX0 tyX0_ok nmX0 E.1.2.2.2.1 E.2 hP hD hS 2 rfl rfl 14 (by decide) (E.1.2.2.2.2 _ fl_2_14) (fun _ h => h) rfl (by decide +kernel) rfl rfl (Nat.le_of_ble_eq_true rfl) hdg kk
theorem fl_2_15 : Cond.fieldLink RX0 51 "LooseHeap$Collector" "latestMoved" "I" ∈ TB := tb_in 118 (by decide +kernel) (by decide +kernel)
theorem g_2_15 (E : Env1 p s m args c cc nL RX0 D (tyL cI cJ cZ)) (hP : va_P D vwCl (wX h cI cJ cZ st) H) (hdg : decode cc pc = .ok (.getfield 51, 3)) (kk : W p l e R s m args below meth c H locs cells slots Q (F0 m (pc + 3) ls (.int (st.1 2 15) :: rest))) : W p l e R s m args below meth c H locs cells slots Q (F0 m pc ls (.ref (h 2) :: rest)) :=
  va_get (D := D) (ci := 0) (C := RX0) (T := TX0) (N := 18) E.1.1 E.1.2.1 E.1.2.2.2.2 inX0 E.1.2.2.2.1 E.2 hP 2 rfl rfl 15 (by decide) (E.1.2.2.2.2 _ fl_2_15) (fun _ h => h) rfl hdg kk
theorem s_2_15 (E : Env1 p s m args c cc nL RX0 D (tyL cI cJ cZ)) (hP : va_P D vwCl (wX h cI cJ cZ st) H) (hD : va_D A (wX h cI cJ cZ st)) (hS : va_S A H0 H locs) (hdg : decode cc pc = .ok (.putfield 51, 3)) (kk : ∀ (H1 : Heap) (locs1 : List Loc), va_P D vwCl (wX h cI cJ cZ (pt st 2 15 v)) H1 → va_D A (wX h cI cJ cZ (pt st 2 15 v)) → va_S A H0 H1 locs1 → W p l e R s m args below meth c H1 locs1 cells slots Q (F0 m (pc + 3) ls (rest))) : W p l e R s m args below meth c H locs cells slots Q (F0 m pc ls (.int v :: .ref (h 2) :: rest)) :=
  va_put (D := D) (ci := 0) (C := RX0) (T := TX0) (N := 18) (ty := .int) E.1.1 E.1.2.1 E.1.2.2.2.2 inX0 tyX0 tyX0_ok nmX0 E.1.2.2.2.1 E.2 hP hD hS 2 rfl rfl 15 (by decide) (E.1.2.2.2.2 _ fl_2_15) (fun _ h => h) rfl (by decide +kernel) rfl rfl (Nat.le_of_ble_eq_true rfl) hdg kk
theorem fl_2_16 : Cond.fieldLink RX0 54 "LooseHeap$Collector" "latestTaken" "I" ∈ TB := tb_in 119 (by decide +kernel) (by decide +kernel)
theorem g_2_16 (E : Env1 p s m args c cc nL RX0 D (tyL cI cJ cZ)) (hP : va_P D vwCl (wX h cI cJ cZ st) H) (hdg : decode cc pc = .ok (.getfield 54, 3)) (kk : W p l e R s m args below meth c H locs cells slots Q (F0 m (pc + 3) ls (.int (st.1 2 16) :: rest))) : W p l e R s m args below meth c H locs cells slots Q (F0 m pc ls (.ref (h 2) :: rest)) :=
  va_get (D := D) (ci := 0) (C := RX0) (T := TX0) (N := 18) E.1.1 E.1.2.1 E.1.2.2.2.2 inX0 E.1.2.2.2.1 E.2 hP 2 rfl rfl 16 (by decide) (E.1.2.2.2.2 _ fl_2_16) (fun _ h => h) rfl hdg kk
theorem s_2_16 (E : Env1 p s m args c cc nL RX0 D (tyL cI cJ cZ)) (hP : va_P D vwCl (wX h cI cJ cZ st) H) (hD : va_D A (wX h cI cJ cZ st)) (hS : va_S A H0 H locs) (hdg : decode cc pc = .ok (.putfield 54, 3)) (kk : ∀ (H1 : Heap) (locs1 : List Loc), va_P D vwCl (wX h cI cJ cZ (pt st 2 16 v)) H1 → va_D A (wX h cI cJ cZ (pt st 2 16 v)) → va_S A H0 H1 locs1 → W p l e R s m args below meth c H1 locs1 cells slots Q (F0 m (pc + 3) ls (rest))) : W p l e R s m args below meth c H locs cells slots Q (F0 m pc ls (.int v :: .ref (h 2) :: rest)) :=
  va_put (D := D) (ci := 0) (C := RX0) (T := TX0) (N := 18) (ty := .int) E.1.1 E.1.2.1 E.1.2.2.2.2 inX0 tyX0 tyX0_ok nmX0 E.1.2.2.2.1 E.2 hP hD hS 2 rfl rfl 16 (by decide) (E.1.2.2.2.2 _ fl_2_16) (fun _ h => h) rfl (by decide +kernel) rfl rfl (Nat.le_of_ble_eq_true rfl) hdg kk
theorem fl_2_17 : Cond.fieldLink RX0 57 "LooseHeap$Collector" "latestFreed" "I" ∈ TB := tb_in 120 (by decide +kernel) (by decide +kernel)
theorem g_2_17 (E : Env1 p s m args c cc nL RX0 D (tyL cI cJ cZ)) (hP : va_P D vwCl (wX h cI cJ cZ st) H) (hdg : decode cc pc = .ok (.getfield 57, 3)) (kk : W p l e R s m args below meth c H locs cells slots Q (F0 m (pc + 3) ls (.int (st.1 2 17) :: rest))) : W p l e R s m args below meth c H locs cells slots Q (F0 m pc ls (.ref (h 2) :: rest)) :=
  va_get (D := D) (ci := 0) (C := RX0) (T := TX0) (N := 18) E.1.1 E.1.2.1 E.1.2.2.2.2 inX0 E.1.2.2.2.1 E.2 hP 2 rfl rfl 17 (by decide) (E.1.2.2.2.2 _ fl_2_17) (fun _ h => h) rfl hdg kk
theorem s_2_17 (E : Env1 p s m args c cc nL RX0 D (tyL cI cJ cZ)) (hP : va_P D vwCl (wX h cI cJ cZ st) H) (hD : va_D A (wX h cI cJ cZ st)) (hS : va_S A H0 H locs) (hdg : decode cc pc = .ok (.putfield 57, 3)) (kk : ∀ (H1 : Heap) (locs1 : List Loc), va_P D vwCl (wX h cI cJ cZ (pt st 2 17 v)) H1 → va_D A (wX h cI cJ cZ (pt st 2 17 v)) → va_S A H0 H1 locs1 → W p l e R s m args below meth c H1 locs1 cells slots Q (F0 m (pc + 3) ls (rest))) : W p l e R s m args below meth c H locs cells slots Q (F0 m pc ls (.int v :: .ref (h 2) :: rest)) :=
  va_put (D := D) (ci := 0) (C := RX0) (T := TX0) (N := 18) (ty := .int) E.1.1 E.1.2.1 E.1.2.2.2.2 inX0 tyX0 tyX0_ok nmX0 E.1.2.2.2.1 E.2 hP hD hS 2 rfl rfl 17 (by decide) (E.1.2.2.2.2 _ fl_2_17) (fun _ h => h) rfl (by decide +kernel) rfl rfl (Nat.le_of_ble_eq_true rfl) hdg kk
theorem fl_1_0 : Cond.fieldLink RX1 9 "LooseHeap$Space" "memory" "[I" ∈ TB := tb_in 73 (by decide +kernel) (by decide +kernel)
theorem g_1_0 (E : Env1 p s m args c cc nL RX1 D (tyL cI cJ cZ)) (hP : va_P D vwCl (wX h cI cJ cZ st) H) (hdg : decode cc pc = .ok (.getfield 9, 3)) (kk : W p l e R s m args below meth c H locs cells slots Q (F0 m (pc + 3) ls (.ref (h 5) :: rest))) : W p l e R s m args below meth c H locs cells slots Q (F0 m pc ls (.ref (h 1) :: rest)) :=
  va_get (D := D) (ci := 1) (C := RX1) (T := TX1) (N := 7) E.1.1 E.1.2.1 E.1.2.2.2.2 inX1 E.1.2.2.2.1 E.2 hP 1 rfl rfl 0 (by decide) (E.1.2.2.2.2 _ fl_1_0) (fun _ h => h) rfl hdg kk
theorem fl_1_1 : Cond.fieldLink RX1 15 "LooseHeap$Space" "kinds" "[I" ∈ TB := tb_in 74 (by decide +kernel) (by decide +kernel)
theorem g_1_1 (E : Env1 p s m args c cc nL RX1 D (tyL cI cJ cZ)) (hP : va_P D vwCl (wX h cI cJ cZ st) H) (hdg : decode cc pc = .ok (.getfield 15, 3)) (kk : W p l e R s m args below meth c H locs cells slots Q (F0 m (pc + 3) ls (.ref (h 6) :: rest))) : W p l e R s m args below meth c H locs cells slots Q (F0 m pc ls (.ref (h 1) :: rest)) :=
  va_get (D := D) (ci := 1) (C := RX1) (T := TX1) (N := 7) E.1.1 E.1.2.1 E.1.2.2.2.2 inX1 E.1.2.2.2.1 E.2 hP 1 rfl rfl 1 (by decide) (E.1.2.2.2.2 _ fl_1_1) (fun _ h => h) rfl hdg kk
theorem fl_1_2 : Cond.fieldLink RX1 18 "LooseHeap$Space" "filled" "[I" ∈ TB := tb_in 75 (by decide +kernel) (by decide +kernel)
theorem g_1_2 (E : Env1 p s m args c cc nL RX1 D (tyL cI cJ cZ)) (hP : va_P D vwCl (wX h cI cJ cZ st) H) (hdg : decode cc pc = .ok (.getfield 18, 3)) (kk : W p l e R s m args below meth c H locs cells slots Q (F0 m (pc + 3) ls (.ref (h 7) :: rest))) : W p l e R s m args below meth c H locs cells slots Q (F0 m pc ls (.ref (h 1) :: rest)) :=
  va_get (D := D) (ci := 1) (C := RX1) (T := TX1) (N := 7) E.1.1 E.1.2.1 E.1.2.2.2.2 inX1 E.1.2.2.2.1 E.2 hP 1 rfl rfl 2 (by decide) (E.1.2.2.2.2 _ fl_1_2) (fun _ h => h) rfl hdg kk
theorem fl_1_3 : Cond.fieldLink RX1 21 "LooseHeap$Space" "beginnings" "[J" ∈ TB := tb_in 76 (by decide +kernel) (by decide +kernel)
theorem g_1_3 (E : Env1 p s m args c cc nL RX1 D (tyL cI cJ cZ)) (hP : va_P D vwCl (wX h cI cJ cZ st) H) (hdg : decode cc pc = .ok (.getfield 21, 3)) (kk : W p l e R s m args below meth c H locs cells slots Q (F0 m (pc + 3) ls (.ref (h 8) :: rest))) : W p l e R s m args below meth c H locs cells slots Q (F0 m pc ls (.ref (h 1) :: rest)) :=
  va_get (D := D) (ci := 1) (C := RX1) (T := TX1) (N := 7) E.1.1 E.1.2.1 E.1.2.2.2.2 inX1 E.1.2.2.2.1 E.2 hP 1 rfl rfl 3 (by decide) (E.1.2.2.2.2 _ fl_1_3) (fun _ h => h) rfl hdg kk
theorem fl_1_4 : Cond.fieldLink RX1 25 "LooseHeap$Space" "pages" "I" ∈ TB := tb_in 77 (by decide +kernel) (by decide +kernel)
theorem g_1_4 (E : Env1 p s m args c cc nL RX1 D (tyL cI cJ cZ)) (hP : va_P D vwCl (wX h cI cJ cZ st) H) (hdg : decode cc pc = .ok (.getfield 25, 3)) (kk : W p l e R s m args below meth c H locs cells slots Q (F0 m (pc + 3) ls (.int (st.1 1 4) :: rest))) : W p l e R s m args below meth c H locs cells slots Q (F0 m pc ls (.ref (h 1) :: rest)) :=
  va_get (D := D) (ci := 1) (C := RX1) (T := TX1) (N := 7) E.1.1 E.1.2.1 E.1.2.2.2.2 inX1 E.1.2.2.2.1 E.2 hP 1 rfl rfl 4 (by decide) (E.1.2.2.2.2 _ fl_1_4) (fun _ h => h) rfl hdg kk
theorem s_1_4 (E : Env1 p s m args c cc nL RX1 D (tyL cI cJ cZ)) (hP : va_P D vwCl (wX h cI cJ cZ st) H) (hD : va_D A (wX h cI cJ cZ st)) (hS : va_S A H0 H locs) (hdg : decode cc pc = .ok (.putfield 25, 3)) (kk : ∀ (H1 : Heap) (locs1 : List Loc), va_P D vwCl (wX h cI cJ cZ (pt st 1 4 v)) H1 → va_D A (wX h cI cJ cZ (pt st 1 4 v)) → va_S A H0 H1 locs1 → W p l e R s m args below meth c H1 locs1 cells slots Q (F0 m (pc + 3) ls (rest))) : W p l e R s m args below meth c H locs cells slots Q (F0 m pc ls (.int v :: .ref (h 1) :: rest)) :=
  va_put (D := D) (ci := 1) (C := RX1) (T := TX1) (N := 7) (ty := .int) E.1.1 E.1.2.1 E.1.2.2.2.2 inX1 tyX1 tyX1_ok nmX1 E.1.2.2.2.1 E.2 hP hD hS 1 rfl rfl 4 (by decide) (E.1.2.2.2.2 _ fl_1_4) (fun _ h => h) rfl (by decide +kernel) rfl rfl (Nat.le_of_ble_eq_true rfl) hdg kk
theorem fl_1_5 : Cond.fieldLink RX1 29 "LooseHeap$Space" "words" "I" ∈ TB := tb_in 78 (by decide +kernel) (by decide +kernel)
theorem g_1_5 (E : Env1 p s m args c cc nL RX1 D (tyL cI cJ cZ)) (hP : va_P D vwCl (wX h cI cJ cZ st) H) (hdg : decode cc pc = .ok (.getfield 29, 3)) (kk : W p l e R s m args below meth c H locs cells slots Q (F0 m (pc + 3) ls (.int (st.1 1 5) :: rest))) : W p l e R s m args below meth c H locs cells slots Q (F0 m pc ls (.ref (h 1) :: rest)) :=
  va_get (D := D) (ci := 1) (C := RX1) (T := TX1) (N := 7) E.1.1 E.1.2.1 E.1.2.2.2.2 inX1 E.1.2.2.2.1 E.2 hP 1 rfl rfl 5 (by decide) (E.1.2.2.2.2 _ fl_1_5) (fun _ h => h) rfl hdg kk
theorem s_1_5 (E : Env1 p s m args c cc nL RX1 D (tyL cI cJ cZ)) (hP : va_P D vwCl (wX h cI cJ cZ st) H) (hD : va_D A (wX h cI cJ cZ st)) (hS : va_S A H0 H locs) (hdg : decode cc pc = .ok (.putfield 29, 3)) (kk : ∀ (H1 : Heap) (locs1 : List Loc), va_P D vwCl (wX h cI cJ cZ (pt st 1 5 v)) H1 → va_D A (wX h cI cJ cZ (pt st 1 5 v)) → va_S A H0 H1 locs1 → W p l e R s m args below meth c H1 locs1 cells slots Q (F0 m (pc + 3) ls (rest))) : W p l e R s m args below meth c H locs cells slots Q (F0 m pc ls (.int v :: .ref (h 1) :: rest)) :=
  va_put (D := D) (ci := 1) (C := RX1) (T := TX1) (N := 7) (ty := .int) E.1.1 E.1.2.1 E.1.2.2.2.2 inX1 tyX1 tyX1_ok nmX1 E.1.2.2.2.1 E.2 hP hD hS 1 rfl rfl 5 (by decide) (E.1.2.2.2.2 _ fl_1_5) (fun _ h => h) rfl (by decide +kernel) rfl rfl (Nat.le_of_ble_eq_true rfl) hdg kk
theorem fl_1_6 : Cond.fieldLink RX1 32 "LooseHeap$Space" "open" "I" ∈ TB := tb_in 79 (by decide +kernel) (by decide +kernel)
theorem g_1_6 (E : Env1 p s m args c cc nL RX1 D (tyL cI cJ cZ)) (hP : va_P D vwCl (wX h cI cJ cZ st) H) (hdg : decode cc pc = .ok (.getfield 32, 3)) (kk : W p l e R s m args below meth c H locs cells slots Q (F0 m (pc + 3) ls (.int (st.1 1 6) :: rest))) : W p l e R s m args below meth c H locs cells slots Q (F0 m pc ls (.ref (h 1) :: rest)) :=
  va_get (D := D) (ci := 1) (C := RX1) (T := TX1) (N := 7) E.1.1 E.1.2.1 E.1.2.2.2.2 inX1 E.1.2.2.2.1 E.2 hP 1 rfl rfl 6 (by decide) (E.1.2.2.2.2 _ fl_1_6) (fun _ h => h) rfl hdg kk
theorem s_1_6 (E : Env1 p s m args c cc nL RX1 D (tyL cI cJ cZ)) (hP : va_P D vwCl (wX h cI cJ cZ st) H) (hD : va_D A (wX h cI cJ cZ st)) (hS : va_S A H0 H locs) (hdg : decode cc pc = .ok (.putfield 32, 3)) (kk : ∀ (H1 : Heap) (locs1 : List Loc), va_P D vwCl (wX h cI cJ cZ (pt st 1 6 v)) H1 → va_D A (wX h cI cJ cZ (pt st 1 6 v)) → va_S A H0 H1 locs1 → W p l e R s m args below meth c H1 locs1 cells slots Q (F0 m (pc + 3) ls (rest))) : W p l e R s m args below meth c H locs cells slots Q (F0 m pc ls (.int v :: .ref (h 1) :: rest)) :=
  va_put (D := D) (ci := 1) (C := RX1) (T := TX1) (N := 7) (ty := .int) E.1.1 E.1.2.1 E.1.2.2.2.2 inX1 tyX1 tyX1_ok nmX1 E.1.2.2.2.1 E.2 hP hD hS 1 rfl rfl 6 (by decide) (E.1.2.2.2.2 _ fl_1_6) (fun _ h => h) rfl (by decide +kernel) rfl rfl (Nat.le_of_ble_eq_true rfl) hdg kk
theorem fl_0_0 : Cond.fieldLink RX2 10 "LooseHeap" "space" "LLooseHeap$Space;" ∈ TB := tb_in 179 (by decide +kernel) (by decide +kernel)
theorem g_0_0 (E : Env1 p s m args c cc nL RX2 D (tyL cI cJ cZ)) (hP : va_P D vwCl (wX h cI cJ cZ st) H) (hdg : decode cc pc = .ok (.getfield 10, 3)) (kk : W p l e R s m args below meth c H locs cells slots Q (F0 m (pc + 3) ls (.ref (h 1) :: rest))) : W p l e R s m args below meth c H locs cells slots Q (F0 m pc ls (.ref (h 0) :: rest)) :=
  va_get (D := D) (ci := 2) (C := RX2) (T := TX2) (N := 4) E.1.1 E.1.2.1 E.1.2.2.2.2 inX2 E.1.2.2.2.1 E.2 hP 0 rfl rfl 0 (by decide) (E.1.2.2.2.2 _ fl_0_0) (fun _ h => h) rfl hdg kk
theorem fl_0_1 : Cond.fieldLink RX2 21 "LooseHeap" "collector" "LLooseHeap$Collector;" ∈ TB := tb_in 180 (by decide +kernel) (by decide +kernel)
theorem g_0_1 (E : Env1 p s m args c cc nL RX2 D (tyL cI cJ cZ)) (hP : va_P D vwCl (wX h cI cJ cZ st) H) (hdg : decode cc pc = .ok (.getfield 21, 3)) (kk : W p l e R s m args below meth c H locs cells slots Q (F0 m (pc + 3) ls (.ref (h 2) :: rest))) : W p l e R s m args below meth c H locs cells slots Q (F0 m pc ls (.ref (h 0) :: rest)) :=
  va_get (D := D) (ci := 2) (C := RX2) (T := TX2) (N := 4) E.1.1 E.1.2.1 E.1.2.2.2.2 inX2 E.1.2.2.2.1 E.2 hP 0 rfl rfl 1 (by decide) (E.1.2.2.2.2 _ fl_0_1) (fun _ h => h) rfl hdg kk
theorem fl_0_2 : Cond.fieldLink RX2 25 "LooseHeap" "exactRoots" "[I" ∈ TB := tb_in 181 (by decide +kernel) (by decide +kernel)
theorem g_0_2 (E : Env1 p s m args c cc nL RX2 D (tyL cI cJ cZ)) (hP : va_P D vwCl (wX h cI cJ cZ st) H) (hdg : decode cc pc = .ok (.getfield 25, 3)) (kk : W p l e R s m args below meth c H locs cells slots Q (F0 m (pc + 3) ls (.ref (h 3) :: rest))) : W p l e R s m args below meth c H locs cells slots Q (F0 m pc ls (.ref (h 0) :: rest)) :=
  va_get (D := D) (ci := 2) (C := RX2) (T := TX2) (N := 4) E.1.1 E.1.2.1 E.1.2.2.2.2 inX2 E.1.2.2.2.1 E.2 hP 0 rfl rfl 2 (by decide) (E.1.2.2.2.2 _ fl_0_2) (fun _ h => h) rfl hdg kk
theorem fl_0_3 : Cond.fieldLink RX2 29 "LooseHeap" "looseRoots" "[I" ∈ TB := tb_in 182 (by decide +kernel) (by decide +kernel)
theorem g_0_3 (E : Env1 p s m args c cc nL RX2 D (tyL cI cJ cZ)) (hP : va_P D vwCl (wX h cI cJ cZ st) H) (hdg : decode cc pc = .ok (.getfield 29, 3)) (kk : W p l e R s m args below meth c H locs cells slots Q (F0 m (pc + 3) ls (.ref (h 4) :: rest))) : W p l e R s m args below meth c H locs cells slots Q (F0 m pc ls (.ref (h 0) :: rest)) :=
  va_get (D := D) (ci := 2) (C := RX2) (T := TX2) (N := 4) E.1.1 E.1.2.1 E.1.2.2.2.2 inX2 E.1.2.2.2.1 E.2 hP 0 rfl rfl 3 (by decide) (E.1.2.2.2.2 _ fl_0_3) (fun _ h => h) rfl hdg kk
theorem fl_14_0 : Cond.fieldLink RX3 1 "LooseHeapModel" "thrown" "I" ∈ TB := tb_in 693 (by decide +kernel) (by decide +kernel)
theorem g_14_0 (E : Env1 p s m args c cc nL RX3 D (tyL cI cJ cZ)) (hP : va_P D vwCl (wM h cI cJ cZ st) H) (hdg : decode cc pc = .ok (.getfield 1, 3)) (kk : W p l e R s m args below meth c H locs cells slots Q (F0 m (pc + 3) ls (.int (st.1 14 0) :: rest))) : W p l e R s m args below meth c H locs cells slots Q (F0 m pc ls (.ref (h 14) :: rest)) :=
  va_get (D := D) (ci := 3) (C := RX3) (T := TX3) (N := 27) E.1.1 E.1.2.1 E.1.2.2.2.2 inX3 E.1.2.2.2.1 E.2 hP 0 rfl rfl 0 (by decide) (E.1.2.2.2.2 _ fl_14_0) (fun _ h => h) rfl hdg kk
theorem s_14_0 (E : Env1 p s m args c cc nL RX3 D (tyL cI cJ cZ)) (hP : va_P D vwCl (wM h cI cJ cZ st) H) (hD : va_D A (wM h cI cJ cZ st)) (hS : va_S A H0 H locs) (hdg : decode cc pc = .ok (.putfield 1, 3)) (kk : ∀ (H1 : Heap) (locs1 : List Loc), va_P D vwCl (wM h cI cJ cZ (pt st 14 0 v)) H1 → va_D A (wM h cI cJ cZ (pt st 14 0 v)) → va_S A H0 H1 locs1 → W p l e R s m args below meth c H1 locs1 cells slots Q (F0 m (pc + 3) ls (rest))) : W p l e R s m args below meth c H locs cells slots Q (F0 m pc ls (.int v :: .ref (h 14) :: rest)) :=
  va_put (D := D) (ci := 3) (C := RX3) (T := TX3) (N := 27) (ty := .int) E.1.1 E.1.2.1 E.1.2.2.2.2 inX3 tyX3 tyX3_ok nmX3 E.1.2.2.2.1 E.2 hP hD hS 0 rfl rfl 0 (by decide) (E.1.2.2.2.2 _ fl_14_0) (fun _ h => h) rfl (by decide +kernel) rfl rfl (Nat.le_of_ble_eq_true rfl) hdg kk
theorem fl_14_1 : Cond.fieldLink RX3 67 "LooseHeapModel" "pages" "I" ∈ TB := tb_in 694 (by decide +kernel) (by decide +kernel)
theorem g_14_1 (E : Env1 p s m args c cc nL RX3 D (tyL cI cJ cZ)) (hP : va_P D vwCl (wM h cI cJ cZ st) H) (hdg : decode cc pc = .ok (.getfield 67, 3)) (kk : W p l e R s m args below meth c H locs cells slots Q (F0 m (pc + 3) ls (.int (st.1 14 1) :: rest))) : W p l e R s m args below meth c H locs cells slots Q (F0 m pc ls (.ref (h 14) :: rest)) :=
  va_get (D := D) (ci := 3) (C := RX3) (T := TX3) (N := 27) E.1.1 E.1.2.1 E.1.2.2.2.2 inX3 E.1.2.2.2.1 E.2 hP 0 rfl rfl 1 (by decide) (E.1.2.2.2.2 _ fl_14_1) (fun _ h => h) rfl hdg kk
theorem s_14_1 (E : Env1 p s m args c cc nL RX3 D (tyL cI cJ cZ)) (hP : va_P D vwCl (wM h cI cJ cZ st) H) (hD : va_D A (wM h cI cJ cZ st)) (hS : va_S A H0 H locs) (hdg : decode cc pc = .ok (.putfield 67, 3)) (kk : ∀ (H1 : Heap) (locs1 : List Loc), va_P D vwCl (wM h cI cJ cZ (pt st 14 1 v)) H1 → va_D A (wM h cI cJ cZ (pt st 14 1 v)) → va_S A H0 H1 locs1 → W p l e R s m args below meth c H1 locs1 cells slots Q (F0 m (pc + 3) ls (rest))) : W p l e R s m args below meth c H locs cells slots Q (F0 m pc ls (.int v :: .ref (h 14) :: rest)) :=
  va_put (D := D) (ci := 3) (C := RX3) (T := TX3) (N := 27) (ty := .int) E.1.1 E.1.2.1 E.1.2.2.2.2 inX3 tyX3 tyX3_ok nmX3 E.1.2.2.2.1 E.2 hP hD hS 0 rfl rfl 1 (by decide) (E.1.2.2.2.2 _ fl_14_1) (fun _ h => h) rfl (by decide +kernel) rfl rfl (Nat.le_of_ble_eq_true rfl) hdg kk
theorem fl_14_2 : Cond.fieldLink RX3 70 "LooseHeapModel" "words" "I" ∈ TB := tb_in 695 (by decide +kernel) (by decide +kernel)
theorem g_14_2 (E : Env1 p s m args c cc nL RX3 D (tyL cI cJ cZ)) (hP : va_P D vwCl (wM h cI cJ cZ st) H) (hdg : decode cc pc = .ok (.getfield 70, 3)) (kk : W p l e R s m args below meth c H locs cells slots Q (F0 m (pc + 3) ls (.int (st.1 14 2) :: rest))) : W p l e R s m args below meth c H locs cells slots Q (F0 m pc ls (.ref (h 14) :: rest)) :=
  va_get (D := D) (ci := 3) (C := RX3) (T := TX3) (N := 27) E.1.1 E.1.2.1 E.1.2.2.2.2 inX3 E.1.2.2.2.1 E.2 hP 0 rfl rfl 2 (by decide) (E.1.2.2.2.2 _ fl_14_2) (fun _ h => h) rfl hdg kk
theorem s_14_2 (E : Env1 p s m args c cc nL RX3 D (tyL cI cJ cZ)) (hP : va_P D vwCl (wM h cI cJ cZ st) H) (hD : va_D A (wM h cI cJ cZ st)) (hS : va_S A H0 H locs) (hdg : decode cc pc = .ok (.putfield 70, 3)) (kk : ∀ (H1 : Heap) (locs1 : List Loc), va_P D vwCl (wM h cI cJ cZ (pt st 14 2 v)) H1 → va_D A (wM h cI cJ cZ (pt st 14 2 v)) → va_S A H0 H1 locs1 → W p l e R s m args below meth c H1 locs1 cells slots Q (F0 m (pc + 3) ls (rest))) : W p l e R s m args below meth c H locs cells slots Q (F0 m pc ls (.int v :: .ref (h 14) :: rest)) :=
  va_put (D := D) (ci := 3) (C := RX3) (T := TX3) (N := 27) (ty := .int) E.1.1 E.1.2.1 E.1.2.2.2.2 inX3 tyX3 tyX3_ok nmX3 E.1.2.2.2.1 E.2 hP hD hS 0 rfl rfl 2 (by decide) (E.1.2.2.2.2 _ fl_14_2) (fun _ h => h) rfl (by decide +kernel) rfl rfl (Nat.le_of_ble_eq_true rfl) hdg kk
theorem fl_14_3 : Cond.fieldLink RX3 13 "LooseHeapModel" "kind" "[I" ∈ TB := tb_in 696 (by decide +kernel) (by decide +kernel)
theorem g_14_3 (E : Env1 p s m args c cc nL RX3 D (tyL cI cJ cZ)) (hP : va_P D vwCl (wM h cI cJ cZ st) H) (hdg : decode cc pc = .ok (.getfield 13, 3)) (kk : W p l e R s m args below meth c H locs cells slots Q (F0 m (pc + 3) ls (.ref (h 15) :: rest))) : W p l e R s m args below meth c H locs cells slots Q (F0 m pc ls (.ref (h 14) :: rest)) :=
  va_get (D := D) (ci := 3) (C := RX3) (T := TX3) (N := 27) E.1.1 E.1.2.1 E.1.2.2.2.2 inX3 E.1.2.2.2.1 E.2 hP 0 rfl rfl 3 (by decide) (E.1.2.2.2.2 _ fl_14_3) (fun _ h => h) rfl hdg kk
theorem fl_14_4 : Cond.fieldLink RX3 17 "LooseHeapModel" "filled" "[I" ∈ TB := tb_in 697 (by decide +kernel) (by decide +kernel)
theorem g_14_4 (E : Env1 p s m args c cc nL RX3 D (tyL cI cJ cZ)) (hP : va_P D vwCl (wM h cI cJ cZ st) H) (hdg : decode cc pc = .ok (.getfield 17, 3)) (kk : W p l e R s m args below meth c H locs cells slots Q (F0 m (pc + 3) ls (.ref (h 16) :: rest))) : W p l e R s m args below meth c H locs cells slots Q (F0 m pc ls (.ref (h 14) :: rest)) :=
  va_get (D := D) (ci := 3) (C := RX3) (T := TX3) (N := 27) E.1.1 E.1.2.1 E.1.2.2.2.2 inX3 E.1.2.2.2.1 E.2 hP 0 rfl rfl 4 (by decide) (E.1.2.2.2.2 _ fl_14_4) (fun _ h => h) rfl hdg kk
theorem fl_14_5 : Cond.fieldLink RX3 20 "LooseHeapModel" "hit" "[Z" ∈ TB := tb_in 698 (by decide +kernel) (by decide +kernel)
theorem g_14_5 (E : Env1 p s m args c cc nL RX3 D (tyL cI cJ cZ)) (hP : va_P D vwCl (wM h cI cJ cZ st) H) (hdg : decode cc pc = .ok (.getfield 20, 3)) (kk : W p l e R s m args below meth c H locs cells slots Q (F0 m (pc + 3) ls (.ref (h 17) :: rest))) : W p l e R s m args below meth c H locs cells slots Q (F0 m pc ls (.ref (h 14) :: rest)) :=
  va_get (D := D) (ci := 3) (C := RX3) (T := TX3) (N := 27) E.1.1 E.1.2.1 E.1.2.2.2.2 inX3 E.1.2.2.2.1 E.2 hP 0 rfl rfl 5 (by decide) (E.1.2.2.2.2 _ fl_14_5) (fun _ h => h) rfl hdg kk
theorem fl_14_6 : Cond.fieldLink RX3 73 "LooseHeapModel" "open" "I" ∈ TB := tb_in 699 (by decide +kernel) (by decide +kernel)
theorem g_14_6 (E : Env1 p s m args c cc nL RX3 D (tyL cI cJ cZ)) (hP : va_P D vwCl (wM h cI cJ cZ st) H) (hdg : decode cc pc = .ok (.getfield 73, 3)) (kk : W p l e R s m args below meth c H locs cells slots Q (F0 m (pc + 3) ls (.int (st.1 14 6) :: rest))) : W p l e R s m args below meth c H locs cells slots Q (F0 m pc ls (.ref (h 14) :: rest)) :=
  va_get (D := D) (ci := 3) (C := RX3) (T := TX3) (N := 27) E.1.1 E.1.2.1 E.1.2.2.2.2 inX3 E.1.2.2.2.1 E.2 hP 0 rfl rfl 6 (by decide) (E.1.2.2.2.2 _ fl_14_6) (fun _ h => h) rfl hdg kk
theorem s_14_6 (E : Env1 p s m args c cc nL RX3 D (tyL cI cJ cZ)) (hP : va_P D vwCl (wM h cI cJ cZ st) H) (hD : va_D A (wM h cI cJ cZ st)) (hS : va_S A H0 H locs) (hdg : decode cc pc = .ok (.putfield 73, 3)) (kk : ∀ (H1 : Heap) (locs1 : List Loc), va_P D vwCl (wM h cI cJ cZ (pt st 14 6 v)) H1 → va_D A (wM h cI cJ cZ (pt st 14 6 v)) → va_S A H0 H1 locs1 → W p l e R s m args below meth c H1 locs1 cells slots Q (F0 m (pc + 3) ls (rest))) : W p l e R s m args below meth c H locs cells slots Q (F0 m pc ls (.int v :: .ref (h 14) :: rest)) :=
  va_put (D := D) (ci := 3) (C := RX3) (T := TX3) (N := 27) (ty := .int) E.1.1 E.1.2.1 E.1.2.2.2.2 inX3 tyX3 tyX3_ok nmX3 E.1.2.2.2.1 E.2 hP hD hS 0 rfl rfl 6 (by decide) (E.1.2.2.2.2 _ fl_14_6) (fun _ h => h) rfl (by decide +kernel) rfl rfl (Nat.le_of_ble_eq_true rfl) hdg kk
theorem fl_14_7 : Cond.fieldLink RX3 76 "LooseHeapModel" "objects" "I" ∈ TB := tb_in 700 (by decide +kernel) (by decide +kernel)
theorem g_14_7 (E : Env1 p s m args c cc nL RX3 D (tyL cI cJ cZ)) (hP : va_P D vwCl (wM h cI cJ cZ st) H) (hdg : decode cc pc = .ok (.getfield 76, 3)) (kk : W p l e R s m args below meth c H locs cells slots Q (F0 m (pc + 3) ls (.int (st.1 14 7) :: rest))) : W p l e R s m args below meth c H locs cells slots Q (F0 m pc ls (.ref (h 14) :: rest)) :=
  va_get (D := D) (ci := 3) (C := RX3) (T := TX3) (N := 27) E.1.1 E.1.2.1 E.1.2.2.2.2 inX3 E.1.2.2.2.1 E.2 hP 0 rfl rfl 7 (by decide) (E.1.2.2.2.2 _ fl_14_7) (fun _ h => h) rfl hdg kk
theorem s_14_7 (E : Env1 p s m args c cc nL RX3 D (tyL cI cJ cZ)) (hP : va_P D vwCl (wM h cI cJ cZ st) H) (hD : va_D A (wM h cI cJ cZ st)) (hS : va_S A H0 H locs) (hdg : decode cc pc = .ok (.putfield 76, 3)) (kk : ∀ (H1 : Heap) (locs1 : List Loc), va_P D vwCl (wM h cI cJ cZ (pt st 14 7 v)) H1 → va_D A (wM h cI cJ cZ (pt st 14 7 v)) → va_S A H0 H1 locs1 → W p l e R s m args below meth c H1 locs1 cells slots Q (F0 m (pc + 3) ls (rest))) : W p l e R s m args below meth c H locs cells slots Q (F0 m pc ls (.int v :: .ref (h 14) :: rest)) :=
  va_put (D := D) (ci := 3) (C := RX3) (T := TX3) (N := 27) (ty := .int) E.1.1 E.1.2.1 E.1.2.2.2.2 inX3 tyX3 tyX3_ok nmX3 E.1.2.2.2.1 E.2 hP hD hS 0 rfl rfl 7 (by decide) (E.1.2.2.2.2 _ fl_14_7) (fun _ h => h) rfl (by decide +kernel) rfl rfl (Nat.le_of_ble_eq_true rfl) hdg kk
theorem fl_14_8 : Cond.fieldLink RX3 24 "LooseHeapModel" "address" "[I" ∈ TB := tb_in 701 (by decide +kernel) (by decide +kernel)
theorem g_14_8 (E : Env1 p s m args c cc nL RX3 D (tyL cI cJ cZ)) (hP : va_P D vwCl (wM h cI cJ cZ st) H) (hdg : decode cc pc = .ok (.getfield 24, 3)) (kk : W p l e R s m args below meth c H locs cells slots Q (F0 m (pc + 3) ls (.ref (h 18) :: rest))) : W p l e R s m args below meth c H locs cells slots Q (F0 m pc ls (.ref (h 14) :: rest)) :=
  va_get (D := D) (ci := 3) (C := RX3) (T := TX3) (N := 27) E.1.1 E.1.2.1 E.1.2.2.2.2 inX3 E.1.2.2.2.1 E.2 hP 0 rfl rfl 8 (by decide) (E.1.2.2.2.2 _ fl_14_8) (fun _ h => h) rfl hdg kk
theorem fl_14_9 : Cond.fieldLink RX3 27 "LooseHeapModel" "refs" "[I" ∈ TB := tb_in 702 (by decide +kernel) (by decide +kernel)
theorem g_14_9 (E : Env1 p s m args c cc nL RX3 D (tyL cI cJ cZ)) (hP : va_P D vwCl (wM h cI cJ cZ st) H) (hdg : decode cc pc = .ok (.getfield 27, 3)) (kk : W p l e R s m args below meth c H locs cells slots Q (F0 m (pc + 3) ls (.ref (h 19) :: rest))) : W p l e R s m args below meth c H locs cells slots Q (F0 m pc ls (.ref (h 14) :: rest)) :=
  va_get (D := D) (ci := 3) (C := RX3) (T := TX3) (N := 27) E.1.1 E.1.2.1 E.1.2.2.2.2 inX3 E.1.2.2.2.1 E.2 hP 0 rfl rfl 9 (by decide) (E.1.2.2.2.2 _ fl_14_9) (fun _ h => h) rfl hdg kk
theorem fl_14_10 : Cond.fieldLink RX3 30 "LooseHeapModel" "data" "[I" ∈ TB := tb_in 703 (by decide +kernel) (by decide +kernel)
theorem g_14_10 (E : Env1 p s m args c cc nL RX3 D (tyL cI cJ cZ)) (hP : va_P D vwCl (wM h cI cJ cZ st) H) (hdg : decode cc pc = .ok (.getfield 30, 3)) (kk : W p l e R s m args below meth c H locs cells slots Q (F0 m (pc + 3) ls (.ref (h 20) :: rest))) : W p l e R s m args below meth c H locs cells slots Q (F0 m pc ls (.ref (h 14) :: rest)) :=
  va_get (D := D) (ci := 3) (C := RX3) (T := TX3) (N := 27) E.1.1 E.1.2.1 E.1.2.2.2.2 inX3 E.1.2.2.2.1 E.2 hP 0 rfl rfl 10 (by decide) (E.1.2.2.2.2 _ fl_14_10) (fun _ h => h) rfl hdg kk
theorem fl_14_11 : Cond.fieldLink RX3 33 "LooseHeapModel" "from" "[I" ∈ TB := tb_in 704 (by decide +kernel) (by decide +kernel)
theorem g_14_11 (E : Env1 p s m args c cc nL RX3 D (tyL cI cJ cZ)) (hP : va_P D vwCl (wM h cI cJ cZ st) H) (hdg : decode cc pc = .ok (.getfield 33, 3)) (kk : W p l e R s m args below meth c H locs cells slots Q (F0 m (pc + 3) ls (.ref (h 21) :: rest))) : W p l e R s m args below meth c H locs cells slots Q (F0 m pc ls (.ref (h 14) :: rest)) :=
  va_get (D := D) (ci := 3) (C := RX3) (T := TX3) (N := 27) E.1.1 E.1.2.1 E.1.2.2.2.2 inX3 E.1.2.2.2.1 E.2 hP 0 rfl rfl 11 (by decide) (E.1.2.2.2.2 _ fl_14_11) (fun _ h => h) rfl hdg kk
theorem fl_14_12 : Cond.fieldLink RX3 36 "LooseHeapModel" "pool" "[I" ∈ TB := tb_in 705 (by decide +kernel) (by decide +kernel)
theorem g_14_12 (E : Env1 p s m args c cc nL RX3 D (tyL cI cJ cZ)) (hP : va_P D vwCl (wM h cI cJ cZ st) H) (hdg : decode cc pc = .ok (.getfield 36, 3)) (kk : W p l e R s m args below meth c H locs cells slots Q (F0 m (pc + 3) ls (.ref (h 22) :: rest))) : W p l e R s m args below meth c H locs cells slots Q (F0 m pc ls (.ref (h 14) :: rest)) :=
  va_get (D := D) (ci := 3) (C := RX3) (T := TX3) (N := 27) E.1.1 E.1.2.1 E.1.2.2.2.2 inX3 E.1.2.2.2.1 E.2 hP 0 rfl rfl 12 (by decide) (E.1.2.2.2.2 _ fl_14_12) (fun _ h => h) rfl hdg kk
theorem fl_14_13 : Cond.fieldLink RX3 79 "LooseHeapModel" "pooled" "I" ∈ TB := tb_in 706 (by decide +kernel) (by decide +kernel)
theorem g_14_13 (E : Env1 p s m args c cc nL RX3 D (tyL cI cJ cZ)) (hP : va_P D vwCl (wM h cI cJ cZ st) H) (hdg : decode cc pc = .ok (.getfield 79, 3)) (kk : W p l e R s m args below meth c H locs cells slots Q (F0 m (pc + 3) ls (.int (st.1 14 13) :: rest))) : W p l e R s m args below meth c H locs cells slots Q (F0 m pc ls (.ref (h 14) :: rest)) :=
  va_get (D := D) (ci := 3) (C := RX3) (T := TX3) (N := 27) E.1.1 E.1.2.1 E.1.2.2.2.2 inX3 E.1.2.2.2.1 E.2 hP 0 rfl rfl 13 (by decide) (E.1.2.2.2.2 _ fl_14_13) (fun _ h => h) rfl hdg kk
theorem s_14_13 (E : Env1 p s m args c cc nL RX3 D (tyL cI cJ cZ)) (hP : va_P D vwCl (wM h cI cJ cZ st) H) (hD : va_D A (wM h cI cJ cZ st)) (hS : va_S A H0 H locs) (hdg : decode cc pc = .ok (.putfield 79, 3)) (kk : ∀ (H1 : Heap) (locs1 : List Loc), va_P D vwCl (wM h cI cJ cZ (pt st 14 13 v)) H1 → va_D A (wM h cI cJ cZ (pt st 14 13 v)) → va_S A H0 H1 locs1 → W p l e R s m args below meth c H1 locs1 cells slots Q (F0 m (pc + 3) ls (rest))) : W p l e R s m args below meth c H locs cells slots Q (F0 m pc ls (.int v :: .ref (h 14) :: rest)) :=
  va_put (D := D) (ci := 3) (C := RX3) (T := TX3) (N := 27) (ty := .int) E.1.1 E.1.2.1 E.1.2.2.2.2 inX3 tyX3 tyX3_ok nmX3 E.1.2.2.2.1 E.2 hP hD hS 0 rfl rfl 13 (by decide) (E.1.2.2.2.2 _ fl_14_13) (fun _ h => h) rfl (by decide +kernel) rfl rfl (Nat.le_of_ble_eq_true rfl) hdg kk
theorem fl_14_14 : Cond.fieldLink RX3 39 "LooseHeapModel" "exact" "[I" ∈ TB := tb_in 707 (by decide +kernel) (by decide +kernel)
theorem g_14_14 (E : Env1 p s m args c cc nL RX3 D (tyL cI cJ cZ)) (hP : va_P D vwCl (wM h cI cJ cZ st) H) (hdg : decode cc pc = .ok (.getfield 39, 3)) (kk : W p l e R s m args below meth c H locs cells slots Q (F0 m (pc + 3) ls (.ref (h 23) :: rest))) : W p l e R s m args below meth c H locs cells slots Q (F0 m pc ls (.ref (h 14) :: rest)) :=
  va_get (D := D) (ci := 3) (C := RX3) (T := TX3) (N := 27) E.1.1 E.1.2.1 E.1.2.2.2.2 inX3 E.1.2.2.2.1 E.2 hP 0 rfl rfl 14 (by decide) (E.1.2.2.2.2 _ fl_14_14) (fun _ h => h) rfl hdg kk
theorem fl_14_15 : Cond.fieldLink RX3 42 "LooseHeapModel" "loose" "[I" ∈ TB := tb_in 708 (by decide +kernel) (by decide +kernel)
theorem g_14_15 (E : Env1 p s m args c cc nL RX3 D (tyL cI cJ cZ)) (hP : va_P D vwCl (wM h cI cJ cZ st) H) (hdg : decode cc pc = .ok (.getfield 42, 3)) (kk : W p l e R s m args below meth c H locs cells slots Q (F0 m (pc + 3) ls (.ref (h 24) :: rest))) : W p l e R s m args below meth c H locs cells slots Q (F0 m pc ls (.ref (h 14) :: rest)) :=
  va_get (D := D) (ci := 3) (C := RX3) (T := TX3) (N := 27) E.1.1 E.1.2.1 E.1.2.2.2.2 inX3 E.1.2.2.2.1 E.2 hP 0 rfl rfl 15 (by decide) (E.1.2.2.2.2 _ fl_14_15) (fun _ h => h) rfl hdg kk
theorem fl_14_16 : Cond.fieldLink RX3 45 "LooseHeapModel" "told" "[I" ∈ TB := tb_in 709 (by decide +kernel) (by decide +kernel)
theorem g_14_16 (E : Env1 p s m args c cc nL RX3 D (tyL cI cJ cZ)) (hP : va_P D vwCl (wM h cI cJ cZ st) H) (hdg : decode cc pc = .ok (.getfield 45, 3)) (kk : W p l e R s m args below meth c H locs cells slots Q (F0 m (pc + 3) ls (.ref (h 25) :: rest))) : W p l e R s m args below meth c H locs cells slots Q (F0 m pc ls (.ref (h 14) :: rest)) :=
  va_get (D := D) (ci := 3) (C := RX3) (T := TX3) (N := 27) E.1.1 E.1.2.1 E.1.2.2.2.2 inX3 E.1.2.2.2.1 E.2 hP 0 rfl rfl 16 (by decide) (E.1.2.2.2.2 _ fl_14_16) (fun _ h => h) rfl hdg kk
theorem fl_14_17 : Cond.fieldLink RX3 48 "LooseHeapModel" "row" "[I" ∈ TB := tb_in 710 (by decide +kernel) (by decide +kernel)
theorem g_14_17 (E : Env1 p s m args c cc nL RX3 D (tyL cI cJ cZ)) (hP : va_P D vwCl (wM h cI cJ cZ st) H) (hdg : decode cc pc = .ok (.getfield 48, 3)) (kk : W p l e R s m args below meth c H locs cells slots Q (F0 m (pc + 3) ls (.ref (h 26) :: rest))) : W p l e R s m args below meth c H locs cells slots Q (F0 m pc ls (.ref (h 14) :: rest)) :=
  va_get (D := D) (ci := 3) (C := RX3) (T := TX3) (N := 27) E.1.1 E.1.2.1 E.1.2.2.2.2 inX3 E.1.2.2.2.1 E.2 hP 0 rfl rfl 17 (by decide) (E.1.2.2.2.2 _ fl_14_17) (fun _ h => h) rfl hdg kk
theorem fl_14_18 : Cond.fieldLink RX3 110 "LooseHeapModel" "rowed" "I" ∈ TB := tb_in 711 (by decide +kernel) (by decide +kernel)
theorem g_14_18 (E : Env1 p s m args c cc nL RX3 D (tyL cI cJ cZ)) (hP : va_P D vwCl (wM h cI cJ cZ st) H) (hdg : decode cc pc = .ok (.getfield 110, 3)) (kk : W p l e R s m args below meth c H locs cells slots Q (F0 m (pc + 3) ls (.int (st.1 14 18) :: rest))) : W p l e R s m args below meth c H locs cells slots Q (F0 m pc ls (.ref (h 14) :: rest)) :=
  va_get (D := D) (ci := 3) (C := RX3) (T := TX3) (N := 27) E.1.1 E.1.2.1 E.1.2.2.2.2 inX3 E.1.2.2.2.1 E.2 hP 0 rfl rfl 18 (by decide) (E.1.2.2.2.2 _ fl_14_18) (fun _ h => h) rfl hdg kk
theorem s_14_18 (E : Env1 p s m args c cc nL RX3 D (tyL cI cJ cZ)) (hP : va_P D vwCl (wM h cI cJ cZ st) H) (hD : va_D A (wM h cI cJ cZ st)) (hS : va_S A H0 H locs) (hdg : decode cc pc = .ok (.putfield 110, 3)) (kk : ∀ (H1 : Heap) (locs1 : List Loc), va_P D vwCl (wM h cI cJ cZ (pt st 14 18 v)) H1 → va_D A (wM h cI cJ cZ (pt st 14 18 v)) → va_S A H0 H1 locs1 → W p l e R s m args below meth c H1 locs1 cells slots Q (F0 m (pc + 3) ls (rest))) : W p l e R s m args below meth c H locs cells slots Q (F0 m pc ls (.int v :: .ref (h 14) :: rest)) :=
  va_put (D := D) (ci := 3) (C := RX3) (T := TX3) (N := 27) (ty := .int) E.1.1 E.1.2.1 E.1.2.2.2.2 inX3 tyX3 tyX3_ok nmX3 E.1.2.2.2.1 E.2 hP hD hS 0 rfl rfl 18 (by decide) (E.1.2.2.2.2 _ fl_14_18) (fun _ h => h) rfl (by decide +kernel) rfl rfl (Nat.le_of_ble_eq_true rfl) hdg kk
theorem fl_14_19 : Cond.fieldLink RX3 51 "LooseHeapModel" "next" "[I" ∈ TB := tb_in 712 (by decide +kernel) (by decide +kernel)
theorem g_14_19 (E : Env1 p s m args c cc nL RX3 D (tyL cI cJ cZ)) (hP : va_P D vwCl (wM h cI cJ cZ st) H) (hdg : decode cc pc = .ok (.getfield 51, 3)) (kk : W p l e R s m args below meth c H locs cells slots Q (F0 m (pc + 3) ls (.ref (h 27) :: rest))) : W p l e R s m args below meth c H locs cells slots Q (F0 m pc ls (.ref (h 14) :: rest)) :=
  va_get (D := D) (ci := 3) (C := RX3) (T := TX3) (N := 27) E.1.1 E.1.2.1 E.1.2.2.2.2 inX3 E.1.2.2.2.1 E.2 hP 0 rfl rfl 19 (by decide) (E.1.2.2.2.2 _ fl_14_19) (fun _ h => h) rfl hdg kk
theorem fl_14_20 : Cond.fieldLink RX3 54 "LooseHeapModel" "isHit" "[Z" ∈ TB := tb_in 713 (by decide +kernel) (by decide +kernel)
theorem g_14_20 (E : Env1 p s m args c cc nL RX3 D (tyL cI cJ cZ)) (hP : va_P D vwCl (wM h cI cJ cZ st) H) (hdg : decode cc pc = .ok (.getfield 54, 3)) (kk : W p l e R s m args below meth c H locs cells slots Q (F0 m (pc + 3) ls (.ref (h 28) :: rest))) : W p l e R s m args below meth c H locs cells slots Q (F0 m pc ls (.ref (h 14) :: rest)) :=
  va_get (D := D) (ci := 3) (C := RX3) (T := TX3) (N := 27) E.1.1 E.1.2.1 E.1.2.2.2.2 inX3 E.1.2.2.2.1 E.2 hP 0 rfl rfl 20 (by decide) (E.1.2.2.2.2 _ fl_14_20) (fun _ h => h) rfl hdg kk
theorem fl_14_21 : Cond.fieldLink RX3 57 "LooseHeapModel" "taken" "[I" ∈ TB := tb_in 714 (by decide +kernel) (by decide +kernel)
theorem g_14_21 (E : Env1 p s m args c cc nL RX3 D (tyL cI cJ cZ)) (hP : va_P D vwCl (wM h cI cJ cZ st) H) (hdg : decode cc pc = .ok (.getfield 57, 3)) (kk : W p l e R s m args below meth c H locs cells slots Q (F0 m (pc + 3) ls (.ref (h 29) :: rest))) : W p l e R s m args below meth c H locs cells slots Q (F0 m pc ls (.ref (h 14) :: rest)) :=
  va_get (D := D) (ci := 3) (C := RX3) (T := TX3) (N := 27) E.1.1 E.1.2.1 E.1.2.2.2.2 inX3 E.1.2.2.2.1 E.2 hP 0 rfl rfl 21 (by decide) (E.1.2.2.2.2 _ fl_14_21) (fun _ h => h) rfl hdg kk
theorem fl_14_22 : Cond.fieldLink RX3 120 "LooseHeapModel" "target" "I" ∈ TB := tb_in 715 (by decide +kernel) (by decide +kernel)
theorem g_14_22 (E : Env1 p s m args c cc nL RX3 D (tyL cI cJ cZ)) (hP : va_P D vwCl (wM h cI cJ cZ st) H) (hdg : decode cc pc = .ok (.getfield 120, 3)) (kk : W p l e R s m args below meth c H locs cells slots Q (F0 m (pc + 3) ls (.int (st.1 14 22) :: rest))) : W p l e R s m args below meth c H locs cells slots Q (F0 m pc ls (.ref (h 14) :: rest)) :=
  va_get (D := D) (ci := 3) (C := RX3) (T := TX3) (N := 27) E.1.1 E.1.2.1 E.1.2.2.2.2 inX3 E.1.2.2.2.1 E.2 hP 0 rfl rfl 22 (by decide) (E.1.2.2.2.2 _ fl_14_22) (fun _ h => h) rfl hdg kk
theorem s_14_22 (E : Env1 p s m args c cc nL RX3 D (tyL cI cJ cZ)) (hP : va_P D vwCl (wM h cI cJ cZ st) H) (hD : va_D A (wM h cI cJ cZ st)) (hS : va_S A H0 H locs) (hdg : decode cc pc = .ok (.putfield 120, 3)) (kk : ∀ (H1 : Heap) (locs1 : List Loc), va_P D vwCl (wM h cI cJ cZ (pt st 14 22 v)) H1 → va_D A (wM h cI cJ cZ (pt st 14 22 v)) → va_S A H0 H1 locs1 → W p l e R s m args below meth c H1 locs1 cells slots Q (F0 m (pc + 3) ls (rest))) : W p l e R s m args below meth c H locs cells slots Q (F0 m pc ls (.int v :: .ref (h 14) :: rest)) :=
  va_put (D := D) (ci := 3) (C := RX3) (T := TX3) (N := 27) (ty := .int) E.1.1 E.1.2.1 E.1.2.2.2.2 inX3 tyX3 tyX3_ok nmX3 E.1.2.2.2.1 E.2 hP hD hS 0 rfl rfl 22 (by decide) (E.1.2.2.2.2 _ fl_14_22) (fun _ h => h) rfl (by decide +kernel) rfl rfl (Nat.le_of_ble_eq_true rfl) hdg kk
theorem fl_14_23 : Cond.fieldLink RX3 123 "LooseHeapModel" "targetFilled" "I" ∈ TB := tb_in 716 (by decide +kernel) (by decide +kernel)
theorem g_14_23 (E : Env1 p s m args c cc nL RX3 D (tyL cI cJ cZ)) (hP : va_P D vwCl (wM h cI cJ cZ st) H) (hdg : decode cc pc = .ok (.getfield 123, 3)) (kk : W p l e R s m args below meth c H locs cells slots Q (F0 m (pc + 3) ls (.int (st.1 14 23) :: rest))) : W p l e R s m args below meth c H locs cells slots Q (F0 m pc ls (.ref (h 14) :: rest)) :=
  va_get (D := D) (ci := 3) (C := RX3) (T := TX3) (N := 27) E.1.1 E.1.2.1 E.1.2.2.2.2 inX3 E.1.2.2.2.1 E.2 hP 0 rfl rfl 23 (by decide) (E.1.2.2.2.2 _ fl_14_23) (fun _ h => h) rfl hdg kk
theorem s_14_23 (E : Env1 p s m args c cc nL RX3 D (tyL cI cJ cZ)) (hP : va_P D vwCl (wM h cI cJ cZ st) H) (hD : va_D A (wM h cI cJ cZ st)) (hS : va_S A H0 H locs) (hdg : decode cc pc = .ok (.putfield 123, 3)) (kk : ∀ (H1 : Heap) (locs1 : List Loc), va_P D vwCl (wM h cI cJ cZ (pt st 14 23 v)) H1 → va_D A (wM h cI cJ cZ (pt st 14 23 v)) → va_S A H0 H1 locs1 → W p l e R s m args below meth c H1 locs1 cells slots Q (F0 m (pc + 3) ls (rest))) : W p l e R s m args below meth c H locs cells slots Q (F0 m pc ls (.int v :: .ref (h 14) :: rest)) :=
  va_put (D := D) (ci := 3) (C := RX3) (T := TX3) (N := 27) (ty := .int) E.1.1 E.1.2.1 E.1.2.2.2.2 inX3 tyX3 tyX3_ok nmX3 E.1.2.2.2.1 E.2 hP hD hS 0 rfl rfl 23 (by decide) (E.1.2.2.2.2 _ fl_14_23) (fun _ h => h) rfl (by decide +kernel) rfl rfl (Nat.le_of_ble_eq_true rfl) hdg kk
theorem fl_14_24 : Cond.fieldLink RX3 126 "LooseHeapModel" "takes" "I" ∈ TB := tb_in 717 (by decide +kernel) (by decide +kernel)
theorem g_14_24 (E : Env1 p s m args c cc nL RX3 D (tyL cI cJ cZ)) (hP : va_P D vwCl (wM h cI cJ cZ st) H) (hdg : decode cc pc = .ok (.getfield 126, 3)) (kk : W p l e R s m args below meth c H locs cells slots Q (F0 m (pc + 3) ls (.int (st.1 14 24) :: rest))) : W p l e R s m args below meth c H locs cells slots Q (F0 m pc ls (.ref (h 14) :: rest)) :=
  va_get (D := D) (ci := 3) (C := RX3) (T := TX3) (N := 27) E.1.1 E.1.2.1 E.1.2.2.2.2 inX3 E.1.2.2.2.1 E.2 hP 0 rfl rfl 24 (by decide) (E.1.2.2.2.2 _ fl_14_24) (fun _ h => h) rfl hdg kk
theorem s_14_24 (E : Env1 p s m args c cc nL RX3 D (tyL cI cJ cZ)) (hP : va_P D vwCl (wM h cI cJ cZ st) H) (hD : va_D A (wM h cI cJ cZ st)) (hS : va_S A H0 H locs) (hdg : decode cc pc = .ok (.putfield 126, 3)) (kk : ∀ (H1 : Heap) (locs1 : List Loc), va_P D vwCl (wM h cI cJ cZ (pt st 14 24 v)) H1 → va_D A (wM h cI cJ cZ (pt st 14 24 v)) → va_S A H0 H1 locs1 → W p l e R s m args below meth c H1 locs1 cells slots Q (F0 m (pc + 3) ls (rest))) : W p l e R s m args below meth c H locs cells slots Q (F0 m pc ls (.int v :: .ref (h 14) :: rest)) :=
  va_put (D := D) (ci := 3) (C := RX3) (T := TX3) (N := 27) (ty := .int) E.1.1 E.1.2.1 E.1.2.2.2.2 inX3 tyX3 tyX3_ok nmX3 E.1.2.2.2.1 E.2 hP hD hS 0 rfl rfl 24 (by decide) (E.1.2.2.2.2 _ fl_14_24) (fun _ h => h) rfl (by decide +kernel) rfl rfl (Nat.le_of_ble_eq_true rfl) hdg kk
theorem fl_14_25 : Cond.fieldLink RX3 129 "LooseHeapModel" "moved" "I" ∈ TB := tb_in 718 (by decide +kernel) (by decide +kernel)
theorem g_14_25 (E : Env1 p s m args c cc nL RX3 D (tyL cI cJ cZ)) (hP : va_P D vwCl (wM h cI cJ cZ st) H) (hdg : decode cc pc = .ok (.getfield 129, 3)) (kk : W p l e R s m args below meth c H locs cells slots Q (F0 m (pc + 3) ls (.int (st.1 14 25) :: rest))) : W p l e R s m args below meth c H locs cells slots Q (F0 m pc ls (.ref (h 14) :: rest)) :=
  va_get (D := D) (ci := 3) (C := RX3) (T := TX3) (N := 27) E.1.1 E.1.2.1 E.1.2.2.2.2 inX3 E.1.2.2.2.1 E.2 hP 0 rfl rfl 25 (by decide) (E.1.2.2.2.2 _ fl_14_25) (fun _ h => h) rfl hdg kk
theorem s_14_25 (E : Env1 p s m args c cc nL RX3 D (tyL cI cJ cZ)) (hP : va_P D vwCl (wM h cI cJ cZ st) H) (hD : va_D A (wM h cI cJ cZ st)) (hS : va_S A H0 H locs) (hdg : decode cc pc = .ok (.putfield 129, 3)) (kk : ∀ (H1 : Heap) (locs1 : List Loc), va_P D vwCl (wM h cI cJ cZ (pt st 14 25 v)) H1 → va_D A (wM h cI cJ cZ (pt st 14 25 v)) → va_S A H0 H1 locs1 → W p l e R s m args below meth c H1 locs1 cells slots Q (F0 m (pc + 3) ls (rest))) : W p l e R s m args below meth c H locs cells slots Q (F0 m pc ls (.int v :: .ref (h 14) :: rest)) :=
  va_put (D := D) (ci := 3) (C := RX3) (T := TX3) (N := 27) (ty := .int) E.1.1 E.1.2.1 E.1.2.2.2.2 inX3 tyX3 tyX3_ok nmX3 E.1.2.2.2.1 E.2 hP hD hS 0 rfl rfl 25 (by decide) (E.1.2.2.2.2 _ fl_14_25) (fun _ h => h) rfl (by decide +kernel) rfl rfl (Nat.le_of_ble_eq_true rfl) hdg kk
theorem fl_14_26 : Cond.fieldLink RX3 60 "LooseHeapModel" "number" "[I" ∈ TB := tb_in 719 (by decide +kernel) (by decide +kernel)
theorem g_14_26 (E : Env1 p s m args c cc nL RX3 D (tyL cI cJ cZ)) (hP : va_P D vwCl (wM h cI cJ cZ st) H) (hdg : decode cc pc = .ok (.getfield 60, 3)) (kk : W p l e R s m args below meth c H locs cells slots Q (F0 m (pc + 3) ls (.ref (h 30) :: rest))) : W p l e R s m args below meth c H locs cells slots Q (F0 m pc ls (.ref (h 14) :: rest)) :=
  va_get (D := D) (ci := 3) (C := RX3) (T := TX3) (N := 27) E.1.1 E.1.2.1 E.1.2.2.2.2 inX3 E.1.2.2.2.1 E.2 hP 0 rfl rfl 26 (by decide) (E.1.2.2.2.2 _ fl_14_26) (fun _ h => h) rfl hdg kk
theorem la_3 (E : Env1 p s m args c cc nL own D (tyL cI cJ cZ)) (hP : va_P D vwCl (wX h cI cJ cZ st) H) (hi : vp_in i 32) (hdg : decode cc pc = .ok (.iaload, 1)) (kk : W p l e R s m args below meth c H locs cells slots Q (F0 m (pc + 1) ls (.int (st.1 3 i.toNatClampNeg) :: rest))) : W p l e R s m args below meth c H locs cells slots Q (F0 m pc ls (.int i :: .ref (h 3) :: rest)) :=
  va_iald (D := D) E.1.1 E.1.2.1 E.2 hP 3 0 rfl rfl hi hdg kk
theorem sa_3 (E : Env1 p s m args c cc nL own D (tyL cI cJ cZ)) (hP : va_P D vwCl (wX h cI cJ cZ st) H) (hD : va_D A (wX h cI cJ cZ st)) (hS : va_S A H0 H locs) (hi : vp_in i 32) (hdg : decode cc pc = .ok (.iastore, 1)) (kk : ∀ (H1 : Heap) (locs1 : List Loc), va_P D vwCl (wX h cI cJ cZ (pt st 3 i.toNatClampNeg v)) H1 → va_D A (wX h cI cJ cZ (pt st 3 i.toNatClampNeg v)) → va_S A H0 H1 locs1 → W p l e R s m args below meth c H1 locs1 cells slots Q (F0 m (pc + 1) ls (rest))) : W p l e R s m args below meth c H locs cells slots Q (F0 m pc ls (.int v :: .int i :: .ref (h 3) :: rest)) :=
  va_iast (D := D) E.1.1 E.1.2.1 E.2 hP hD hS 3 0 rfl rfl hi hdg kk
theorem al_3 (E : Env1 p s m args c cc nL own D (tyL cI cJ cZ)) (hP : va_P D vwCl (wX h cI cJ cZ st) H) (hdg : decode cc pc = .ok (.arraylength, 1)) (kk : W p l e R s m args below meth c H locs cells slots Q (F0 m (pc + 1) ls (.int 32 :: rest))) : W p l e R s m args below meth c H locs cells slots Q (F0 m pc ls (.ref (h 3) :: rest)) :=
  va_alen (D := D) E.1.1 E.1.2.1 E.2 hP 3 0 rfl rfl rfl hdg kk
theorem la_4 (E : Env1 p s m args c cc nL own D (tyL cI cJ cZ)) (hP : va_P D vwCl (wX h cI cJ cZ st) H) (hi : vp_in i 32) (hdg : decode cc pc = .ok (.iaload, 1)) (kk : W p l e R s m args below meth c H locs cells slots Q (F0 m (pc + 1) ls (.int (st.1 4 i.toNatClampNeg) :: rest))) : W p l e R s m args below meth c H locs cells slots Q (F0 m pc ls (.int i :: .ref (h 4) :: rest)) :=
  va_iald (D := D) E.1.1 E.1.2.1 E.2 hP 4 0 rfl rfl hi hdg kk
theorem sa_4 (E : Env1 p s m args c cc nL own D (tyL cI cJ cZ)) (hP : va_P D vwCl (wX h cI cJ cZ st) H) (hD : va_D A (wX h cI cJ cZ st)) (hS : va_S A H0 H locs) (hi : vp_in i 32) (hdg : decode cc pc = .ok (.iastore, 1)) (kk : ∀ (H1 : Heap) (locs1 : List Loc), va_P D vwCl (wX h cI cJ cZ (pt st 4 i.toNatClampNeg v)) H1 → va_D A (wX h cI cJ cZ (pt st 4 i.toNatClampNeg v)) → va_S A H0 H1 locs1 → W p l e R s m args below meth c H1 locs1 cells slots Q (F0 m (pc + 1) ls (rest))) : W p l e R s m args below meth c H locs cells slots Q (F0 m pc ls (.int v :: .int i :: .ref (h 4) :: rest)) :=
  va_iast (D := D) E.1.1 E.1.2.1 E.2 hP hD hS 4 0 rfl rfl hi hdg kk
theorem al_4 (E : Env1 p s m args c cc nL own D (tyL cI cJ cZ)) (hP : va_P D vwCl (wX h cI cJ cZ st) H) (hdg : decode cc pc = .ok (.arraylength, 1)) (kk : W p l e R s m args below meth c H locs cells slots Q (F0 m (pc + 1) ls (.int 32 :: rest))) : W p l e R s m args below meth c H locs cells slots Q (F0 m pc ls (.ref (h 4) :: rest)) :=
  va_alen (D := D) E.1.1 E.1.2.1 E.2 hP 4 0 rfl rfl rfl hdg kk
theorem la_5 (E : Env1 p s m args c cc nL own D (tyL cI cJ cZ)) (hP : va_P D vwCl (wX h cI cJ cZ st) H) (hi : vp_in i 4096) (hdg : decode cc pc = .ok (.iaload, 1)) (kk : W p l e R s m args below meth c H locs cells slots Q (F0 m (pc + 1) ls (.int (st.1 5 i.toNatClampNeg) :: rest))) : W p l e R s m args below meth c H locs cells slots Q (F0 m pc ls (.int i :: .ref (h 5) :: rest)) :=
  va_iald (D := D) E.1.1 E.1.2.1 E.2 hP 5 0 rfl rfl hi hdg kk
theorem sa_5 (E : Env1 p s m args c cc nL own D (tyL cI cJ cZ)) (hP : va_P D vwCl (wX h cI cJ cZ st) H) (hD : va_D A (wX h cI cJ cZ st)) (hS : va_S A H0 H locs) (hi : vp_in i 4096) (hdg : decode cc pc = .ok (.iastore, 1)) (kk : ∀ (H1 : Heap) (locs1 : List Loc), va_P D vwCl (wX h cI cJ cZ (pt st 5 i.toNatClampNeg v)) H1 → va_D A (wX h cI cJ cZ (pt st 5 i.toNatClampNeg v)) → va_S A H0 H1 locs1 → W p l e R s m args below meth c H1 locs1 cells slots Q (F0 m (pc + 1) ls (rest))) : W p l e R s m args below meth c H locs cells slots Q (F0 m pc ls (.int v :: .int i :: .ref (h 5) :: rest)) :=
  va_iast (D := D) E.1.1 E.1.2.1 E.2 hP hD hS 5 0 rfl rfl hi hdg kk
theorem al_5 (E : Env1 p s m args c cc nL own D (tyL cI cJ cZ)) (hP : va_P D vwCl (wX h cI cJ cZ st) H) (hdg : decode cc pc = .ok (.arraylength, 1)) (kk : W p l e R s m args below meth c H locs cells slots Q (F0 m (pc + 1) ls (.int 4096 :: rest))) : W p l e R s m args below meth c H locs cells slots Q (F0 m pc ls (.ref (h 5) :: rest)) :=
  va_alen (D := D) E.1.1 E.1.2.1 E.2 hP 5 0 rfl rfl rfl hdg kk
theorem la_6 (E : Env1 p s m args c cc nL own D (tyL cI cJ cZ)) (hP : va_P D vwCl (wX h cI cJ cZ st) H) (hi : vp_in i 64) (hdg : decode cc pc = .ok (.iaload, 1)) (kk : W p l e R s m args below meth c H locs cells slots Q (F0 m (pc + 1) ls (.int (st.1 6 i.toNatClampNeg) :: rest))) : W p l e R s m args below meth c H locs cells slots Q (F0 m pc ls (.int i :: .ref (h 6) :: rest)) :=
  va_iald (D := D) E.1.1 E.1.2.1 E.2 hP 6 0 rfl rfl hi hdg kk
theorem sa_6 (E : Env1 p s m args c cc nL own D (tyL cI cJ cZ)) (hP : va_P D vwCl (wX h cI cJ cZ st) H) (hD : va_D A (wX h cI cJ cZ st)) (hS : va_S A H0 H locs) (hi : vp_in i 64) (hdg : decode cc pc = .ok (.iastore, 1)) (kk : ∀ (H1 : Heap) (locs1 : List Loc), va_P D vwCl (wX h cI cJ cZ (pt st 6 i.toNatClampNeg v)) H1 → va_D A (wX h cI cJ cZ (pt st 6 i.toNatClampNeg v)) → va_S A H0 H1 locs1 → W p l e R s m args below meth c H1 locs1 cells slots Q (F0 m (pc + 1) ls (rest))) : W p l e R s m args below meth c H locs cells slots Q (F0 m pc ls (.int v :: .int i :: .ref (h 6) :: rest)) :=
  va_iast (D := D) E.1.1 E.1.2.1 E.2 hP hD hS 6 0 rfl rfl hi hdg kk
theorem al_6 (E : Env1 p s m args c cc nL own D (tyL cI cJ cZ)) (hP : va_P D vwCl (wX h cI cJ cZ st) H) (hdg : decode cc pc = .ok (.arraylength, 1)) (kk : W p l e R s m args below meth c H locs cells slots Q (F0 m (pc + 1) ls (.int 64 :: rest))) : W p l e R s m args below meth c H locs cells slots Q (F0 m pc ls (.ref (h 6) :: rest)) :=
  va_alen (D := D) E.1.1 E.1.2.1 E.2 hP 6 0 rfl rfl rfl hdg kk
theorem la_7 (E : Env1 p s m args c cc nL own D (tyL cI cJ cZ)) (hP : va_P D vwCl (wX h cI cJ cZ st) H) (hi : vp_in i 64) (hdg : decode cc pc = .ok (.iaload, 1)) (kk : W p l e R s m args below meth c H locs cells slots Q (F0 m (pc + 1) ls (.int (st.1 7 i.toNatClampNeg) :: rest))) : W p l e R s m args below meth c H locs cells slots Q (F0 m pc ls (.int i :: .ref (h 7) :: rest)) :=
  va_iald (D := D) E.1.1 E.1.2.1 E.2 hP 7 0 rfl rfl hi hdg kk
theorem sa_7 (E : Env1 p s m args c cc nL own D (tyL cI cJ cZ)) (hP : va_P D vwCl (wX h cI cJ cZ st) H) (hD : va_D A (wX h cI cJ cZ st)) (hS : va_S A H0 H locs) (hi : vp_in i 64) (hdg : decode cc pc = .ok (.iastore, 1)) (kk : ∀ (H1 : Heap) (locs1 : List Loc), va_P D vwCl (wX h cI cJ cZ (pt st 7 i.toNatClampNeg v)) H1 → va_D A (wX h cI cJ cZ (pt st 7 i.toNatClampNeg v)) → va_S A H0 H1 locs1 → W p l e R s m args below meth c H1 locs1 cells slots Q (F0 m (pc + 1) ls (rest))) : W p l e R s m args below meth c H locs cells slots Q (F0 m pc ls (.int v :: .int i :: .ref (h 7) :: rest)) :=
  va_iast (D := D) E.1.1 E.1.2.1 E.2 hP hD hS 7 0 rfl rfl hi hdg kk
theorem al_7 (E : Env1 p s m args c cc nL own D (tyL cI cJ cZ)) (hP : va_P D vwCl (wX h cI cJ cZ st) H) (hdg : decode cc pc = .ok (.arraylength, 1)) (kk : W p l e R s m args below meth c H locs cells slots Q (F0 m (pc + 1) ls (.int 64 :: rest))) : W p l e R s m args below meth c H locs cells slots Q (F0 m pc ls (.ref (h 7) :: rest)) :=
  va_alen (D := D) E.1.1 E.1.2.1 E.2 hP 7 0 rfl rfl rfl hdg kk
theorem la_8 (E : Env1 p s m args c cc nL own D (tyL cI cJ cZ)) (hP : va_P D vwCl (wX h cI cJ cZ st) H) (hi : vp_in i 64) (hdg : decode cc pc = .ok (.laload, 1)) (kk : W p l e R s m args below meth c H locs cells slots Q (F0 m (pc + 1) ls (.long (st.2 i.toNatClampNeg) :: rest))) : W p l e R s m args below meth c H locs cells slots Q (F0 m pc ls (.int i :: .ref (h 8) :: rest)) :=
  va_lald (D := D) E.1.1 E.1.2.1 E.2 hP 8 1 rfl rfl hi hdg kk
theorem sa_8 (E : Env1 p s m args c cc nL own D (tyL cI cJ cZ)) (hP : va_P D vwCl (wX h cI cJ cZ st) H) (hD : va_D A (wX h cI cJ cZ st)) (hS : va_S A H0 H locs) (hi : vp_in i 64) (hdg : decode cc pc = .ok (.lastore, 1)) (kk : ∀ (H1 : Heap) (locs1 : List Loc), va_P D vwCl (wX h cI cJ cZ (pg st i.toNatClampNeg x)) H1 → va_D A (wX h cI cJ cZ (pg st i.toNatClampNeg x)) → va_S A H0 H1 locs1 → W p l e R s m args below meth c H1 locs1 cells slots Q (F0 m (pc + 1) ls (rest))) : W p l e R s m args below meth c H locs cells slots Q (F0 m pc ls (.long x :: .int i :: .ref (h 8) :: rest)) :=
  va_last (D := D) E.1.1 E.1.2.1 E.2 hP hD hS 8 1 rfl rfl hi hdg kk
theorem al_8 (E : Env1 p s m args c cc nL own D (tyL cI cJ cZ)) (hP : va_P D vwCl (wX h cI cJ cZ st) H) (hdg : decode cc pc = .ok (.arraylength, 1)) (kk : W p l e R s m args below meth c H locs cells slots Q (F0 m (pc + 1) ls (.int 64 :: rest))) : W p l e R s m args below meth c H locs cells slots Q (F0 m pc ls (.ref (h 8) :: rest)) :=
  va_alen (D := D) E.1.1 E.1.2.1 E.2 hP 8 1 rfl rfl rfl hdg kk
theorem la_9 (E : Env1 p s m args c cc nL own D (tyL cI cJ cZ)) (hP : va_P D vwCl (wX h cI cJ cZ st) H) (hi : vp_in i 4096) (hdg : decode cc pc = .ok (.iaload, 1)) (kk : W p l e R s m args below meth c H locs cells slots Q (F0 m (pc + 1) ls (.int (st.1 9 i.toNatClampNeg) :: rest))) : W p l e R s m args below meth c H locs cells slots Q (F0 m pc ls (.int i :: .ref (h 9) :: rest)) :=
  va_iald (D := D) E.1.1 E.1.2.1 E.2 hP 9 0 rfl rfl hi hdg kk
theorem sa_9 (E : Env1 p s m args c cc nL own D (tyL cI cJ cZ)) (hP : va_P D vwCl (wX h cI cJ cZ st) H) (hD : va_D A (wX h cI cJ cZ st)) (hS : va_S A H0 H locs) (hi : vp_in i 4096) (hdg : decode cc pc = .ok (.iastore, 1)) (kk : ∀ (H1 : Heap) (locs1 : List Loc), va_P D vwCl (wX h cI cJ cZ (pt st 9 i.toNatClampNeg v)) H1 → va_D A (wX h cI cJ cZ (pt st 9 i.toNatClampNeg v)) → va_S A H0 H1 locs1 → W p l e R s m args below meth c H1 locs1 cells slots Q (F0 m (pc + 1) ls (rest))) : W p l e R s m args below meth c H locs cells slots Q (F0 m pc ls (.int v :: .int i :: .ref (h 9) :: rest)) :=
  va_iast (D := D) E.1.1 E.1.2.1 E.2 hP hD hS 9 0 rfl rfl hi hdg kk
theorem al_9 (E : Env1 p s m args c cc nL own D (tyL cI cJ cZ)) (hP : va_P D vwCl (wX h cI cJ cZ st) H) (hdg : decode cc pc = .ok (.arraylength, 1)) (kk : W p l e R s m args below meth c H locs cells slots Q (F0 m (pc + 1) ls (.int 4096 :: rest))) : W p l e R s m args below meth c H locs cells slots Q (F0 m pc ls (.ref (h 9) :: rest)) :=
  va_alen (D := D) E.1.1 E.1.2.1 E.2 hP 9 0 rfl rfl rfl hdg kk
theorem la_10 (E : Env1 p s m args c cc nL own D (tyL cI cJ cZ)) (hP : va_P D vwCl (wX h cI cJ cZ st) H) (hi : vp_in i 4096) (hdg : decode cc pc = .ok (.iaload, 1)) (kk : W p l e R s m args below meth c H locs cells slots Q (F0 m (pc + 1) ls (.int (st.1 10 i.toNatClampNeg) :: rest))) : W p l e R s m args below meth c H locs cells slots Q (F0 m pc ls (.int i :: .ref (h 10) :: rest)) :=
  va_iald (D := D) E.1.1 E.1.2.1 E.2 hP 10 0 rfl rfl hi hdg kk
theorem sa_10 (E : Env1 p s m args c cc nL own D (tyL cI cJ cZ)) (hP : va_P D vwCl (wX h cI cJ cZ st) H) (hD : va_D A (wX h cI cJ cZ st)) (hS : va_S A H0 H locs) (hi : vp_in i 4096) (hdg : decode cc pc = .ok (.iastore, 1)) (kk : ∀ (H1 : Heap) (locs1 : List Loc), va_P D vwCl (wX h cI cJ cZ (pt st 10 i.toNatClampNeg v)) H1 → va_D A (wX h cI cJ cZ (pt st 10 i.toNatClampNeg v)) → va_S A H0 H1 locs1 → W p l e R s m args below meth c H1 locs1 cells slots Q (F0 m (pc + 1) ls (rest))) : W p l e R s m args below meth c H locs cells slots Q (F0 m pc ls (.int v :: .int i :: .ref (h 10) :: rest)) :=
  va_iast (D := D) E.1.1 E.1.2.1 E.2 hP hD hS 10 0 rfl rfl hi hdg kk
theorem al_10 (E : Env1 p s m args c cc nL own D (tyL cI cJ cZ)) (hP : va_P D vwCl (wX h cI cJ cZ st) H) (hdg : decode cc pc = .ok (.arraylength, 1)) (kk : W p l e R s m args below meth c H locs cells slots Q (F0 m (pc + 1) ls (.int 4096 :: rest))) : W p l e R s m args below meth c H locs cells slots Q (F0 m pc ls (.ref (h 10) :: rest)) :=
  va_alen (D := D) E.1.1 E.1.2.1 E.2 hP 10 0 rfl rfl rfl hdg kk
theorem la_11 (E : Env1 p s m args c cc nL own D (tyL cI cJ cZ)) (hP : va_P D vwCl (wX h cI cJ cZ st) H) (hi : vp_in i 64) (hdg : decode cc pc = .ok (.baload, 1)) (kk : W p l e R s m args below meth c H locs cells slots Q (F0 m (pc + 1) ls (.int (st.1 11 i.toNatClampNeg) :: rest))) : W p l e R s m args below meth c H locs cells slots Q (F0 m pc ls (.int i :: .ref (h 11) :: rest)) :=
  va_zald (D := D) E.1.1 E.1.2.1 E.2 hP 11 2 rfl rfl hi hdg kk
theorem sa_11 (E : Env1 p s m args c cc nL own D (tyL cI cJ cZ)) (hP : va_P D vwCl (wX h cI cJ cZ st) H) (hD : va_D A (wX h cI cJ cZ st)) (hS : va_S A H0 H locs) (hi : vp_in i 64) (hdg : decode cc pc = .ok (.bastore, 1)) (kk : ∀ (H1 : Heap) (locs1 : List Loc), va_P D vwCl (wX h cI cJ cZ (pt st 11 i.toNatClampNeg (vp_nar .boolean v))) H1 → va_D A (wX h cI cJ cZ (pt st 11 i.toNatClampNeg (vp_nar .boolean v))) → va_S A H0 H1 locs1 → W p l e R s m args below meth c H1 locs1 cells slots Q (F0 m (pc + 1) ls (rest))) : W p l e R s m args below meth c H locs cells slots Q (F0 m pc ls (.int v :: .int i :: .ref (h 11) :: rest)) :=
  va_zast (D := D) E.1.1 E.1.2.1 E.2 hP hD hS 11 2 rfl rfl hi hdg kk
theorem al_11 (E : Env1 p s m args c cc nL own D (tyL cI cJ cZ)) (hP : va_P D vwCl (wX h cI cJ cZ st) H) (hdg : decode cc pc = .ok (.arraylength, 1)) (kk : W p l e R s m args below meth c H locs cells slots Q (F0 m (pc + 1) ls (.int 64 :: rest))) : W p l e R s m args below meth c H locs cells slots Q (F0 m pc ls (.ref (h 11) :: rest)) :=
  va_alen (D := D) E.1.1 E.1.2.1 E.2 hP 11 2 rfl rfl rfl hdg kk
theorem la_12 (E : Env1 p s m args c cc nL own D (tyL cI cJ cZ)) (hP : va_P D vwCl (wX h cI cJ cZ st) H) (hi : vp_in i 64) (hdg : decode cc pc = .ok (.baload, 1)) (kk : W p l e R s m args below meth c H locs cells slots Q (F0 m (pc + 1) ls (.int (st.1 12 i.toNatClampNeg) :: rest))) : W p l e R s m args below meth c H locs cells slots Q (F0 m pc ls (.int i :: .ref (h 12) :: rest)) :=
  va_zald (D := D) E.1.1 E.1.2.1 E.2 hP 12 2 rfl rfl hi hdg kk
theorem sa_12 (E : Env1 p s m args c cc nL own D (tyL cI cJ cZ)) (hP : va_P D vwCl (wX h cI cJ cZ st) H) (hD : va_D A (wX h cI cJ cZ st)) (hS : va_S A H0 H locs) (hi : vp_in i 64) (hdg : decode cc pc = .ok (.bastore, 1)) (kk : ∀ (H1 : Heap) (locs1 : List Loc), va_P D vwCl (wX h cI cJ cZ (pt st 12 i.toNatClampNeg (vp_nar .boolean v))) H1 → va_D A (wX h cI cJ cZ (pt st 12 i.toNatClampNeg (vp_nar .boolean v))) → va_S A H0 H1 locs1 → W p l e R s m args below meth c H1 locs1 cells slots Q (F0 m (pc + 1) ls (rest))) : W p l e R s m args below meth c H locs cells slots Q (F0 m pc ls (.int v :: .int i :: .ref (h 12) :: rest)) :=
  va_zast (D := D) E.1.1 E.1.2.1 E.2 hP hD hS 12 2 rfl rfl hi hdg kk
theorem al_12 (E : Env1 p s m args c cc nL own D (tyL cI cJ cZ)) (hP : va_P D vwCl (wX h cI cJ cZ st) H) (hdg : decode cc pc = .ok (.arraylength, 1)) (kk : W p l e R s m args below meth c H locs cells slots Q (F0 m (pc + 1) ls (.int 64 :: rest))) : W p l e R s m args below meth c H locs cells slots Q (F0 m pc ls (.ref (h 12) :: rest)) :=
  va_alen (D := D) E.1.1 E.1.2.1 E.2 hP 12 2 rfl rfl rfl hdg kk
theorem la_13 (E : Env1 p s m args c cc nL own D (tyL cI cJ cZ)) (hP : va_P D vwCl (wX h cI cJ cZ st) H) (hi : vp_in i 64) (hdg : decode cc pc = .ok (.iaload, 1)) (kk : W p l e R s m args below meth c H locs cells slots Q (F0 m (pc + 1) ls (.int (st.1 13 i.toNatClampNeg) :: rest))) : W p l e R s m args below meth c H locs cells slots Q (F0 m pc ls (.int i :: .ref (h 13) :: rest)) :=
  va_iald (D := D) E.1.1 E.1.2.1 E.2 hP 13 0 rfl rfl hi hdg kk
theorem sa_13 (E : Env1 p s m args c cc nL own D (tyL cI cJ cZ)) (hP : va_P D vwCl (wX h cI cJ cZ st) H) (hD : va_D A (wX h cI cJ cZ st)) (hS : va_S A H0 H locs) (hi : vp_in i 64) (hdg : decode cc pc = .ok (.iastore, 1)) (kk : ∀ (H1 : Heap) (locs1 : List Loc), va_P D vwCl (wX h cI cJ cZ (pt st 13 i.toNatClampNeg v)) H1 → va_D A (wX h cI cJ cZ (pt st 13 i.toNatClampNeg v)) → va_S A H0 H1 locs1 → W p l e R s m args below meth c H1 locs1 cells slots Q (F0 m (pc + 1) ls (rest))) : W p l e R s m args below meth c H locs cells slots Q (F0 m pc ls (.int v :: .int i :: .ref (h 13) :: rest)) :=
  va_iast (D := D) E.1.1 E.1.2.1 E.2 hP hD hS 13 0 rfl rfl hi hdg kk
theorem al_13 (E : Env1 p s m args c cc nL own D (tyL cI cJ cZ)) (hP : va_P D vwCl (wX h cI cJ cZ st) H) (hdg : decode cc pc = .ok (.arraylength, 1)) (kk : W p l e R s m args below meth c H locs cells slots Q (F0 m (pc + 1) ls (.int 64 :: rest))) : W p l e R s m args below meth c H locs cells slots Q (F0 m pc ls (.ref (h 13) :: rest)) :=
  va_alen (D := D) E.1.1 E.1.2.1 E.2 hP 13 0 rfl rfl rfl hdg kk
theorem la_15 (E : Env1 p s m args c cc nL own D (tyL cI cJ cZ)) (hP : va_P D vwCl (wM h cI cJ cZ st) H) (hi : vp_in i 64) (hdg : decode cc pc = .ok (.iaload, 1)) (kk : W p l e R s m args below meth c H locs cells slots Q (F0 m (pc + 1) ls (.int (st.1 15 i.toNatClampNeg) :: rest))) : W p l e R s m args below meth c H locs cells slots Q (F0 m pc ls (.int i :: .ref (h 15) :: rest)) :=
  va_iald (D := D) E.1.1 E.1.2.1 E.2 hP 1 0 rfl rfl hi hdg kk
theorem sa_15 (E : Env1 p s m args c cc nL own D (tyL cI cJ cZ)) (hP : va_P D vwCl (wM h cI cJ cZ st) H) (hD : va_D A (wM h cI cJ cZ st)) (hS : va_S A H0 H locs) (hi : vp_in i 64) (hdg : decode cc pc = .ok (.iastore, 1)) (kk : ∀ (H1 : Heap) (locs1 : List Loc), va_P D vwCl (wM h cI cJ cZ (pt st 15 i.toNatClampNeg v)) H1 → va_D A (wM h cI cJ cZ (pt st 15 i.toNatClampNeg v)) → va_S A H0 H1 locs1 → W p l e R s m args below meth c H1 locs1 cells slots Q (F0 m (pc + 1) ls (rest))) : W p l e R s m args below meth c H locs cells slots Q (F0 m pc ls (.int v :: .int i :: .ref (h 15) :: rest)) :=
  va_iast (D := D) E.1.1 E.1.2.1 E.2 hP hD hS 1 0 rfl rfl hi hdg kk
theorem al_15 (E : Env1 p s m args c cc nL own D (tyL cI cJ cZ)) (hP : va_P D vwCl (wM h cI cJ cZ st) H) (hdg : decode cc pc = .ok (.arraylength, 1)) (kk : W p l e R s m args below meth c H locs cells slots Q (F0 m (pc + 1) ls (.int 64 :: rest))) : W p l e R s m args below meth c H locs cells slots Q (F0 m pc ls (.ref (h 15) :: rest)) :=
  va_alen (D := D) E.1.1 E.1.2.1 E.2 hP 1 0 rfl rfl rfl hdg kk
theorem la_16 (E : Env1 p s m args c cc nL own D (tyL cI cJ cZ)) (hP : va_P D vwCl (wM h cI cJ cZ st) H) (hi : vp_in i 64) (hdg : decode cc pc = .ok (.iaload, 1)) (kk : W p l e R s m args below meth c H locs cells slots Q (F0 m (pc + 1) ls (.int (st.1 16 i.toNatClampNeg) :: rest))) : W p l e R s m args below meth c H locs cells slots Q (F0 m pc ls (.int i :: .ref (h 16) :: rest)) :=
  va_iald (D := D) E.1.1 E.1.2.1 E.2 hP 2 0 rfl rfl hi hdg kk
theorem sa_16 (E : Env1 p s m args c cc nL own D (tyL cI cJ cZ)) (hP : va_P D vwCl (wM h cI cJ cZ st) H) (hD : va_D A (wM h cI cJ cZ st)) (hS : va_S A H0 H locs) (hi : vp_in i 64) (hdg : decode cc pc = .ok (.iastore, 1)) (kk : ∀ (H1 : Heap) (locs1 : List Loc), va_P D vwCl (wM h cI cJ cZ (pt st 16 i.toNatClampNeg v)) H1 → va_D A (wM h cI cJ cZ (pt st 16 i.toNatClampNeg v)) → va_S A H0 H1 locs1 → W p l e R s m args below meth c H1 locs1 cells slots Q (F0 m (pc + 1) ls (rest))) : W p l e R s m args below meth c H locs cells slots Q (F0 m pc ls (.int v :: .int i :: .ref (h 16) :: rest)) :=
  va_iast (D := D) E.1.1 E.1.2.1 E.2 hP hD hS 2 0 rfl rfl hi hdg kk
theorem al_16 (E : Env1 p s m args c cc nL own D (tyL cI cJ cZ)) (hP : va_P D vwCl (wM h cI cJ cZ st) H) (hdg : decode cc pc = .ok (.arraylength, 1)) (kk : W p l e R s m args below meth c H locs cells slots Q (F0 m (pc + 1) ls (.int 64 :: rest))) : W p l e R s m args below meth c H locs cells slots Q (F0 m pc ls (.ref (h 16) :: rest)) :=
  va_alen (D := D) E.1.1 E.1.2.1 E.2 hP 2 0 rfl rfl rfl hdg kk
theorem la_17 (E : Env1 p s m args c cc nL own D (tyL cI cJ cZ)) (hP : va_P D vwCl (wM h cI cJ cZ st) H) (hi : vp_in i 64) (hdg : decode cc pc = .ok (.baload, 1)) (kk : W p l e R s m args below meth c H locs cells slots Q (F0 m (pc + 1) ls (.int (st.1 17 i.toNatClampNeg) :: rest))) : W p l e R s m args below meth c H locs cells slots Q (F0 m pc ls (.int i :: .ref (h 17) :: rest)) :=
  va_zald (D := D) E.1.1 E.1.2.1 E.2 hP 3 2 rfl rfl hi hdg kk
theorem sa_17 (E : Env1 p s m args c cc nL own D (tyL cI cJ cZ)) (hP : va_P D vwCl (wM h cI cJ cZ st) H) (hD : va_D A (wM h cI cJ cZ st)) (hS : va_S A H0 H locs) (hi : vp_in i 64) (hdg : decode cc pc = .ok (.bastore, 1)) (kk : ∀ (H1 : Heap) (locs1 : List Loc), va_P D vwCl (wM h cI cJ cZ (pt st 17 i.toNatClampNeg (vp_nar .boolean v))) H1 → va_D A (wM h cI cJ cZ (pt st 17 i.toNatClampNeg (vp_nar .boolean v))) → va_S A H0 H1 locs1 → W p l e R s m args below meth c H1 locs1 cells slots Q (F0 m (pc + 1) ls (rest))) : W p l e R s m args below meth c H locs cells slots Q (F0 m pc ls (.int v :: .int i :: .ref (h 17) :: rest)) :=
  va_zast (D := D) E.1.1 E.1.2.1 E.2 hP hD hS 3 2 rfl rfl hi hdg kk
theorem al_17 (E : Env1 p s m args c cc nL own D (tyL cI cJ cZ)) (hP : va_P D vwCl (wM h cI cJ cZ st) H) (hdg : decode cc pc = .ok (.arraylength, 1)) (kk : W p l e R s m args below meth c H locs cells slots Q (F0 m (pc + 1) ls (.int 64 :: rest))) : W p l e R s m args below meth c H locs cells slots Q (F0 m pc ls (.ref (h 17) :: rest)) :=
  va_alen (D := D) E.1.1 E.1.2.1 E.2 hP 3 2 rfl rfl rfl hdg kk
theorem la_18 (E : Env1 p s m args c cc nL own D (tyL cI cJ cZ)) (hP : va_P D vwCl (wM h cI cJ cZ st) H) (hi : vp_in i 4200) (hdg : decode cc pc = .ok (.iaload, 1)) (kk : W p l e R s m args below meth c H locs cells slots Q (F0 m (pc + 1) ls (.int (st.1 18 i.toNatClampNeg) :: rest))) : W p l e R s m args below meth c H locs cells slots Q (F0 m pc ls (.int i :: .ref (h 18) :: rest)) :=
  va_iald (D := D) E.1.1 E.1.2.1 E.2 hP 4 0 rfl rfl hi hdg kk
theorem sa_18 (E : Env1 p s m args c cc nL own D (tyL cI cJ cZ)) (hP : va_P D vwCl (wM h cI cJ cZ st) H) (hD : va_D A (wM h cI cJ cZ st)) (hS : va_S A H0 H locs) (hi : vp_in i 4200) (hdg : decode cc pc = .ok (.iastore, 1)) (kk : ∀ (H1 : Heap) (locs1 : List Loc), va_P D vwCl (wM h cI cJ cZ (pt st 18 i.toNatClampNeg v)) H1 → va_D A (wM h cI cJ cZ (pt st 18 i.toNatClampNeg v)) → va_S A H0 H1 locs1 → W p l e R s m args below meth c H1 locs1 cells slots Q (F0 m (pc + 1) ls (rest))) : W p l e R s m args below meth c H locs cells slots Q (F0 m pc ls (.int v :: .int i :: .ref (h 18) :: rest)) :=
  va_iast (D := D) E.1.1 E.1.2.1 E.2 hP hD hS 4 0 rfl rfl hi hdg kk
theorem al_18 (E : Env1 p s m args c cc nL own D (tyL cI cJ cZ)) (hP : va_P D vwCl (wM h cI cJ cZ st) H) (hdg : decode cc pc = .ok (.arraylength, 1)) (kk : W p l e R s m args below meth c H locs cells slots Q (F0 m (pc + 1) ls (.int 4200 :: rest))) : W p l e R s m args below meth c H locs cells slots Q (F0 m pc ls (.ref (h 18) :: rest)) :=
  va_alen (D := D) E.1.1 E.1.2.1 E.2 hP 4 0 rfl rfl rfl hdg kk
theorem la_19 (E : Env1 p s m args c cc nL own D (tyL cI cJ cZ)) (hP : va_P D vwCl (wM h cI cJ cZ st) H) (hi : vp_in i 4200) (hdg : decode cc pc = .ok (.iaload, 1)) (kk : W p l e R s m args below meth c H locs cells slots Q (F0 m (pc + 1) ls (.int (st.1 19 i.toNatClampNeg) :: rest))) : W p l e R s m args below meth c H locs cells slots Q (F0 m pc ls (.int i :: .ref (h 19) :: rest)) :=
  va_iald (D := D) E.1.1 E.1.2.1 E.2 hP 5 0 rfl rfl hi hdg kk
theorem sa_19 (E : Env1 p s m args c cc nL own D (tyL cI cJ cZ)) (hP : va_P D vwCl (wM h cI cJ cZ st) H) (hD : va_D A (wM h cI cJ cZ st)) (hS : va_S A H0 H locs) (hi : vp_in i 4200) (hdg : decode cc pc = .ok (.iastore, 1)) (kk : ∀ (H1 : Heap) (locs1 : List Loc), va_P D vwCl (wM h cI cJ cZ (pt st 19 i.toNatClampNeg v)) H1 → va_D A (wM h cI cJ cZ (pt st 19 i.toNatClampNeg v)) → va_S A H0 H1 locs1 → W p l e R s m args below meth c H1 locs1 cells slots Q (F0 m (pc + 1) ls (rest))) : W p l e R s m args below meth c H locs cells slots Q (F0 m pc ls (.int v :: .int i :: .ref (h 19) :: rest)) :=
  va_iast (D := D) E.1.1 E.1.2.1 E.2 hP hD hS 5 0 rfl rfl hi hdg kk
theorem al_19 (E : Env1 p s m args c cc nL own D (tyL cI cJ cZ)) (hP : va_P D vwCl (wM h cI cJ cZ st) H) (hdg : decode cc pc = .ok (.arraylength, 1)) (kk : W p l e R s m args below meth c H locs cells slots Q (F0 m (pc + 1) ls (.int 4200 :: rest))) : W p l e R s m args below meth c H locs cells slots Q (F0 m pc ls (.ref (h 19) :: rest)) :=
  va_alen (D := D) E.1.1 E.1.2.1 E.2 hP 5 0 rfl rfl rfl hdg kk
theorem la_20 (E : Env1 p s m args c cc nL own D (tyL cI cJ cZ)) (hP : va_P D vwCl (wM h cI cJ cZ st) H) (hi : vp_in i 4200) (hdg : decode cc pc = .ok (.iaload, 1)) (kk : W p l e R s m args below meth c H locs cells slots Q (F0 m (pc + 1) ls (.int (st.1 20 i.toNatClampNeg) :: rest))) : W p l e R s m args below meth c H locs cells slots Q (F0 m pc ls (.int i :: .ref (h 20) :: rest)) :=
  va_iald (D := D) E.1.1 E.1.2.1 E.2 hP 6 0 rfl rfl hi hdg kk
theorem sa_20 (E : Env1 p s m args c cc nL own D (tyL cI cJ cZ)) (hP : va_P D vwCl (wM h cI cJ cZ st) H) (hD : va_D A (wM h cI cJ cZ st)) (hS : va_S A H0 H locs) (hi : vp_in i 4200) (hdg : decode cc pc = .ok (.iastore, 1)) (kk : ∀ (H1 : Heap) (locs1 : List Loc), va_P D vwCl (wM h cI cJ cZ (pt st 20 i.toNatClampNeg v)) H1 → va_D A (wM h cI cJ cZ (pt st 20 i.toNatClampNeg v)) → va_S A H0 H1 locs1 → W p l e R s m args below meth c H1 locs1 cells slots Q (F0 m (pc + 1) ls (rest))) : W p l e R s m args below meth c H locs cells slots Q (F0 m pc ls (.int v :: .int i :: .ref (h 20) :: rest)) :=
  va_iast (D := D) E.1.1 E.1.2.1 E.2 hP hD hS 6 0 rfl rfl hi hdg kk
theorem al_20 (E : Env1 p s m args c cc nL own D (tyL cI cJ cZ)) (hP : va_P D vwCl (wM h cI cJ cZ st) H) (hdg : decode cc pc = .ok (.arraylength, 1)) (kk : W p l e R s m args below meth c H locs cells slots Q (F0 m (pc + 1) ls (.int 4200 :: rest))) : W p l e R s m args below meth c H locs cells slots Q (F0 m pc ls (.ref (h 20) :: rest)) :=
  va_alen (D := D) E.1.1 E.1.2.1 E.2 hP 6 0 rfl rfl rfl hdg kk
theorem la_21 (E : Env1 p s m args c cc nL own D (tyL cI cJ cZ)) (hP : va_P D vwCl (wM h cI cJ cZ st) H) (hi : vp_in i 4200) (hdg : decode cc pc = .ok (.iaload, 1)) (kk : W p l e R s m args below meth c H locs cells slots Q (F0 m (pc + 1) ls (.int (st.1 21 i.toNatClampNeg) :: rest))) : W p l e R s m args below meth c H locs cells slots Q (F0 m pc ls (.int i :: .ref (h 21) :: rest)) :=
  va_iald (D := D) E.1.1 E.1.2.1 E.2 hP 7 0 rfl rfl hi hdg kk
theorem sa_21 (E : Env1 p s m args c cc nL own D (tyL cI cJ cZ)) (hP : va_P D vwCl (wM h cI cJ cZ st) H) (hD : va_D A (wM h cI cJ cZ st)) (hS : va_S A H0 H locs) (hi : vp_in i 4200) (hdg : decode cc pc = .ok (.iastore, 1)) (kk : ∀ (H1 : Heap) (locs1 : List Loc), va_P D vwCl (wM h cI cJ cZ (pt st 21 i.toNatClampNeg v)) H1 → va_D A (wM h cI cJ cZ (pt st 21 i.toNatClampNeg v)) → va_S A H0 H1 locs1 → W p l e R s m args below meth c H1 locs1 cells slots Q (F0 m (pc + 1) ls (rest))) : W p l e R s m args below meth c H locs cells slots Q (F0 m pc ls (.int v :: .int i :: .ref (h 21) :: rest)) :=
  va_iast (D := D) E.1.1 E.1.2.1 E.2 hP hD hS 7 0 rfl rfl hi hdg kk
theorem al_21 (E : Env1 p s m args c cc nL own D (tyL cI cJ cZ)) (hP : va_P D vwCl (wM h cI cJ cZ st) H) (hdg : decode cc pc = .ok (.arraylength, 1)) (kk : W p l e R s m args below meth c H locs cells slots Q (F0 m (pc + 1) ls (.int 4200 :: rest))) : W p l e R s m args below meth c H locs cells slots Q (F0 m pc ls (.ref (h 21) :: rest)) :=
  va_alen (D := D) E.1.1 E.1.2.1 E.2 hP 7 0 rfl rfl rfl hdg kk
theorem la_22 (E : Env1 p s m args c cc nL own D (tyL cI cJ cZ)) (hP : va_P D vwCl (wM h cI cJ cZ st) H) (hi : vp_in i 9000) (hdg : decode cc pc = .ok (.iaload, 1)) (kk : W p l e R s m args below meth c H locs cells slots Q (F0 m (pc + 1) ls (.int (st.1 22 i.toNatClampNeg) :: rest))) : W p l e R s m args below meth c H locs cells slots Q (F0 m pc ls (.int i :: .ref (h 22) :: rest)) :=
  va_iald (D := D) E.1.1 E.1.2.1 E.2 hP 8 0 rfl rfl hi hdg kk
theorem sa_22 (E : Env1 p s m args c cc nL own D (tyL cI cJ cZ)) (hP : va_P D vwCl (wM h cI cJ cZ st) H) (hD : va_D A (wM h cI cJ cZ st)) (hS : va_S A H0 H locs) (hi : vp_in i 9000) (hdg : decode cc pc = .ok (.iastore, 1)) (kk : ∀ (H1 : Heap) (locs1 : List Loc), va_P D vwCl (wM h cI cJ cZ (pt st 22 i.toNatClampNeg v)) H1 → va_D A (wM h cI cJ cZ (pt st 22 i.toNatClampNeg v)) → va_S A H0 H1 locs1 → W p l e R s m args below meth c H1 locs1 cells slots Q (F0 m (pc + 1) ls (rest))) : W p l e R s m args below meth c H locs cells slots Q (F0 m pc ls (.int v :: .int i :: .ref (h 22) :: rest)) :=
  va_iast (D := D) E.1.1 E.1.2.1 E.2 hP hD hS 8 0 rfl rfl hi hdg kk
theorem al_22 (E : Env1 p s m args c cc nL own D (tyL cI cJ cZ)) (hP : va_P D vwCl (wM h cI cJ cZ st) H) (hdg : decode cc pc = .ok (.arraylength, 1)) (kk : W p l e R s m args below meth c H locs cells slots Q (F0 m (pc + 1) ls (.int 9000 :: rest))) : W p l e R s m args below meth c H locs cells slots Q (F0 m pc ls (.ref (h 22) :: rest)) :=
  va_alen (D := D) E.1.1 E.1.2.1 E.2 hP 8 0 rfl rfl rfl hdg kk
theorem la_23 (E : Env1 p s m args c cc nL own D (tyL cI cJ cZ)) (hP : va_P D vwCl (wM h cI cJ cZ st) H) (hi : vp_in i 32) (hdg : decode cc pc = .ok (.iaload, 1)) (kk : W p l e R s m args below meth c H locs cells slots Q (F0 m (pc + 1) ls (.int (st.1 23 i.toNatClampNeg) :: rest))) : W p l e R s m args below meth c H locs cells slots Q (F0 m pc ls (.int i :: .ref (h 23) :: rest)) :=
  va_iald (D := D) E.1.1 E.1.2.1 E.2 hP 9 0 rfl rfl hi hdg kk
theorem sa_23 (E : Env1 p s m args c cc nL own D (tyL cI cJ cZ)) (hP : va_P D vwCl (wM h cI cJ cZ st) H) (hD : va_D A (wM h cI cJ cZ st)) (hS : va_S A H0 H locs) (hi : vp_in i 32) (hdg : decode cc pc = .ok (.iastore, 1)) (kk : ∀ (H1 : Heap) (locs1 : List Loc), va_P D vwCl (wM h cI cJ cZ (pt st 23 i.toNatClampNeg v)) H1 → va_D A (wM h cI cJ cZ (pt st 23 i.toNatClampNeg v)) → va_S A H0 H1 locs1 → W p l e R s m args below meth c H1 locs1 cells slots Q (F0 m (pc + 1) ls (rest))) : W p l e R s m args below meth c H locs cells slots Q (F0 m pc ls (.int v :: .int i :: .ref (h 23) :: rest)) :=
  va_iast (D := D) E.1.1 E.1.2.1 E.2 hP hD hS 9 0 rfl rfl hi hdg kk
theorem al_23 (E : Env1 p s m args c cc nL own D (tyL cI cJ cZ)) (hP : va_P D vwCl (wM h cI cJ cZ st) H) (hdg : decode cc pc = .ok (.arraylength, 1)) (kk : W p l e R s m args below meth c H locs cells slots Q (F0 m (pc + 1) ls (.int 32 :: rest))) : W p l e R s m args below meth c H locs cells slots Q (F0 m pc ls (.ref (h 23) :: rest)) :=
  va_alen (D := D) E.1.1 E.1.2.1 E.2 hP 9 0 rfl rfl rfl hdg kk
theorem la_24 (E : Env1 p s m args c cc nL own D (tyL cI cJ cZ)) (hP : va_P D vwCl (wM h cI cJ cZ st) H) (hi : vp_in i 32) (hdg : decode cc pc = .ok (.iaload, 1)) (kk : W p l e R s m args below meth c H locs cells slots Q (F0 m (pc + 1) ls (.int (st.1 24 i.toNatClampNeg) :: rest))) : W p l e R s m args below meth c H locs cells slots Q (F0 m pc ls (.int i :: .ref (h 24) :: rest)) :=
  va_iald (D := D) E.1.1 E.1.2.1 E.2 hP 10 0 rfl rfl hi hdg kk
theorem sa_24 (E : Env1 p s m args c cc nL own D (tyL cI cJ cZ)) (hP : va_P D vwCl (wM h cI cJ cZ st) H) (hD : va_D A (wM h cI cJ cZ st)) (hS : va_S A H0 H locs) (hi : vp_in i 32) (hdg : decode cc pc = .ok (.iastore, 1)) (kk : ∀ (H1 : Heap) (locs1 : List Loc), va_P D vwCl (wM h cI cJ cZ (pt st 24 i.toNatClampNeg v)) H1 → va_D A (wM h cI cJ cZ (pt st 24 i.toNatClampNeg v)) → va_S A H0 H1 locs1 → W p l e R s m args below meth c H1 locs1 cells slots Q (F0 m (pc + 1) ls (rest))) : W p l e R s m args below meth c H locs cells slots Q (F0 m pc ls (.int v :: .int i :: .ref (h 24) :: rest)) :=
  va_iast (D := D) E.1.1 E.1.2.1 E.2 hP hD hS 10 0 rfl rfl hi hdg kk
theorem al_24 (E : Env1 p s m args c cc nL own D (tyL cI cJ cZ)) (hP : va_P D vwCl (wM h cI cJ cZ st) H) (hdg : decode cc pc = .ok (.arraylength, 1)) (kk : W p l e R s m args below meth c H locs cells slots Q (F0 m (pc + 1) ls (.int 32 :: rest))) : W p l e R s m args below meth c H locs cells slots Q (F0 m pc ls (.ref (h 24) :: rest)) :=
  va_alen (D := D) E.1.1 E.1.2.1 E.2 hP 10 0 rfl rfl rfl hdg kk
theorem la_25 (E : Env1 p s m args c cc nL own D (tyL cI cJ cZ)) (hP : va_P D vwCl (wM h cI cJ cZ st) H) (hi : vp_in i 13) (hdg : decode cc pc = .ok (.iaload, 1)) (kk : W p l e R s m args below meth c H locs cells slots Q (F0 m (pc + 1) ls (.int (st.1 25 i.toNatClampNeg) :: rest))) : W p l e R s m args below meth c H locs cells slots Q (F0 m pc ls (.int i :: .ref (h 25) :: rest)) :=
  va_iald (D := D) E.1.1 E.1.2.1 E.2 hP 11 0 rfl rfl hi hdg kk
theorem sa_25 (E : Env1 p s m args c cc nL own D (tyL cI cJ cZ)) (hP : va_P D vwCl (wM h cI cJ cZ st) H) (hD : va_D A (wM h cI cJ cZ st)) (hS : va_S A H0 H locs) (hi : vp_in i 13) (hdg : decode cc pc = .ok (.iastore, 1)) (kk : ∀ (H1 : Heap) (locs1 : List Loc), va_P D vwCl (wM h cI cJ cZ (pt st 25 i.toNatClampNeg v)) H1 → va_D A (wM h cI cJ cZ (pt st 25 i.toNatClampNeg v)) → va_S A H0 H1 locs1 → W p l e R s m args below meth c H1 locs1 cells slots Q (F0 m (pc + 1) ls (rest))) : W p l e R s m args below meth c H locs cells slots Q (F0 m pc ls (.int v :: .int i :: .ref (h 25) :: rest)) :=
  va_iast (D := D) E.1.1 E.1.2.1 E.2 hP hD hS 11 0 rfl rfl hi hdg kk
theorem al_25 (E : Env1 p s m args c cc nL own D (tyL cI cJ cZ)) (hP : va_P D vwCl (wM h cI cJ cZ st) H) (hdg : decode cc pc = .ok (.arraylength, 1)) (kk : W p l e R s m args below meth c H locs cells slots Q (F0 m (pc + 1) ls (.int 13 :: rest))) : W p l e R s m args below meth c H locs cells slots Q (F0 m pc ls (.ref (h 25) :: rest)) :=
  va_alen (D := D) E.1.1 E.1.2.1 E.2 hP 11 0 rfl rfl rfl hdg kk
theorem la_26 (E : Env1 p s m args c cc nL own D (tyL cI cJ cZ)) (hP : va_P D vwCl (wM h cI cJ cZ st) H) (hi : vp_in i 4200) (hdg : decode cc pc = .ok (.iaload, 1)) (kk : W p l e R s m args below meth c H locs cells slots Q (F0 m (pc + 1) ls (.int (st.1 26 i.toNatClampNeg) :: rest))) : W p l e R s m args below meth c H locs cells slots Q (F0 m pc ls (.int i :: .ref (h 26) :: rest)) :=
  va_iald (D := D) E.1.1 E.1.2.1 E.2 hP 12 0 rfl rfl hi hdg kk
theorem sa_26 (E : Env1 p s m args c cc nL own D (tyL cI cJ cZ)) (hP : va_P D vwCl (wM h cI cJ cZ st) H) (hD : va_D A (wM h cI cJ cZ st)) (hS : va_S A H0 H locs) (hi : vp_in i 4200) (hdg : decode cc pc = .ok (.iastore, 1)) (kk : ∀ (H1 : Heap) (locs1 : List Loc), va_P D vwCl (wM h cI cJ cZ (pt st 26 i.toNatClampNeg v)) H1 → va_D A (wM h cI cJ cZ (pt st 26 i.toNatClampNeg v)) → va_S A H0 H1 locs1 → W p l e R s m args below meth c H1 locs1 cells slots Q (F0 m (pc + 1) ls (rest))) : W p l e R s m args below meth c H locs cells slots Q (F0 m pc ls (.int v :: .int i :: .ref (h 26) :: rest)) :=
  va_iast (D := D) E.1.1 E.1.2.1 E.2 hP hD hS 12 0 rfl rfl hi hdg kk
theorem al_26 (E : Env1 p s m args c cc nL own D (tyL cI cJ cZ)) (hP : va_P D vwCl (wM h cI cJ cZ st) H) (hdg : decode cc pc = .ok (.arraylength, 1)) (kk : W p l e R s m args below meth c H locs cells slots Q (F0 m (pc + 1) ls (.int 4200 :: rest))) : W p l e R s m args below meth c H locs cells slots Q (F0 m pc ls (.ref (h 26) :: rest)) :=
  va_alen (D := D) E.1.1 E.1.2.1 E.2 hP 12 0 rfl rfl rfl hdg kk
theorem la_27 (E : Env1 p s m args c cc nL own D (tyL cI cJ cZ)) (hP : va_P D vwCl (wM h cI cJ cZ st) H) (hi : vp_in i 4200) (hdg : decode cc pc = .ok (.iaload, 1)) (kk : W p l e R s m args below meth c H locs cells slots Q (F0 m (pc + 1) ls (.int (st.1 27 i.toNatClampNeg) :: rest))) : W p l e R s m args below meth c H locs cells slots Q (F0 m pc ls (.int i :: .ref (h 27) :: rest)) :=
  va_iald (D := D) E.1.1 E.1.2.1 E.2 hP 13 0 rfl rfl hi hdg kk
theorem sa_27 (E : Env1 p s m args c cc nL own D (tyL cI cJ cZ)) (hP : va_P D vwCl (wM h cI cJ cZ st) H) (hD : va_D A (wM h cI cJ cZ st)) (hS : va_S A H0 H locs) (hi : vp_in i 4200) (hdg : decode cc pc = .ok (.iastore, 1)) (kk : ∀ (H1 : Heap) (locs1 : List Loc), va_P D vwCl (wM h cI cJ cZ (pt st 27 i.toNatClampNeg v)) H1 → va_D A (wM h cI cJ cZ (pt st 27 i.toNatClampNeg v)) → va_S A H0 H1 locs1 → W p l e R s m args below meth c H1 locs1 cells slots Q (F0 m (pc + 1) ls (rest))) : W p l e R s m args below meth c H locs cells slots Q (F0 m pc ls (.int v :: .int i :: .ref (h 27) :: rest)) :=
  va_iast (D := D) E.1.1 E.1.2.1 E.2 hP hD hS 13 0 rfl rfl hi hdg kk
theorem al_27 (E : Env1 p s m args c cc nL own D (tyL cI cJ cZ)) (hP : va_P D vwCl (wM h cI cJ cZ st) H) (hdg : decode cc pc = .ok (.arraylength, 1)) (kk : W p l e R s m args below meth c H locs cells slots Q (F0 m (pc + 1) ls (.int 4200 :: rest))) : W p l e R s m args below meth c H locs cells slots Q (F0 m pc ls (.ref (h 27) :: rest)) :=
  va_alen (D := D) E.1.1 E.1.2.1 E.2 hP 13 0 rfl rfl rfl hdg kk
theorem la_28 (E : Env1 p s m args c cc nL own D (tyL cI cJ cZ)) (hP : va_P D vwCl (wM h cI cJ cZ st) H) (hi : vp_in i 64) (hdg : decode cc pc = .ok (.baload, 1)) (kk : W p l e R s m args below meth c H locs cells slots Q (F0 m (pc + 1) ls (.int (st.1 28 i.toNatClampNeg) :: rest))) : W p l e R s m args below meth c H locs cells slots Q (F0 m pc ls (.int i :: .ref (h 28) :: rest)) :=
  va_zald (D := D) E.1.1 E.1.2.1 E.2 hP 14 2 rfl rfl hi hdg kk
theorem sa_28 (E : Env1 p s m args c cc nL own D (tyL cI cJ cZ)) (hP : va_P D vwCl (wM h cI cJ cZ st) H) (hD : va_D A (wM h cI cJ cZ st)) (hS : va_S A H0 H locs) (hi : vp_in i 64) (hdg : decode cc pc = .ok (.bastore, 1)) (kk : ∀ (H1 : Heap) (locs1 : List Loc), va_P D vwCl (wM h cI cJ cZ (pt st 28 i.toNatClampNeg (vp_nar .boolean v))) H1 → va_D A (wM h cI cJ cZ (pt st 28 i.toNatClampNeg (vp_nar .boolean v))) → va_S A H0 H1 locs1 → W p l e R s m args below meth c H1 locs1 cells slots Q (F0 m (pc + 1) ls (rest))) : W p l e R s m args below meth c H locs cells slots Q (F0 m pc ls (.int v :: .int i :: .ref (h 28) :: rest)) :=
  va_zast (D := D) E.1.1 E.1.2.1 E.2 hP hD hS 14 2 rfl rfl hi hdg kk
theorem al_28 (E : Env1 p s m args c cc nL own D (tyL cI cJ cZ)) (hP : va_P D vwCl (wM h cI cJ cZ st) H) (hdg : decode cc pc = .ok (.arraylength, 1)) (kk : W p l e R s m args below meth c H locs cells slots Q (F0 m (pc + 1) ls (.int 64 :: rest))) : W p l e R s m args below meth c H locs cells slots Q (F0 m pc ls (.ref (h 28) :: rest)) :=
  va_alen (D := D) E.1.1 E.1.2.1 E.2 hP 14 2 rfl rfl rfl hdg kk
theorem la_29 (E : Env1 p s m args c cc nL own D (tyL cI cJ cZ)) (hP : va_P D vwCl (wM h cI cJ cZ st) H) (hi : vp_in i 64) (hdg : decode cc pc = .ok (.iaload, 1)) (kk : W p l e R s m args below meth c H locs cells slots Q (F0 m (pc + 1) ls (.int (st.1 29 i.toNatClampNeg) :: rest))) : W p l e R s m args below meth c H locs cells slots Q (F0 m pc ls (.int i :: .ref (h 29) :: rest)) :=
  va_iald (D := D) E.1.1 E.1.2.1 E.2 hP 15 0 rfl rfl hi hdg kk
theorem sa_29 (E : Env1 p s m args c cc nL own D (tyL cI cJ cZ)) (hP : va_P D vwCl (wM h cI cJ cZ st) H) (hD : va_D A (wM h cI cJ cZ st)) (hS : va_S A H0 H locs) (hi : vp_in i 64) (hdg : decode cc pc = .ok (.iastore, 1)) (kk : ∀ (H1 : Heap) (locs1 : List Loc), va_P D vwCl (wM h cI cJ cZ (pt st 29 i.toNatClampNeg v)) H1 → va_D A (wM h cI cJ cZ (pt st 29 i.toNatClampNeg v)) → va_S A H0 H1 locs1 → W p l e R s m args below meth c H1 locs1 cells slots Q (F0 m (pc + 1) ls (rest))) : W p l e R s m args below meth c H locs cells slots Q (F0 m pc ls (.int v :: .int i :: .ref (h 29) :: rest)) :=
  va_iast (D := D) E.1.1 E.1.2.1 E.2 hP hD hS 15 0 rfl rfl hi hdg kk
theorem al_29 (E : Env1 p s m args c cc nL own D (tyL cI cJ cZ)) (hP : va_P D vwCl (wM h cI cJ cZ st) H) (hdg : decode cc pc = .ok (.arraylength, 1)) (kk : W p l e R s m args below meth c H locs cells slots Q (F0 m (pc + 1) ls (.int 64 :: rest))) : W p l e R s m args below meth c H locs cells slots Q (F0 m pc ls (.ref (h 29) :: rest)) :=
  va_alen (D := D) E.1.1 E.1.2.1 E.2 hP 15 0 rfl rfl rfl hdg kk
theorem la_30 (E : Env1 p s m args c cc nL own D (tyL cI cJ cZ)) (hP : va_P D vwCl (wM h cI cJ cZ st) H) (hi : vp_in i 4200) (hdg : decode cc pc = .ok (.iaload, 1)) (kk : W p l e R s m args below meth c H locs cells slots Q (F0 m (pc + 1) ls (.int (st.1 30 i.toNatClampNeg) :: rest))) : W p l e R s m args below meth c H locs cells slots Q (F0 m pc ls (.int i :: .ref (h 30) :: rest)) :=
  va_iald (D := D) E.1.1 E.1.2.1 E.2 hP 16 0 rfl rfl hi hdg kk
theorem sa_30 (E : Env1 p s m args c cc nL own D (tyL cI cJ cZ)) (hP : va_P D vwCl (wM h cI cJ cZ st) H) (hD : va_D A (wM h cI cJ cZ st)) (hS : va_S A H0 H locs) (hi : vp_in i 4200) (hdg : decode cc pc = .ok (.iastore, 1)) (kk : ∀ (H1 : Heap) (locs1 : List Loc), va_P D vwCl (wM h cI cJ cZ (pt st 30 i.toNatClampNeg v)) H1 → va_D A (wM h cI cJ cZ (pt st 30 i.toNatClampNeg v)) → va_S A H0 H1 locs1 → W p l e R s m args below meth c H1 locs1 cells slots Q (F0 m (pc + 1) ls (rest))) : W p l e R s m args below meth c H locs cells slots Q (F0 m pc ls (.int v :: .int i :: .ref (h 30) :: rest)) :=
  va_iast (D := D) E.1.1 E.1.2.1 E.2 hP hD hS 16 0 rfl rfl hi hdg kk
theorem al_30 (E : Env1 p s m args c cc nL own D (tyL cI cJ cZ)) (hP : va_P D vwCl (wM h cI cJ cZ st) H) (hdg : decode cc pc = .ok (.arraylength, 1)) (kk : W p l e R s m args below meth c H locs cells slots Q (F0 m (pc + 1) ls (.int 4200 :: rest))) : W p l e R s m args below meth c H locs cells slots Q (F0 m pc ls (.ref (h 30) :: rest)) :=
  va_alen (D := D) E.1.1 E.1.2.1 E.2 hP 16 0 rfl rfl rfl hdg kk
end Rows1
end
section
theorem ml_X0_39 : Cond.methodLink RX0 39 yJ7_fill_53178 ∈ TB := tb_in 177 (by decide +kernel) (by decide +kernel)
theorem ml_X1_35 : Cond.methodLink RX1 35 yJ7_fill_53178 ∈ TB := tb_in 167 (by decide +kernel) (by decide +kernel)
theorem ml_X1_41 : Cond.methodLink RX1 41 yJ7_fill_d0a16 ∈ TB := tb_in 170 (by decide +kernel) (by decide +kernel)
theorem ml_X1_104 : Cond.methodLink RX1 104 arraycopyName ∈ TB := tb_in 320 (by decide +kernel) (by decide +kernel)
theorem ml_X1_48 : Cond.methodLink RX1 48 yJ13_bitCount_95d88 ∈ TB := tb_in 400 (by decide +kernel) (by decide +kernel)
theorem ml_X1_110 : Cond.methodLink RX1 110 Lib.Math.min.name ∈ TB := tb_in 577 (by decide +kernel) (by decide +kernel)
theorem ml_X2_167 : Cond.methodLink RX2 167 yJ7_fill_53178 ∈ TB := tb_in 178 (by decide +kernel) (by decide +kernel)
theorem ml_X3_90 : Cond.methodLink RX3 90 Lib.Math.min.name ∈ TB := tb_in 794 (by decide +kernel) (by decide +kernel)
theorem mm_st : Cond.static Lib.Math.min.name ∈ TB := tb_in 578 (by decide +kernel) (by decide +kernel)
theorem mm_in : Cond.initialized "java/lang/Math" ∈ TB := tb_in 55 (by decide +kernel) (by decide +kernel)
theorem mm_co : Cond.code Lib.Math.min.name Lib.Math.min.code 2 (some .int) ∈ TB := tb_in 579 (by decide +kernel) (by decide +kernel)
theorem ac_st : Cond.static arraycopyName ∈ TB := tb_in 321 (by decide +kernel) (by decide +kernel)
theorem ac_na : Cond.native arraycopyName ∈ TB := tb_in 322 (by decide +kernel) (by decide +kernel)
theorem ac_in : Cond.initialized "java/lang/System" ∈ TB := tb_in 54 (by decide +kernel) (by decide +kernel)
theorem fi_st : Cond.static yJ7_fill_53178 ∈ TB := tb_in 168 (by decide +kernel) (by decide +kernel)
theorem fj_st : Cond.static yJ7_fill_d0a16 ∈ TB := tb_in 171 (by decide +kernel) (by decide +kernel)
theorem fi_in : Cond.initialized "java/util/Arrays" ∈ TB := tb_in 48 (by decide +kernel) (by decide +kernel)
theorem fi_co : Cond.code yJ7_fill_53178 cJ7_fill_53178 4 none ∈ TB := tb_in 169 (by decide +kernel) (by decide +kernel)
theorem fj_co : Cond.code yJ7_fill_d0a16 cJ7_fill_d0a16 5 none ∈ TB := tb_in 172 (by decide +kernel) (by decide +kernel)
theorem bc_st : Cond.static yJ13_bitCount_95d88 ∈ TB := tb_in 401 (by decide +kernel) (by decide +kernel)
theorem bc_in : Cond.initialized "java/lang/Long" ∈ TB := tb_in 58 (by decide +kernel) (by decide +kernel)
theorem bc_co : Cond.code yJ13_bitCount_95d88 cJ13_bitCount_95d88 2 (some .int) ∈ TB := tb_in 402 (by decide +kernel) (by decide +kernel)
theorem bc_314 : Cond.constantLong "java/lang/Long" 314 (6148914691236517205 : Int64) ∈ TB := tb_in 403 (by decide +kernel) (by decide +kernel)
theorem bc_316 : Cond.constantLong "java/lang/Long" 316 (3689348814741910323 : Int64) ∈ TB := tb_in 404 (by decide +kernel) (by decide +kernel)
theorem bc_318 : Cond.constantLong "java/lang/Long" 318 (1085102592571150095 : Int64) ∈ TB := tb_in 405 (by decide +kernel) (by decide +kernel)

def wA (a : Nat) (cI : ClassId) (z : Nat) (st : St) : va_W := [(a, .inl (cI, z, .inl (st.1 0)))]
def wL (a : Nat) (cJ : ClassId) (z : Nat) (st : St) : va_W := [(a, .inl (cJ, z, .inr (.inl st.2)))]
def flI (z : Nat) (v : Int32) (f : Nat → Int32) : Nat → Int32 := fun j => if j < z then v else f j
def flJ (z : Nat) (v : Int64) (f : Nat → Int64) : Nat → Int64 := fun j => if j < z then v else f j
theorem flI_s (z : Nat) (v : Int32) (f : Nat → Int32) : upd (flI z v f) z v = flI (z + 1) v f := by
  funext j; simp only [upd, flI]; split <;> split <;> (try split) <;> first | rfl | omega
theorem flJ_s (z : Nat) (v : Int64) (f : Nat → Int64) : vp_updL (flJ z v f) z v = flJ (z + 1) v f := by
  funext j; simp only [vp_updL, flJ]; split <;> split <;> (try split) <;> first | rfl | omega
theorem flI_0 (v : Int32) (f : Nat → Int32) : flI 0 v f = f := by funext j; simp [flI]
theorem flJ_0 (v : Int64) (f : Nat → Int64) : flJ 0 v f = f := by funext j; simp [flJ]

set_option maxHeartbeats 4000000 in
theorem lfillI {l : Launch} {D : va_G} {a z : Nat} {cI cJ cZ : ClassId} {v : Int32} {st : St} {p : Program} {e : Env} {s : State} {m : MethodId} {args : Array Value} {below : List Frame} {meth : Method} {c : Code} {A : Nat → Prop} (hz : z < 2 ^ 31) (E : Env1 p s m args c cJ7_fill_53178 4 RJ7 D (tyL cI cJ cZ)) (hr : meth.sig.returnType = none) (hlocks : meth.locks = false) : ∀ (d j : Nat), j + d = z → ∀ (H : Heap) (locs : List Loc) (ls : Array Slot), va_P D vwCl (wA a cI z (pf st 0 (flI j v (st.1 0)))) H → va_D A (wA a cI z (pf st 0 (flI j v (st.1 0)))) → va_S A s.heap H locs → lv_has ls 4 [(0, .ref a), (1, .int v), (2, .int (nI j)), (3, .int (nI z))] → W p l e (rm 0 0) s m args below meth c H locs 0 0 (MQ below (CQv D (tyL cI cJ cZ) (wA a cI z) A (pf st 0 (flI z v (st.1 0)))) args s 0 0 A) (F0 m 5 ls []) := by
  have hx := E.1.1
  have hb := E.1.2.1
  intro d
  induction d with
  | zero =>
    intro j hj H locs ls hP hD hS hl
    have hjz : j = z := by omega
    subst hjz
    refine lv_iload_n hx hb dJ7_fill_53178_5 rfl (lv_at hl 2 rfl) ?_
    refine lv_iload_n hx hb dJ7_fill_53178_6 rfl (lv_at hl 3 rfl) ?_
    refine lv_icmp_ge (tgt := 20) hx hb dJ7_fill_53178_7 (by decide) (fun hc => ?_) (fun hc => ?_)
    · exact end_v E hr hlocks hP hD hS dJ7_fill_53178_20
    · exact absurd (nI_le (Nat.le_refl j) hz) hc
  | succ d ih =>
    intro j hj H locs ls hP hD hS hl
    refine lv_iload_n hx hb dJ7_fill_53178_5 rfl (lv_at hl 2 rfl) ?_
    refine lv_iload_n hx hb dJ7_fill_53178_6 rfl (lv_at hl 3 rfl) ?_
    refine lv_icmp_ge (tgt := 20) hx hb dJ7_fill_53178_7 (by decide) (fun hc => ?_) (fun hc => ?_)
    · exact absurd hc (nI_ge (by omega) hz)
    · have hin : vp_in (nI j) z := vp_in_nI (by omega) hz
      refine lv_aload_n hx hb dJ7_fill_53178_10 rfl (lv_at hl 0 rfl) ?_
      refine lv_iload_n hx hb dJ7_fill_53178_11 rfl (lv_at hl 2 rfl) ?_
      refine lv_iload_n hx hb dJ7_fill_53178_12 rfl (lv_at hl 1 rfl) ?_
      refine va_iast (D := D) hx hb E.2 hP hD hS 0 0 rfl rfl hin dJ7_fill_53178_13 (fun H locs hP hD hS => ?_)
      have hP : va_P D vwCl [(a, .inl (cI, z, .inl (upd (flI j v (st.1 0)) (nI j).toNatClampNeg v)))] H := hP
      have hD : va_D A [(a, .inl (cI, z, .inl (upd (flI j v (st.1 0)) (nI j).toNatClampNeg v)))] := hD
      rw [nI_clamp (by omega), flI_s] at hP hD
      refine lv_iinc (v := nI (j + 1)) (lv' := [(2, .int (nI (j + 1))), (0, .ref a), (1, .int v), (3, .int (nI z))]) hx hb dJ7_fill_53178_14 hl (k := 2) rfl (nI_succ j).symm (by decide) rfl (fun ls hl => ?_)
      refine lv_goto (tgt := 5) hx hb dJ7_fill_53178_17 (by decide) ?_
      exact ih (j + 1) (by omega) H locs ls hP hD hS (lv_sub hl [1, 2, 0, 3] rfl)
set_option maxHeartbeats 4000000 in
theorem kfillI (l : Launch) (D : va_G) (a z : Nat) (hz : z < 2 ^ 31) (cI cJ cZ : ClassId) (v : Int32) (st : St) : Cv l yJ7_fill_53178 cJ7_fill_53178 4 0 0 D (tyL cI cJ cZ) (wA a cI z) st [.ref a, .int v] (pf st 0 (flI z v (st.1 0))) := by
  refine body_v (by decide +kernel) (Nat.le_of_ble_eq_true rfl) ?_
  intro p e s m below meth c A ls E hr hlocks hA hP hD hS hl
  have E : Env1 p s m _ c cJ7_fill_53178 4 RJ7 D (tyL cI cJ cZ) := E
  have hl : lv_has ls 4 [(0, .ref a), (1, .int v)] := hl
  have hx := E.1.1
  have hb := E.1.2.1
  refine lv_iconst (v := 0) hx hb dJ7_fill_53178_0 (by decide) ?_
  refine lv_istore_n (lv' := [(2, .int 0), (0, .ref a), (1, .int v)]) hx hb dJ7_fill_53178_1 rfl hl (by decide) rfl (fun ls hl => ?_)
  refine lv_aload_n hx hb dJ7_fill_53178_2 rfl (lv_at hl 1 rfl) ?_
  refine va_alen (D := D) (v := nI z) hx hb E.2 hP 0 0 rfl rfl rfl dJ7_fill_53178_3 ?_
  refine lv_istore_n (lv' := [(3, .int (nI z)), (2, .int 0), (0, .ref a), (1, .int v)]) hx hb dJ7_fill_53178_4 rfl hl (by decide) rfl (fun ls hl => ?_)
  have e0 : wA a cI z (pf st 0 (flI 0 v (st.1 0))) = wA a cI z st := by simp only [wA, pf, flI_0]; rfl
  exact lfillI hz E hr hlocks z 0 (by omega) _ _ _ (by rw [e0]; exact hP) (by rw [e0]; exact hD) hS (lv_sub hl [2, 3, 1, 0] rfl)
set_option maxHeartbeats 4000000 in
theorem lfillJ {l : Launch} {D : va_G} {a z : Nat} {cI cJ cZ : ClassId} {v : Int64} {st : St} {p : Program} {e : Env} {s : State} {m : MethodId} {args : Array Value} {below : List Frame} {meth : Method} {c : Code} {A : Nat → Prop} (hz : z < 2 ^ 31) (E : Env1 p s m args c cJ7_fill_d0a16 5 RJ7 D (tyL cI cJ cZ)) (hr : meth.sig.returnType = none) (hlocks : meth.locks = false) : ∀ (d j : Nat), j + d = z → ∀ (H : Heap) (locs : List Loc) (ls : Array Slot), va_P D vwCl (wL a cJ z (ph st (flJ j v st.2))) H → va_D A (wL a cJ z (ph st (flJ j v st.2))) → va_S A s.heap H locs → lv_has ls 5 [(0, .ref a), (1, .long v), (3, .int (nI j)), (4, .int (nI z))] → W p l e (rm 0 0) s m args below meth c H locs 0 0 (MQ below (CQv D (tyL cI cJ cZ) (wL a cJ z) A (ph st (flJ z v st.2))) args s 0 0 A) (F0 m 6 ls []) := by
  have hx := E.1.1
  have hb := E.1.2.1
  intro d
  induction d with
  | zero =>
    intro j hj H locs ls hP hD hS hl
    have hjz : j = z := by omega
    subst hjz
    refine lv_iload_n hx hb dJ7_fill_d0a16_6 rfl (lv_at hl 2 rfl) ?_
    refine lv_iload hx hb dJ7_fill_d0a16_7 (lv_at hl 3 rfl) ?_
    refine lv_icmp_ge (tgt := 22) hx hb dJ7_fill_d0a16_9 (by decide) (fun hc => ?_) (fun hc => ?_)
    · exact end_v E hr hlocks hP hD hS dJ7_fill_d0a16_22
    · exact absurd (nI_le (Nat.le_refl j) hz) hc
  | succ d ih =>
    intro j hj H locs ls hP hD hS hl
    refine lv_iload_n hx hb dJ7_fill_d0a16_6 rfl (lv_at hl 2 rfl) ?_
    refine lv_iload hx hb dJ7_fill_d0a16_7 (lv_at hl 3 rfl) ?_
    refine lv_icmp_ge (tgt := 22) hx hb dJ7_fill_d0a16_9 (by decide) (fun hc => ?_) (fun hc => ?_)
    · exact absurd hc (nI_ge (by omega) hz)
    · have hin : vp_in (nI j) z := vp_in_nI (by omega) hz
      refine lv_aload_n hx hb dJ7_fill_d0a16_12 rfl (lv_at hl 0 rfl) ?_
      refine lv_iload_n hx hb dJ7_fill_d0a16_13 rfl (lv_at hl 2 rfl) ?_
      refine lv_lload_n hx hb dJ7_fill_d0a16_14 rfl (lv_at hl 1 rfl) ?_
      refine va_last (D := D) hx hb E.2 hP hD hS 0 1 rfl rfl hin dJ7_fill_d0a16_15 (fun H locs hP hD hS => ?_)
      have hP : va_P D vwCl [(a, .inl (cJ, z, .inr (.inl (vp_updL (flJ j v st.2) (nI j).toNatClampNeg v))))] H := hP
      have hD : va_D A [(a, .inl (cJ, z, .inr (.inl (vp_updL (flJ j v st.2) (nI j).toNatClampNeg v))))] := hD
      rw [nI_clamp (by omega), flJ_s] at hP hD
      refine lv_iinc (v := nI (j + 1)) (lv' := [(3, .int (nI (j + 1))), (0, .ref a), (1, .long v), (4, .int (nI z))]) hx hb dJ7_fill_d0a16_16 hl (k := 2) rfl (nI_succ j).symm (by decide) rfl (fun ls hl => ?_)
      refine lv_goto (tgt := 6) hx hb dJ7_fill_d0a16_19 (by decide) ?_
      exact ih (j + 1) (by omega) H locs ls hP hD hS (lv_sub hl [1, 2, 0, 3] rfl)
set_option maxHeartbeats 4000000 in
theorem kfillJ (l : Launch) (D : va_G) (a z : Nat) (hz : z < 2 ^ 31) (cI cJ cZ : ClassId) (v : Int64) (st : St) : Cv l yJ7_fill_d0a16 cJ7_fill_d0a16 5 0 0 D (tyL cI cJ cZ) (wL a cJ z) st [.ref a, .long v] (ph st (flJ z v st.2)) := by
  refine body_v (by decide +kernel) (Nat.le_of_ble_eq_true rfl) ?_
  intro p e s m below meth c A ls E hr hlocks hA hP hD hS hl
  have E : Env1 p s m _ c cJ7_fill_d0a16 5 RJ7 D (tyL cI cJ cZ) := E
  have hl : lv_has ls 5 [(0, .ref a), (1, .long v)] := hl
  have hx := E.1.1
  have hb := E.1.2.1
  refine lv_iconst (v := 0) hx hb dJ7_fill_d0a16_0 (by decide) ?_
  refine lv_istore_n (lv' := [(3, .int 0), (0, .ref a), (1, .long v)]) hx hb dJ7_fill_d0a16_1 rfl hl (by decide) rfl (fun ls hl => ?_)
  refine lv_aload_n hx hb dJ7_fill_d0a16_2 rfl (lv_at hl 1 rfl) ?_
  refine va_alen (D := D) (v := nI z) hx hb E.2 hP 0 1 rfl rfl rfl dJ7_fill_d0a16_3 ?_
  refine lv_istore (lv' := [(4, .int (nI z)), (3, .int 0), (0, .ref a), (1, .long v)]) hx hb dJ7_fill_d0a16_4 hl (by decide) rfl (fun ls hl => ?_)
  have e0 : wL a cJ z (ph st (flJ 0 v st.2)) = wL a cJ z st := by simp only [wL, ph, flJ_0]
  exact lfillJ hz E hr hlocks z 0 (by omega) _ _ _ (by rw [e0]; exact hP) (by rw [e0]; exact hD) hS (lv_sub hl [2, 3, 1, 0] rfl)
section JRows
variable {p : Program} {l : Launch} {e : Env} {R : Room} {s : State} {m : MethodId} {args : Array Value} {below : List Frame} {meth : Method} {c : Code} {H : Heap} {locs : List Loc} {pc nL : Nat} {ls : Array Slot} {cc : ByteArray} {own : String} {D : va_G} {h : Nat → Nat} {cI cJ cZ : ClassId} {st : St} {A : Nat → Prop} {Q : State → Prop} {rest : List Value} {idx : Nat}
set_option maxHeartbeats 4000000 in
set_option maxRecDepth 100000 in
theorem fill_3 {v : Int32} (E : Env1 p s m args c cc nL own D (tyL cI cJ cZ)) (hA : ∀ q : Nat, s.heap.size ≤ q → A q) (hP : va_P D vwCl (wX h cI cJ cZ st) H) (hD : va_D A (wX h cI cJ cZ st)) (hS : va_S A s.heap H locs) (hls : ls.size = nL) (hm : Cond.methodLink own idx yJ7_fill_53178 ∈ TB) (hW : (rest.map fun v => v.category).sum ≤ 8) (hR : 1 ≤ R.frames ∧ 8 + (4 + 11) + 0 ≤ R.locals) (hdg : decode cc pc = .ok (.invokestatic idx, 3))
    (kk : ∀ (H1 : Heap) (locs1 : List Loc), va_P D vwCl (wX h cI cJ cZ (pf st 3 (flI 32 v (st.1 3)))) H1 → va_D A (wX h cI cJ cZ (pf st 3 (flI 32 v (st.1 3)))) → va_S A s.heap H1 locs1 → W p l e R s m args below meth c H1 locs1 0 0 Q (F0 m (pc + 3) ls rest)) :
    W p l e R s m args below meth c H locs 0 0 Q (F0 m pc ls (.int v :: .ref (h 3) :: rest)) := by
  have hPc := hP.sub (ws' := wA (h 3) cI 32 (fun _ => st.1 3, st.2)) [3] rfl
  have hDc := hD.sub (ws' := wA (h 3) cI 32 (fun _ => st.1 3, st.2)) [3] (by decide) rfl
  have hFc := va_free (wc := wA (h 3) cI 32 (fun _ => st.1 3, st.2)) hD hS hA [3] rfl
  refine va_callv (va_runS (As := [.ref (h 3), .int v]) (rest := rest) E.1 (kfillI l D (h 3) 32 (by decide) cI cJ cZ v (fun _ => st.1 3, st.2) H.size) ⟨callB_of 2 E.1.2.2.2.2 (tb_code fi_co) rfl rfl rfl (E.1.2.2.2.2 _ fi_in) (E.1.2.2.2.2 _ hm) (by decide +kernel) hR, E.1.2.2.2.2 _ fi_st⟩ ⟨cp_blind, fun U hU hW => ⟨rfl, by rw [hU], by rw [hU]; exact hPc, va_K.moved hW.alike E.2, hDc.weaken (fun _ _ _ _ => trivial)⟩⟩ rfl rfl hls rfl (lv_room hW) hdg ⟨Nat.zero_le _, Nat.zero_le _⟩) hS (fun q _ h => hFc q h) hFc (fun u1 t H1 locs1 ht hvm hw hB hz1 hk1 hS1 => ?_)
  subst hw
  obtain ⟨hP1, hK1, hD1⟩ := hB
  rw [ht] at hP1
  obtain ⟨hP2, hD2⟩ := va_join (wr := [(h 0, .inr (2, [.ref (h 1), .ref (h 2), .ref (h 3), .ref (h 4)])), (h 1, .inr (1, [.ref (h 5), .ref (h 6), .ref (h 7), .ref (h 8), .int (st.1 1 4), .int (st.1 1 5), .int (st.1 1 6)])), (h 2, .inr (0, [.ref (h 1), .ref (h 9), .int (st.1 2 2), .ref (h 10), .ref (h 11), .ref (h 12), .int (st.1 2 6), .int (st.1 2 7), .int (st.1 2 8), .int (st.1 2 9), .int (st.1 2 10), .int (st.1 2 11), .ref (h 13), .int (st.1 2 13), .int (st.1 2 14), .int (st.1 2 15), .int (st.1 2 16), .int (st.1 2 17)])), (h 4, .inl (cI, 32, .inl (st.1 4))), (h 5, .inl (cI, 4096, .inl (st.1 5))), (h 6, .inl (cI, 64, .inl (st.1 6))), (h 7, .inl (cI, 64, .inl (st.1 7))), (h 8, .inl (cJ, 64, .inr (.inl st.2))), (h 9, .inl (cI, 4096, .inl (st.1 9))), (h 10, .inl (cI, 4096, .inl (st.1 10))), (h 11, .inl (cZ, 64, .inl (st.1 11))), (h 12, .inl (cZ, 64, .inl (st.1 12))), (h 13, .inl (cI, 64, .inl (st.1 13)))]) hP hD [3] [0, 1, 2, 4, 5, 6, 7, 8, 9, 10, 11, 12, 13] rfl rfl (by decide) (by decide) hk1 hFc hP1 hD1
  exact kk H1 locs1 (hP2.sub [0, 1, 2, 13, 3, 4, 5, 6, 7, 8, 9, 10, 11, 12] rfl) (hD2.sub [0, 1, 2, 13, 3, 4, 5, 6, 7, 8, 9, 10, 11, 12] (by decide) rfl) hS1
set_option maxHeartbeats 4000000 in
set_option maxRecDepth 100000 in
theorem fill_4 {v : Int32} (E : Env1 p s m args c cc nL own D (tyL cI cJ cZ)) (hA : ∀ q : Nat, s.heap.size ≤ q → A q) (hP : va_P D vwCl (wX h cI cJ cZ st) H) (hD : va_D A (wX h cI cJ cZ st)) (hS : va_S A s.heap H locs) (hls : ls.size = nL) (hm : Cond.methodLink own idx yJ7_fill_53178 ∈ TB) (hW : (rest.map fun v => v.category).sum ≤ 8) (hR : 1 ≤ R.frames ∧ 8 + (4 + 11) + 0 ≤ R.locals) (hdg : decode cc pc = .ok (.invokestatic idx, 3))
    (kk : ∀ (H1 : Heap) (locs1 : List Loc), va_P D vwCl (wX h cI cJ cZ (pf st 4 (flI 32 v (st.1 4)))) H1 → va_D A (wX h cI cJ cZ (pf st 4 (flI 32 v (st.1 4)))) → va_S A s.heap H1 locs1 → W p l e R s m args below meth c H1 locs1 0 0 Q (F0 m (pc + 3) ls rest)) :
    W p l e R s m args below meth c H locs 0 0 Q (F0 m pc ls (.int v :: .ref (h 4) :: rest)) := by
  have hPc := hP.sub (ws' := wA (h 4) cI 32 (fun _ => st.1 4, st.2)) [4] rfl
  have hDc := hD.sub (ws' := wA (h 4) cI 32 (fun _ => st.1 4, st.2)) [4] (by decide) rfl
  have hFc := va_free (wc := wA (h 4) cI 32 (fun _ => st.1 4, st.2)) hD hS hA [4] rfl
  refine va_callv (va_runS (As := [.ref (h 4), .int v]) (rest := rest) E.1 (kfillI l D (h 4) 32 (by decide) cI cJ cZ v (fun _ => st.1 4, st.2) H.size) ⟨callB_of 2 E.1.2.2.2.2 (tb_code fi_co) rfl rfl rfl (E.1.2.2.2.2 _ fi_in) (E.1.2.2.2.2 _ hm) (by decide +kernel) hR, E.1.2.2.2.2 _ fi_st⟩ ⟨cp_blind, fun U hU hW => ⟨rfl, by rw [hU], by rw [hU]; exact hPc, va_K.moved hW.alike E.2, hDc.weaken (fun _ _ _ _ => trivial)⟩⟩ rfl rfl hls rfl (lv_room hW) hdg ⟨Nat.zero_le _, Nat.zero_le _⟩) hS (fun q _ h => hFc q h) hFc (fun u1 t H1 locs1 ht hvm hw hB hz1 hk1 hS1 => ?_)
  subst hw
  obtain ⟨hP1, hK1, hD1⟩ := hB
  rw [ht] at hP1
  obtain ⟨hP2, hD2⟩ := va_join (wr := [(h 0, .inr (2, [.ref (h 1), .ref (h 2), .ref (h 3), .ref (h 4)])), (h 1, .inr (1, [.ref (h 5), .ref (h 6), .ref (h 7), .ref (h 8), .int (st.1 1 4), .int (st.1 1 5), .int (st.1 1 6)])), (h 2, .inr (0, [.ref (h 1), .ref (h 9), .int (st.1 2 2), .ref (h 10), .ref (h 11), .ref (h 12), .int (st.1 2 6), .int (st.1 2 7), .int (st.1 2 8), .int (st.1 2 9), .int (st.1 2 10), .int (st.1 2 11), .ref (h 13), .int (st.1 2 13), .int (st.1 2 14), .int (st.1 2 15), .int (st.1 2 16), .int (st.1 2 17)])), (h 3, .inl (cI, 32, .inl (st.1 3))), (h 5, .inl (cI, 4096, .inl (st.1 5))), (h 6, .inl (cI, 64, .inl (st.1 6))), (h 7, .inl (cI, 64, .inl (st.1 7))), (h 8, .inl (cJ, 64, .inr (.inl st.2))), (h 9, .inl (cI, 4096, .inl (st.1 9))), (h 10, .inl (cI, 4096, .inl (st.1 10))), (h 11, .inl (cZ, 64, .inl (st.1 11))), (h 12, .inl (cZ, 64, .inl (st.1 12))), (h 13, .inl (cI, 64, .inl (st.1 13)))]) hP hD [4] [0, 1, 2, 3, 5, 6, 7, 8, 9, 10, 11, 12, 13] rfl rfl (by decide) (by decide) hk1 hFc hP1 hD1
  exact kk H1 locs1 (hP2.sub [0, 1, 2, 3, 13, 4, 5, 6, 7, 8, 9, 10, 11, 12] rfl) (hD2.sub [0, 1, 2, 3, 13, 4, 5, 6, 7, 8, 9, 10, 11, 12] (by decide) rfl) hS1
set_option maxHeartbeats 4000000 in
set_option maxRecDepth 100000 in
theorem fill_5 {v : Int32} (E : Env1 p s m args c cc nL own D (tyL cI cJ cZ)) (hA : ∀ q : Nat, s.heap.size ≤ q → A q) (hP : va_P D vwCl (wX h cI cJ cZ st) H) (hD : va_D A (wX h cI cJ cZ st)) (hS : va_S A s.heap H locs) (hls : ls.size = nL) (hm : Cond.methodLink own idx yJ7_fill_53178 ∈ TB) (hW : (rest.map fun v => v.category).sum ≤ 8) (hR : 1 ≤ R.frames ∧ 8 + (4 + 11) + 0 ≤ R.locals) (hdg : decode cc pc = .ok (.invokestatic idx, 3))
    (kk : ∀ (H1 : Heap) (locs1 : List Loc), va_P D vwCl (wX h cI cJ cZ (pf st 5 (flI 4096 v (st.1 5)))) H1 → va_D A (wX h cI cJ cZ (pf st 5 (flI 4096 v (st.1 5)))) → va_S A s.heap H1 locs1 → W p l e R s m args below meth c H1 locs1 0 0 Q (F0 m (pc + 3) ls rest)) :
    W p l e R s m args below meth c H locs 0 0 Q (F0 m pc ls (.int v :: .ref (h 5) :: rest)) := by
  have hPc := hP.sub (ws' := wA (h 5) cI 4096 (fun _ => st.1 5, st.2)) [5] rfl
  have hDc := hD.sub (ws' := wA (h 5) cI 4096 (fun _ => st.1 5, st.2)) [5] (by decide) rfl
  have hFc := va_free (wc := wA (h 5) cI 4096 (fun _ => st.1 5, st.2)) hD hS hA [5] rfl
  refine va_callv (va_runS (As := [.ref (h 5), .int v]) (rest := rest) E.1 (kfillI l D (h 5) 4096 (by decide) cI cJ cZ v (fun _ => st.1 5, st.2) H.size) ⟨callB_of 2 E.1.2.2.2.2 (tb_code fi_co) rfl rfl rfl (E.1.2.2.2.2 _ fi_in) (E.1.2.2.2.2 _ hm) (by decide +kernel) hR, E.1.2.2.2.2 _ fi_st⟩ ⟨cp_blind, fun U hU hW => ⟨rfl, by rw [hU], by rw [hU]; exact hPc, va_K.moved hW.alike E.2, hDc.weaken (fun _ _ _ _ => trivial)⟩⟩ rfl rfl hls rfl (lv_room hW) hdg ⟨Nat.zero_le _, Nat.zero_le _⟩) hS (fun q _ h => hFc q h) hFc (fun u1 t H1 locs1 ht hvm hw hB hz1 hk1 hS1 => ?_)
  subst hw
  obtain ⟨hP1, hK1, hD1⟩ := hB
  rw [ht] at hP1
  obtain ⟨hP2, hD2⟩ := va_join (wr := [(h 0, .inr (2, [.ref (h 1), .ref (h 2), .ref (h 3), .ref (h 4)])), (h 1, .inr (1, [.ref (h 5), .ref (h 6), .ref (h 7), .ref (h 8), .int (st.1 1 4), .int (st.1 1 5), .int (st.1 1 6)])), (h 2, .inr (0, [.ref (h 1), .ref (h 9), .int (st.1 2 2), .ref (h 10), .ref (h 11), .ref (h 12), .int (st.1 2 6), .int (st.1 2 7), .int (st.1 2 8), .int (st.1 2 9), .int (st.1 2 10), .int (st.1 2 11), .ref (h 13), .int (st.1 2 13), .int (st.1 2 14), .int (st.1 2 15), .int (st.1 2 16), .int (st.1 2 17)])), (h 3, .inl (cI, 32, .inl (st.1 3))), (h 4, .inl (cI, 32, .inl (st.1 4))), (h 6, .inl (cI, 64, .inl (st.1 6))), (h 7, .inl (cI, 64, .inl (st.1 7))), (h 8, .inl (cJ, 64, .inr (.inl st.2))), (h 9, .inl (cI, 4096, .inl (st.1 9))), (h 10, .inl (cI, 4096, .inl (st.1 10))), (h 11, .inl (cZ, 64, .inl (st.1 11))), (h 12, .inl (cZ, 64, .inl (st.1 12))), (h 13, .inl (cI, 64, .inl (st.1 13)))]) hP hD [5] [0, 1, 2, 3, 4, 6, 7, 8, 9, 10, 11, 12, 13] rfl rfl (by decide) (by decide) hk1 hFc hP1 hD1
  exact kk H1 locs1 (hP2.sub [0, 1, 2, 3, 4, 13, 5, 6, 7, 8, 9, 10, 11, 12] rfl) (hD2.sub [0, 1, 2, 3, 4, 13, 5, 6, 7, 8, 9, 10, 11, 12] (by decide) rfl) hS1
set_option maxHeartbeats 4000000 in
set_option maxRecDepth 100000 in
theorem fill_6 {v : Int32} (E : Env1 p s m args c cc nL own D (tyL cI cJ cZ)) (hA : ∀ q : Nat, s.heap.size ≤ q → A q) (hP : va_P D vwCl (wX h cI cJ cZ st) H) (hD : va_D A (wX h cI cJ cZ st)) (hS : va_S A s.heap H locs) (hls : ls.size = nL) (hm : Cond.methodLink own idx yJ7_fill_53178 ∈ TB) (hW : (rest.map fun v => v.category).sum ≤ 8) (hR : 1 ≤ R.frames ∧ 8 + (4 + 11) + 0 ≤ R.locals) (hdg : decode cc pc = .ok (.invokestatic idx, 3))
    (kk : ∀ (H1 : Heap) (locs1 : List Loc), va_P D vwCl (wX h cI cJ cZ (pf st 6 (flI 64 v (st.1 6)))) H1 → va_D A (wX h cI cJ cZ (pf st 6 (flI 64 v (st.1 6)))) → va_S A s.heap H1 locs1 → W p l e R s m args below meth c H1 locs1 0 0 Q (F0 m (pc + 3) ls rest)) :
    W p l e R s m args below meth c H locs 0 0 Q (F0 m pc ls (.int v :: .ref (h 6) :: rest)) := by
  have hPc := hP.sub (ws' := wA (h 6) cI 64 (fun _ => st.1 6, st.2)) [6] rfl
  have hDc := hD.sub (ws' := wA (h 6) cI 64 (fun _ => st.1 6, st.2)) [6] (by decide) rfl
  have hFc := va_free (wc := wA (h 6) cI 64 (fun _ => st.1 6, st.2)) hD hS hA [6] rfl
  refine va_callv (va_runS (As := [.ref (h 6), .int v]) (rest := rest) E.1 (kfillI l D (h 6) 64 (by decide) cI cJ cZ v (fun _ => st.1 6, st.2) H.size) ⟨callB_of 2 E.1.2.2.2.2 (tb_code fi_co) rfl rfl rfl (E.1.2.2.2.2 _ fi_in) (E.1.2.2.2.2 _ hm) (by decide +kernel) hR, E.1.2.2.2.2 _ fi_st⟩ ⟨cp_blind, fun U hU hW => ⟨rfl, by rw [hU], by rw [hU]; exact hPc, va_K.moved hW.alike E.2, hDc.weaken (fun _ _ _ _ => trivial)⟩⟩ rfl rfl hls rfl (lv_room hW) hdg ⟨Nat.zero_le _, Nat.zero_le _⟩) hS (fun q _ h => hFc q h) hFc (fun u1 t H1 locs1 ht hvm hw hB hz1 hk1 hS1 => ?_)
  subst hw
  obtain ⟨hP1, hK1, hD1⟩ := hB
  rw [ht] at hP1
  obtain ⟨hP2, hD2⟩ := va_join (wr := [(h 0, .inr (2, [.ref (h 1), .ref (h 2), .ref (h 3), .ref (h 4)])), (h 1, .inr (1, [.ref (h 5), .ref (h 6), .ref (h 7), .ref (h 8), .int (st.1 1 4), .int (st.1 1 5), .int (st.1 1 6)])), (h 2, .inr (0, [.ref (h 1), .ref (h 9), .int (st.1 2 2), .ref (h 10), .ref (h 11), .ref (h 12), .int (st.1 2 6), .int (st.1 2 7), .int (st.1 2 8), .int (st.1 2 9), .int (st.1 2 10), .int (st.1 2 11), .ref (h 13), .int (st.1 2 13), .int (st.1 2 14), .int (st.1 2 15), .int (st.1 2 16), .int (st.1 2 17)])), (h 3, .inl (cI, 32, .inl (st.1 3))), (h 4, .inl (cI, 32, .inl (st.1 4))), (h 5, .inl (cI, 4096, .inl (st.1 5))), (h 7, .inl (cI, 64, .inl (st.1 7))), (h 8, .inl (cJ, 64, .inr (.inl st.2))), (h 9, .inl (cI, 4096, .inl (st.1 9))), (h 10, .inl (cI, 4096, .inl (st.1 10))), (h 11, .inl (cZ, 64, .inl (st.1 11))), (h 12, .inl (cZ, 64, .inl (st.1 12))), (h 13, .inl (cI, 64, .inl (st.1 13)))]) hP hD [6] [0, 1, 2, 3, 4, 5, 7, 8, 9, 10, 11, 12, 13] rfl rfl (by decide) (by decide) hk1 hFc hP1 hD1
  exact kk H1 locs1 (hP2.sub [0, 1, 2, 3, 4, 5, 13, 6, 7, 8, 9, 10, 11, 12] rfl) (hD2.sub [0, 1, 2, 3, 4, 5, 13, 6, 7, 8, 9, 10, 11, 12] (by decide) rfl) hS1
set_option maxHeartbeats 4000000 in
set_option maxRecDepth 100000 in
theorem fill_7 {v : Int32} (E : Env1 p s m args c cc nL own D (tyL cI cJ cZ)) (hA : ∀ q : Nat, s.heap.size ≤ q → A q) (hP : va_P D vwCl (wX h cI cJ cZ st) H) (hD : va_D A (wX h cI cJ cZ st)) (hS : va_S A s.heap H locs) (hls : ls.size = nL) (hm : Cond.methodLink own idx yJ7_fill_53178 ∈ TB) (hW : (rest.map fun v => v.category).sum ≤ 8) (hR : 1 ≤ R.frames ∧ 8 + (4 + 11) + 0 ≤ R.locals) (hdg : decode cc pc = .ok (.invokestatic idx, 3))
    (kk : ∀ (H1 : Heap) (locs1 : List Loc), va_P D vwCl (wX h cI cJ cZ (pf st 7 (flI 64 v (st.1 7)))) H1 → va_D A (wX h cI cJ cZ (pf st 7 (flI 64 v (st.1 7)))) → va_S A s.heap H1 locs1 → W p l e R s m args below meth c H1 locs1 0 0 Q (F0 m (pc + 3) ls rest)) :
    W p l e R s m args below meth c H locs 0 0 Q (F0 m pc ls (.int v :: .ref (h 7) :: rest)) := by
  have hPc := hP.sub (ws' := wA (h 7) cI 64 (fun _ => st.1 7, st.2)) [7] rfl
  have hDc := hD.sub (ws' := wA (h 7) cI 64 (fun _ => st.1 7, st.2)) [7] (by decide) rfl
  have hFc := va_free (wc := wA (h 7) cI 64 (fun _ => st.1 7, st.2)) hD hS hA [7] rfl
  refine va_callv (va_runS (As := [.ref (h 7), .int v]) (rest := rest) E.1 (kfillI l D (h 7) 64 (by decide) cI cJ cZ v (fun _ => st.1 7, st.2) H.size) ⟨callB_of 2 E.1.2.2.2.2 (tb_code fi_co) rfl rfl rfl (E.1.2.2.2.2 _ fi_in) (E.1.2.2.2.2 _ hm) (by decide +kernel) hR, E.1.2.2.2.2 _ fi_st⟩ ⟨cp_blind, fun U hU hW => ⟨rfl, by rw [hU], by rw [hU]; exact hPc, va_K.moved hW.alike E.2, hDc.weaken (fun _ _ _ _ => trivial)⟩⟩ rfl rfl hls rfl (lv_room hW) hdg ⟨Nat.zero_le _, Nat.zero_le _⟩) hS (fun q _ h => hFc q h) hFc (fun u1 t H1 locs1 ht hvm hw hB hz1 hk1 hS1 => ?_)
  subst hw
  obtain ⟨hP1, hK1, hD1⟩ := hB
  rw [ht] at hP1
  obtain ⟨hP2, hD2⟩ := va_join (wr := [(h 0, .inr (2, [.ref (h 1), .ref (h 2), .ref (h 3), .ref (h 4)])), (h 1, .inr (1, [.ref (h 5), .ref (h 6), .ref (h 7), .ref (h 8), .int (st.1 1 4), .int (st.1 1 5), .int (st.1 1 6)])), (h 2, .inr (0, [.ref (h 1), .ref (h 9), .int (st.1 2 2), .ref (h 10), .ref (h 11), .ref (h 12), .int (st.1 2 6), .int (st.1 2 7), .int (st.1 2 8), .int (st.1 2 9), .int (st.1 2 10), .int (st.1 2 11), .ref (h 13), .int (st.1 2 13), .int (st.1 2 14), .int (st.1 2 15), .int (st.1 2 16), .int (st.1 2 17)])), (h 3, .inl (cI, 32, .inl (st.1 3))), (h 4, .inl (cI, 32, .inl (st.1 4))), (h 5, .inl (cI, 4096, .inl (st.1 5))), (h 6, .inl (cI, 64, .inl (st.1 6))), (h 8, .inl (cJ, 64, .inr (.inl st.2))), (h 9, .inl (cI, 4096, .inl (st.1 9))), (h 10, .inl (cI, 4096, .inl (st.1 10))), (h 11, .inl (cZ, 64, .inl (st.1 11))), (h 12, .inl (cZ, 64, .inl (st.1 12))), (h 13, .inl (cI, 64, .inl (st.1 13)))]) hP hD [7] [0, 1, 2, 3, 4, 5, 6, 8, 9, 10, 11, 12, 13] rfl rfl (by decide) (by decide) hk1 hFc hP1 hD1
  exact kk H1 locs1 (hP2.sub [0, 1, 2, 3, 4, 5, 6, 13, 7, 8, 9, 10, 11, 12] rfl) (hD2.sub [0, 1, 2, 3, 4, 5, 6, 13, 7, 8, 9, 10, 11, 12] (by decide) rfl) hS1
set_option maxHeartbeats 4000000 in
set_option maxRecDepth 100000 in
theorem fill_8 {v : Int64} (E : Env1 p s m args c cc nL own D (tyL cI cJ cZ)) (hA : ∀ q : Nat, s.heap.size ≤ q → A q) (hP : va_P D vwCl (wX h cI cJ cZ st) H) (hD : va_D A (wX h cI cJ cZ st)) (hS : va_S A s.heap H locs) (hls : ls.size = nL) (hm : Cond.methodLink own idx yJ7_fill_d0a16 ∈ TB) (hW : (rest.map fun v => v.category).sum ≤ 8) (hR : 1 ≤ R.frames ∧ 8 + (5 + 11) + 0 ≤ R.locals) (hdg : decode cc pc = .ok (.invokestatic idx, 3))
    (kk : ∀ (H1 : Heap) (locs1 : List Loc), va_P D vwCl (wX h cI cJ cZ (ph st (flJ 64 v st.2))) H1 → va_D A (wX h cI cJ cZ (ph st (flJ 64 v st.2))) → va_S A s.heap H1 locs1 → W p l e R s m args below meth c H1 locs1 0 0 Q (F0 m (pc + 3) ls rest)) :
    W p l e R s m args below meth c H locs 0 0 Q (F0 m pc ls (.long v :: .ref (h 8) :: rest)) := by
  have hPc := hP.sub (ws' := wL (h 8) cJ 64 st) [8] rfl
  have hDc := hD.sub (ws' := wL (h 8) cJ 64 st) [8] (by decide) rfl
  have hFc := va_free (wc := wL (h 8) cJ 64 st) hD hS hA [8] rfl
  refine va_callv (va_runS (As := [.ref (h 8), .long v]) (rest := rest) E.1 (kfillJ l D (h 8) 64 (by decide) cI cJ cZ v st H.size) ⟨callB_of 2 E.1.2.2.2.2 (tb_code fj_co) rfl rfl rfl (E.1.2.2.2.2 _ fi_in) (E.1.2.2.2.2 _ hm) (by decide +kernel) hR, E.1.2.2.2.2 _ fj_st⟩ ⟨cp_blind, fun U hU hW => ⟨rfl, by rw [hU], by rw [hU]; exact hPc, va_K.moved hW.alike E.2, hDc.weaken (fun _ _ _ _ => trivial)⟩⟩ rfl rfl hls rfl (lv_room hW) hdg ⟨Nat.zero_le _, Nat.zero_le _⟩) hS (fun q _ h => hFc q h) hFc (fun u1 t H1 locs1 ht hvm hw hB hz1 hk1 hS1 => ?_)
  subst hw
  obtain ⟨hP1, hK1, hD1⟩ := hB
  rw [ht] at hP1
  obtain ⟨hP2, hD2⟩ := va_join (wr := [(h 0, .inr (2, [.ref (h 1), .ref (h 2), .ref (h 3), .ref (h 4)])), (h 1, .inr (1, [.ref (h 5), .ref (h 6), .ref (h 7), .ref (h 8), .int (st.1 1 4), .int (st.1 1 5), .int (st.1 1 6)])), (h 2, .inr (0, [.ref (h 1), .ref (h 9), .int (st.1 2 2), .ref (h 10), .ref (h 11), .ref (h 12), .int (st.1 2 6), .int (st.1 2 7), .int (st.1 2 8), .int (st.1 2 9), .int (st.1 2 10), .int (st.1 2 11), .ref (h 13), .int (st.1 2 13), .int (st.1 2 14), .int (st.1 2 15), .int (st.1 2 16), .int (st.1 2 17)])), (h 3, .inl (cI, 32, .inl (st.1 3))), (h 4, .inl (cI, 32, .inl (st.1 4))), (h 5, .inl (cI, 4096, .inl (st.1 5))), (h 6, .inl (cI, 64, .inl (st.1 6))), (h 7, .inl (cI, 64, .inl (st.1 7))), (h 9, .inl (cI, 4096, .inl (st.1 9))), (h 10, .inl (cI, 4096, .inl (st.1 10))), (h 11, .inl (cZ, 64, .inl (st.1 11))), (h 12, .inl (cZ, 64, .inl (st.1 12))), (h 13, .inl (cI, 64, .inl (st.1 13)))]) hP hD [8] [0, 1, 2, 3, 4, 5, 6, 7, 9, 10, 11, 12, 13] rfl rfl (by decide) (by decide) hk1 hFc hP1 hD1
  exact kk H1 locs1 (hP2.sub [0, 1, 2, 3, 4, 5, 6, 7, 13, 8, 9, 10, 11, 12] rfl) (hD2.sub [0, 1, 2, 3, 4, 5, 6, 7, 13, 8, 9, 10, 11, 12] (by decide) rfl) hS1
set_option maxHeartbeats 4000000 in
set_option maxRecDepth 100000 in
theorem fill_10 {v : Int32} (E : Env1 p s m args c cc nL own D (tyL cI cJ cZ)) (hA : ∀ q : Nat, s.heap.size ≤ q → A q) (hP : va_P D vwCl (wX h cI cJ cZ st) H) (hD : va_D A (wX h cI cJ cZ st)) (hS : va_S A s.heap H locs) (hls : ls.size = nL) (hm : Cond.methodLink own idx yJ7_fill_53178 ∈ TB) (hW : (rest.map fun v => v.category).sum ≤ 8) (hR : 1 ≤ R.frames ∧ 8 + (4 + 11) + 0 ≤ R.locals) (hdg : decode cc pc = .ok (.invokestatic idx, 3))
    (kk : ∀ (H1 : Heap) (locs1 : List Loc), va_P D vwCl (wX h cI cJ cZ (pf st 10 (flI 4096 v (st.1 10)))) H1 → va_D A (wX h cI cJ cZ (pf st 10 (flI 4096 v (st.1 10)))) → va_S A s.heap H1 locs1 → W p l e R s m args below meth c H1 locs1 0 0 Q (F0 m (pc + 3) ls rest)) :
    W p l e R s m args below meth c H locs 0 0 Q (F0 m pc ls (.int v :: .ref (h 10) :: rest)) := by
  have hPc := hP.sub (ws' := wA (h 10) cI 4096 (fun _ => st.1 10, st.2)) [10] rfl
  have hDc := hD.sub (ws' := wA (h 10) cI 4096 (fun _ => st.1 10, st.2)) [10] (by decide) rfl
  have hFc := va_free (wc := wA (h 10) cI 4096 (fun _ => st.1 10, st.2)) hD hS hA [10] rfl
  refine va_callv (va_runS (As := [.ref (h 10), .int v]) (rest := rest) E.1 (kfillI l D (h 10) 4096 (by decide) cI cJ cZ v (fun _ => st.1 10, st.2) H.size) ⟨callB_of 2 E.1.2.2.2.2 (tb_code fi_co) rfl rfl rfl (E.1.2.2.2.2 _ fi_in) (E.1.2.2.2.2 _ hm) (by decide +kernel) hR, E.1.2.2.2.2 _ fi_st⟩ ⟨cp_blind, fun U hU hW => ⟨rfl, by rw [hU], by rw [hU]; exact hPc, va_K.moved hW.alike E.2, hDc.weaken (fun _ _ _ _ => trivial)⟩⟩ rfl rfl hls rfl (lv_room hW) hdg ⟨Nat.zero_le _, Nat.zero_le _⟩) hS (fun q _ h => hFc q h) hFc (fun u1 t H1 locs1 ht hvm hw hB hz1 hk1 hS1 => ?_)
  subst hw
  obtain ⟨hP1, hK1, hD1⟩ := hB
  rw [ht] at hP1
  obtain ⟨hP2, hD2⟩ := va_join (wr := [(h 0, .inr (2, [.ref (h 1), .ref (h 2), .ref (h 3), .ref (h 4)])), (h 1, .inr (1, [.ref (h 5), .ref (h 6), .ref (h 7), .ref (h 8), .int (st.1 1 4), .int (st.1 1 5), .int (st.1 1 6)])), (h 2, .inr (0, [.ref (h 1), .ref (h 9), .int (st.1 2 2), .ref (h 10), .ref (h 11), .ref (h 12), .int (st.1 2 6), .int (st.1 2 7), .int (st.1 2 8), .int (st.1 2 9), .int (st.1 2 10), .int (st.1 2 11), .ref (h 13), .int (st.1 2 13), .int (st.1 2 14), .int (st.1 2 15), .int (st.1 2 16), .int (st.1 2 17)])), (h 3, .inl (cI, 32, .inl (st.1 3))), (h 4, .inl (cI, 32, .inl (st.1 4))), (h 5, .inl (cI, 4096, .inl (st.1 5))), (h 6, .inl (cI, 64, .inl (st.1 6))), (h 7, .inl (cI, 64, .inl (st.1 7))), (h 8, .inl (cJ, 64, .inr (.inl st.2))), (h 9, .inl (cI, 4096, .inl (st.1 9))), (h 11, .inl (cZ, 64, .inl (st.1 11))), (h 12, .inl (cZ, 64, .inl (st.1 12))), (h 13, .inl (cI, 64, .inl (st.1 13)))]) hP hD [10] [0, 1, 2, 3, 4, 5, 6, 7, 8, 9, 11, 12, 13] rfl rfl (by decide) (by decide) hk1 hFc hP1 hD1
  exact kk H1 locs1 (hP2.sub [0, 1, 2, 3, 4, 5, 6, 7, 8, 9, 13, 10, 11, 12] rfl) (hD2.sub [0, 1, 2, 3, 4, 5, 6, 7, 8, 9, 13, 10, 11, 12] (by decide) rfl) hS1
set_option maxHeartbeats 4000000 in
set_option maxRecDepth 100000 in
theorem fill_13 {v : Int32} (E : Env1 p s m args c cc nL own D (tyL cI cJ cZ)) (hA : ∀ q : Nat, s.heap.size ≤ q → A q) (hP : va_P D vwCl (wX h cI cJ cZ st) H) (hD : va_D A (wX h cI cJ cZ st)) (hS : va_S A s.heap H locs) (hls : ls.size = nL) (hm : Cond.methodLink own idx yJ7_fill_53178 ∈ TB) (hW : (rest.map fun v => v.category).sum ≤ 8) (hR : 1 ≤ R.frames ∧ 8 + (4 + 11) + 0 ≤ R.locals) (hdg : decode cc pc = .ok (.invokestatic idx, 3))
    (kk : ∀ (H1 : Heap) (locs1 : List Loc), va_P D vwCl (wX h cI cJ cZ (pf st 13 (flI 64 v (st.1 13)))) H1 → va_D A (wX h cI cJ cZ (pf st 13 (flI 64 v (st.1 13)))) → va_S A s.heap H1 locs1 → W p l e R s m args below meth c H1 locs1 0 0 Q (F0 m (pc + 3) ls rest)) :
    W p l e R s m args below meth c H locs 0 0 Q (F0 m pc ls (.int v :: .ref (h 13) :: rest)) := by
  have hPc := hP.sub (ws' := wA (h 13) cI 64 (fun _ => st.1 13, st.2)) [13] rfl
  have hDc := hD.sub (ws' := wA (h 13) cI 64 (fun _ => st.1 13, st.2)) [13] (by decide) rfl
  have hFc := va_free (wc := wA (h 13) cI 64 (fun _ => st.1 13, st.2)) hD hS hA [13] rfl
  refine va_callv (va_runS (As := [.ref (h 13), .int v]) (rest := rest) E.1 (kfillI l D (h 13) 64 (by decide) cI cJ cZ v (fun _ => st.1 13, st.2) H.size) ⟨callB_of 2 E.1.2.2.2.2 (tb_code fi_co) rfl rfl rfl (E.1.2.2.2.2 _ fi_in) (E.1.2.2.2.2 _ hm) (by decide +kernel) hR, E.1.2.2.2.2 _ fi_st⟩ ⟨cp_blind, fun U hU hW => ⟨rfl, by rw [hU], by rw [hU]; exact hPc, va_K.moved hW.alike E.2, hDc.weaken (fun _ _ _ _ => trivial)⟩⟩ rfl rfl hls rfl (lv_room hW) hdg ⟨Nat.zero_le _, Nat.zero_le _⟩) hS (fun q _ h => hFc q h) hFc (fun u1 t H1 locs1 ht hvm hw hB hz1 hk1 hS1 => ?_)
  subst hw
  obtain ⟨hP1, hK1, hD1⟩ := hB
  rw [ht] at hP1
  obtain ⟨hP2, hD2⟩ := va_join (wr := [(h 0, .inr (2, [.ref (h 1), .ref (h 2), .ref (h 3), .ref (h 4)])), (h 1, .inr (1, [.ref (h 5), .ref (h 6), .ref (h 7), .ref (h 8), .int (st.1 1 4), .int (st.1 1 5), .int (st.1 1 6)])), (h 2, .inr (0, [.ref (h 1), .ref (h 9), .int (st.1 2 2), .ref (h 10), .ref (h 11), .ref (h 12), .int (st.1 2 6), .int (st.1 2 7), .int (st.1 2 8), .int (st.1 2 9), .int (st.1 2 10), .int (st.1 2 11), .ref (h 13), .int (st.1 2 13), .int (st.1 2 14), .int (st.1 2 15), .int (st.1 2 16), .int (st.1 2 17)])), (h 3, .inl (cI, 32, .inl (st.1 3))), (h 4, .inl (cI, 32, .inl (st.1 4))), (h 5, .inl (cI, 4096, .inl (st.1 5))), (h 6, .inl (cI, 64, .inl (st.1 6))), (h 7, .inl (cI, 64, .inl (st.1 7))), (h 8, .inl (cJ, 64, .inr (.inl st.2))), (h 9, .inl (cI, 4096, .inl (st.1 9))), (h 10, .inl (cI, 4096, .inl (st.1 10))), (h 11, .inl (cZ, 64, .inl (st.1 11))), (h 12, .inl (cZ, 64, .inl (st.1 12)))]) hP hD [13] [0, 1, 2, 3, 4, 5, 6, 7, 8, 9, 10, 11, 12] rfl rfl (by decide) (by decide) hk1 hFc hP1 hD1
  exact kk H1 locs1 (hP2.sub [0, 1, 2, 3, 4, 5, 6, 7, 8, 9, 10, 11, 12, 13] rfl) (hD2.sub [0, 1, 2, 3, 4, 5, 6, 7, 8, 9, 10, 11, 12, 13] (by decide) rfl) hS1
def gc {α : Type} (sp dp n : Int32) (n0 n1 : Nat) (k : Option α) : Option α := if sp < 0 ∨ dp < 0 ∨ n < 0 ∨ n0 < sp.toNatClampNeg + n.toNatClampNeg ∨ n1 < dp.toNatClampNeg + n.toNatClampNeg then none else k
theorem gc_some {α : Type} {sp dp n : Int32} {n0 n1 : Nat} {k : Option α} {o : α} (h : gc sp dp n n0 n1 k = some o) : (¬ sp < 0 ∧ ¬ dp < 0 ∧ ¬ n < 0 ∧ sp.toNatClampNeg + n.toNatClampNeg ≤ n0 ∧ dp.toNatClampNeg + n.toNatClampNeg ≤ n1) ∧ k = some o := by
  unfold gc at h
  split at h
  · cases h
  · rename_i h1
    refine ⟨⟨fun a => h1 (Or.inl a), fun a => h1 (Or.inr (Or.inl a)), fun a => h1 (Or.inr (Or.inr (Or.inl a))), ?_, ?_⟩, h⟩
    · exact Nat.le_of_not_lt (fun a => h1 (Or.inr (Or.inr (Or.inr (Or.inl a)))))
    · exact Nat.le_of_not_lt (fun a => h1 (Or.inr (Or.inr (Or.inr (Or.inr a)))))
set_option maxHeartbeats 4000000 in
set_option maxRecDepth 100000 in
theorem cpy_5_5 {sp dp n : Int32} (E : Env1 p s m args c cc nL own D (tyL cI cJ cZ)) (hP : va_P D vwCl (wX h cI cJ cZ st) H) (hD : va_D A (wX h cI cJ cZ st)) (hS : va_S A s.heap H locs) (hls : ls.size = nL) (hm : Cond.methodLink own idx arraycopyName ∈ TB) (hy : ¬ sp < 0 ∧ ¬ dp < 0 ∧ ¬ n < 0 ∧ sp.toNatClampNeg + n.toNatClampNeg ≤ 4096 ∧ dp.toNatClampNeg + n.toNatClampNeg ≤ 4096) (hf : 1 ≤ R.frames) (hlo : (rest.map fun v => v.category).sum + (nativeFrameWords "java/lang/System" "arraycopy" 5 + 11) ≤ R.locals) (hdg : decode cc pc = .ok (.invokestatic idx, 3))
    (kk : ∀ (H1 : Heap) (locs1 : List Loc), va_P D vwCl (wX h cI cJ cZ (pf st 5 (va_cpy (st.1 5) (st.1 5) sp.toNatClampNeg dp.toNatClampNeg n.toNatClampNeg))) H1 → va_D A (wX h cI cJ cZ (pf st 5 (va_cpy (st.1 5) (st.1 5) sp.toNatClampNeg dp.toNatClampNeg n.toNatClampNeg))) → va_S A s.heap H1 locs1 → W p l e R s m args below meth c H1 locs1 0 0 Q (F0 m (pc + 3) ls rest)) :
    W p l e R s m args below meth c H locs 0 0 Q (F0 m pc ls (.int n :: .int dp :: .ref (h 5) :: .int sp :: .ref (h 5) :: rest)) :=
  va_copyi (D := D) E.1.1 E.1.2.1 (E.1.2.2.1.trans hls.symm) E.1.2.2.2.1 (E.1.2.2.2.2 _ hm) (E.1.2.2.2.2 _ ac_na) (E.1.2.2.2.2 _ ac_st) (E.1.2.2.2.2 _ ac_in) E.2 hP hD hS 5 5 0 0 rfl rfl rfl rfl rfl hy.1 hy.2.1 hy.2.2.1 hy.2.2.2.1 hy.2.2.2.2 (fun _ _ => rfl) hf hlo hdg kk
def bu (x : Int64) (k : Int32) : Int64 := (x.toUInt64 >>> (k.toInt64.toUInt64 &&& Int64.toUInt64 63)).toInt64
def bt1 (x : Int64) : Int64 := x - (bu x 1 &&& (6148914691236517205 : Int64))
def bt2 (x : Int64) : Int64 := (x &&& (3689348814741910323 : Int64)) + (bu x 2 &&& (3689348814741910323 : Int64))
def bt3 (x : Int64) : Int64 := (x + bu x 4) &&& (1085102592571150095 : Int64)
def bt4 (x : Int64) (k : Int32) : Int64 := x + bu x k
def bct (x : Int64) : Int32 := (bt4 (bt4 (bt4 (bt3 (bt2 (bt1 x))) 8) 16) 32).toInt32 &&& 127
set_option maxHeartbeats 4000000 in
theorem kbitc (l : Launch) (D : va_G) (cI cJ cZ : ClassId) (x : Int64) (st : St) : Ci l yJ13_bitCount_95d88 cJ13_bitCount_95d88 2 (some .int) 0 0 D (tyL cI cJ cZ) (fun _ => []) st [.long x] (bct x) st := by
  refine body_i (by decide +kernel) (Nat.le_of_ble_eq_true rfl) ?_
  intro p e s m below meth c A ls E hr hlocks hA hP hD hS hl
  have E : Env1 p s m _ c cJ13_bitCount_95d88 2 "java/lang/Long" D (tyL cI cJ cZ) := E
  have hl : lv_has ls 2 [(0, .long x)] := hl
  have hx := E.1.1
  have hb := E.1.2.1
  refine lv_lload_n hx hb dJ13_bitCount_95d88_0 rfl (lv_at hl 0 rfl) ?_
  refine lv_lload_n hx hb dJ13_bitCount_95d88_1 rfl (lv_at hl 0 rfl) ?_
  refine lv_iconst (v := 1) hx hb dJ13_bitCount_95d88_2 (by decide) ?_
  refine lv_lushr hx hb dJ13_bitCount_95d88_3 rfl ?_
  refine lv_ldc2 hx hb E.1.2.2.2.1 (E.1.2.2.2.2 _ bc_314) dJ13_bitCount_95d88_4 ?_
  refine lv_land hx hb dJ13_bitCount_95d88_7 ?_
  refine lv_lsub hx hb dJ13_bitCount_95d88_8 ?_
  refine lv_lstore_n (lv' := [(0, .long (bt1 x))]) hx hb dJ13_bitCount_95d88_9 rfl hl (by decide) rfl (fun ls hl => ?_)
  refine lv_lload_n hx hb dJ13_bitCount_95d88_10 rfl (lv_at hl 0 rfl) ?_
  refine lv_ldc2 hx hb E.1.2.2.2.1 (E.1.2.2.2.2 _ bc_316) dJ13_bitCount_95d88_11 ?_
  refine lv_land hx hb dJ13_bitCount_95d88_14 ?_
  refine lv_lload_n hx hb dJ13_bitCount_95d88_15 rfl (lv_at hl 0 rfl) ?_
  refine lv_iconst (v := 2) hx hb dJ13_bitCount_95d88_16 (by decide) ?_
  refine lv_lushr hx hb dJ13_bitCount_95d88_17 rfl ?_
  refine lv_ldc2 hx hb E.1.2.2.2.1 (E.1.2.2.2.2 _ bc_316) dJ13_bitCount_95d88_18 ?_
  refine lv_land hx hb dJ13_bitCount_95d88_21 ?_
  refine lv_ladd hx hb dJ13_bitCount_95d88_22 ?_
  refine lv_lstore_n (lv' := [(0, .long (bt2 (bt1 x)))]) hx hb dJ13_bitCount_95d88_23 rfl hl (by decide) rfl (fun ls hl => ?_)
  refine lv_lload_n hx hb dJ13_bitCount_95d88_24 rfl (lv_at hl 0 rfl) ?_
  refine lv_lload_n hx hb dJ13_bitCount_95d88_25 rfl (lv_at hl 0 rfl) ?_
  refine lv_iconst (v := 4) hx hb dJ13_bitCount_95d88_26 (by decide) ?_
  refine lv_lushr hx hb dJ13_bitCount_95d88_27 rfl ?_
  refine lv_ladd hx hb dJ13_bitCount_95d88_28 ?_
  refine lv_ldc2 hx hb E.1.2.2.2.1 (E.1.2.2.2.2 _ bc_318) dJ13_bitCount_95d88_29 ?_
  refine lv_land hx hb dJ13_bitCount_95d88_32 ?_
  refine lv_lstore_n (lv' := [(0, .long (bt3 (bt2 (bt1 x))))]) hx hb dJ13_bitCount_95d88_33 rfl hl (by decide) rfl (fun ls hl => ?_)
  refine lv_lload_n hx hb dJ13_bitCount_95d88_34 rfl (lv_at hl 0 rfl) ?_
  refine lv_lload_n hx hb dJ13_bitCount_95d88_35 rfl (lv_at hl 0 rfl) ?_
  refine lv_bipush (v := 8) hx hb dJ13_bitCount_95d88_36 (by decide) ?_
  refine lv_lushr hx hb dJ13_bitCount_95d88_38 rfl ?_
  refine lv_ladd hx hb dJ13_bitCount_95d88_39 ?_
  refine lv_lstore_n (lv' := [(0, .long (bt4 (bt3 (bt2 (bt1 x))) 8))]) hx hb dJ13_bitCount_95d88_40 rfl hl (by decide) rfl (fun ls hl => ?_)
  refine lv_lload_n hx hb dJ13_bitCount_95d88_41 rfl (lv_at hl 0 rfl) ?_
  refine lv_lload_n hx hb dJ13_bitCount_95d88_42 rfl (lv_at hl 0 rfl) ?_
  refine lv_bipush (v := 16) hx hb dJ13_bitCount_95d88_43 (by decide) ?_
  refine lv_lushr hx hb dJ13_bitCount_95d88_45 rfl ?_
  refine lv_ladd hx hb dJ13_bitCount_95d88_46 ?_
  refine lv_lstore_n (lv' := [(0, .long (bt4 (bt4 (bt3 (bt2 (bt1 x))) 8) 16))]) hx hb dJ13_bitCount_95d88_47 rfl hl (by decide) rfl (fun ls hl => ?_)
  refine lv_lload_n hx hb dJ13_bitCount_95d88_48 rfl (lv_at hl 0 rfl) ?_
  refine lv_lload_n hx hb dJ13_bitCount_95d88_49 rfl (lv_at hl 0 rfl) ?_
  refine lv_bipush (v := 32) hx hb dJ13_bitCount_95d88_50 (by decide) ?_
  refine lv_lushr hx hb dJ13_bitCount_95d88_52 rfl ?_
  refine lv_ladd hx hb dJ13_bitCount_95d88_53 ?_
  refine lv_lstore_n (lv' := [(0, .long (bt4 (bt4 (bt4 (bt3 (bt2 (bt1 x))) 8) 16) 32))]) hx hb dJ13_bitCount_95d88_54 rfl hl (by decide) rfl (fun ls hl => ?_)
  refine lv_lload_n hx hb dJ13_bitCount_95d88_55 rfl (lv_at hl 0 rfl) ?_
  refine lv_l2i hx hb dJ13_bitCount_95d88_56 rfl ?_
  refine lv_bipush (v := 127) hx hb dJ13_bitCount_95d88_57 (by decide) ?_
  refine lv_iand hx hb dJ13_bitCount_95d88_59 ?_
  exact end_i (r := bct x) E hr hlocks hP hD hS dJ13_bitCount_95d88_60
set_option maxHeartbeats 4000000 in
set_option maxRecDepth 100000 in
theorem bitc {x : Int64} (E : Env1 p s m args c cc nL own D (tyL cI cJ cZ)) (hA : ∀ q : Nat, s.heap.size ≤ q → A q) (hP : va_P D vwCl (wX h cI cJ cZ st) H) (hD : va_D A (wX h cI cJ cZ st)) (hS : va_S A s.heap H locs) (hls : ls.size = nL) (hm : Cond.methodLink own idx yJ13_bitCount_95d88 ∈ TB) (hW : (rest.map fun v => v.category).sum ≤ 8) (hR : 1 ≤ R.frames ∧ 8 + (2 + 11) + 0 ≤ R.locals) (hdg : decode cc pc = .ok (.invokestatic idx, 3))
    (kk : ∀ (H1 : Heap) (locs1 : List Loc), va_P D vwCl (wX h cI cJ cZ st) H1 → va_D A (wX h cI cJ cZ st) → va_S A s.heap H1 locs1 → W p l e R s m args below meth c H1 locs1 0 0 Q (F0 m (pc + 3) ls (.int (bct x) :: rest))) :
    W p l e R s m args below meth c H locs 0 0 Q (F0 m pc ls (.long x :: rest)) := by
  have hPc : va_P D vwCl [] H := hP.sub [] rfl
  have hDc : va_D A [] := hD.sub [] (by decide) rfl
  have hFc := va_free (wc := []) hD hS hA [] rfl
  refine va_calli (va_runS (As := [.long x]) (rest := rest) E.1 (kbitc l D cI cJ cZ x st H.size) ⟨callB_of 1 E.1.2.2.2.2 (tb_code bc_co) rfl rfl rfl (E.1.2.2.2.2 _ bc_in) (E.1.2.2.2.2 _ hm) (by decide +kernel) hR, E.1.2.2.2.2 _ bc_st⟩ ⟨cp_blind, fun U hU hW => ⟨rfl, by rw [hU], by rw [hU]; exact hPc, va_K.moved hW.alike E.2, hDc.weaken (fun _ _ _ _ => trivial)⟩⟩ rfl rfl hls rfl (lv_room hW) hdg ⟨Nat.zero_le _, Nat.zero_le _⟩) hS (fun q _ h => hFc q h) hFc (fun r1 u1 t H1 locs1 ht hvm hw hB hz1 hk1 hS1 => ?_)
  obtain ⟨rfl, rfl⟩ := hw
  obtain ⟨hP1, hK1, hD1⟩ := hB
  rw [ht] at hP1
  obtain ⟨hP2, hD2⟩ := va_join (wc := []) (w1 := []) (wr := wX h cI cJ cZ u1) hP hD [] [0, 1, 2, 3, 4, 5, 6, 7, 8, 9, 10, 11, 12, 13] rfl rfl (by decide) (by decide) hk1 hFc hP1 hD1
  exact kk H1 locs1 (hP2.sub [0, 1, 2, 3, 4, 5, 6, 7, 8, 9, 10, 11, 12, 13] rfl) (hD2.sub [0, 1, 2, 3, 4, 5, 6, 7, 8, 9, 10, 11, 12, 13] (by decide) rfl) hS1
end JRows
end
section
theorem sw_out2 {x : Int32} (h0 : ¬ x = (0 : Int32)) (h1 : ¬ x = (1 : Int32)) (h2 : ¬ x = (2 : Int32)) : x.toInt < 0 ∨ 2 < x.toInt := by
  apply Classical.byContradiction
  intro hc
  have hneg : ¬ x < 0 := by rw [Int32.lt_iff_toInt_lt, Int32.toInt_zero]; omega
  obtain ⟨j, hj, e⟩ := nI_of hneg
  have hJ : x.toInt = (j : Int) := by rw [e]; exact nI_toInt hj
  have h3 : j = 0 ∨ j = 1 ∨ j = 2 := by omega
  rcases h3 with rfl | rfl | rfl
  · exact h0 e
  · exact h1 e
  · exact h2 e
theorem sw_out3 {x : Int32} (h0 : ¬ x = (0 : Int32)) (h1 : ¬ x = (1 : Int32)) (h2 : ¬ x = (2 : Int32)) (h3 : ¬ x = (3 : Int32)) : x.toInt < 0 ∨ 3 < x.toInt := by
  apply Classical.byContradiction
  intro hc
  have hneg : ¬ x < 0 := by rw [Int32.lt_iff_toInt_lt, Int32.toInt_zero]; omega
  obtain ⟨j, hj, e⟩ := nI_of hneg
  have hJ : x.toInt = (j : Int) := by rw [e]; exact nI_toInt hj
  have h3 : j = 0 ∨ j = 1 ∨ j = 2 ∨ j = 3 := by omega
  rcases h3 with rfl | rfl | rfl | rfl
  · exact h0 e
  · exact h1 e
  · exact h2 e
  · exact h3 e
theorem sw_out5 {x : Int32} (h0 : ¬ x = (0 : Int32)) (h1 : ¬ x = (1 : Int32)) (h2 : ¬ x = (2 : Int32)) (h3 : ¬ x = (3 : Int32)) (h4 : ¬ x = (4 : Int32)) (h5 : ¬ x = (5 : Int32)) : x.toInt < 0 ∨ 5 < x.toInt := by
  apply Classical.byContradiction
  intro hc
  have hneg : ¬ x < 0 := by rw [Int32.lt_iff_toInt_lt, Int32.toInt_zero]; omega
  obtain ⟨j, hj, e⟩ := nI_of hneg
  have hJ : x.toInt = (j : Int) := by rw [e]; exact nI_toInt hj
  have h3 : j = 0 ∨ j = 1 ∨ j = 2 ∨ j = 3 ∨ j = 4 ∨ j = 5 := by omega
  rcases h3 with rfl | rfl | rfl | rfl | rfl | rfl
  · exact h0 e
  · exact h1 e
  · exact h2 e
  · exact h3 e
  · exact h4 e
  · exact h5 e
theorem sw_out12 {x : Int32} (h0 : ¬ x = (0 : Int32)) (h1 : ¬ x = (1 : Int32)) (h2 : ¬ x = (2 : Int32)) (h3 : ¬ x = (3 : Int32)) (h4 : ¬ x = (4 : Int32)) (h5 : ¬ x = (5 : Int32)) (h6 : ¬ x = (6 : Int32)) (h7 : ¬ x = (7 : Int32)) (h8 : ¬ x = (8 : Int32)) (h9 : ¬ x = (9 : Int32)) (h10 : ¬ x = (10 : Int32)) (h11 : ¬ x = (11 : Int32)) (h12 : ¬ x = (12 : Int32)) : x.toInt < 0 ∨ 12 < x.toInt := by
  apply Classical.byContradiction
  intro hc
  have hneg : ¬ x < 0 := by rw [Int32.lt_iff_toInt_lt, Int32.toInt_zero]; omega
  obtain ⟨j, hj, e⟩ := nI_of hneg
  have hJ : x.toInt = (j : Int) := by rw [e]; exact nI_toInt hj
  have h3 : j = 0 ∨ j = 1 ∨ j = 2 ∨ j = 3 ∨ j = 4 ∨ j = 5 ∨ j = 6 ∨ j = 7 ∨ j = 8 ∨ j = 9 ∨ j = 10 ∨ j = 11 ∨ j = 12 := by omega
  rcases h3 with rfl | rfl | rfl | rfl | rfl | rfl | rfl | rfl | rfl | rfl | rfl | rfl | rfl
  · exact h0 e
  · exact h1 e
  · exact h2 e
  · exact h3 e
  · exact h4 e
  · exact h5 e
  · exact h6 e
  · exact h7 e
  · exact h8 e
  · exact h9 e
  · exact h10 e
  · exact h11 e
  · exact h12 e
theorem sw_out14 {x : Int32} (h0 : ¬ x = (0 : Int32)) (h1 : ¬ x = (1 : Int32)) (h2 : ¬ x = (2 : Int32)) (h3 : ¬ x = (3 : Int32)) (h4 : ¬ x = (4 : Int32)) (h5 : ¬ x = (5 : Int32)) (h6 : ¬ x = (6 : Int32)) (h7 : ¬ x = (7 : Int32)) (h8 : ¬ x = (8 : Int32)) (h9 : ¬ x = (9 : Int32)) (h10 : ¬ x = (10 : Int32)) (h11 : ¬ x = (11 : Int32)) (h12 : ¬ x = (12 : Int32)) (h13 : ¬ x = (13 : Int32)) (h14 : ¬ x = (14 : Int32)) : x.toInt < 0 ∨ 14 < x.toInt := by
  apply Classical.byContradiction
  intro hc
  have hneg : ¬ x < 0 := by rw [Int32.lt_iff_toInt_lt, Int32.toInt_zero]; omega
  obtain ⟨j, hj, e⟩ := nI_of hneg
  have hJ : x.toInt = (j : Int) := by rw [e]; exact nI_toInt hj
  have h3 : j = 0 ∨ j = 1 ∨ j = 2 ∨ j = 3 ∨ j = 4 ∨ j = 5 ∨ j = 6 ∨ j = 7 ∨ j = 8 ∨ j = 9 ∨ j = 10 ∨ j = 11 ∨ j = 12 ∨ j = 13 ∨ j = 14 := by omega
  rcases h3 with rfl | rfl | rfl | rfl | rfl | rfl | rfl | rfl | rfl | rfl | rfl | rfl | rfl | rfl | rfl
  · exact h0 e
  · exact h1 e
  · exact h2 e
  · exact h3 e
  · exact h4 e
  · exact h5 e
  · exact h6 e
  · exact h7 e
  · exact h8 e
  · exact h9 e
  · exact h10 e
  · exact h11 e
  · exact h12 e
  · exact h13 e
  · exact h14 e
end
section
-- LooseHeap$Space.pages
def FX1_pages (n : Nat) (st : St) : Option (Int32 × St) := some ((st.1 1 4), st)
set_option maxHeartbeats 4000000 in
set_option maxRecDepth 100000 in
theorem kX1_pages (l : Launch) (D : va_G) (h : Nat → Nat) (cI cJ cZ : ClassId) (n : Nat) (st : St) (r : Int32) (u : St) (hF : FX1_pages n  st = some (r, u)) : Ci l yX1_pages cX1_pages 1 (some .int) 0 0 D (tyL cI cJ cZ) (wX h cI cJ cZ) st [.ref (h 1)] r u := by
  refine body_i (by decide +kernel) (Nat.le_of_ble_eq_true rfl) ?_
  intro p e s m below meth c A ls E hr hlocks hA hP hD hS hl
  have E : Env1 p s m _ c cX1_pages 1 RX1 D (tyL cI cJ cZ) := E
  have hl : lv_has ls 1 [(0, .ref (h 1))] := hl
  have hx := E.1.1
  have hb := E.1.2.1
  have hml := E.1.2.2.1
  unfold FX1_pages at hF
  refine lv_aload_n hx hb dX1_pages_0 rfl (lv_at hl 0 rfl) ?_
  refine g_1_4 E hP dX1_pages_1 ?_
  exact endI E hr hlocks hP hD hS dX1_pages_4 hF
-- LooseHeap$Space.words
def FX1_words (n : Nat) (st : St) : Option (Int32 × St) := some ((st.1 1 5), st)
set_option maxHeartbeats 4000000 in
set_option maxRecDepth 100000 in
theorem kX1_words (l : Launch) (D : va_G) (h : Nat → Nat) (cI cJ cZ : ClassId) (n : Nat) (st : St) (r : Int32) (u : St) (hF : FX1_words n  st = some (r, u)) : Ci l yX1_words cX1_words 1 (some .int) 0 0 D (tyL cI cJ cZ) (wX h cI cJ cZ) st [.ref (h 1)] r u := by
  refine body_i (by decide +kernel) (Nat.le_of_ble_eq_true rfl) ?_
  intro p e s m below meth c A ls E hr hlocks hA hP hD hS hl
  have E : Env1 p s m _ c cX1_words 1 RX1 D (tyL cI cJ cZ) := E
  have hl : lv_has ls 1 [(0, .ref (h 1))] := hl
  have hx := E.1.1
  have hb := E.1.2.1
  have hml := E.1.2.2.1
  unfold FX1_words at hF
  refine lv_aload_n hx hb dX1_words_0 rfl (lv_at hl 0 rfl) ?_
  refine g_1_5 E hP dX1_words_1 ?_
  exact endI E hr hlocks hP hD hS dX1_words_4 hF
-- LooseHeap$Space.openPage
def FX1_openPage (n : Nat) (st : St) : Option (Int32 × St) := some ((st.1 1 6), st)
set_option maxHeartbeats 4000000 in
set_option maxRecDepth 100000 in
theorem kX1_openPage (l : Launch) (D : va_G) (h : Nat → Nat) (cI cJ cZ : ClassId) (n : Nat) (st : St) (r : Int32) (u : St) (hF : FX1_openPage n  st = some (r, u)) : Ci l yX1_openPage cX1_openPage 1 (some .int) 0 0 D (tyL cI cJ cZ) (wX h cI cJ cZ) st [.ref (h 1)] r u := by
  refine body_i (by decide +kernel) (Nat.le_of_ble_eq_true rfl) ?_
  intro p e s m below meth c A ls E hr hlocks hA hP hD hS hl
  have E : Env1 p s m _ c cX1_openPage 1 RX1 D (tyL cI cJ cZ) := E
  have hl : lv_has ls 1 [(0, .ref (h 1))] := hl
  have hx := E.1.1
  have hb := E.1.2.1
  have hml := E.1.2.2.1
  unfold FX1_openPage at hF
  refine lv_aload_n hx hb dX1_openPage_0 rfl (lv_at hl 0 rfl) ?_
  refine g_1_6 E hP dX1_openPage_1 ?_
  exact endI E hr hlocks hP hD hS dX1_openPage_4 hF
-- LooseHeap$Space.setOpenPage
def FX1_setOpenPage (n : Nat) (x1 : Int32) (st : St) : Option (Int32 × St) := some ((0 : Int32), (pt st 1 6 x1))
set_option maxHeartbeats 4000000 in
set_option maxRecDepth 100000 in
theorem kX1_setOpenPage (l : Launch) (D : va_G) (h : Nat → Nat) (cI cJ cZ : ClassId) (n : Nat) (x1 : Int32) (st : St) (r : Int32) (u : St) (hF : FX1_setOpenPage n x1 st = some (r, u)) : Cv l yX1_setOpenPage cX1_setOpenPage 2 0 0 D (tyL cI cJ cZ) (wX h cI cJ cZ) st [.ref (h 1), .int x1] u := by
  refine body_v (by decide +kernel) (Nat.le_of_ble_eq_true rfl) ?_
  intro p e s m below meth c A ls E hr hlocks hA hP hD hS hl
  have E : Env1 p s m _ c cX1_setOpenPage 2 RX1 D (tyL cI cJ cZ) := E
  have hl : lv_has ls 2 [(0, .ref (h 1)), (1, .int x1)] := hl
  have hx := E.1.1
  have hb := E.1.2.1
  have hml := E.1.2.2.1
  unfold FX1_setOpenPage at hF
  refine lv_aload_n hx hb dX1_setOpenPage_0 rfl (lv_at hl 0 rfl) ?_
  refine lv_iload_n hx hb dX1_setOpenPage_1 rfl (lv_at hl 1 rfl) ?_
  refine s_1_6 E hP hD hS dX1_setOpenPage_2 (fun H locs hP hD hS => ?_)
  exact endV E hr hlocks hP hD hS dX1_setOpenPage_5 hF
-- LooseHeap$Space.isPage
def FX1_isPage (n : Nat) (x1 : Int32) (st : St) : Option (Int32 × St) := be (some ((if x1 < 0 then (0 : Int32) else (if (st.1 1 4) ≤ x1 then (0 : Int32) else (1 : Int32))))) (fun v1 => gz v1 (some (v1, st)))
set_option maxHeartbeats 4000000 in
set_option maxRecDepth 100000 in
theorem kX1_isPage (l : Launch) (D : va_G) (h : Nat → Nat) (cI cJ cZ : ClassId) (n : Nat) (x1 : Int32) (st : St) (r : Int32) (u : St) (hF : FX1_isPage n x1 st = some (r, u)) : Ci l yX1_isPage cX1_isPage 2 (some .boolean) 0 0 D (tyL cI cJ cZ) (wX h cI cJ cZ) st [.ref (h 1), .int x1] r u := by
  refine body_i (by decide +kernel) (Nat.le_of_ble_eq_true rfl) ?_
  intro p e s m below meth c A ls E hr hlocks hA hP hD hS hl
  have E : Env1 p s m _ c cX1_isPage 2 RX1 D (tyL cI cJ cZ) := E
  have hl : lv_has ls 2 [(0, .ref (h 1)), (1, .int x1)] := hl
  have hx := E.1.1
  have hb := E.1.2.1
  have hml := E.1.2.2.1
  unfold FX1_isPage at hF
  refine lv_iload_n hx hb dX1_isPage_0 rfl (lv_at hl 1 rfl) ?_
  obtain ⟨v1, hv, hF⟩ := be_some hF
  have hv := Option.some.inj hv
  refine dia (jpc := 17) (v1 := v1) (rest := []) (ls := ls) ?_ (fun kont => ?_)
  · skip
    exact endZ E hr hlocks hP hD hS dX1_isPage_17 hF
  · skip
    refine lv_if_lt (tgt := 16) hx hb dX1_isPage_1 (by decide) (fun hc => ?_) (fun hc => ?_)
    · have hv := if_t hc hv
      refine lv_iconst (v := 0) hx hb dX1_isPage_16 (by decide) ?_
      exact topE hv kont
    · have hv := if_f hc hv
      refine lv_iload_n hx hb dX1_isPage_4 rfl (lv_at hl 1 rfl) ?_
      refine lv_aload_n hx hb dX1_isPage_5 rfl (lv_at hl 0 rfl) ?_
      refine g_1_4 E hP dX1_isPage_6 ?_
      refine lv_icmp_ge (tgt := 16) hx hb dX1_isPage_9 (by decide) (fun hc => ?_) (fun hc => ?_)
      · have hv := if_t hc hv
        refine lv_iconst (v := 0) hx hb dX1_isPage_16 (by decide) ?_
        exact topE hv kont
      · have hv := if_f hc hv
        refine lv_iconst (v := 1) hx hb dX1_isPage_12 (by decide) ?_
        refine lv_goto (tgt := 17) hx hb dX1_isPage_13 (by decide) ?_
        exact topE hv kont
-- LooseHeap$Space.isAddress
def FX1_isAddress (n : Nat) (x1 : Int32) (st : St) : Option (Int32 × St) := be (some ((if x1 < 0 then (0 : Int32) else (if ((st.1 1 4) * (st.1 1 5)) ≤ x1 then (0 : Int32) else (1 : Int32))))) (fun v1 => gz v1 (some (v1, st)))
set_option maxHeartbeats 4000000 in
set_option maxRecDepth 100000 in
theorem kX1_isAddress (l : Launch) (D : va_G) (h : Nat → Nat) (cI cJ cZ : ClassId) (n : Nat) (x1 : Int32) (st : St) (r : Int32) (u : St) (hF : FX1_isAddress n x1 st = some (r, u)) : Ci l yX1_isAddress cX1_isAddress 2 (some .boolean) 0 0 D (tyL cI cJ cZ) (wX h cI cJ cZ) st [.ref (h 1), .int x1] r u := by
  refine body_i (by decide +kernel) (Nat.le_of_ble_eq_true rfl) ?_
  intro p e s m below meth c A ls E hr hlocks hA hP hD hS hl
  have E : Env1 p s m _ c cX1_isAddress 2 RX1 D (tyL cI cJ cZ) := E
  have hl : lv_has ls 2 [(0, .ref (h 1)), (1, .int x1)] := hl
  have hx := E.1.1
  have hb := E.1.2.1
  have hml := E.1.2.2.1
  unfold FX1_isAddress at hF
  refine lv_iload_n hx hb dX1_isAddress_0 rfl (lv_at hl 1 rfl) ?_
  obtain ⟨v1, hv, hF⟩ := be_some hF
  have hv := Option.some.inj hv
  refine dia (jpc := 22) (v1 := v1) (rest := []) (ls := ls) ?_ (fun kont => ?_)
  · skip
    exact endZ E hr hlocks hP hD hS dX1_isAddress_22 hF
  · skip
    refine lv_if_lt (tgt := 21) hx hb dX1_isAddress_1 (by decide) (fun hc => ?_) (fun hc => ?_)
    · have hv := if_t hc hv
      refine lv_iconst (v := 0) hx hb dX1_isAddress_21 (by decide) ?_
      exact topE hv kont
    · have hv := if_f hc hv
      refine lv_iload_n hx hb dX1_isAddress_4 rfl (lv_at hl 1 rfl) ?_
      refine lv_aload_n hx hb dX1_isAddress_5 rfl (lv_at hl 0 rfl) ?_
      refine g_1_4 E hP dX1_isAddress_6 ?_
      refine lv_aload_n hx hb dX1_isAddress_9 rfl (lv_at hl 0 rfl) ?_
      refine g_1_5 E hP dX1_isAddress_10 ?_
      refine lv_imul hx hb dX1_isAddress_13 ?_
      refine lv_icmp_ge (tgt := 21) hx hb dX1_isAddress_14 (by decide) (fun hc => ?_) (fun hc => ?_)
      · have hv := if_t hc hv
        refine lv_iconst (v := 0) hx hb dX1_isAddress_21 (by decide) ?_
        exact topE hv kont
      · have hv := if_f hc hv
        refine lv_iconst (v := 1) hx hb dX1_isAddress_17 (by decide) ?_
        refine lv_goto (tgt := 22) hx hb dX1_isAddress_18 (by decide) ?_
        exact topE hv kont
theorem cw_X1_44 : cwd RX1 44 RX1 yX1_isAddress cX1_isAddress 2 (some .boolean) 1 := ⟨tb_V (tb_in 256 (by decide +kernel) (by decide +kernel)) (tb_in 209 (by decide +kernel) (by decide +kernel)) (tb_in 210 (by decide +kernel) (by decide +kernel)) (tb_in 46 (by decide +kernel) (by decide +kernel)) (tb_in 211 (by decide +kernel) (by decide +kernel)), by decide +kernel⟩
-- LooseHeap$Space.beginsAt
def FX1_beginsAt (n : Nat) (x1 : Int32) (st : St) : Option (Int32 × St) := bd (FX1_isAddress n x1 st) (fun r1 u2 => (if r1 = 0 then some ((0 : Int32), u2) else dz (u2.1 1 5) (gd (x1 / (u2.1 1 5)) 64 (dz (u2.1 1 5) (be (some ((if (lg_cmp (((u2.2 (x1 / (u2.1 1 5)).toNatClampNeg).toUInt64 >>> ((x1 - x1 / (u2.1 1 5) * (u2.1 1 5)).toInt64.toUInt64 &&& Int64.toUInt64 63)).toInt64 &&& (1 : Int64)) (0 : Int64)) = 0 then (0 : Int32) else (1 : Int32)))) (fun v7 => gz v7 (some (v7, u2))))))))
set_option maxHeartbeats 4000000 in
set_option maxRecDepth 100000 in
theorem kX1_beginsAt (l : Launch) (D : va_G) (h : Nat → Nat) (cI cJ cZ : ClassId) (n : Nat) (x1 : Int32) (st : St) (r : Int32) (u : St) (hF : FX1_beginsAt n x1 st = some (r, u)) : Ci l yX1_beginsAt cX1_beginsAt 2 (some .boolean) 1 21 D (tyL cI cJ cZ) (wX h cI cJ cZ) st [.ref (h 1), .int x1] r u := by
  refine body_i (by decide +kernel) (Nat.le_of_ble_eq_true rfl) ?_
  intro p e s m below meth c A ls E hr hlocks hA hP hD hS hl
  have E : Env1 p s m _ c cX1_beginsAt 2 RX1 D (tyL cI cJ cZ) := E
  have hl : lv_has ls 2 [(0, .ref (h 1)), (1, .int x1)] := hl
  have hx := E.1.1
  have hb := E.1.2.1
  have hml := E.1.2.2.1
  unfold FX1_beginsAt at hF
  refine lv_aload_n hx hb dX1_beginsAt_0 rfl (lv_at hl 0 rfl) ?_
  refine lv_iload_n hx hb dX1_beginsAt_1 rfl (lv_at hl 1 rfl) ?_
  obtain ⟨r1, u2, hc3, hF⟩ := bd_some hF
  refine call_i (rest := []) E hA hP hD hS hl.1 (kX1_isAddress l D h cI cJ cZ n x1 st r1 u2 hc3) cw_X1_44 1 rfl rfl rfl rfl rfl (Nat.le_of_ble_eq_true rfl) ⟨Nat.le_of_ble_eq_true rfl, Nat.le_of_ble_eq_true rfl⟩ ⟨Nat.zero_le _, Nat.zero_le _⟩ dX1_beginsAt_2 (fun H locs hP hD hS => ?_)
  refine lv_if_eq (tgt := 37) hx hb dX1_beginsAt_5 (by decide) (fun hc => ?_) (fun hc => ?_)
  · have hF := if_t hc hF
    refine lv_iconst (v := 0) hx hb dX1_beginsAt_37 (by decide) ?_
    exact endZ0 E hr hlocks hP hD hS dX1_beginsAt_38 rfl hF
  · have hF := if_f hc hF
    refine lv_aload_n hx hb dX1_beginsAt_8 rfl (lv_at hl 0 rfl) ?_
    refine g_1_3 E hP dX1_beginsAt_9 ?_
    refine lv_iload_n hx hb dX1_beginsAt_12 rfl (lv_at hl 1 rfl) ?_
    refine lv_aload_n hx hb dX1_beginsAt_13 rfl (lv_at hl 0 rfl) ?_
    refine g_1_5 E hP dX1_beginsAt_14 ?_
    obtain ⟨hz4, hF⟩ := dz_some hF
    refine lv_idiv hx hb dX1_beginsAt_17 hz4 ?_
    obtain ⟨hi5, hF⟩ := gd_some hF
    refine la_8 E hP hi5 dX1_beginsAt_18 ?_
    refine lv_iload_n hx hb dX1_beginsAt_19 rfl (lv_at hl 1 rfl) ?_
    refine lv_aload_n hx hb dX1_beginsAt_20 rfl (lv_at hl 0 rfl) ?_
    refine g_1_5 E hP dX1_beginsAt_21 ?_
    obtain ⟨hz6, hF⟩ := dz_some hF
    refine lv_irem hx hb dX1_beginsAt_24 hz6 ?_
    refine lv_lushr hx hb dX1_beginsAt_25 rfl ?_
    refine lv_lconst (v := 1) hx hb dX1_beginsAt_26 rfl ?_
    refine lv_land hx hb dX1_beginsAt_27 ?_
    refine lv_lconst (v := 0) hx hb dX1_beginsAt_28 rfl ?_
    refine W.lcmp hx hb dX1_beginsAt_29 ?_
    obtain ⟨v7, hv, hF⟩ := be_some hF
    have hv := Option.some.inj hv
    refine dia (jpc := 38) (v1 := v7) (rest := []) (ls := ls) ?_ (fun kont => ?_)
    · skip
      exact endZ E hr hlocks hP hD hS dX1_beginsAt_38 hF
    · skip
      refine lv_if_eq (tgt := 37) hx hb dX1_beginsAt_30 (by decide) (fun hc => ?_) (fun hc => ?_)
      · have hv := if_t hc hv
        refine lv_iconst (v := 0) hx hb dX1_beginsAt_37 (by decide) ?_
        exact topE hv kont
      · have hv := if_f hc hv
        refine lv_iconst (v := 1) hx hb dX1_beginsAt_33 (by decide) ?_
        refine lv_goto (tgt := 38) hx hb dX1_beginsAt_34 (by decide) ?_
        exact topE hv kont
-- LooseHeap$Space.addressOf
def FX1_addressOf (n : Nat) (x1 x2 : Int32) (st : St) : Option (Int32 × St) := some (((x1 * (st.1 1 5)) + x2), st)
set_option maxHeartbeats 4000000 in
set_option maxRecDepth 100000 in
theorem kX1_addressOf (l : Launch) (D : va_G) (h : Nat → Nat) (cI cJ cZ : ClassId) (n : Nat) (x1 x2 : Int32) (st : St) (r : Int32) (u : St) (hF : FX1_addressOf n x1 x2 st = some (r, u)) : Ci l yX1_addressOf cX1_addressOf 3 (some .int) 0 0 D (tyL cI cJ cZ) (wX h cI cJ cZ) st [.ref (h 1), .int x1, .int x2] r u := by
  refine body_i (by decide +kernel) (Nat.le_of_ble_eq_true rfl) ?_
  intro p e s m below meth c A ls E hr hlocks hA hP hD hS hl
  have E : Env1 p s m _ c cX1_addressOf 3 RX1 D (tyL cI cJ cZ) := E
  have hl : lv_has ls 3 [(0, .ref (h 1)), (1, .int x1), (2, .int x2)] := hl
  have hx := E.1.1
  have hb := E.1.2.1
  have hml := E.1.2.2.1
  unfold FX1_addressOf at hF
  refine lv_iload_n hx hb dX1_addressOf_0 rfl (lv_at hl 1 rfl) ?_
  refine lv_aload_n hx hb dX1_addressOf_1 rfl (lv_at hl 0 rfl) ?_
  refine g_1_5 E hP dX1_addressOf_2 ?_
  refine lv_imul hx hb dX1_addressOf_5 ?_
  refine lv_iload_n hx hb dX1_addressOf_6 rfl (lv_at hl 2 rfl) ?_
  refine lv_iadd hx hb dX1_addressOf_7 ?_
  exact endI E hr hlocks hP hD hS dX1_addressOf_8 hF
-- LooseHeap$Space.pageOf
def FX1_pageOf (n : Nat) (x1 : Int32) (st : St) : Option (Int32 × St) := dz (st.1 1 5) (some ((x1 / (st.1 1 5)), st))
set_option maxHeartbeats 4000000 in
set_option maxRecDepth 100000 in
theorem kX1_pageOf (l : Launch) (D : va_G) (h : Nat → Nat) (cI cJ cZ : ClassId) (n : Nat) (x1 : Int32) (st : St) (r : Int32) (u : St) (hF : FX1_pageOf n x1 st = some (r, u)) : Ci l yX1_pageOf cX1_pageOf 2 (some .int) 0 0 D (tyL cI cJ cZ) (wX h cI cJ cZ) st [.ref (h 1), .int x1] r u := by
  refine body_i (by decide +kernel) (Nat.le_of_ble_eq_true rfl) ?_
  intro p e s m below meth c A ls E hr hlocks hA hP hD hS hl
  have E : Env1 p s m _ c cX1_pageOf 2 RX1 D (tyL cI cJ cZ) := E
  have hl : lv_has ls 2 [(0, .ref (h 1)), (1, .int x1)] := hl
  have hx := E.1.1
  have hb := E.1.2.1
  have hml := E.1.2.2.1
  unfold FX1_pageOf at hF
  refine lv_iload_n hx hb dX1_pageOf_0 rfl (lv_at hl 1 rfl) ?_
  refine lv_aload_n hx hb dX1_pageOf_1 rfl (lv_at hl 0 rfl) ?_
  refine g_1_5 E hP dX1_pageOf_2 ?_
  obtain ⟨hz1, hF⟩ := dz_some hF
  refine lv_idiv hx hb dX1_pageOf_5 hz1 ?_
  exact endI E hr hlocks hP hD hS dX1_pageOf_6 hF
-- LooseHeap$Space.kindOf
def FX1_kindOf (n : Nat) (x1 : Int32) (st : St) : Option (Int32 × St) := gd x1 64 (some ((st.1 6 x1.toNatClampNeg), st))
set_option maxHeartbeats 4000000 in
set_option maxRecDepth 100000 in
theorem kX1_kindOf (l : Launch) (D : va_G) (h : Nat → Nat) (cI cJ cZ : ClassId) (n : Nat) (x1 : Int32) (st : St) (r : Int32) (u : St) (hF : FX1_kindOf n x1 st = some (r, u)) : Ci l yX1_kindOf cX1_kindOf 2 (some .int) 0 0 D (tyL cI cJ cZ) (wX h cI cJ cZ) st [.ref (h 1), .int x1] r u := by
  refine body_i (by decide +kernel) (Nat.le_of_ble_eq_true rfl) ?_
  intro p e s m below meth c A ls E hr hlocks hA hP hD hS hl
  have E : Env1 p s m _ c cX1_kindOf 2 RX1 D (tyL cI cJ cZ) := E
  have hl : lv_has ls 2 [(0, .ref (h 1)), (1, .int x1)] := hl
  have hx := E.1.1
  have hb := E.1.2.1
  have hml := E.1.2.2.1
  unfold FX1_kindOf at hF
  refine lv_aload_n hx hb dX1_kindOf_0 rfl (lv_at hl 0 rfl) ?_
  refine g_1_1 E hP dX1_kindOf_1 ?_
  refine lv_iload_n hx hb dX1_kindOf_4 rfl (lv_at hl 1 rfl) ?_
  obtain ⟨hi1, hF⟩ := gd_some hF
  refine la_6 E hP hi1 dX1_kindOf_5 ?_
  exact endI E hr hlocks hP hD hS dX1_kindOf_6 hF
-- LooseHeap$Space.isFree
def FX1_isFree (n : Nat) (x1 : Int32) (st : St) : Option (Int32 × St) := gd x1 64 (be (some ((if (st.1 6 x1.toNatClampNeg) = 0 then (1 : Int32) else (0 : Int32)))) (fun v2 => gz v2 (some (v2, st))))
set_option maxHeartbeats 4000000 in
set_option maxRecDepth 100000 in
theorem kX1_isFree (l : Launch) (D : va_G) (h : Nat → Nat) (cI cJ cZ : ClassId) (n : Nat) (x1 : Int32) (st : St) (r : Int32) (u : St) (hF : FX1_isFree n x1 st = some (r, u)) : Ci l yX1_isFree cX1_isFree 2 (some .boolean) 0 0 D (tyL cI cJ cZ) (wX h cI cJ cZ) st [.ref (h 1), .int x1] r u := by
  refine body_i (by decide +kernel) (Nat.le_of_ble_eq_true rfl) ?_
  intro p e s m below meth c A ls E hr hlocks hA hP hD hS hl
  have E : Env1 p s m _ c cX1_isFree 2 RX1 D (tyL cI cJ cZ) := E
  have hl : lv_has ls 2 [(0, .ref (h 1)), (1, .int x1)] := hl
  have hx := E.1.1
  have hb := E.1.2.1
  have hml := E.1.2.2.1
  unfold FX1_isFree at hF
  refine lv_aload_n hx hb dX1_isFree_0 rfl (lv_at hl 0 rfl) ?_
  refine g_1_1 E hP dX1_isFree_1 ?_
  refine lv_iload_n hx hb dX1_isFree_4 rfl (lv_at hl 1 rfl) ?_
  obtain ⟨hi1, hF⟩ := gd_some hF
  refine la_6 E hP hi1 dX1_isFree_5 ?_
  obtain ⟨v2, hv, hF⟩ := be_some hF
  have hv := Option.some.inj hv
  refine dia (jpc := 14) (v1 := v2) (rest := []) (ls := ls) ?_ (fun kont => ?_)
  · skip
    exact endZ E hr hlocks hP hD hS dX1_isFree_14 hF
  · skip
    refine lv_if_ne (tgt := 13) hx hb dX1_isFree_6 (by decide) (fun hc => ?_) (fun hc => ?_)
    · have hv := if_f hc hv
      refine lv_iconst (v := 0) hx hb dX1_isFree_13 (by decide) ?_
      exact topE hv kont
    · have hv := if_t hc hv
      refine lv_iconst (v := 1) hx hb dX1_isFree_9 (by decide) ?_
      refine lv_goto (tgt := 14) hx hb dX1_isFree_10 (by decide) ?_
      exact topE hv kont
-- LooseHeap$Space.filledOf
def FX1_filledOf (n : Nat) (x1 : Int32) (st : St) : Option (Int32 × St) := gd x1 64 (some ((st.1 7 x1.toNatClampNeg), st))
set_option maxHeartbeats 4000000 in
set_option maxRecDepth 100000 in
theorem kX1_filledOf (l : Launch) (D : va_G) (h : Nat → Nat) (cI cJ cZ : ClassId) (n : Nat) (x1 : Int32) (st : St) (r : Int32) (u : St) (hF : FX1_filledOf n x1 st = some (r, u)) : Ci l yX1_filledOf cX1_filledOf 2 (some .int) 0 0 D (tyL cI cJ cZ) (wX h cI cJ cZ) st [.ref (h 1), .int x1] r u := by
  refine body_i (by decide +kernel) (Nat.le_of_ble_eq_true rfl) ?_
  intro p e s m below meth c A ls E hr hlocks hA hP hD hS hl
  have E : Env1 p s m _ c cX1_filledOf 2 RX1 D (tyL cI cJ cZ) := E
  have hl : lv_has ls 2 [(0, .ref (h 1)), (1, .int x1)] := hl
  have hx := E.1.1
  have hb := E.1.2.1
  have hml := E.1.2.2.1
  unfold FX1_filledOf at hF
  refine lv_aload_n hx hb dX1_filledOf_0 rfl (lv_at hl 0 rfl) ?_
  refine g_1_2 E hP dX1_filledOf_1 ?_
  refine lv_iload_n hx hb dX1_filledOf_4 rfl (lv_at hl 1 rfl) ?_
  obtain ⟨hi1, hF⟩ := gd_some hF
  refine la_7 E hP hi1 dX1_filledOf_5 ?_
  exact endI E hr hlocks hP hD hS dX1_filledOf_6 hF
-- LooseHeap$Space.usedPages
def LX1_usedPages_4 : Nat → Int32 → Int32 → St → Option (Int32 × St)
  | 0 => fun _ _ _ => none
  | n + 1 => fun x1 x2 st => (if (st.1 1 4) ≤ x2 then some (x1, st) else gd x2 64 ((if (st.1 6 x2.toNatClampNeg) = 0 then LX1_usedPages_4 n x1 (x2 + (1 : Int32)) st else LX1_usedPages_4 n (x1 + (1 : Int32)) (x2 + (1 : Int32)) st)))
set_option maxHeartbeats 4000000 in
set_option maxRecDepth 100000 in
theorem lX1_usedPages_4 {l : Launch} {D : va_G} {h : Nat → Nat} {cI cJ cZ : ClassId} {p : Program} {e : Env} {s : State} {m : MethodId} {args : Array Value} {below : List Frame} {meth : Method} {c : Code} {A : Nat → Prop} {r : Int32} {u : St} (E : Env1 p s m args c cX1_usedPages 3 RX1 D (tyL cI cJ cZ)) (hr : meth.sig.returnType = some .int) (hlocks : meth.locks = false) (hA : ∀ q : Nat, s.heap.size ≤ q → A q) : ∀ (n : Nat) (x1 x2 : Int32) (st : St) (H : Heap) (locs : List Loc) (ls : Array Slot), va_P D vwCl (wX h cI cJ cZ st) H → va_D A (wX h cI cJ cZ st) → va_S A s.heap H locs → lv_has ls 3 [(0, .ref (h 1)), (1, .int x1), (2, .int x2)] → LX1_usedPages_4 n x1 x2 st = some (r, u) → W p l e (rm 0 0) s m args below meth c H locs 0 0 (MQ below (CQ D (tyL cI cJ cZ) (wX h cI cJ cZ) A r u) args s 0 0 A) (F0 m 4 ls []) := by
  have hx := E.1.1
  have hb := E.1.2.1
  have hml := E.1.2.2.1
  intro n
  induction n with
  | zero => intro x1 x2 st H locs ls hP hD hS hl hF; simp only [LX1_usedPages_4] at hF; cases hF
  | succ n ih =>
    intro x1 x2 st H locs ls hP hD hS hl hF
    simp only [LX1_usedPages_4] at hF
    refine lv_iload_n hx hb dX1_usedPages_4 rfl (lv_at hl 2 rfl) ?_
    refine lv_aload_n hx hb dX1_usedPages_5 rfl (lv_at hl 0 rfl) ?_
    refine g_1_4 E hP dX1_usedPages_6 ?_
    refine lv_icmp_ge (tgt := 30) hx hb dX1_usedPages_9 (by decide) (fun hc => ?_) (fun hc => ?_)
    · have hF := if_t hc hF
      refine lv_iload_n hx hb dX1_usedPages_30 rfl (lv_at hl 1 rfl) ?_
      exact endI E hr hlocks hP hD hS dX1_usedPages_31 hF
    · have hF := if_f hc hF
      refine lv_aload_n hx hb dX1_usedPages_12 rfl (lv_at hl 0 rfl) ?_
      refine g_1_1 E hP dX1_usedPages_13 ?_
      refine lv_iload_n hx hb dX1_usedPages_16 rfl (lv_at hl 2 rfl) ?_
      obtain ⟨hi1, hF⟩ := gd_some hF
      refine la_6 E hP hi1 dX1_usedPages_17 ?_
      refine lv_if_eq (tgt := 24) hx hb dX1_usedPages_18 (by decide) (fun hc => ?_) (fun hc => ?_)
      · have hF := if_t hc hF
        refine lv_iinc (v := (x2 + (1 : Int32))) (lv' := [(2, .int (x2 + (1 : Int32))), (0, .ref (h 1)), (1, .int x1)]) hx hb dX1_usedPages_24 hl (k := 2) rfl rfl (by decide) rfl (fun ls hl => ?_)
        refine lv_goto (tgt := 4) hx hb dX1_usedPages_27 (by decide) ?_
        exact ih _ _ _ _ _ _ hP hD hS (lv_sub hl [1, 2, 0] rfl) hF
      · have hF := if_f hc hF
        refine lv_iinc (v := (x1 + (1 : Int32))) (lv' := [(1, .int (x1 + (1 : Int32))), (0, .ref (h 1)), (2, .int x2)]) hx hb dX1_usedPages_21 hl (k := 1) rfl rfl (by decide) rfl (fun ls hl => ?_)
        refine lv_iinc (v := (x2 + (1 : Int32))) (lv' := [(2, .int (x2 + (1 : Int32))), (1, .int (x1 + (1 : Int32))), (0, .ref (h 1))]) hx hb dX1_usedPages_24 hl (k := 2) rfl rfl (by decide) rfl (fun ls hl => ?_)
        refine lv_goto (tgt := 4) hx hb dX1_usedPages_27 (by decide) ?_
        exact ih _ _ _ _ _ _ hP hD hS (lv_sub hl [2, 1, 0] rfl) hF
def FX1_usedPages (n : Nat) (st : St) : Option (Int32 × St) := LX1_usedPages_4 n (0 : Int32) (0 : Int32) st
set_option maxHeartbeats 4000000 in
set_option maxRecDepth 100000 in
theorem kX1_usedPages (l : Launch) (D : va_G) (h : Nat → Nat) (cI cJ cZ : ClassId) (n : Nat) (st : St) (r : Int32) (u : St) (hF : FX1_usedPages n  st = some (r, u)) : Ci l yX1_usedPages cX1_usedPages 3 (some .int) 0 0 D (tyL cI cJ cZ) (wX h cI cJ cZ) st [.ref (h 1)] r u := by
  refine body_i (by decide +kernel) (Nat.le_of_ble_eq_true rfl) ?_
  intro p e s m below meth c A ls E hr hlocks hA hP hD hS hl
  have E : Env1 p s m _ c cX1_usedPages 3 RX1 D (tyL cI cJ cZ) := E
  have hl : lv_has ls 3 [(0, .ref (h 1))] := hl
  have hx := E.1.1
  have hb := E.1.2.1
  have hml := E.1.2.2.1
  unfold FX1_usedPages at hF
  refine lv_iconst (v := 0) hx hb dX1_usedPages_0 (by decide) ?_
  refine lv_istore_n (lv' := [(1, .int (0 : Int32)), (0, .ref (h 1))]) hx hb dX1_usedPages_1 rfl hl (by decide) rfl (fun ls hl => ?_)
  refine lv_iconst (v := 0) hx hb dX1_usedPages_2 (by decide) ?_
  refine lv_istore_n (lv' := [(2, .int (0 : Int32)), (1, .int (0 : Int32)), (0, .ref (h 1))]) hx hb dX1_usedPages_3 rfl hl (by decide) rfl (fun ls hl => ?_)
  exact lX1_usedPages_4 E hr hlocks hA n (0 : Int32) (0 : Int32) st _ _ _ hP hD hS (lv_sub hl [2, 1, 0] rfl) hF
-- LooseHeap$Space.allFilled
def LX1_allFilled_4 : Nat → Int32 → Int32 → St → Option (Int32 × St)
  | 0 => fun _ _ _ => none
  | n + 1 => fun x1 x2 st => (if (st.1 1 4) ≤ x2 then some (x1, st) else gd x2 64 (LX1_allFilled_4 n (x1 + (st.1 7 x2.toNatClampNeg)) (x2 + (1 : Int32)) st))
set_option maxHeartbeats 4000000 in
set_option maxRecDepth 100000 in
theorem lX1_allFilled_4 {l : Launch} {D : va_G} {h : Nat → Nat} {cI cJ cZ : ClassId} {p : Program} {e : Env} {s : State} {m : MethodId} {args : Array Value} {below : List Frame} {meth : Method} {c : Code} {A : Nat → Prop} {r : Int32} {u : St} (E : Env1 p s m args c cX1_allFilled 3 RX1 D (tyL cI cJ cZ)) (hr : meth.sig.returnType = some .int) (hlocks : meth.locks = false) (hA : ∀ q : Nat, s.heap.size ≤ q → A q) : ∀ (n : Nat) (x1 x2 : Int32) (st : St) (H : Heap) (locs : List Loc) (ls : Array Slot), va_P D vwCl (wX h cI cJ cZ st) H → va_D A (wX h cI cJ cZ st) → va_S A s.heap H locs → lv_has ls 3 [(0, .ref (h 1)), (1, .int x1), (2, .int x2)] → LX1_allFilled_4 n x1 x2 st = some (r, u) → W p l e (rm 0 0) s m args below meth c H locs 0 0 (MQ below (CQ D (tyL cI cJ cZ) (wX h cI cJ cZ) A r u) args s 0 0 A) (F0 m 4 ls []) := by
  have hx := E.1.1
  have hb := E.1.2.1
  have hml := E.1.2.2.1
  intro n
  induction n with
  | zero => intro x1 x2 st H locs ls hP hD hS hl hF; simp only [LX1_allFilled_4] at hF; cases hF
  | succ n ih =>
    intro x1 x2 st H locs ls hP hD hS hl hF
    simp only [LX1_allFilled_4] at hF
    refine lv_iload_n hx hb dX1_allFilled_4 rfl (lv_at hl 2 rfl) ?_
    refine lv_aload_n hx hb dX1_allFilled_5 rfl (lv_at hl 0 rfl) ?_
    refine g_1_4 E hP dX1_allFilled_6 ?_
    refine lv_icmp_ge (tgt := 27) hx hb dX1_allFilled_9 (by decide) (fun hc => ?_) (fun hc => ?_)
    · have hF := if_t hc hF
      refine lv_iload_n hx hb dX1_allFilled_27 rfl (lv_at hl 1 rfl) ?_
      exact endI E hr hlocks hP hD hS dX1_allFilled_28 hF
    · have hF := if_f hc hF
      refine lv_iload_n hx hb dX1_allFilled_12 rfl (lv_at hl 1 rfl) ?_
      refine lv_aload_n hx hb dX1_allFilled_13 rfl (lv_at hl 0 rfl) ?_
      refine g_1_2 E hP dX1_allFilled_14 ?_
      refine lv_iload_n hx hb dX1_allFilled_17 rfl (lv_at hl 2 rfl) ?_
      obtain ⟨hi1, hF⟩ := gd_some hF
      refine la_7 E hP hi1 dX1_allFilled_18 ?_
      refine lv_iadd hx hb dX1_allFilled_19 ?_
      refine lv_istore_n (lv' := [(1, .int (x1 + (st.1 7 x2.toNatClampNeg))), (0, .ref (h 1)), (2, .int x2)]) hx hb dX1_allFilled_20 rfl hl (by decide) rfl (fun ls hl => ?_)
      refine lv_iinc (v := (x2 + (1 : Int32))) (lv' := [(2, .int (x2 + (1 : Int32))), (1, .int (x1 + (st.1 7 x2.toNatClampNeg))), (0, .ref (h 1))]) hx hb dX1_allFilled_21 hl (k := 2) rfl rfl (by decide) rfl (fun ls hl => ?_)
      refine lv_goto (tgt := 4) hx hb dX1_allFilled_24 (by decide) ?_
      exact ih _ _ _ _ _ _ hP hD hS (lv_sub hl [2, 1, 0] rfl) hF
def FX1_allFilled (n : Nat) (st : St) : Option (Int32 × St) := LX1_allFilled_4 n (0 : Int32) (0 : Int32) st
set_option maxHeartbeats 4000000 in
set_option maxRecDepth 100000 in
theorem kX1_allFilled (l : Launch) (D : va_G) (h : Nat → Nat) (cI cJ cZ : ClassId) (n : Nat) (st : St) (r : Int32) (u : St) (hF : FX1_allFilled n  st = some (r, u)) : Ci l yX1_allFilled cX1_allFilled 3 (some .int) 0 0 D (tyL cI cJ cZ) (wX h cI cJ cZ) st [.ref (h 1)] r u := by
  refine body_i (by decide +kernel) (Nat.le_of_ble_eq_true rfl) ?_
  intro p e s m below meth c A ls E hr hlocks hA hP hD hS hl
  have E : Env1 p s m _ c cX1_allFilled 3 RX1 D (tyL cI cJ cZ) := E
  have hl : lv_has ls 3 [(0, .ref (h 1))] := hl
  have hx := E.1.1
  have hb := E.1.2.1
  have hml := E.1.2.2.1
  unfold FX1_allFilled at hF
  refine lv_iconst (v := 0) hx hb dX1_allFilled_0 (by decide) ?_
  refine lv_istore_n (lv' := [(1, .int (0 : Int32)), (0, .ref (h 1))]) hx hb dX1_allFilled_1 rfl hl (by decide) rfl (fun ls hl => ?_)
  refine lv_iconst (v := 0) hx hb dX1_allFilled_2 (by decide) ?_
  refine lv_istore_n (lv' := [(2, .int (0 : Int32)), (1, .int (0 : Int32)), (0, .ref (h 1))]) hx hb dX1_allFilled_3 rfl hl (by decide) rfl (fun ls hl => ?_)
  exact lX1_allFilled_4 E hr hlocks hA n (0 : Int32) (0 : Int32) st _ _ _ hP hD hS (lv_sub hl [2, 1, 0] rfl) hF
-- LooseHeap$Space.wordAt
def FX1_wordAt (n : Nat) (x1 : Int32) (st : St) : Option (Int32 × St) := gd x1 4096 (some ((st.1 5 x1.toNatClampNeg), st))
set_option maxHeartbeats 4000000 in
set_option maxRecDepth 100000 in
theorem kX1_wordAt (l : Launch) (D : va_G) (h : Nat → Nat) (cI cJ cZ : ClassId) (n : Nat) (x1 : Int32) (st : St) (r : Int32) (u : St) (hF : FX1_wordAt n x1 st = some (r, u)) : Ci l yX1_wordAt cX1_wordAt 2 (some .int) 0 0 D (tyL cI cJ cZ) (wX h cI cJ cZ) st [.ref (h 1), .int x1] r u := by
  refine body_i (by decide +kernel) (Nat.le_of_ble_eq_true rfl) ?_
  intro p e s m below meth c A ls E hr hlocks hA hP hD hS hl
  have E : Env1 p s m _ c cX1_wordAt 2 RX1 D (tyL cI cJ cZ) := E
  have hl : lv_has ls 2 [(0, .ref (h 1)), (1, .int x1)] := hl
  have hx := E.1.1
  have hb := E.1.2.1
  have hml := E.1.2.2.1
  unfold FX1_wordAt at hF
  refine lv_aload_n hx hb dX1_wordAt_0 rfl (lv_at hl 0 rfl) ?_
  refine g_1_0 E hP dX1_wordAt_1 ?_
  refine lv_iload_n hx hb dX1_wordAt_4 rfl (lv_at hl 1 rfl) ?_
  obtain ⟨hi1, hF⟩ := gd_some hF
  refine la_5 E hP hi1 dX1_wordAt_5 ?_
  exact endI E hr hlocks hP hD hS dX1_wordAt_6 hF
-- LooseHeap$Space.refsOf
def FX1_refsOf (n : Nat) (x1 : Int32) (st : St) : Option (Int32 × St) := gd x1 4096 (dz (256 : Int32) (some (((st.1 5 x1.toNatClampNeg) / (256 : Int32)), st)))
set_option maxHeartbeats 4000000 in
set_option maxRecDepth 100000 in
theorem kX1_refsOf (l : Launch) (D : va_G) (h : Nat → Nat) (cI cJ cZ : ClassId) (n : Nat) (x1 : Int32) (st : St) (r : Int32) (u : St) (hF : FX1_refsOf n x1 st = some (r, u)) : Ci l yX1_refsOf cX1_refsOf 2 (some .int) 0 0 D (tyL cI cJ cZ) (wX h cI cJ cZ) st [.ref (h 1), .int x1] r u := by
  refine body_i (by decide +kernel) (Nat.le_of_ble_eq_true rfl) ?_
  intro p e s m below meth c A ls E hr hlocks hA hP hD hS hl
  have E : Env1 p s m _ c cX1_refsOf 2 RX1 D (tyL cI cJ cZ) := E
  have hl : lv_has ls 2 [(0, .ref (h 1)), (1, .int x1)] := hl
  have hx := E.1.1
  have hb := E.1.2.1
  have hml := E.1.2.2.1
  unfold FX1_refsOf at hF
  refine lv_aload_n hx hb dX1_refsOf_0 rfl (lv_at hl 0 rfl) ?_
  refine g_1_0 E hP dX1_refsOf_1 ?_
  refine lv_iload_n hx hb dX1_refsOf_4 rfl (lv_at hl 1 rfl) ?_
  obtain ⟨hi1, hF⟩ := gd_some hF
  refine la_5 E hP hi1 dX1_refsOf_5 ?_
  refine lv_sipush (v := 256) hx hb dX1_refsOf_6 (by decide) ?_
  obtain ⟨hz2, hF⟩ := dz_some hF
  refine lv_idiv hx hb dX1_refsOf_9 hz2 ?_
  exact endI E hr hlocks hP hD hS dX1_refsOf_10 hF
-- LooseHeap$Space.dataOf
def FX1_dataOf (n : Nat) (x1 : Int32) (st : St) : Option (Int32 × St) := gd x1 4096 (dz (256 : Int32) (some (((st.1 5 x1.toNatClampNeg) - (st.1 5 x1.toNatClampNeg) / (256 : Int32) * (256 : Int32)), st)))
set_option maxHeartbeats 4000000 in
set_option maxRecDepth 100000 in
theorem kX1_dataOf (l : Launch) (D : va_G) (h : Nat → Nat) (cI cJ cZ : ClassId) (n : Nat) (x1 : Int32) (st : St) (r : Int32) (u : St) (hF : FX1_dataOf n x1 st = some (r, u)) : Ci l yX1_dataOf cX1_dataOf 2 (some .int) 0 0 D (tyL cI cJ cZ) (wX h cI cJ cZ) st [.ref (h 1), .int x1] r u := by
  refine body_i (by decide +kernel) (Nat.le_of_ble_eq_true rfl) ?_
  intro p e s m below meth c A ls E hr hlocks hA hP hD hS hl
  have E : Env1 p s m _ c cX1_dataOf 2 RX1 D (tyL cI cJ cZ) := E
  have hl : lv_has ls 2 [(0, .ref (h 1)), (1, .int x1)] := hl
  have hx := E.1.1
  have hb := E.1.2.1
  have hml := E.1.2.2.1
  unfold FX1_dataOf at hF
  refine lv_aload_n hx hb dX1_dataOf_0 rfl (lv_at hl 0 rfl) ?_
  refine g_1_0 E hP dX1_dataOf_1 ?_
  refine lv_iload_n hx hb dX1_dataOf_4 rfl (lv_at hl 1 rfl) ?_
  obtain ⟨hi1, hF⟩ := gd_some hF
  refine la_5 E hP hi1 dX1_dataOf_5 ?_
  refine lv_sipush (v := 256) hx hb dX1_dataOf_6 (by decide) ?_
  obtain ⟨hz2, hF⟩ := dz_some hF
  refine lv_irem hx hb dX1_dataOf_9 hz2 ?_
  exact endI E hr hlocks hP hD hS dX1_dataOf_10 hF
theorem cw_X1_58 : cwd RX1 58 RX1 yX1_refsOf cX1_refsOf 2 (some .int) 1 := ⟨tb_V (tb_in 277 (by decide +kernel) (by decide +kernel)) (tb_in 278 (by decide +kernel) (by decide +kernel)) (tb_in 279 (by decide +kernel) (by decide +kernel)) (tb_in 46 (by decide +kernel) (by decide +kernel)) (tb_in 280 (by decide +kernel) (by decide +kernel)), by decide +kernel⟩
theorem cw_X1_61 : cwd RX1 61 RX1 yX1_dataOf cX1_dataOf 2 (some .int) 1 := ⟨tb_V (tb_in 281 (by decide +kernel) (by decide +kernel)) (tb_in 282 (by decide +kernel) (by decide +kernel)) (tb_in 283 (by decide +kernel) (by decide +kernel)) (tb_in 46 (by decide +kernel) (by decide +kernel)) (tb_in 284 (by decide +kernel) (by decide +kernel)), by decide +kernel⟩
-- LooseHeap$Space.sizeOf
def FX1_sizeOf (n : Nat) (x1 : Int32) (st : St) : Option (Int32 × St) := bd (FX1_refsOf n x1 st) (fun r1 u2 => bd (FX1_dataOf n x1 u2) (fun r4 u5 => some ((((1 : Int32) + r1) + r4), u5)))
set_option maxHeartbeats 4000000 in
set_option maxRecDepth 100000 in
theorem kX1_sizeOf (l : Launch) (D : va_G) (h : Nat → Nat) (cI cJ cZ : ClassId) (n : Nat) (x1 : Int32) (st : St) (r : Int32) (u : St) (hF : FX1_sizeOf n x1 st = some (r, u)) : Ci l yX1_sizeOf cX1_sizeOf 2 (some .int) 1 21 D (tyL cI cJ cZ) (wX h cI cJ cZ) st [.ref (h 1), .int x1] r u := by
  refine body_i (by decide +kernel) (Nat.le_of_ble_eq_true rfl) ?_
  intro p e s m below meth c A ls E hr hlocks hA hP hD hS hl
  have E : Env1 p s m _ c cX1_sizeOf 2 RX1 D (tyL cI cJ cZ) := E
  have hl : lv_has ls 2 [(0, .ref (h 1)), (1, .int x1)] := hl
  have hx := E.1.1
  have hb := E.1.2.1
  have hml := E.1.2.2.1
  unfold FX1_sizeOf at hF
  refine lv_iconst (v := 1) hx hb dX1_sizeOf_0 (by decide) ?_
  refine lv_aload_n hx hb dX1_sizeOf_1 rfl (lv_at hl 0 rfl) ?_
  refine lv_iload_n hx hb dX1_sizeOf_2 rfl (lv_at hl 1 rfl) ?_
  obtain ⟨r1, u2, hc3, hF⟩ := bd_some hF
  refine call_i (rest := [.int (1 : Int32)]) E hA hP hD hS hl.1 (kX1_refsOf l D h cI cJ cZ n x1 st r1 u2 hc3) cw_X1_58 1 rfl rfl rfl rfl rfl (Nat.le_of_ble_eq_true rfl) ⟨Nat.le_of_ble_eq_true rfl, Nat.le_of_ble_eq_true rfl⟩ ⟨Nat.zero_le _, Nat.zero_le _⟩ dX1_sizeOf_3 (fun H locs hP hD hS => ?_)
  refine lv_iadd hx hb dX1_sizeOf_6 ?_
  refine lv_aload_n hx hb dX1_sizeOf_7 rfl (lv_at hl 0 rfl) ?_
  refine lv_iload_n hx hb dX1_sizeOf_8 rfl (lv_at hl 1 rfl) ?_
  obtain ⟨r4, u5, hc6, hF⟩ := bd_some hF
  refine call_i (rest := [.int ((1 : Int32) + r1)]) E hA hP hD hS hl.1 (kX1_dataOf l D h cI cJ cZ n x1 u2 r4 u5 hc6) cw_X1_61 1 rfl rfl rfl rfl rfl (Nat.le_of_ble_eq_true rfl) ⟨Nat.le_of_ble_eq_true rfl, Nat.le_of_ble_eq_true rfl⟩ ⟨Nat.zero_le _, Nat.zero_le _⟩ dX1_sizeOf_9 (fun H locs hP hD hS => ?_)
  refine lv_iadd hx hb dX1_sizeOf_12 ?_
  exact endI E hr hlocks hP hD hS dX1_sizeOf_13 hF
theorem cw_X1_64 : cwd RX1 64 RX1 yX1_sizeOf cX1_sizeOf 2 (some .int) 1 := ⟨tb_V (tb_in 273 (by decide +kernel) (by decide +kernel)) (tb_in 274 (by decide +kernel) (by decide +kernel)) (tb_in 275 (by decide +kernel) (by decide +kernel)) (tb_in 46 (by decide +kernel) (by decide +kernel)) (tb_in 276 (by decide +kernel) (by decide +kernel)), by decide +kernel⟩
-- LooseHeap$Space.isLong
def FX1_isLong (n : Nat) (x1 : Int32) (st : St) : Option (Int32 × St) := bd (FX1_sizeOf n x1 st) (fun r1 u2 => be (some ((if r1 ≤ (u2.1 1 5) then (0 : Int32) else (1 : Int32)))) (fun v4 => gz v4 (some (v4, u2))))
set_option maxHeartbeats 4000000 in
set_option maxRecDepth 100000 in
theorem kX1_isLong (l : Launch) (D : va_G) (h : Nat → Nat) (cI cJ cZ : ClassId) (n : Nat) (x1 : Int32) (st : St) (r : Int32) (u : St) (hF : FX1_isLong n x1 st = some (r, u)) : Ci l yX1_isLong cX1_isLong 2 (some .boolean) 2 42 D (tyL cI cJ cZ) (wX h cI cJ cZ) st [.ref (h 1), .int x1] r u := by
  refine body_i (by decide +kernel) (Nat.le_of_ble_eq_true rfl) ?_
  intro p e s m below meth c A ls E hr hlocks hA hP hD hS hl
  have E : Env1 p s m _ c cX1_isLong 2 RX1 D (tyL cI cJ cZ) := E
  have hl : lv_has ls 2 [(0, .ref (h 1)), (1, .int x1)] := hl
  have hx := E.1.1
  have hb := E.1.2.1
  have hml := E.1.2.2.1
  unfold FX1_isLong at hF
  refine lv_aload_n hx hb dX1_isLong_0 rfl (lv_at hl 0 rfl) ?_
  refine lv_iload_n hx hb dX1_isLong_1 rfl (lv_at hl 1 rfl) ?_
  obtain ⟨r1, u2, hc3, hF⟩ := bd_some hF
  refine call_i (rest := []) E hA hP hD hS hl.1 (kX1_sizeOf l D h cI cJ cZ n x1 st r1 u2 hc3) cw_X1_64 1 rfl rfl rfl rfl rfl (Nat.le_of_ble_eq_true rfl) ⟨Nat.le_of_ble_eq_true rfl, Nat.le_of_ble_eq_true rfl⟩ ⟨Nat.zero_le _, Nat.zero_le _⟩ dX1_isLong_2 (fun H locs hP hD hS => ?_)
  refine lv_aload_n hx hb dX1_isLong_5 rfl (lv_at hl 0 rfl) ?_
  refine g_1_5 E hP dX1_isLong_6 ?_
  obtain ⟨v4, hv, hF⟩ := be_some hF
  have hv := Option.some.inj hv
  refine dia (jpc := 17) (v1 := v4) (rest := []) (ls := ls) ?_ (fun kont => ?_)
  · skip
    exact endZ E hr hlocks hP hD hS dX1_isLong_17 hF
  · skip
    refine lv_icmp_le (tgt := 16) hx hb dX1_isLong_9 (by decide) (fun hc => ?_) (fun hc => ?_)
    · have hv := if_t hc hv
      refine lv_iconst (v := 0) hx hb dX1_isLong_16 (by decide) ?_
      exact topE hv kont
    · have hv := if_f hc hv
      refine lv_iconst (v := 1) hx hb dX1_isLong_12 (by decide) ?_
      refine lv_goto (tgt := 17) hx hb dX1_isLong_13 (by decide) ?_
      exact topE hv kont
-- LooseHeap$Space.ref
def FX1_ref (n : Nat) (x1 x2 : Int32) (st : St) : Option (Int32 × St) := gd ((x1 + (1 : Int32)) + x2) 4096 (some ((st.1 5 ((x1 + (1 : Int32)) + x2).toNatClampNeg), st))
set_option maxHeartbeats 4000000 in
set_option maxRecDepth 100000 in
theorem kX1_ref (l : Launch) (D : va_G) (h : Nat → Nat) (cI cJ cZ : ClassId) (n : Nat) (x1 x2 : Int32) (st : St) (r : Int32) (u : St) (hF : FX1_ref n x1 x2 st = some (r, u)) : Ci l yX1_ref cX1_ref 3 (some .int) 0 0 D (tyL cI cJ cZ) (wX h cI cJ cZ) st [.ref (h 1), .int x1, .int x2] r u := by
  refine body_i (by decide +kernel) (Nat.le_of_ble_eq_true rfl) ?_
  intro p e s m below meth c A ls E hr hlocks hA hP hD hS hl
  have E : Env1 p s m _ c cX1_ref 3 RX1 D (tyL cI cJ cZ) := E
  have hl : lv_has ls 3 [(0, .ref (h 1)), (1, .int x1), (2, .int x2)] := hl
  have hx := E.1.1
  have hb := E.1.2.1
  have hml := E.1.2.2.1
  unfold FX1_ref at hF
  refine lv_aload_n hx hb dX1_ref_0 rfl (lv_at hl 0 rfl) ?_
  refine g_1_0 E hP dX1_ref_1 ?_
  refine lv_iload_n hx hb dX1_ref_4 rfl (lv_at hl 1 rfl) ?_
  refine lv_iconst (v := 1) hx hb dX1_ref_5 (by decide) ?_
  refine lv_iadd hx hb dX1_ref_6 ?_
  refine lv_iload_n hx hb dX1_ref_7 rfl (lv_at hl 2 rfl) ?_
  refine lv_iadd hx hb dX1_ref_8 ?_
  obtain ⟨hi1, hF⟩ := gd_some hF
  refine la_5 E hP hi1 dX1_ref_9 ?_
  exact endI E hr hlocks hP hD hS dX1_ref_10 hF
-- LooseHeap$Space.setRef
def FX1_setRef (n : Nat) (x1 x2 x3 : Int32) (st : St) : Option (Int32 × St) := gd ((x1 + (1 : Int32)) + x2) 4096 (some ((0 : Int32), (pt st 5 ((x1 + (1 : Int32)) + x2).toNatClampNeg x3)))
set_option maxHeartbeats 4000000 in
set_option maxRecDepth 100000 in
theorem kX1_setRef (l : Launch) (D : va_G) (h : Nat → Nat) (cI cJ cZ : ClassId) (n : Nat) (x1 x2 x3 : Int32) (st : St) (r : Int32) (u : St) (hF : FX1_setRef n x1 x2 x3 st = some (r, u)) : Cv l yX1_setRef cX1_setRef 4 0 0 D (tyL cI cJ cZ) (wX h cI cJ cZ) st [.ref (h 1), .int x1, .int x2, .int x3] u := by
  refine body_v (by decide +kernel) (Nat.le_of_ble_eq_true rfl) ?_
  intro p e s m below meth c A ls E hr hlocks hA hP hD hS hl
  have E : Env1 p s m _ c cX1_setRef 4 RX1 D (tyL cI cJ cZ) := E
  have hl : lv_has ls 4 [(0, .ref (h 1)), (1, .int x1), (2, .int x2), (3, .int x3)] := hl
  have hx := E.1.1
  have hb := E.1.2.1
  have hml := E.1.2.2.1
  unfold FX1_setRef at hF
  refine lv_aload_n hx hb dX1_setRef_0 rfl (lv_at hl 0 rfl) ?_
  refine g_1_0 E hP dX1_setRef_1 ?_
  refine lv_iload_n hx hb dX1_setRef_4 rfl (lv_at hl 1 rfl) ?_
  refine lv_iconst (v := 1) hx hb dX1_setRef_5 (by decide) ?_
  refine lv_iadd hx hb dX1_setRef_6 ?_
  refine lv_iload_n hx hb dX1_setRef_7 rfl (lv_at hl 2 rfl) ?_
  refine lv_iadd hx hb dX1_setRef_8 ?_
  refine lv_iload_n hx hb dX1_setRef_9 rfl (lv_at hl 3 rfl) ?_
  obtain ⟨hi1, hF⟩ := gd_some hF
  refine sa_5 E hP hD hS hi1 dX1_setRef_10 (fun H locs hP hD hS => ?_)
  exact endV E hr hlocks hP hD hS dX1_setRef_11 hF
-- LooseHeap$Space.swapData
def FX1_swapData (n : Nat) (x1 x2 x3 : Int32) (st : St) : Option (Int32 × St) := bd (FX1_refsOf n x1 st) (fun r1 u2 => gd (((x1 + (1 : Int32)) + r1) + x2) 4096 (gd (((x1 + (1 : Int32)) + r1) + x2) 4096 (some ((u2.1 5 (((x1 + (1 : Int32)) + r1) + x2).toNatClampNeg), (pt u2 5 (((x1 + (1 : Int32)) + r1) + x2).toNatClampNeg x3)))))
set_option maxHeartbeats 4000000 in
set_option maxRecDepth 100000 in
theorem kX1_swapData (l : Launch) (D : va_G) (h : Nat → Nat) (cI cJ cZ : ClassId) (n : Nat) (x1 x2 x3 : Int32) (st : St) (r : Int32) (u : St) (hF : FX1_swapData n x1 x2 x3 st = some (r, u)) : Ci l yX1_swapData cX1_swapData 6 (some .int) 1 21 D (tyL cI cJ cZ) (wX h cI cJ cZ) st [.ref (h 1), .int x1, .int x2, .int x3] r u := by
  refine body_i (by decide +kernel) (Nat.le_of_ble_eq_true rfl) ?_
  intro p e s m below meth c A ls E hr hlocks hA hP hD hS hl
  have E : Env1 p s m _ c cX1_swapData 6 RX1 D (tyL cI cJ cZ) := E
  have hl : lv_has ls 6 [(0, .ref (h 1)), (1, .int x1), (2, .int x2), (3, .int x3)] := hl
  have hx := E.1.1
  have hb := E.1.2.1
  have hml := E.1.2.2.1
  unfold FX1_swapData at hF
  refine lv_iload_n hx hb dX1_swapData_0 rfl (lv_at hl 1 rfl) ?_
  refine lv_iconst (v := 1) hx hb dX1_swapData_1 (by decide) ?_
  refine lv_iadd hx hb dX1_swapData_2 ?_
  refine lv_aload_n hx hb dX1_swapData_3 rfl (lv_at hl 0 rfl) ?_
  refine lv_iload_n hx hb dX1_swapData_4 rfl (lv_at hl 1 rfl) ?_
  obtain ⟨r1, u2, hc3, hF⟩ := bd_some hF
  refine call_i (rest := [.int (x1 + (1 : Int32))]) E hA hP hD hS hl.1 (kX1_refsOf l D h cI cJ cZ n x1 st r1 u2 hc3) cw_X1_58 1 rfl rfl rfl rfl rfl (Nat.le_of_ble_eq_true rfl) ⟨Nat.le_of_ble_eq_true rfl, Nat.le_of_ble_eq_true rfl⟩ ⟨Nat.zero_le _, Nat.zero_le _⟩ dX1_swapData_5 (fun H locs hP hD hS => ?_)
  refine lv_iadd hx hb dX1_swapData_8 ?_
  refine lv_iload_n hx hb dX1_swapData_9 rfl (lv_at hl 2 rfl) ?_
  refine lv_iadd hx hb dX1_swapData_10 ?_
  refine lv_istore (lv' := [(4, .int (((x1 + (1 : Int32)) + r1) + x2)), (0, .ref (h 1)), (1, .int x1), (2, .int x2), (3, .int x3)]) hx hb dX1_swapData_11 hl (by decide) rfl (fun ls hl => ?_)
  refine lv_aload_n hx hb dX1_swapData_13 rfl (lv_at hl 1 rfl) ?_
  refine g_1_0 E hP dX1_swapData_14 ?_
  refine lv_iload hx hb dX1_swapData_17 (lv_at hl 0 rfl) ?_
  obtain ⟨hi4, hF⟩ := gd_some hF
  refine la_5 E hP hi4 dX1_swapData_19 ?_
  refine lv_istore (lv' := [(5, .int (u2.1 5 (((x1 + (1 : Int32)) + r1) + x2).toNatClampNeg)), (4, .int (((x1 + (1 : Int32)) + r1) + x2)), (0, .ref (h 1)), (1, .int x1), (2, .int x2), (3, .int x3)]) hx hb dX1_swapData_20 hl (by decide) rfl (fun ls hl => ?_)
  refine lv_aload_n hx hb dX1_swapData_22 rfl (lv_at hl 2 rfl) ?_
  refine g_1_0 E hP dX1_swapData_23 ?_
  refine lv_iload hx hb dX1_swapData_26 (lv_at hl 1 rfl) ?_
  refine lv_iload_n hx hb dX1_swapData_28 rfl (lv_at hl 5 rfl) ?_
  obtain ⟨hi5, hF⟩ := gd_some hF
  refine sa_5 E hP hD hS hi5 dX1_swapData_29 (fun H locs hP hD hS => ?_)
  refine lv_iload hx hb dX1_swapData_30 (lv_at hl 0 rfl) ?_
  exact endI E hr hlocks hP hD hS dX1_swapData_32 hF
-- LooseHeap$Space.firstPageWith
def LX1_firstPageWith_2 : Nat → Int32 → Int32 → St → Option (Int32 × St)
  | 0 => fun _ _ _ => none
  | n + 1 => fun x1 x2 st => (if x2 ≤ 0 then some (x2, st) else gd x2 64 ((if (st.1 6 x2.toNatClampNeg) = (3 : Int32) then LX1_firstPageWith_2 n x1 (x2 + (-1 : Int32)) st else some (x2, st))))
set_option maxHeartbeats 4000000 in
set_option maxRecDepth 100000 in
theorem lX1_firstPageWith_2 {l : Launch} {D : va_G} {h : Nat → Nat} {cI cJ cZ : ClassId} {p : Program} {e : Env} {s : State} {m : MethodId} {args : Array Value} {below : List Frame} {meth : Method} {c : Code} {A : Nat → Prop} {r : Int32} {u : St} (E : Env1 p s m args c cX1_firstPageWith 3 RX1 D (tyL cI cJ cZ)) (hr : meth.sig.returnType = some .int) (hlocks : meth.locks = false) (hA : ∀ q : Nat, s.heap.size ≤ q → A q) : ∀ (n : Nat) (x1 x2 : Int32) (st : St) (H : Heap) (locs : List Loc) (ls : Array Slot), va_P D vwCl (wX h cI cJ cZ st) H → va_D A (wX h cI cJ cZ st) → va_S A s.heap H locs → lv_has ls 3 [(0, .ref (h 1)), (1, .int x1), (2, .int x2)] → LX1_firstPageWith_2 n x1 x2 st = some (r, u) → W p l e (rm 0 0) s m args below meth c H locs 0 0 (MQ below (CQ D (tyL cI cJ cZ) (wX h cI cJ cZ) A r u) args s 0 0 A) (F0 m 2 ls []) := by
  have hx := E.1.1
  have hb := E.1.2.1
  have hml := E.1.2.2.1
  intro n
  induction n with
  | zero => intro x1 x2 st H locs ls hP hD hS hl hF; simp only [LX1_firstPageWith_2] at hF; cases hF
  | succ n ih =>
    intro x1 x2 st H locs ls hP hD hS hl hF
    simp only [LX1_firstPageWith_2] at hF
    refine lv_iload_n hx hb dX1_firstPageWith_2 rfl (lv_at hl 2 rfl) ?_
    refine lv_if_le (tgt := 22) hx hb dX1_firstPageWith_3 (by decide) (fun hc => ?_) (fun hc => ?_)
    · have hF := if_t hc hF
      refine lv_iload_n hx hb dX1_firstPageWith_22 rfl (lv_at hl 2 rfl) ?_
      exact endI E hr hlocks hP hD hS dX1_firstPageWith_23 hF
    · have hF := if_f hc hF
      refine lv_aload_n hx hb dX1_firstPageWith_6 rfl (lv_at hl 0 rfl) ?_
      refine g_1_1 E hP dX1_firstPageWith_7 ?_
      refine lv_iload_n hx hb dX1_firstPageWith_10 rfl (lv_at hl 2 rfl) ?_
      obtain ⟨hi1, hF⟩ := gd_some hF
      refine la_6 E hP hi1 dX1_firstPageWith_11 ?_
      refine lv_iconst (v := 3) hx hb dX1_firstPageWith_12 (by decide) ?_
      refine lv_icmp_ne (tgt := 22) hx hb dX1_firstPageWith_13 (by decide) (fun hc => ?_) (fun hc => ?_)
      · have hF := if_f hc hF
        refine lv_iload_n hx hb dX1_firstPageWith_22 rfl (lv_at hl 2 rfl) ?_
        exact endI E hr hlocks hP hD hS dX1_firstPageWith_23 hF
      · have hF := if_t hc hF
        refine lv_iinc (v := (x2 + (-1 : Int32))) (lv' := [(2, .int (x2 + (-1 : Int32))), (0, .ref (h 1)), (1, .int x1)]) hx hb dX1_firstPageWith_16 hl (k := 2) rfl rfl (by decide) rfl (fun ls hl => ?_)
        refine lv_goto (tgt := 2) hx hb dX1_firstPageWith_19 (by decide) ?_
        exact ih _ _ _ _ _ _ hP hD hS (lv_sub hl [1, 2, 0] rfl) hF
def FX1_firstPageWith (n : Nat) (x1 : Int32) (st : St) : Option (Int32 × St) := LX1_firstPageWith_2 n x1 x1 st
set_option maxHeartbeats 4000000 in
set_option maxRecDepth 100000 in
theorem kX1_firstPageWith (l : Launch) (D : va_G) (h : Nat → Nat) (cI cJ cZ : ClassId) (n : Nat) (x1 : Int32) (st : St) (r : Int32) (u : St) (hF : FX1_firstPageWith n x1 st = some (r, u)) : Ci l yX1_firstPageWith cX1_firstPageWith 3 (some .int) 0 0 D (tyL cI cJ cZ) (wX h cI cJ cZ) st [.ref (h 1), .int x1] r u := by
  refine body_i (by decide +kernel) (Nat.le_of_ble_eq_true rfl) ?_
  intro p e s m below meth c A ls E hr hlocks hA hP hD hS hl
  have E : Env1 p s m _ c cX1_firstPageWith 3 RX1 D (tyL cI cJ cZ) := E
  have hl : lv_has ls 3 [(0, .ref (h 1)), (1, .int x1)] := hl
  have hx := E.1.1
  have hb := E.1.2.1
  have hml := E.1.2.2.1
  unfold FX1_firstPageWith at hF
  refine lv_iload_n hx hb dX1_firstPageWith_0 rfl (lv_at hl 1 rfl) ?_
  refine lv_istore_n (lv' := [(2, .int x1), (0, .ref (h 1)), (1, .int x1)]) hx hb dX1_firstPageWith_1 rfl hl (by decide) rfl (fun ls hl => ?_)
  exact lX1_firstPageWith_2 E hr hlocks hA n x1 x1 st _ _ _ hP hD hS (lv_sub hl [1, 2, 0] rfl) hF
-- LooseHeap$Space.pageBehind
def LX1_pageBehind_4 : Nat → Int32 → Int32 → St → Option (Int32 × St)
  | 0 => fun _ _ _ => none
  | n + 1 => fun x1 x2 st => (if (st.1 1 4) ≤ x2 then some (x2, st) else gd x2 64 ((if (st.1 6 x2.toNatClampNeg) = (3 : Int32) then LX1_pageBehind_4 n x1 (x2 + (1 : Int32)) st else some (x2, st))))
set_option maxHeartbeats 4000000 in
set_option maxRecDepth 100000 in
theorem lX1_pageBehind_4 {l : Launch} {D : va_G} {h : Nat → Nat} {cI cJ cZ : ClassId} {p : Program} {e : Env} {s : State} {m : MethodId} {args : Array Value} {below : List Frame} {meth : Method} {c : Code} {A : Nat → Prop} {r : Int32} {u : St} (E : Env1 p s m args c cX1_pageBehind 3 RX1 D (tyL cI cJ cZ)) (hr : meth.sig.returnType = some .int) (hlocks : meth.locks = false) (hA : ∀ q : Nat, s.heap.size ≤ q → A q) : ∀ (n : Nat) (x1 x2 : Int32) (st : St) (H : Heap) (locs : List Loc) (ls : Array Slot), va_P D vwCl (wX h cI cJ cZ st) H → va_D A (wX h cI cJ cZ st) → va_S A s.heap H locs → lv_has ls 3 [(0, .ref (h 1)), (1, .int x1), (2, .int x2)] → LX1_pageBehind_4 n x1 x2 st = some (r, u) → W p l e (rm 0 0) s m args below meth c H locs 0 0 (MQ below (CQ D (tyL cI cJ cZ) (wX h cI cJ cZ) A r u) args s 0 0 A) (F0 m 4 ls []) := by
  have hx := E.1.1
  have hb := E.1.2.1
  have hml := E.1.2.2.1
  intro n
  induction n with
  | zero => intro x1 x2 st H locs ls hP hD hS hl hF; simp only [LX1_pageBehind_4] at hF; cases hF
  | succ n ih =>
    intro x1 x2 st H locs ls hP hD hS hl hF
    simp only [LX1_pageBehind_4] at hF
    refine lv_iload_n hx hb dX1_pageBehind_4 rfl (lv_at hl 2 rfl) ?_
    refine lv_aload_n hx hb dX1_pageBehind_5 rfl (lv_at hl 0 rfl) ?_
    refine g_1_4 E hP dX1_pageBehind_6 ?_
    refine lv_icmp_ge (tgt := 28) hx hb dX1_pageBehind_9 (by decide) (fun hc => ?_) (fun hc => ?_)
    · have hF := if_t hc hF
      refine lv_iload_n hx hb dX1_pageBehind_28 rfl (lv_at hl 2 rfl) ?_
      exact endI E hr hlocks hP hD hS dX1_pageBehind_29 hF
    · have hF := if_f hc hF
      refine lv_aload_n hx hb dX1_pageBehind_12 rfl (lv_at hl 0 rfl) ?_
      refine g_1_1 E hP dX1_pageBehind_13 ?_
      refine lv_iload_n hx hb dX1_pageBehind_16 rfl (lv_at hl 2 rfl) ?_
      obtain ⟨hi1, hF⟩ := gd_some hF
      refine la_6 E hP hi1 dX1_pageBehind_17 ?_
      refine lv_iconst (v := 3) hx hb dX1_pageBehind_18 (by decide) ?_
      refine lv_icmp_ne (tgt := 28) hx hb dX1_pageBehind_19 (by decide) (fun hc => ?_) (fun hc => ?_)
      · have hF := if_f hc hF
        refine lv_iload_n hx hb dX1_pageBehind_28 rfl (lv_at hl 2 rfl) ?_
        exact endI E hr hlocks hP hD hS dX1_pageBehind_29 hF
      · have hF := if_t hc hF
        refine lv_iinc (v := (x2 + (1 : Int32))) (lv' := [(2, .int (x2 + (1 : Int32))), (0, .ref (h 1)), (1, .int x1)]) hx hb dX1_pageBehind_22 hl (k := 2) rfl rfl (by decide) rfl (fun ls hl => ?_)
        refine lv_goto (tgt := 4) hx hb dX1_pageBehind_25 (by decide) ?_
        exact ih _ _ _ _ _ _ hP hD hS (lv_sub hl [1, 2, 0] rfl) hF
def FX1_pageBehind (n : Nat) (x1 : Int32) (st : St) : Option (Int32 × St) := LX1_pageBehind_4 n x1 (x1 + (1 : Int32)) st
set_option maxHeartbeats 4000000 in
set_option maxRecDepth 100000 in
theorem kX1_pageBehind (l : Launch) (D : va_G) (h : Nat → Nat) (cI cJ cZ : ClassId) (n : Nat) (x1 : Int32) (st : St) (r : Int32) (u : St) (hF : FX1_pageBehind n x1 st = some (r, u)) : Ci l yX1_pageBehind cX1_pageBehind 3 (some .int) 0 0 D (tyL cI cJ cZ) (wX h cI cJ cZ) st [.ref (h 1), .int x1] r u := by
  refine body_i (by decide +kernel) (Nat.le_of_ble_eq_true rfl) ?_
  intro p e s m below meth c A ls E hr hlocks hA hP hD hS hl
  have E : Env1 p s m _ c cX1_pageBehind 3 RX1 D (tyL cI cJ cZ) := E
  have hl : lv_has ls 3 [(0, .ref (h 1)), (1, .int x1)] := hl
  have hx := E.1.1
  have hb := E.1.2.1
  have hml := E.1.2.2.1
  unfold FX1_pageBehind at hF
  refine lv_iload_n hx hb dX1_pageBehind_0 rfl (lv_at hl 1 rfl) ?_
  refine lv_iconst (v := 1) hx hb dX1_pageBehind_1 (by decide) ?_
  refine lv_iadd hx hb dX1_pageBehind_2 ?_
  refine lv_istore_n (lv' := [(2, .int (x1 + (1 : Int32))), (0, .ref (h 1)), (1, .int x1)]) hx hb dX1_pageBehind_3 rfl hl (by decide) rfl (fun ls hl => ?_)
  exact lX1_pageBehind_4 E hr hlocks hA n x1 (x1 + (1 : Int32)) st _ _ _ hP hD hS (lv_sub hl [1, 2, 0] rfl) hF
-- LooseHeap$Space.freePageFrom
def LX1_freePageFrom_2 : Nat → Int32 → Int32 → St → Option (Int32 × St)
  | 0 => fun _ _ _ => none
  | n + 1 => fun x1 x2 st => (if (st.1 1 4) ≤ x2 then some ((-1 : Int32), st) else gd x2 64 ((if (st.1 6 x2.toNatClampNeg) = 0 then some (x2, st) else LX1_freePageFrom_2 n x1 (x2 + (1 : Int32)) st)))
set_option maxHeartbeats 4000000 in
set_option maxRecDepth 100000 in
theorem lX1_freePageFrom_2 {l : Launch} {D : va_G} {h : Nat → Nat} {cI cJ cZ : ClassId} {p : Program} {e : Env} {s : State} {m : MethodId} {args : Array Value} {below : List Frame} {meth : Method} {c : Code} {A : Nat → Prop} {r : Int32} {u : St} (E : Env1 p s m args c cX1_freePageFrom 3 RX1 D (tyL cI cJ cZ)) (hr : meth.sig.returnType = some .int) (hlocks : meth.locks = false) (hA : ∀ q : Nat, s.heap.size ≤ q → A q) : ∀ (n : Nat) (x1 x2 : Int32) (st : St) (H : Heap) (locs : List Loc) (ls : Array Slot), va_P D vwCl (wX h cI cJ cZ st) H → va_D A (wX h cI cJ cZ st) → va_S A s.heap H locs → lv_has ls 3 [(0, .ref (h 1)), (1, .int x1), (2, .int x2)] → LX1_freePageFrom_2 n x1 x2 st = some (r, u) → W p l e (rm 0 0) s m args below meth c H locs 0 0 (MQ below (CQ D (tyL cI cJ cZ) (wX h cI cJ cZ) A r u) args s 0 0 A) (F0 m 2 ls []) := by
  have hx := E.1.1
  have hb := E.1.2.1
  have hml := E.1.2.2.1
  intro n
  induction n with
  | zero => intro x1 x2 st H locs ls hP hD hS hl hF; simp only [LX1_freePageFrom_2] at hF; cases hF
  | succ n ih =>
    intro x1 x2 st H locs ls hP hD hS hl hF
    simp only [LX1_freePageFrom_2] at hF
    refine lv_iload_n hx hb dX1_freePageFrom_2 rfl (lv_at hl 2 rfl) ?_
    refine lv_aload_n hx hb dX1_freePageFrom_3 rfl (lv_at hl 0 rfl) ?_
    refine g_1_4 E hP dX1_freePageFrom_4 ?_
    refine lv_icmp_ge (tgt := 27) hx hb dX1_freePageFrom_7 (by decide) (fun hc => ?_) (fun hc => ?_)
    · have hF := if_t hc hF
      refine lv_iconst (v := (-1)) hx hb dX1_freePageFrom_27 (by decide) ?_
      exact endI E hr hlocks hP hD hS dX1_freePageFrom_28 hF
    · have hF := if_f hc hF
      refine lv_aload_n hx hb dX1_freePageFrom_10 rfl (lv_at hl 0 rfl) ?_
      refine g_1_1 E hP dX1_freePageFrom_11 ?_
      refine lv_iload_n hx hb dX1_freePageFrom_14 rfl (lv_at hl 2 rfl) ?_
      obtain ⟨hi1, hF⟩ := gd_some hF
      refine la_6 E hP hi1 dX1_freePageFrom_15 ?_
      refine lv_if_ne (tgt := 21) hx hb dX1_freePageFrom_16 (by decide) (fun hc => ?_) (fun hc => ?_)
      · have hF := if_f hc hF
        refine lv_iinc (v := (x2 + (1 : Int32))) (lv' := [(2, .int (x2 + (1 : Int32))), (0, .ref (h 1)), (1, .int x1)]) hx hb dX1_freePageFrom_21 hl (k := 2) rfl rfl (by decide) rfl (fun ls hl => ?_)
        refine lv_goto (tgt := 2) hx hb dX1_freePageFrom_24 (by decide) ?_
        exact ih _ _ _ _ _ _ hP hD hS (lv_sub hl [1, 2, 0] rfl) hF
      · have hF := if_t hc hF
        refine lv_iload_n hx hb dX1_freePageFrom_19 rfl (lv_at hl 2 rfl) ?_
        exact endI E hr hlocks hP hD hS dX1_freePageFrom_20 hF
def FX1_freePageFrom (n : Nat) (x1 : Int32) (st : St) : Option (Int32 × St) := LX1_freePageFrom_2 n x1 x1 st
set_option maxHeartbeats 4000000 in
set_option maxRecDepth 100000 in
theorem kX1_freePageFrom (l : Launch) (D : va_G) (h : Nat → Nat) (cI cJ cZ : ClassId) (n : Nat) (x1 : Int32) (st : St) (r : Int32) (u : St) (hF : FX1_freePageFrom n x1 st = some (r, u)) : Ci l yX1_freePageFrom cX1_freePageFrom 3 (some .int) 0 0 D (tyL cI cJ cZ) (wX h cI cJ cZ) st [.ref (h 1), .int x1] r u := by
  refine body_i (by decide +kernel) (Nat.le_of_ble_eq_true rfl) ?_
  intro p e s m below meth c A ls E hr hlocks hA hP hD hS hl
  have E : Env1 p s m _ c cX1_freePageFrom 3 RX1 D (tyL cI cJ cZ) := E
  have hl : lv_has ls 3 [(0, .ref (h 1)), (1, .int x1)] := hl
  have hx := E.1.1
  have hb := E.1.2.1
  have hml := E.1.2.2.1
  unfold FX1_freePageFrom at hF
  refine lv_iload_n hx hb dX1_freePageFrom_0 rfl (lv_at hl 1 rfl) ?_
  refine lv_istore_n (lv' := [(2, .int x1), (0, .ref (h 1)), (1, .int x1)]) hx hb dX1_freePageFrom_1 rfl hl (by decide) rfl (fun ls hl => ?_)
  exact lX1_freePageFrom_2 E hr hlocks hA n x1 x1 st _ _ _ hP hD hS (lv_sub hl [1, 2, 0] rfl) hF
theorem cw_X1_86 : cwd RX1 86 RX1 yX1_usedPages cX1_usedPages 3 (some .int) 0 := ⟨tb_V (tb_in 559 (by decide +kernel) (by decide +kernel)) (tb_in 353 (by decide +kernel) (by decide +kernel)) (tb_in 354 (by decide +kernel) (by decide +kernel)) (tb_in 46 (by decide +kernel) (by decide +kernel)) (tb_in 355 (by decide +kernel) (by decide +kernel)), by decide +kernel⟩
-- LooseHeap$Space.mayTake
def FX1_mayTake (n : Nat) (x1 : Int32) (st : St) : Option (Int32 × St) := bd (FX1_usedPages n  st) (fun r1 u2 => dz (2 : Int32) (be (some ((if ((u2.1 1 4) / (2 : Int32)) < (r1 + x1) then (0 : Int32) else (1 : Int32)))) (fun v5 => gz v5 (some (v5, u2)))))
set_option maxHeartbeats 4000000 in
set_option maxRecDepth 100000 in
theorem kX1_mayTake (l : Launch) (D : va_G) (h : Nat → Nat) (cI cJ cZ : ClassId) (n : Nat) (x1 : Int32) (st : St) (r : Int32) (u : St) (hF : FX1_mayTake n x1 st = some (r, u)) : Ci l yX1_mayTake cX1_mayTake 2 (some .boolean) 1 22 D (tyL cI cJ cZ) (wX h cI cJ cZ) st [.ref (h 1), .int x1] r u := by
  refine body_i (by decide +kernel) (Nat.le_of_ble_eq_true rfl) ?_
  intro p e s m below meth c A ls E hr hlocks hA hP hD hS hl
  have E : Env1 p s m _ c cX1_mayTake 2 RX1 D (tyL cI cJ cZ) := E
  have hl : lv_has ls 2 [(0, .ref (h 1)), (1, .int x1)] := hl
  have hx := E.1.1
  have hb := E.1.2.1
  have hml := E.1.2.2.1
  unfold FX1_mayTake at hF
  refine lv_aload_n hx hb dX1_mayTake_0 rfl (lv_at hl 0 rfl) ?_
  obtain ⟨r1, u2, hc3, hF⟩ := bd_some hF
  refine call_i (rest := []) E hA hP hD hS hl.1 (kX1_usedPages l D h cI cJ cZ n  st r1 u2 hc3) cw_X1_86 1 rfl rfl rfl rfl rfl (Nat.le_of_ble_eq_true rfl) ⟨Nat.le_of_ble_eq_true rfl, Nat.le_of_ble_eq_true rfl⟩ ⟨Nat.zero_le _, Nat.zero_le _⟩ dX1_mayTake_1 (fun H locs hP hD hS => ?_)
  refine lv_iload_n hx hb dX1_mayTake_4 rfl (lv_at hl 1 rfl) ?_
  refine lv_iadd hx hb dX1_mayTake_5 ?_
  refine lv_aload_n hx hb dX1_mayTake_6 rfl (lv_at hl 0 rfl) ?_
  refine g_1_4 E hP dX1_mayTake_7 ?_
  refine lv_iconst (v := 2) hx hb dX1_mayTake_10 (by decide) ?_
  obtain ⟨hz4, hF⟩ := dz_some hF
  refine lv_idiv hx hb dX1_mayTake_11 hz4 ?_
  obtain ⟨v5, hv, hF⟩ := be_some hF
  have hv := Option.some.inj hv
  refine dia (jpc := 20) (v1 := v5) (rest := []) (ls := ls) ?_ (fun kont => ?_)
  · skip
    exact endZ E hr hlocks hP hD hS dX1_mayTake_20 hF
  · skip
    refine lv_icmp_gt (tgt := 19) hx hb dX1_mayTake_12 (by decide) (fun hc => ?_) (fun hc => ?_)
    · have hv := if_t hc hv
      refine lv_iconst (v := 0) hx hb dX1_mayTake_19 (by decide) ?_
      exact topE hv kont
    · have hv := if_f hc hv
      refine lv_iconst (v := 1) hx hb dX1_mayTake_15 (by decide) ?_
      refine lv_goto (tgt := 20) hx hb dX1_mayTake_16 (by decide) ?_
      exact topE hv kont
theorem cw_X1_73 : cwd RX1 73 RX1 yX1_addressOf cX1_addressOf 3 (some .int) 2 := ⟨tb_V (tb_in 347 (by decide +kernel) (by decide +kernel)) (tb_in 249 (by decide +kernel) (by decide +kernel)) (tb_in 250 (by decide +kernel) (by decide +kernel)) (tb_in 46 (by decide +kernel) (by decide +kernel)) (tb_in 251 (by decide +kernel) (by decide +kernel)), by decide +kernel⟩
theorem cw_X1_77 : cwd RX1 77 RX1 yX1_mayTake cX1_mayTake 2 (some .boolean) 1 := ⟨tb_V (tb_in 555 (by decide +kernel) (by decide +kernel)) (tb_in 557 (by decide +kernel) (by decide +kernel)) (tb_in 20 (by decide +kernel) (by decide +kernel)) (tb_in 46 (by decide +kernel) (by decide +kernel)) (tb_in 558 (by decide +kernel) (by decide +kernel)), by decide +kernel⟩
theorem cw_X1_80 : cwd RX1 80 RX1 yX1_freePageFrom cX1_freePageFrom 3 (some .int) 1 := ⟨tb_V (tb_in 560 (by decide +kernel) (by decide +kernel)) (tb_in 295 (by decide +kernel) (by decide +kernel)) (tb_in 296 (by decide +kernel) (by decide +kernel)) (tb_in 46 (by decide +kernel) (by decide +kernel)) (tb_in 297 (by decide +kernel) (by decide +kernel)), by decide +kernel⟩
-- LooseHeap$Space.roomForSmall
def JX1_roomForSmall_44 (n : Nat) (st : St) : Option (Int32 × St) := bd (FX1_mayTake n (1 : Int32) st) (fun r1 u2 => (if r1 = 0 then (if (-1 : Int32) = (-1 : Int32) then some ((-1 : Int32), u2) else bd (FX1_addressOf n (-1 : Int32) (0 : Int32) u2) (fun r4 u5 => some (r4, u5))) else bd (FX1_freePageFrom n (0 : Int32) u2) (fun r7 u8 => (if r7 = (-1 : Int32) then some ((-1 : Int32), u8) else bd (FX1_addressOf n r7 (0 : Int32) u8) (fun r10 u11 => some (r10, u11))))))
set_option maxHeartbeats 4000000 in
set_option maxRecDepth 100000 in
theorem jX1_roomForSmall_44 {l : Launch} {D : va_G} {h : Nat → Nat} {cI cJ cZ : ClassId} {p : Program} {e : Env} {s : State} {m : MethodId} {args : Array Value} {below : List Frame} {meth : Method} {c : Code} {A : Nat → Prop} {r : Int32} {u : St} (E : Env1 p s m args c cX1_roomForSmall 3 RX1 D (tyL cI cJ cZ)) (hr : meth.sig.returnType = some .int) (hlocks : meth.locks = false) (hA : ∀ q : Nat, s.heap.size ≤ q → A q) (n : Nat) (st : St) (H : Heap) (locs : List Loc) (ls : Array Slot) (hP : va_P D vwCl (wX h cI cJ cZ st) H) (hD : va_D A (wX h cI cJ cZ st)) (hS : va_S A s.heap H locs) (hl : lv_has ls 3 [(0, .ref (h 1))]) (hF : JX1_roomForSmall_44 n  st = some (r, u)) : W p l e (rm 2 43) s m args below meth c H locs 0 0 (MQ below (CQ D (tyL cI cJ cZ) (wX h cI cJ cZ) A r u) args s 0 0 A) (F0 m 44 ls []) := by
  have hx := E.1.1
  have hb := E.1.2.1
  have hml := E.1.2.2.1
  unfold JX1_roomForSmall_44 at hF
  refine lv_aload_n hx hb dX1_roomForSmall_44 rfl (lv_at hl 0 rfl) ?_
  refine lv_iconst (v := 1) hx hb dX1_roomForSmall_45 (by decide) ?_
  obtain ⟨r1, u2, hc3, hF⟩ := bd_some hF
  refine call_i (rest := []) E hA hP hD hS hl.1 (kX1_mayTake l D h cI cJ cZ n (1 : Int32) st r1 u2 hc3) cw_X1_77 1 rfl rfl rfl rfl rfl (Nat.le_of_ble_eq_true rfl) ⟨Nat.le_of_ble_eq_true rfl, Nat.le_of_ble_eq_true rfl⟩ ⟨Nat.zero_le _, Nat.zero_le _⟩ dX1_roomForSmall_46 (fun H locs hP hD hS => ?_)
  refine lv_if_eq (tgt := 60) hx hb dX1_roomForSmall_49 (by decide) (fun hc => ?_) (fun hc => ?_)
  · have hF := if_t hc hF
    refine lv_iconst (v := (-1)) hx hb dX1_roomForSmall_60 (by decide) ?_
    refine lv_istore_n (lv' := [(2, .int (-1 : Int32)), (0, .ref (h 1))]) hx hb dX1_roomForSmall_61 rfl hl (by decide) rfl (fun ls hl => ?_)
    refine lv_iload_n hx hb dX1_roomForSmall_62 rfl (lv_at hl 0 rfl) ?_
    refine lv_iconst (v := (-1)) hx hb dX1_roomForSmall_63 (by decide) ?_
    refine lv_icmp_ne (tgt := 71) hx hb dX1_roomForSmall_64 (by decide) (fun hc => ?_) (fun hc => ?_)
    · have hF := if_f hc hF
      refine lv_aload_n hx hb dX1_roomForSmall_71 rfl (lv_at hl 1 rfl) ?_
      refine lv_iload_n hx hb dX1_roomForSmall_72 rfl (lv_at hl 0 rfl) ?_
      refine lv_iconst (v := 0) hx hb dX1_roomForSmall_73 (by decide) ?_
      obtain ⟨r4, u5, hc6, hF⟩ := bd_some hF
      refine call_i (rest := []) E hA hP hD hS hl.1 (kX1_addressOf l D h cI cJ cZ n (-1 : Int32) (0 : Int32) u2 r4 u5 hc6) cw_X1_73 1 rfl rfl rfl rfl rfl (Nat.le_of_ble_eq_true rfl) ⟨Nat.le_of_ble_eq_true rfl, Nat.le_of_ble_eq_true rfl⟩ ⟨Nat.zero_le _, Nat.zero_le _⟩ dX1_roomForSmall_74 (fun H locs hP hD hS => ?_)
      exact endI E hr hlocks hP hD hS dX1_roomForSmall_77 hF
    · have hF := if_t hc hF
      refine lv_iconst (v := (-1)) hx hb dX1_roomForSmall_67 (by decide) ?_
      refine lv_goto (tgt := 77) hx hb dX1_roomForSmall_68 (by decide) ?_
      exact endI E hr hlocks hP hD hS dX1_roomForSmall_77 hF
  · have hF := if_f hc hF
    refine lv_aload_n hx hb dX1_roomForSmall_52 rfl (lv_at hl 0 rfl) ?_
    refine lv_iconst (v := 0) hx hb dX1_roomForSmall_53 (by decide) ?_
    obtain ⟨r7, u8, hc9, hF⟩ := bd_some hF
    refine call_i (rest := []) E hA hP hD hS hl.1 (kX1_freePageFrom l D h cI cJ cZ n (0 : Int32) u2 r7 u8 hc9) cw_X1_80 1 rfl rfl rfl rfl rfl (Nat.le_of_ble_eq_true rfl) ⟨Nat.le_of_ble_eq_true rfl, Nat.le_of_ble_eq_true rfl⟩ ⟨Nat.zero_le _, Nat.zero_le _⟩ dX1_roomForSmall_54 (fun H locs hP hD hS => ?_)
    refine lv_goto (tgt := 61) hx hb dX1_roomForSmall_57 (by decide) ?_
    refine lv_istore_n (lv' := [(2, .int r7), (0, .ref (h 1))]) hx hb dX1_roomForSmall_61 rfl hl (by decide) rfl (fun ls hl => ?_)
    refine lv_iload_n hx hb dX1_roomForSmall_62 rfl (lv_at hl 0 rfl) ?_
    refine lv_iconst (v := (-1)) hx hb dX1_roomForSmall_63 (by decide) ?_
    refine lv_icmp_ne (tgt := 71) hx hb dX1_roomForSmall_64 (by decide) (fun hc => ?_) (fun hc => ?_)
    · have hF := if_f hc hF
      refine lv_aload_n hx hb dX1_roomForSmall_71 rfl (lv_at hl 1 rfl) ?_
      refine lv_iload_n hx hb dX1_roomForSmall_72 rfl (lv_at hl 0 rfl) ?_
      refine lv_iconst (v := 0) hx hb dX1_roomForSmall_73 (by decide) ?_
      obtain ⟨r10, u11, hc12, hF⟩ := bd_some hF
      refine call_i (rest := []) E hA hP hD hS hl.1 (kX1_addressOf l D h cI cJ cZ n r7 (0 : Int32) u8 r10 u11 hc12) cw_X1_73 1 rfl rfl rfl rfl rfl (Nat.le_of_ble_eq_true rfl) ⟨Nat.le_of_ble_eq_true rfl, Nat.le_of_ble_eq_true rfl⟩ ⟨Nat.zero_le _, Nat.zero_le _⟩ dX1_roomForSmall_74 (fun H locs hP hD hS => ?_)
      exact endI E hr hlocks hP hD hS dX1_roomForSmall_77 hF
    · have hF := if_t hc hF
      refine lv_iconst (v := (-1)) hx hb dX1_roomForSmall_67 (by decide) ?_
      refine lv_goto (tgt := 77) hx hb dX1_roomForSmall_68 (by decide) ?_
      exact endI E hr hlocks hP hD hS dX1_roomForSmall_77 hF
def FX1_roomForSmall (n : Nat) (x1 : Int32) (st : St) : Option (Int32 × St) := (if (st.1 1 6) = (-1 : Int32) then JX1_roomForSmall_44 n  st else gd (st.1 1 6) 64 ((if ((st.1 1 5) - (st.1 7 (st.1 1 6).toNatClampNeg)) < x1 then JX1_roomForSmall_44 n  st else gd (st.1 1 6) 64 (bd (FX1_addressOf n (st.1 1 6) (st.1 7 (st.1 1 6).toNatClampNeg) st) (fun r15 u16 => some (r15, u16))))))
set_option maxHeartbeats 4000000 in
set_option maxRecDepth 100000 in
theorem kX1_roomForSmall (l : Launch) (D : va_G) (h : Nat → Nat) (cI cJ cZ : ClassId) (n : Nat) (x1 : Int32) (st : St) (r : Int32) (u : St) (hF : FX1_roomForSmall n x1 st = some (r, u)) : Ci l yX1_roomForSmall cX1_roomForSmall 3 (some .int) 2 43 D (tyL cI cJ cZ) (wX h cI cJ cZ) st [.ref (h 1), .int x1] r u := by
  refine body_i (by decide +kernel) (Nat.le_of_ble_eq_true rfl) ?_
  intro p e s m below meth c A ls E hr hlocks hA hP hD hS hl
  have E : Env1 p s m _ c cX1_roomForSmall 3 RX1 D (tyL cI cJ cZ) := E
  have hl : lv_has ls 3 [(0, .ref (h 1)), (1, .int x1)] := hl
  have hx := E.1.1
  have hb := E.1.2.1
  have hml := E.1.2.2.1
  unfold FX1_roomForSmall at hF
  refine lv_aload_n hx hb dX1_roomForSmall_0 rfl (lv_at hl 0 rfl) ?_
  refine g_1_6 E hP dX1_roomForSmall_1 ?_
  refine lv_iconst (v := (-1)) hx hb dX1_roomForSmall_4 (by decide) ?_
  refine lv_icmp_eq (tgt := 44) hx hb dX1_roomForSmall_5 (by decide) (fun hc => ?_) (fun hc => ?_)
  · have hF := if_t hc hF
    exact jX1_roomForSmall_44 E hr hlocks hA n  st _ _ _ hP hD hS (lv_sub hl [0] rfl) hF
  · have hF := if_f hc hF
    refine lv_iload_n hx hb dX1_roomForSmall_8 rfl (lv_at hl 1 rfl) ?_
    refine lv_aload_n hx hb dX1_roomForSmall_9 rfl (lv_at hl 0 rfl) ?_
    refine g_1_5 E hP dX1_roomForSmall_10 ?_
    refine lv_aload_n hx hb dX1_roomForSmall_13 rfl (lv_at hl 0 rfl) ?_
    refine g_1_2 E hP dX1_roomForSmall_14 ?_
    refine lv_aload_n hx hb dX1_roomForSmall_17 rfl (lv_at hl 0 rfl) ?_
    refine g_1_6 E hP dX1_roomForSmall_18 ?_
    obtain ⟨hi13, hF⟩ := gd_some hF
    refine la_7 E hP hi13 dX1_roomForSmall_21 ?_
    refine lv_isub hx hb dX1_roomForSmall_22 ?_
    refine lv_icmp_gt (tgt := 44) hx hb dX1_roomForSmall_23 (by decide) (fun hc => ?_) (fun hc => ?_)
    · have hF := if_t hc hF
      exact jX1_roomForSmall_44 E hr hlocks hA n  st _ _ _ hP hD hS (lv_sub hl [0] rfl) hF
    · have hF := if_f hc hF
      refine lv_aload_n hx hb dX1_roomForSmall_26 rfl (lv_at hl 0 rfl) ?_
      refine lv_aload_n hx hb dX1_roomForSmall_27 rfl (lv_at hl 0 rfl) ?_
      refine g_1_6 E hP dX1_roomForSmall_28 ?_
      refine lv_aload_n hx hb dX1_roomForSmall_31 rfl (lv_at hl 0 rfl) ?_
      refine g_1_2 E hP dX1_roomForSmall_32 ?_
      refine lv_aload_n hx hb dX1_roomForSmall_35 rfl (lv_at hl 0 rfl) ?_
      refine g_1_6 E hP dX1_roomForSmall_36 ?_
      obtain ⟨hi14, hF⟩ := gd_some hF
      refine la_7 E hP hi14 dX1_roomForSmall_39 ?_
      obtain ⟨r15, u16, hc17, hF⟩ := bd_some hF
      refine call_i (rest := []) E hA hP hD hS hl.1 (kX1_addressOf l D h cI cJ cZ n (st.1 1 6) (st.1 7 (st.1 1 6).toNatClampNeg) st r15 u16 hc17) cw_X1_73 1 rfl rfl rfl rfl rfl (Nat.le_of_ble_eq_true rfl) ⟨Nat.le_of_ble_eq_true rfl, Nat.le_of_ble_eq_true rfl⟩ ⟨Nat.zero_le _, Nat.zero_le _⟩ dX1_roomForSmall_40 (fun H locs hP hD hS => ?_)
      exact endI E hr hlocks hP hD hS dX1_roomForSmall_43 hF
-- LooseHeap$Space.freeRow
def LX1_freeRow_4 : Nat → Int32 → Int32 → Int32 → St → Option (Int32 × St)
  | 0 => fun _ _ _ _ => none
  | n + 1 => fun x1 x2 x3 st => (if (st.1 1 4) ≤ x3 then some ((-1 : Int32), st) else gd x3 64 (be (some ((if (st.1 6 x3.toNatClampNeg) = 0 then (x2 + (1 : Int32)) else (0 : Int32)))) (fun v2 => (if v2 = x1 then some (((x3 - x1) + (1 : Int32)), st) else LX1_freeRow_4 n x1 v2 (x3 + (1 : Int32)) st))))
set_option maxHeartbeats 4000000 in
set_option maxRecDepth 100000 in
theorem lX1_freeRow_4 {l : Launch} {D : va_G} {h : Nat → Nat} {cI cJ cZ : ClassId} {p : Program} {e : Env} {s : State} {m : MethodId} {args : Array Value} {below : List Frame} {meth : Method} {c : Code} {A : Nat → Prop} {r : Int32} {u : St} (E : Env1 p s m args c cX1_freeRow 4 RX1 D (tyL cI cJ cZ)) (hr : meth.sig.returnType = some .int) (hlocks : meth.locks = false) (hA : ∀ q : Nat, s.heap.size ≤ q → A q) : ∀ (n : Nat) (x1 x2 x3 : Int32) (st : St) (H : Heap) (locs : List Loc) (ls : Array Slot), va_P D vwCl (wX h cI cJ cZ st) H → va_D A (wX h cI cJ cZ st) → va_S A s.heap H locs → lv_has ls 4 [(0, .ref (h 1)), (1, .int x1), (2, .int x2), (3, .int x3)] → LX1_freeRow_4 n x1 x2 x3 st = some (r, u) → W p l e (rm 0 0) s m args below meth c H locs 0 0 (MQ below (CQ D (tyL cI cJ cZ) (wX h cI cJ cZ) A r u) args s 0 0 A) (F0 m 4 ls []) := by
  have hx := E.1.1
  have hb := E.1.2.1
  have hml := E.1.2.2.1
  intro n
  induction n with
  | zero => intro x1 x2 x3 st H locs ls hP hD hS hl hF; simp only [LX1_freeRow_4] at hF; cases hF
  | succ n ih =>
    intro x1 x2 x3 st H locs ls hP hD hS hl hF
    simp only [LX1_freeRow_4] at hF
    refine lv_iload_n hx hb dX1_freeRow_4 rfl (lv_at hl 3 rfl) ?_
    refine lv_aload_n hx hb dX1_freeRow_5 rfl (lv_at hl 0 rfl) ?_
    refine g_1_4 E hP dX1_freeRow_6 ?_
    refine lv_icmp_ge (tgt := 46) hx hb dX1_freeRow_9 (by decide) (fun hc => ?_) (fun hc => ?_)
    · have hF := if_t hc hF
      refine lv_iconst (v := (-1)) hx hb dX1_freeRow_46 (by decide) ?_
      exact endI E hr hlocks hP hD hS dX1_freeRow_47 hF
    · have hF := if_f hc hF
      refine lv_aload_n hx hb dX1_freeRow_12 rfl (lv_at hl 0 rfl) ?_
      refine g_1_1 E hP dX1_freeRow_13 ?_
      refine lv_iload_n hx hb dX1_freeRow_16 rfl (lv_at hl 3 rfl) ?_
      obtain ⟨hi1, hF⟩ := gd_some hF
      refine la_6 E hP hi1 dX1_freeRow_17 ?_
      obtain ⟨v2, hv, hF⟩ := be_some hF
      have hv := Option.some.inj hv
      refine dia (jpc := 28) (v1 := v2) (rest := []) (ls := ls) ?_ (fun kont => ?_)
      · skip
        refine lv_istore_n (lv' := [(2, .int v2), (0, .ref (h 1)), (1, .int x1), (3, .int x3)]) hx hb dX1_freeRow_28 rfl hl (by decide) rfl (fun ls hl => ?_)
        refine lv_iload_n hx hb dX1_freeRow_29 rfl (lv_at hl 0 rfl) ?_
        refine lv_iload_n hx hb dX1_freeRow_30 rfl (lv_at hl 2 rfl) ?_
        refine lv_icmp_ne (tgt := 40) hx hb dX1_freeRow_31 (by decide) (fun hc => ?_) (fun hc => ?_)
        · have hF := if_f hc hF
          refine lv_iinc (v := (x3 + (1 : Int32))) (lv' := [(3, .int (x3 + (1 : Int32))), (2, .int v2), (0, .ref (h 1)), (1, .int x1)]) hx hb dX1_freeRow_40 hl (k := 3) rfl rfl (by decide) rfl (fun ls hl => ?_)
          refine lv_goto (tgt := 4) hx hb dX1_freeRow_43 (by decide) ?_
          exact ih _ _ _ _ _ _ _ hP hD hS (lv_sub hl [2, 3, 1, 0] rfl) hF
        · have hF := if_t hc hF
          refine lv_iload_n hx hb dX1_freeRow_34 rfl (lv_at hl 3 rfl) ?_
          refine lv_iload_n hx hb dX1_freeRow_35 rfl (lv_at hl 2 rfl) ?_
          refine lv_isub hx hb dX1_freeRow_36 ?_
          refine lv_iconst (v := 1) hx hb dX1_freeRow_37 (by decide) ?_
          refine lv_iadd hx hb dX1_freeRow_38 ?_
          exact endI E hr hlocks hP hD hS dX1_freeRow_39 hF
      · skip
        refine lv_if_ne (tgt := 27) hx hb dX1_freeRow_18 (by decide) (fun hc => ?_) (fun hc => ?_)
        · have hv := if_f hc hv
          refine lv_iconst (v := 0) hx hb dX1_freeRow_27 (by decide) ?_
          exact topE hv kont
        · have hv := if_t hc hv
          refine lv_iload_n hx hb dX1_freeRow_21 rfl (lv_at hl 2 rfl) ?_
          refine lv_iconst (v := 1) hx hb dX1_freeRow_22 (by decide) ?_
          refine lv_iadd hx hb dX1_freeRow_23 ?_
          refine lv_goto (tgt := 28) hx hb dX1_freeRow_24 (by decide) ?_
          exact topE hv kont
def FX1_freeRow (n : Nat) (x1 : Int32) (st : St) : Option (Int32 × St) := LX1_freeRow_4 n x1 (0 : Int32) (0 : Int32) st
set_option maxHeartbeats 4000000 in
set_option maxRecDepth 100000 in
theorem kX1_freeRow (l : Launch) (D : va_G) (h : Nat → Nat) (cI cJ cZ : ClassId) (n : Nat) (x1 : Int32) (st : St) (r : Int32) (u : St) (hF : FX1_freeRow n x1 st = some (r, u)) : Ci l yX1_freeRow cX1_freeRow 4 (some .int) 0 0 D (tyL cI cJ cZ) (wX h cI cJ cZ) st [.ref (h 1), .int x1] r u := by
  refine body_i (by decide +kernel) (Nat.le_of_ble_eq_true rfl) ?_
  intro p e s m below meth c A ls E hr hlocks hA hP hD hS hl
  have E : Env1 p s m _ c cX1_freeRow 4 RX1 D (tyL cI cJ cZ) := E
  have hl : lv_has ls 4 [(0, .ref (h 1)), (1, .int x1)] := hl
  have hx := E.1.1
  have hb := E.1.2.1
  have hml := E.1.2.2.1
  unfold FX1_freeRow at hF
  refine lv_iconst (v := 0) hx hb dX1_freeRow_0 (by decide) ?_
  refine lv_istore_n (lv' := [(2, .int (0 : Int32)), (0, .ref (h 1)), (1, .int x1)]) hx hb dX1_freeRow_1 rfl hl (by decide) rfl (fun ls hl => ?_)
  refine lv_iconst (v := 0) hx hb dX1_freeRow_2 (by decide) ?_
  refine lv_istore_n (lv' := [(3, .int (0 : Int32)), (2, .int (0 : Int32)), (0, .ref (h 1)), (1, .int x1)]) hx hb dX1_freeRow_3 rfl hl (by decide) rfl (fun ls hl => ?_)
  exact lX1_freeRow_4 E hr hlocks hA n x1 (0 : Int32) (0 : Int32) st _ _ _ hP hD hS (lv_sub hl [2, 3, 1, 0] rfl) hF
theorem cw_X1_83 : cwd RX1 83 RX1 yX1_freeRow cX1_freeRow 4 (some .int) 1 := ⟨tb_V (tb_in 565 (by decide +kernel) (by decide +kernel)) (tb_in 567 (by decide +kernel) (by decide +kernel)) (tb_in 22 (by decide +kernel) (by decide +kernel)) (tb_in 46 (by decide +kernel) (by decide +kernel)) (tb_in 568 (by decide +kernel) (by decide +kernel)), by decide +kernel⟩
-- LooseHeap$Space.roomForLong
def FX1_roomForLong (n : Nat) (x1 : Int32) (st : St) : Option (Int32 × St) := dz (st.1 1 5) (bd (FX1_mayTake n (((x1 + (st.1 1 5)) - (1 : Int32)) / (st.1 1 5)) st) (fun r2 u3 => (if r2 = 0 then (if (-1 : Int32) = (-1 : Int32) then some ((-1 : Int32), u3) else bd (FX1_addressOf n (-1 : Int32) (0 : Int32) u3) (fun r5 u6 => some (r5, u6))) else bd (FX1_freeRow n (((x1 + (st.1 1 5)) - (1 : Int32)) / (st.1 1 5)) u3) (fun r8 u9 => (if r8 = (-1 : Int32) then some ((-1 : Int32), u9) else bd (FX1_addressOf n r8 (0 : Int32) u9) (fun r11 u12 => some (r11, u12)))))))
set_option maxHeartbeats 4000000 in
set_option maxRecDepth 100000 in
theorem kX1_roomForLong (l : Launch) (D : va_G) (h : Nat → Nat) (cI cJ cZ : ClassId) (n : Nat) (x1 : Int32) (st : St) (r : Int32) (u : St) (hF : FX1_roomForLong n x1 st = some (r, u)) : Ci l yX1_roomForLong cX1_roomForLong 4 (some .int) 2 43 D (tyL cI cJ cZ) (wX h cI cJ cZ) st [.ref (h 1), .int x1] r u := by
  refine body_i (by decide +kernel) (Nat.le_of_ble_eq_true rfl) ?_
  intro p e s m below meth c A ls E hr hlocks hA hP hD hS hl
  have E : Env1 p s m _ c cX1_roomForLong 4 RX1 D (tyL cI cJ cZ) := E
  have hl : lv_has ls 4 [(0, .ref (h 1)), (1, .int x1)] := hl
  have hx := E.1.1
  have hb := E.1.2.1
  have hml := E.1.2.2.1
  unfold FX1_roomForLong at hF
  refine lv_iload_n hx hb dX1_roomForLong_0 rfl (lv_at hl 1 rfl) ?_
  refine lv_aload_n hx hb dX1_roomForLong_1 rfl (lv_at hl 0 rfl) ?_
  refine g_1_5 E hP dX1_roomForLong_2 ?_
  refine lv_iadd hx hb dX1_roomForLong_5 ?_
  refine lv_iconst (v := 1) hx hb dX1_roomForLong_6 (by decide) ?_
  refine lv_isub hx hb dX1_roomForLong_7 ?_
  refine lv_aload_n hx hb dX1_roomForLong_8 rfl (lv_at hl 0 rfl) ?_
  refine g_1_5 E hP dX1_roomForLong_9 ?_
  obtain ⟨hz1, hF⟩ := dz_some hF
  refine lv_idiv hx hb dX1_roomForLong_12 hz1 ?_
  refine lv_istore_n (lv' := [(2, .int (((x1 + (st.1 1 5)) - (1 : Int32)) / (st.1 1 5))), (0, .ref (h 1)), (1, .int x1)]) hx hb dX1_roomForLong_13 rfl hl (by decide) rfl (fun ls hl => ?_)
  refine lv_aload_n hx hb dX1_roomForLong_14 rfl (lv_at hl 1 rfl) ?_
  refine lv_iload_n hx hb dX1_roomForLong_15 rfl (lv_at hl 0 rfl) ?_
  obtain ⟨r2, u3, hc4, hF⟩ := bd_some hF
  refine call_i (rest := []) E hA hP hD hS hl.1 (kX1_mayTake l D h cI cJ cZ n (((x1 + (st.1 1 5)) - (1 : Int32)) / (st.1 1 5)) st r2 u3 hc4) cw_X1_77 1 rfl rfl rfl rfl rfl (Nat.le_of_ble_eq_true rfl) ⟨Nat.le_of_ble_eq_true rfl, Nat.le_of_ble_eq_true rfl⟩ ⟨Nat.zero_le _, Nat.zero_le _⟩ dX1_roomForLong_16 (fun H locs hP hD hS => ?_)
  refine lv_if_eq (tgt := 30) hx hb dX1_roomForLong_19 (by decide) (fun hc => ?_) (fun hc => ?_)
  · have hF := if_t hc hF
    refine lv_iconst (v := (-1)) hx hb dX1_roomForLong_30 (by decide) ?_
    refine lv_istore_n (lv' := [(3, .int (-1 : Int32)), (2, .int (((x1 + (st.1 1 5)) - (1 : Int32)) / (st.1 1 5))), (0, .ref (h 1)), (1, .int x1)]) hx hb dX1_roomForLong_31 rfl hl (by decide) rfl (fun ls hl => ?_)
    refine lv_iload_n hx hb dX1_roomForLong_32 rfl (lv_at hl 0 rfl) ?_
    refine lv_iconst (v := (-1)) hx hb dX1_roomForLong_33 (by decide) ?_
    refine lv_icmp_ne (tgt := 41) hx hb dX1_roomForLong_34 (by decide) (fun hc => ?_) (fun hc => ?_)
    · have hF := if_f hc hF
      refine lv_aload_n hx hb dX1_roomForLong_41 rfl (lv_at hl 2 rfl) ?_
      refine lv_iload_n hx hb dX1_roomForLong_42 rfl (lv_at hl 0 rfl) ?_
      refine lv_iconst (v := 0) hx hb dX1_roomForLong_43 (by decide) ?_
      obtain ⟨r5, u6, hc7, hF⟩ := bd_some hF
      refine call_i (rest := []) E hA hP hD hS hl.1 (kX1_addressOf l D h cI cJ cZ n (-1 : Int32) (0 : Int32) u3 r5 u6 hc7) cw_X1_73 1 rfl rfl rfl rfl rfl (Nat.le_of_ble_eq_true rfl) ⟨Nat.le_of_ble_eq_true rfl, Nat.le_of_ble_eq_true rfl⟩ ⟨Nat.zero_le _, Nat.zero_le _⟩ dX1_roomForLong_44 (fun H locs hP hD hS => ?_)
      exact endI E hr hlocks hP hD hS dX1_roomForLong_47 hF
    · have hF := if_t hc hF
      refine lv_iconst (v := (-1)) hx hb dX1_roomForLong_37 (by decide) ?_
      refine lv_goto (tgt := 47) hx hb dX1_roomForLong_38 (by decide) ?_
      exact endI E hr hlocks hP hD hS dX1_roomForLong_47 hF
  · have hF := if_f hc hF
    refine lv_aload_n hx hb dX1_roomForLong_22 rfl (lv_at hl 1 rfl) ?_
    refine lv_iload_n hx hb dX1_roomForLong_23 rfl (lv_at hl 0 rfl) ?_
    obtain ⟨r8, u9, hc10, hF⟩ := bd_some hF
    refine call_i (rest := []) E hA hP hD hS hl.1 (kX1_freeRow l D h cI cJ cZ n (((x1 + (st.1 1 5)) - (1 : Int32)) / (st.1 1 5)) u3 r8 u9 hc10) cw_X1_83 1 rfl rfl rfl rfl rfl (Nat.le_of_ble_eq_true rfl) ⟨Nat.le_of_ble_eq_true rfl, Nat.le_of_ble_eq_true rfl⟩ ⟨Nat.zero_le _, Nat.zero_le _⟩ dX1_roomForLong_24 (fun H locs hP hD hS => ?_)
    refine lv_goto (tgt := 31) hx hb dX1_roomForLong_27 (by decide) ?_
    refine lv_istore_n (lv' := [(3, .int r8), (2, .int (((x1 + (st.1 1 5)) - (1 : Int32)) / (st.1 1 5))), (0, .ref (h 1)), (1, .int x1)]) hx hb dX1_roomForLong_31 rfl hl (by decide) rfl (fun ls hl => ?_)
    refine lv_iload_n hx hb dX1_roomForLong_32 rfl (lv_at hl 0 rfl) ?_
    refine lv_iconst (v := (-1)) hx hb dX1_roomForLong_33 (by decide) ?_
    refine lv_icmp_ne (tgt := 41) hx hb dX1_roomForLong_34 (by decide) (fun hc => ?_) (fun hc => ?_)
    · have hF := if_f hc hF
      refine lv_aload_n hx hb dX1_roomForLong_41 rfl (lv_at hl 2 rfl) ?_
      refine lv_iload_n hx hb dX1_roomForLong_42 rfl (lv_at hl 0 rfl) ?_
      refine lv_iconst (v := 0) hx hb dX1_roomForLong_43 (by decide) ?_
      obtain ⟨r11, u12, hc13, hF⟩ := bd_some hF
      refine call_i (rest := []) E hA hP hD hS hl.1 (kX1_addressOf l D h cI cJ cZ n r8 (0 : Int32) u9 r11 u12 hc13) cw_X1_73 1 rfl rfl rfl rfl rfl (Nat.le_of_ble_eq_true rfl) ⟨Nat.le_of_ble_eq_true rfl, Nat.le_of_ble_eq_true rfl⟩ ⟨Nat.zero_le _, Nat.zero_le _⟩ dX1_roomForLong_44 (fun H locs hP hD hS => ?_)
      exact endI E hr hlocks hP hD hS dX1_roomForLong_47 hF
    · have hF := if_t hc hF
      refine lv_iconst (v := (-1)) hx hb dX1_roomForLong_37 (by decide) ?_
      refine lv_goto (tgt := 47) hx hb dX1_roomForLong_38 (by decide) ?_
      exact endI E hr hlocks hP hD hS dX1_roomForLong_47 hF
theorem cw_X1_67 : cwd RX1 67 RX1 yX1_roomForSmall cX1_roomForSmall 3 (some .int) 1 := ⟨tb_V (tb_in 551 (by decide +kernel) (by decide +kernel)) (tb_in 553 (by decide +kernel) (by decide +kernel)) (tb_in 19 (by decide +kernel) (by decide +kernel)) (tb_in 46 (by decide +kernel) (by decide +kernel)) (tb_in 554 (by decide +kernel) (by decide +kernel)), by decide +kernel⟩
theorem cw_X1_70 : cwd RX1 70 RX1 yX1_roomForLong cX1_roomForLong 4 (some .int) 1 := ⟨tb_V (tb_in 561 (by decide +kernel) (by decide +kernel)) (tb_in 563 (by decide +kernel) (by decide +kernel)) (tb_in 21 (by decide +kernel) (by decide +kernel)) (tb_in 46 (by decide +kernel) (by decide +kernel)) (tb_in 564 (by decide +kernel) (by decide +kernel)), by decide +kernel⟩
-- LooseHeap$Space.roomFor
def FX1_roomFor (n : Nat) (x1 : Int32) (st : St) : Option (Int32 × St) := (if (st.1 1 5) < x1 then bd (FX1_roomForLong n x1 st) (fun r1 u2 => some (r1, u2)) else bd (FX1_roomForSmall n x1 st) (fun r4 u5 => some (r4, u5)))
set_option maxHeartbeats 4000000 in
set_option maxRecDepth 100000 in
theorem kX1_roomFor (l : Launch) (D : va_G) (h : Nat → Nat) (cI cJ cZ : ClassId) (n : Nat) (x1 : Int32) (st : St) (r : Int32) (u : St) (hF : FX1_roomFor n x1 st = some (r, u)) : Ci l yX1_roomFor cX1_roomFor 2 (some .int) 3 66 D (tyL cI cJ cZ) (wX h cI cJ cZ) st [.ref (h 1), .int x1] r u := by
  refine body_i (by decide +kernel) (Nat.le_of_ble_eq_true rfl) ?_
  intro p e s m below meth c A ls E hr hlocks hA hP hD hS hl
  have E : Env1 p s m _ c cX1_roomFor 2 RX1 D (tyL cI cJ cZ) := E
  have hl : lv_has ls 2 [(0, .ref (h 1)), (1, .int x1)] := hl
  have hx := E.1.1
  have hb := E.1.2.1
  have hml := E.1.2.2.1
  unfold FX1_roomFor at hF
  refine lv_iload_n hx hb dX1_roomFor_0 rfl (lv_at hl 1 rfl) ?_
  refine lv_aload_n hx hb dX1_roomFor_1 rfl (lv_at hl 0 rfl) ?_
  refine g_1_5 E hP dX1_roomFor_2 ?_
  refine lv_icmp_gt (tgt := 16) hx hb dX1_roomFor_5 (by decide) (fun hc => ?_) (fun hc => ?_)
  · have hF := if_t hc hF
    refine lv_aload_n hx hb dX1_roomFor_16 rfl (lv_at hl 0 rfl) ?_
    refine lv_iload_n hx hb dX1_roomFor_17 rfl (lv_at hl 1 rfl) ?_
    obtain ⟨r1, u2, hc3, hF⟩ := bd_some hF
    refine call_i (rest := []) E hA hP hD hS hl.1 (kX1_roomForLong l D h cI cJ cZ n x1 st r1 u2 hc3) cw_X1_70 1 rfl rfl rfl rfl rfl (Nat.le_of_ble_eq_true rfl) ⟨Nat.le_of_ble_eq_true rfl, Nat.le_of_ble_eq_true rfl⟩ ⟨Nat.zero_le _, Nat.zero_le _⟩ dX1_roomFor_18 (fun H locs hP hD hS => ?_)
    exact endI E hr hlocks hP hD hS dX1_roomFor_21 hF
  · have hF := if_f hc hF
    refine lv_aload_n hx hb dX1_roomFor_8 rfl (lv_at hl 0 rfl) ?_
    refine lv_iload_n hx hb dX1_roomFor_9 rfl (lv_at hl 1 rfl) ?_
    obtain ⟨r4, u5, hc6, hF⟩ := bd_some hF
    refine call_i (rest := []) E hA hP hD hS hl.1 (kX1_roomForSmall l D h cI cJ cZ n x1 st r4 u5 hc6) cw_X1_67 1 rfl rfl rfl rfl rfl (Nat.le_of_ble_eq_true rfl) ⟨Nat.le_of_ble_eq_true rfl, Nat.le_of_ble_eq_true rfl⟩ ⟨Nat.zero_le _, Nat.zero_le _⟩ dX1_roomFor_10 (fun H locs hP hD hS => ?_)
    refine lv_goto (tgt := 21) hx hb dX1_roomFor_13 (by decide) ?_
    exact endI E hr hlocks hP hD hS dX1_roomFor_21 hF
end
section
-- LooseHeap$Space.startOver
def FX1_startOver (n : Nat) (x1 x2 : Int32) (st : St) : Option (Int32 × St) := some ((0 : Int32), (pt (pt (pt (ph (pf (pf (pf st 5 (flI 4096 (0 : Int32) (st.1 5))) 6 (flI 64 (0 : Int32) ((pf st 5 (flI 4096 (0 : Int32) (st.1 5))).1 6))) 7 (flI 64 (0 : Int32) ((pf (pf st 5 (flI 4096 (0 : Int32) (st.1 5))) 6 (flI 64 (0 : Int32) ((pf st 5 (flI 4096 (0 : Int32) (st.1 5))).1 6))).1 7))) (flJ 64 (0 : Int64) (pf (pf (pf st 5 (flI 4096 (0 : Int32) (st.1 5))) 6 (flI 64 (0 : Int32) ((pf st 5 (flI 4096 (0 : Int32) (st.1 5))).1 6))) 7 (flI 64 (0 : Int32) ((pf (pf st 5 (flI 4096 (0 : Int32) (st.1 5))) 6 (flI 64 (0 : Int32) ((pf st 5 (flI 4096 (0 : Int32) (st.1 5))).1 6))).1 7))).2)) 1 4 x1) 1 5 x2) 1 6 (-1 : Int32)))
set_option maxHeartbeats 4000000 in
set_option maxRecDepth 100000 in
theorem kX1_startOver (l : Launch) (D : va_G) (h : Nat → Nat) (cI cJ cZ : ClassId) (n : Nat) (x1 x2 : Int32) (st : St) (r : Int32) (u : St) (hF : FX1_startOver n x1 x2 st = some (r, u)) : Cv l yX1_startOver cX1_startOver 3 1 40 D (tyL cI cJ cZ) (wX h cI cJ cZ) st [.ref (h 1), .int x1, .int x2] u := by
  refine body_v (by decide +kernel) (Nat.le_of_ble_eq_true rfl) ?_
  intro p e s m below meth c A ls E hr hlocks hA hP hD hS hl
  have E : Env1 p s m _ c cX1_startOver 3 RX1 D (tyL cI cJ cZ) := E
  have hl : lv_has ls 3 [(0, .ref (h 1)), (1, .int x1), (2, .int x2)] := hl
  have hx := E.1.1
  have hb := E.1.2.1
  have hml := E.1.2.2.1
  unfold FX1_startOver at hF
  refine lv_aload_n hx hb dX1_startOver_0 rfl (lv_at hl 0 rfl) ?_
  refine g_1_0 E hP dX1_startOver_1 ?_
  refine lv_iconst (v := 0) hx hb dX1_startOver_4 (by decide) ?_
  refine fill_5 E hA hP hD hS hl.1 ml_X1_35 (rest := []) (Nat.le_of_ble_eq_true rfl) ⟨Nat.le_of_ble_eq_true rfl, Nat.le_of_ble_eq_true rfl⟩ dX1_startOver_5 (fun H locs hP hD hS => ?_)
  refine lv_aload_n hx hb dX1_startOver_8 rfl (lv_at hl 0 rfl) ?_
  refine g_1_1 E hP dX1_startOver_9 ?_
  refine lv_iconst (v := 0) hx hb dX1_startOver_12 (by decide) ?_
  refine fill_6 E hA hP hD hS hl.1 ml_X1_35 (rest := []) (Nat.le_of_ble_eq_true rfl) ⟨Nat.le_of_ble_eq_true rfl, Nat.le_of_ble_eq_true rfl⟩ dX1_startOver_13 (fun H locs hP hD hS => ?_)
  refine lv_aload_n hx hb dX1_startOver_16 rfl (lv_at hl 0 rfl) ?_
  refine g_1_2 E hP dX1_startOver_17 ?_
  refine lv_iconst (v := 0) hx hb dX1_startOver_20 (by decide) ?_
  refine fill_7 E hA hP hD hS hl.1 ml_X1_35 (rest := []) (Nat.le_of_ble_eq_true rfl) ⟨Nat.le_of_ble_eq_true rfl, Nat.le_of_ble_eq_true rfl⟩ dX1_startOver_21 (fun H locs hP hD hS => ?_)
  refine lv_aload_n hx hb dX1_startOver_24 rfl (lv_at hl 0 rfl) ?_
  refine g_1_3 E hP dX1_startOver_25 ?_
  refine lv_lconst (v := 0) hx hb dX1_startOver_28 rfl ?_
  refine fill_8 E hA hP hD hS hl.1 ml_X1_41 (rest := []) (Nat.le_of_ble_eq_true rfl) ⟨Nat.le_of_ble_eq_true rfl, Nat.le_of_ble_eq_true rfl⟩ dX1_startOver_29 (fun H locs hP hD hS => ?_)
  refine lv_aload_n hx hb dX1_startOver_32 rfl (lv_at hl 0 rfl) ?_
  refine lv_iload_n hx hb dX1_startOver_33 rfl (lv_at hl 1 rfl) ?_
  refine s_1_4 E hP hD hS dX1_startOver_34 (fun H locs hP hD hS => ?_)
  refine lv_aload_n hx hb dX1_startOver_37 rfl (lv_at hl 0 rfl) ?_
  refine lv_iload_n hx hb dX1_startOver_38 rfl (lv_at hl 2 rfl) ?_
  refine s_1_5 E hP hD hS dX1_startOver_39 (fun H locs hP hD hS => ?_)
  refine lv_aload_n hx hb dX1_startOver_42 rfl (lv_at hl 0 rfl) ?_
  refine lv_iconst (v := (-1)) hx hb dX1_startOver_43 (by decide) ?_
  refine s_1_6 E hP hD hS dX1_startOver_44 (fun H locs hP hD hS => ?_)
  exact endV E hr hlocks hP hD hS dX1_startOver_47 hF
-- LooseHeap$Space.objectsOf
def FX1_objectsOf (n : Nat) (x1 : Int32) (st : St) : Option (Int32 × St) := gd x1 64 (some ((bct (st.2 x1.toNatClampNeg)), st))
set_option maxHeartbeats 4000000 in
set_option maxRecDepth 100000 in
theorem kX1_objectsOf (l : Launch) (D : va_G) (h : Nat → Nat) (cI cJ cZ : ClassId) (n : Nat) (x1 : Int32) (st : St) (r : Int32) (u : St) (hF : FX1_objectsOf n x1 st = some (r, u)) : Ci l yX1_objectsOf cX1_objectsOf 2 (some .int) 1 60 D (tyL cI cJ cZ) (wX h cI cJ cZ) st [.ref (h 1), .int x1] r u := by
  refine body_i (by decide +kernel) (Nat.le_of_ble_eq_true rfl) ?_
  intro p e s m below meth c A ls E hr hlocks hA hP hD hS hl
  have E : Env1 p s m _ c cX1_objectsOf 2 RX1 D (tyL cI cJ cZ) := E
  have hl : lv_has ls 2 [(0, .ref (h 1)), (1, .int x1)] := hl
  have hx := E.1.1
  have hb := E.1.2.1
  have hml := E.1.2.2.1
  unfold FX1_objectsOf at hF
  refine lv_aload_n hx hb dX1_objectsOf_0 rfl (lv_at hl 0 rfl) ?_
  refine g_1_3 E hP dX1_objectsOf_1 ?_
  refine lv_iload_n hx hb dX1_objectsOf_4 rfl (lv_at hl 1 rfl) ?_
  obtain ⟨hi1, hF⟩ := gd_some hF
  refine la_8 E hP hi1 dX1_objectsOf_5 ?_
  refine bitc E hA hP hD hS hl.1 ml_X1_48 (rest := []) (Nat.le_of_ble_eq_true rfl) ⟨Nat.le_of_ble_eq_true rfl, Nat.le_of_ble_eq_true rfl⟩ dX1_objectsOf_6 (fun H locs hP hD hS => ?_)
  exact endI E hr hlocks hP hD hS dX1_objectsOf_9 hF
theorem cw_X1_54 : cwd RX1 54 RX1 yX1_objectsOf cX1_objectsOf 2 (some .int) 1 := ⟨tb_V (tb_in 424 (by decide +kernel) (by decide +kernel)) (tb_in 397 (by decide +kernel) (by decide +kernel)) (tb_in 398 (by decide +kernel) (by decide +kernel)) (tb_in 46 (by decide +kernel) (by decide +kernel)) (tb_in 399 (by decide +kernel) (by decide +kernel)), by decide +kernel⟩
-- LooseHeap$Space.allObjects
def LX1_allObjects_4 : Nat → Int32 → Int32 → St → Option (Int32 × St)
  | 0 => fun _ _ _ => none
  | n + 1 => fun x1 x2 st => (if (st.1 1 4) ≤ x2 then some (x1, st) else bd (FX1_objectsOf n x2 st) (fun r1 u2 => LX1_allObjects_4 n (x1 + r1) (x2 + (1 : Int32)) u2))
set_option maxHeartbeats 4000000 in
set_option maxRecDepth 100000 in
theorem lX1_allObjects_4 {l : Launch} {D : va_G} {h : Nat → Nat} {cI cJ cZ : ClassId} {p : Program} {e : Env} {s : State} {m : MethodId} {args : Array Value} {below : List Frame} {meth : Method} {c : Code} {A : Nat → Prop} {r : Int32} {u : St} (E : Env1 p s m args c cX1_allObjects 3 RX1 D (tyL cI cJ cZ)) (hr : meth.sig.returnType = some .int) (hlocks : meth.locks = false) (hA : ∀ q : Nat, s.heap.size ≤ q → A q) : ∀ (n : Nat) (x1 x2 : Int32) (st : St) (H : Heap) (locs : List Loc) (ls : Array Slot), va_P D vwCl (wX h cI cJ cZ st) H → va_D A (wX h cI cJ cZ st) → va_S A s.heap H locs → lv_has ls 3 [(0, .ref (h 1)), (1, .int x1), (2, .int x2)] → LX1_allObjects_4 n x1 x2 st = some (r, u) → W p l e (rm 2 81) s m args below meth c H locs 0 0 (MQ below (CQ D (tyL cI cJ cZ) (wX h cI cJ cZ) A r u) args s 0 0 A) (F0 m 4 ls []) := by
  have hx := E.1.1
  have hb := E.1.2.1
  have hml := E.1.2.2.1
  intro n
  induction n with
  | zero => intro x1 x2 st H locs ls hP hD hS hl hF; simp only [LX1_allObjects_4] at hF; cases hF
  | succ n ih =>
    intro x1 x2 st H locs ls hP hD hS hl hF
    simp only [LX1_allObjects_4] at hF
    refine lv_iload_n hx hb dX1_allObjects_4 rfl (lv_at hl 2 rfl) ?_
    refine lv_aload_n hx hb dX1_allObjects_5 rfl (lv_at hl 0 rfl) ?_
    refine g_1_4 E hP dX1_allObjects_6 ?_
    refine lv_icmp_ge (tgt := 26) hx hb dX1_allObjects_9 (by decide) (fun hc => ?_) (fun hc => ?_)
    · have hF := if_t hc hF
      refine lv_iload_n hx hb dX1_allObjects_26 rfl (lv_at hl 1 rfl) ?_
      exact endI E hr hlocks hP hD hS dX1_allObjects_27 hF
    · have hF := if_f hc hF
      refine lv_iload_n hx hb dX1_allObjects_12 rfl (lv_at hl 1 rfl) ?_
      refine lv_aload_n hx hb dX1_allObjects_13 rfl (lv_at hl 0 rfl) ?_
      refine lv_iload_n hx hb dX1_allObjects_14 rfl (lv_at hl 2 rfl) ?_
      obtain ⟨r1, u2, hc3, hF⟩ := bd_some hF
      refine call_i (rest := [.int x1]) E hA hP hD hS hl.1 (kX1_objectsOf l D h cI cJ cZ n x2 st r1 u2 hc3) cw_X1_54 1 rfl rfl rfl rfl rfl (Nat.le_of_ble_eq_true rfl) ⟨Nat.le_of_ble_eq_true rfl, Nat.le_of_ble_eq_true rfl⟩ ⟨Nat.zero_le _, Nat.zero_le _⟩ dX1_allObjects_15 (fun H locs hP hD hS => ?_)
      refine lv_iadd hx hb dX1_allObjects_18 ?_
      refine lv_istore_n (lv' := [(1, .int (x1 + r1)), (0, .ref (h 1)), (2, .int x2)]) hx hb dX1_allObjects_19 rfl hl (by decide) rfl (fun ls hl => ?_)
      refine lv_iinc (v := (x2 + (1 : Int32))) (lv' := [(2, .int (x2 + (1 : Int32))), (1, .int (x1 + r1)), (0, .ref (h 1))]) hx hb dX1_allObjects_20 hl (k := 2) rfl rfl (by decide) rfl (fun ls hl => ?_)
      refine lv_goto (tgt := 4) hx hb dX1_allObjects_23 (by decide) ?_
      exact ih _ _ _ _ _ _ hP hD hS (lv_sub hl [2, 1, 0] rfl) hF
def FX1_allObjects (n : Nat) (st : St) : Option (Int32 × St) := LX1_allObjects_4 n (0 : Int32) (0 : Int32) st
set_option maxHeartbeats 4000000 in
set_option maxRecDepth 100000 in
theorem kX1_allObjects (l : Launch) (D : va_G) (h : Nat → Nat) (cI cJ cZ : ClassId) (n : Nat) (st : St) (r : Int32) (u : St) (hF : FX1_allObjects n  st = some (r, u)) : Ci l yX1_allObjects cX1_allObjects 3 (some .int) 2 81 D (tyL cI cJ cZ) (wX h cI cJ cZ) st [.ref (h 1)] r u := by
  refine body_i (by decide +kernel) (Nat.le_of_ble_eq_true rfl) ?_
  intro p e s m below meth c A ls E hr hlocks hA hP hD hS hl
  have E : Env1 p s m _ c cX1_allObjects 3 RX1 D (tyL cI cJ cZ) := E
  have hl : lv_has ls 3 [(0, .ref (h 1))] := hl
  have hx := E.1.1
  have hb := E.1.2.1
  have hml := E.1.2.2.1
  unfold FX1_allObjects at hF
  refine lv_iconst (v := 0) hx hb dX1_allObjects_0 (by decide) ?_
  refine lv_istore_n (lv' := [(1, .int (0 : Int32)), (0, .ref (h 1))]) hx hb dX1_allObjects_1 rfl hl (by decide) rfl (fun ls hl => ?_)
  refine lv_iconst (v := 0) hx hb dX1_allObjects_2 (by decide) ?_
  refine lv_istore_n (lv' := [(2, .int (0 : Int32)), (1, .int (0 : Int32)), (0, .ref (h 1))]) hx hb dX1_allObjects_3 rfl hl (by decide) rfl (fun ls hl => ?_)
  exact lX1_allObjects_4 E hr hlocks hA n (0 : Int32) (0 : Int32) st _ _ _ hP hD hS (lv_sub hl [2, 1, 0] rfl) hF
theorem cw_X1_94 : cwd RX1 94 RX1 yX1_pageOf cX1_pageOf 2 (some .int) 1 := ⟨tb_V (tb_in 319 (by decide +kernel) (by decide +kernel)) (tb_in 213 (by decide +kernel) (by decide +kernel)) (tb_in 214 (by decide +kernel) (by decide +kernel)) (tb_in 46 (by decide +kernel) (by decide +kernel)) (tb_in 215 (by decide +kernel) (by decide +kernel)), by decide +kernel⟩
-- LooseHeap$Space.enterSmall
def FX1_enterSmall (n : Nat) (x1 x2 : Int32) (st : St) : Option (Int32 × St) := bd (FX1_pageOf n x1 st) (fun r1 u2 => gd r1 64 (gd r1 64 (gd r1 64 (gd r1 64 (dz ((pt (pt u2 6 r1.toNatClampNeg (1 : Int32)) 7 r1.toNatClampNeg (((pt u2 6 r1.toNatClampNeg (1 : Int32)).1 7 r1.toNatClampNeg) + x2)).1 1 5) (gd r1 64 (some ((0 : Int32), (pg (pt (pt u2 6 r1.toNatClampNeg (1 : Int32)) 7 r1.toNatClampNeg (((pt u2 6 r1.toNatClampNeg (1 : Int32)).1 7 r1.toNatClampNeg) + x2)) r1.toNatClampNeg (((pt (pt u2 6 r1.toNatClampNeg (1 : Int32)) 7 r1.toNatClampNeg (((pt u2 6 r1.toNatClampNeg (1 : Int32)).1 7 r1.toNatClampNeg) + x2)).2 r1.toNatClampNeg) ||| ((1 : Int64) <<< ((x1 - x1 / ((pt (pt u2 6 r1.toNatClampNeg (1 : Int32)) 7 r1.toNatClampNeg (((pt u2 6 r1.toNatClampNeg (1 : Int32)).1 7 r1.toNatClampNeg) + x2)).1 1 5) * ((pt (pt u2 6 r1.toNatClampNeg (1 : Int32)) 7 r1.toNatClampNeg (((pt u2 6 r1.toNatClampNeg (1 : Int32)).1 7 r1.toNatClampNeg) + x2)).1 1 5)).toInt64 &&& 63))))))))))))
set_option maxHeartbeats 4000000 in
set_option maxRecDepth 100000 in
theorem kX1_enterSmall (l : Launch) (D : va_G) (h : Nat → Nat) (cI cJ cZ : ClassId) (n : Nat) (x1 x2 : Int32) (st : St) (r : Int32) (u : St) (hF : FX1_enterSmall n x1 x2 st = some (r, u)) : Cv l yX1_enterSmall cX1_enterSmall 4 1 21 D (tyL cI cJ cZ) (wX h cI cJ cZ) st [.ref (h 1), .int x1, .int x2] u := by
  refine body_v (by decide +kernel) (Nat.le_of_ble_eq_true rfl) ?_
  intro p e s m below meth c A ls E hr hlocks hA hP hD hS hl
  have E : Env1 p s m _ c cX1_enterSmall 4 RX1 D (tyL cI cJ cZ) := E
  have hl : lv_has ls 4 [(0, .ref (h 1)), (1, .int x1), (2, .int x2)] := hl
  have hx := E.1.1
  have hb := E.1.2.1
  have hml := E.1.2.2.1
  unfold FX1_enterSmall at hF
  refine lv_aload_n hx hb dX1_enterSmall_0 rfl (lv_at hl 0 rfl) ?_
  refine lv_iload_n hx hb dX1_enterSmall_1 rfl (lv_at hl 1 rfl) ?_
  obtain ⟨r1, u2, hc3, hF⟩ := bd_some hF
  refine call_i (rest := []) E hA hP hD hS hl.1 (kX1_pageOf l D h cI cJ cZ n x1 st r1 u2 hc3) cw_X1_94 1 rfl rfl rfl rfl rfl (Nat.le_of_ble_eq_true rfl) ⟨Nat.le_of_ble_eq_true rfl, Nat.le_of_ble_eq_true rfl⟩ ⟨Nat.zero_le _, Nat.zero_le _⟩ dX1_enterSmall_2 (fun H locs hP hD hS => ?_)
  refine lv_istore_n (lv' := [(3, .int r1), (0, .ref (h 1)), (1, .int x1), (2, .int x2)]) hx hb dX1_enterSmall_5 rfl hl (by decide) rfl (fun ls hl => ?_)
  refine lv_aload_n hx hb dX1_enterSmall_6 rfl (lv_at hl 1 rfl) ?_
  refine g_1_1 E hP dX1_enterSmall_7 ?_
  refine lv_iload_n hx hb dX1_enterSmall_10 rfl (lv_at hl 0 rfl) ?_
  refine lv_iconst (v := 1) hx hb dX1_enterSmall_11 (by decide) ?_
  obtain ⟨hi4, hF⟩ := gd_some hF
  refine sa_6 E hP hD hS hi4 dX1_enterSmall_12 (fun H locs hP hD hS => ?_)
  refine lv_aload_n hx hb dX1_enterSmall_13 rfl (lv_at hl 1 rfl) ?_
  refine g_1_2 E hP dX1_enterSmall_14 ?_
  refine lv_iload_n hx hb dX1_enterSmall_17 rfl (lv_at hl 0 rfl) ?_
  refine lv_dup2_11 hx hb dX1_enterSmall_18 rfl rfl ?_
  obtain ⟨hi5, hF⟩ := gd_some hF
  refine la_7 E hP hi5 dX1_enterSmall_19 ?_
  refine lv_iload_n hx hb dX1_enterSmall_20 rfl (lv_at hl 3 rfl) ?_
  refine lv_iadd hx hb dX1_enterSmall_21 ?_
  obtain ⟨hi6, hF⟩ := gd_some hF
  refine sa_7 E hP hD hS hi6 dX1_enterSmall_22 (fun H locs hP hD hS => ?_)
  refine lv_aload_n hx hb dX1_enterSmall_23 rfl (lv_at hl 1 rfl) ?_
  refine g_1_3 E hP dX1_enterSmall_24 ?_
  refine lv_iload_n hx hb dX1_enterSmall_27 rfl (lv_at hl 0 rfl) ?_
  refine lv_dup2_11 hx hb dX1_enterSmall_28 rfl rfl ?_
  obtain ⟨hi7, hF⟩ := gd_some hF
  refine la_8 E hP hi7 dX1_enterSmall_29 ?_
  refine lv_lconst (v := 1) hx hb dX1_enterSmall_30 rfl ?_
  refine lv_iload_n hx hb dX1_enterSmall_31 rfl (lv_at hl 2 rfl) ?_
  refine lv_aload_n hx hb dX1_enterSmall_32 rfl (lv_at hl 1 rfl) ?_
  refine g_1_5 E hP dX1_enterSmall_33 ?_
  obtain ⟨hz8, hF⟩ := dz_some hF
  refine lv_irem hx hb dX1_enterSmall_36 hz8 ?_
  refine lv_lshl hx hb dX1_enterSmall_37 rfl ?_
  refine lv_lor hx hb dX1_enterSmall_38 ?_
  obtain ⟨hi9, hF⟩ := gd_some hF
  refine sa_8 E hP hD hS hi9 dX1_enterSmall_39 (fun H locs hP hD hS => ?_)
  exact endV E hr hlocks hP hD hS dX1_enterSmall_40 hF
-- LooseHeap$Space.enterLong
def LX1_enterLong_5 : Nat → Int32 → Int32 → Int32 → Int32 → St → Option (Int32 × St)
  | 0 => fun _ _ _ _ _ => none
  | n + 1 => fun x1 x2 x3 x4 st => (if (st.1 1 4) ≤ x4 then gd x1 64 (some ((0 : Int32), (pg st x1.toNatClampNeg (1 : Int64)))) else (if x3 ≤ 0 then gd x1 64 (some ((0 : Int32), (pg st x1.toNatClampNeg (1 : Int64)))) else (if x4 = x1 then gd x4 64 (gd x4 64 (LX1_enterLong_5 n x1 x2 (x3 - ((pt (pt st 6 x4.toNatClampNeg (2 : Int32)) 7 x4.toNatClampNeg (if ((pt st 6 x4.toNatClampNeg (2 : Int32)).1 1 5) < x3 then ((pt st 6 x4.toNatClampNeg (2 : Int32)).1 1 5) else x3)).1 1 5)) (x4 + (1 : Int32)) (pt (pt st 6 x4.toNatClampNeg (2 : Int32)) 7 x4.toNatClampNeg (if ((pt st 6 x4.toNatClampNeg (2 : Int32)).1 1 5) < x3 then ((pt st 6 x4.toNatClampNeg (2 : Int32)).1 1 5) else x3)))) else gd x4 64 (gd x4 64 (LX1_enterLong_5 n x1 x2 (x3 - ((pt (pt st 6 x4.toNatClampNeg (3 : Int32)) 7 x4.toNatClampNeg (if ((pt st 6 x4.toNatClampNeg (3 : Int32)).1 1 5) < x3 then ((pt st 6 x4.toNatClampNeg (3 : Int32)).1 1 5) else x3)).1 1 5)) (x4 + (1 : Int32)) (pt (pt st 6 x4.toNatClampNeg (3 : Int32)) 7 x4.toNatClampNeg (if ((pt st 6 x4.toNatClampNeg (3 : Int32)).1 1 5) < x3 then ((pt st 6 x4.toNatClampNeg (3 : Int32)).1 1 5) else x3)))))))
set_option maxHeartbeats 4000000 in
set_option maxRecDepth 100000 in
theorem lX1_enterLong_5 {l : Launch} {D : va_G} {h : Nat → Nat} {cI cJ cZ : ClassId} {p : Program} {e : Env} {s : State} {m : MethodId} {args : Array Value} {below : List Frame} {meth : Method} {c : Code} {A : Nat → Prop} {r : Int32} {u : St} (E : Env1 p s m args c cX1_enterLong 5 RX1 D (tyL cI cJ cZ)) (hr : meth.sig.returnType = none) (hlocks : meth.locks = false) (hA : ∀ q : Nat, s.heap.size ≤ q → A q) : ∀ (n : Nat) (x1 x2 x3 x4 : Int32) (st : St) (H : Heap) (locs : List Loc) (ls : Array Slot), va_P D vwCl (wX h cI cJ cZ st) H → va_D A (wX h cI cJ cZ st) → va_S A s.heap H locs → lv_has ls 5 [(0, .ref (h 1)), (1, .int x1), (2, .int x2), (3, .int x3), (4, .int x4)] → LX1_enterLong_5 n x1 x2 x3 x4 st = some (r, u) → W p l e (rm 1 40) s m args below meth c H locs 0 0 (MQ below (CQv D (tyL cI cJ cZ) (wX h cI cJ cZ) A u) args s 0 0 A) (F0 m 5 ls []) := by
  have hx := E.1.1
  have hb := E.1.2.1
  have hml := E.1.2.2.1
  intro n
  induction n with
  | zero => intro x1 x2 x3 x4 st H locs ls hP hD hS hl hF; simp only [LX1_enterLong_5] at hF; cases hF
  | succ n ih =>
    intro x1 x2 x3 x4 st H locs ls hP hD hS hl hF
    simp only [LX1_enterLong_5] at hF
    refine lv_iload hx hb dX1_enterLong_5 (lv_at hl 4 rfl) ?_
    refine lv_aload_n hx hb dX1_enterLong_7 rfl (lv_at hl 0 rfl) ?_
    refine g_1_4 E hP dX1_enterLong_8 ?_
    refine lv_icmp_ge (tgt := 64) hx hb dX1_enterLong_11 (by decide) (fun hc => ?_) (fun hc => ?_)
    · have hF := if_t hc hF
      refine lv_aload_n hx hb dX1_enterLong_64 rfl (lv_at hl 0 rfl) ?_
      refine g_1_3 E hP dX1_enterLong_65 ?_
      refine lv_iload_n hx hb dX1_enterLong_68 rfl (lv_at hl 1 rfl) ?_
      refine lv_lconst (v := 1) hx hb dX1_enterLong_69 rfl ?_
      obtain ⟨hi1, hF⟩ := gd_some hF
      refine sa_8 E hP hD hS hi1 dX1_enterLong_70 (fun H locs hP hD hS => ?_)
      exact endV E hr hlocks hP hD hS dX1_enterLong_71 hF
    · have hF := if_f hc hF
      refine lv_iload_n hx hb dX1_enterLong_14 rfl (lv_at hl 3 rfl) ?_
      refine lv_if_le (tgt := 64) hx hb dX1_enterLong_15 (by decide) (fun hc => ?_) (fun hc => ?_)
      · have hF := if_t hc hF
        refine lv_aload_n hx hb dX1_enterLong_64 rfl (lv_at hl 0 rfl) ?_
        refine g_1_3 E hP dX1_enterLong_65 ?_
        refine lv_iload_n hx hb dX1_enterLong_68 rfl (lv_at hl 1 rfl) ?_
        refine lv_lconst (v := 1) hx hb dX1_enterLong_69 rfl ?_
        obtain ⟨hi2, hF⟩ := gd_some hF
        refine sa_8 E hP hD hS hi2 dX1_enterLong_70 (fun H locs hP hD hS => ?_)
        exact endV E hr hlocks hP hD hS dX1_enterLong_71 hF
      · have hF := if_f hc hF
        refine lv_aload_n hx hb dX1_enterLong_18 rfl (lv_at hl 0 rfl) ?_
        refine g_1_1 E hP dX1_enterLong_19 ?_
        refine lv_iload hx hb dX1_enterLong_22 (lv_at hl 4 rfl) ?_
        refine lv_iload hx hb dX1_enterLong_24 (lv_at hl 4 rfl) ?_
        refine lv_iload_n hx hb dX1_enterLong_26 rfl (lv_at hl 1 rfl) ?_
        refine lv_icmp_ne (tgt := 34) hx hb dX1_enterLong_27 (by decide) (fun hc => ?_) (fun hc => ?_)
        · have hF := if_f hc hF
          refine lv_iconst (v := 3) hx hb dX1_enterLong_34 (by decide) ?_
          obtain ⟨hi3, hF⟩ := gd_some hF
          refine sa_6 E hP hD hS hi3 dX1_enterLong_35 (fun H locs hP hD hS => ?_)
          refine lv_aload_n hx hb dX1_enterLong_36 rfl (lv_at hl 0 rfl) ?_
          refine g_1_2 E hP dX1_enterLong_37 ?_
          refine lv_iload hx hb dX1_enterLong_40 (lv_at hl 4 rfl) ?_
          refine lv_iload_n hx hb dX1_enterLong_42 rfl (lv_at hl 3 rfl) ?_
          refine lv_aload_n hx hb dX1_enterLong_43 rfl (lv_at hl 0 rfl) ?_
          refine g_1_5 E hP dX1_enterLong_44 ?_
          refine va_mmin hx hb (hml.trans hl.1.symm) E.1.2.2.2.1 (E.1.2.2.2.2 _ ml_X1_110) (E.1.2.2.2.2 _ mm_st) (E.1.2.2.2.2 _ mm_in) (E.1.2.2.2.2 _ mm_co) (Nat.le_of_ble_eq_true rfl) (Nat.le_of_ble_eq_true rfl) (Nat.zero_le _) (Nat.zero_le _) dX1_enterLong_47 ?_
          obtain ⟨hi4, hF⟩ := gd_some hF
          refine sa_7 E hP hD hS hi4 dX1_enterLong_50 (fun H locs hP hD hS => ?_)
          refine lv_iload_n hx hb dX1_enterLong_51 rfl (lv_at hl 3 rfl) ?_
          refine lv_aload_n hx hb dX1_enterLong_52 rfl (lv_at hl 0 rfl) ?_
          refine g_1_5 E hP dX1_enterLong_53 ?_
          refine lv_isub hx hb dX1_enterLong_56 ?_
          refine lv_istore_n (lv' := [(3, .int (x3 - ((pt (pt st 6 x4.toNatClampNeg (3 : Int32)) 7 x4.toNatClampNeg (if ((pt st 6 x4.toNatClampNeg (3 : Int32)).1 1 5) < x3 then ((pt st 6 x4.toNatClampNeg (3 : Int32)).1 1 5) else x3)).1 1 5))), (0, .ref (h 1)), (1, .int x1), (2, .int x2), (4, .int x4)]) hx hb dX1_enterLong_57 rfl hl (by decide) rfl (fun ls hl => ?_)
          refine lv_iinc (v := (x4 + (1 : Int32))) (lv' := [(4, .int (x4 + (1 : Int32))), (3, .int (x3 - ((pt (pt st 6 x4.toNatClampNeg (3 : Int32)) 7 x4.toNatClampNeg (if ((pt st 6 x4.toNatClampNeg (3 : Int32)).1 1 5) < x3 then ((pt st 6 x4.toNatClampNeg (3 : Int32)).1 1 5) else x3)).1 1 5))), (0, .ref (h 1)), (1, .int x1), (2, .int x2)]) hx hb dX1_enterLong_58 hl (k := 4) rfl rfl (by decide) rfl (fun ls hl => ?_)
          refine lv_goto (tgt := 5) hx hb dX1_enterLong_61 (by decide) ?_
          exact ih _ _ _ _ _ _ _ _ hP hD hS (lv_sub hl [2, 3, 4, 1, 0] rfl) hF
        · have hF := if_t hc hF
          refine lv_iconst (v := 2) hx hb dX1_enterLong_30 (by decide) ?_
          refine lv_goto (tgt := 35) hx hb dX1_enterLong_31 (by decide) ?_
          obtain ⟨hi5, hF⟩ := gd_some hF
          refine sa_6 E hP hD hS hi5 dX1_enterLong_35 (fun H locs hP hD hS => ?_)
          refine lv_aload_n hx hb dX1_enterLong_36 rfl (lv_at hl 0 rfl) ?_
          refine g_1_2 E hP dX1_enterLong_37 ?_
          refine lv_iload hx hb dX1_enterLong_40 (lv_at hl 4 rfl) ?_
          refine lv_iload_n hx hb dX1_enterLong_42 rfl (lv_at hl 3 rfl) ?_
          refine lv_aload_n hx hb dX1_enterLong_43 rfl (lv_at hl 0 rfl) ?_
          refine g_1_5 E hP dX1_enterLong_44 ?_
          refine va_mmin hx hb (hml.trans hl.1.symm) E.1.2.2.2.1 (E.1.2.2.2.2 _ ml_X1_110) (E.1.2.2.2.2 _ mm_st) (E.1.2.2.2.2 _ mm_in) (E.1.2.2.2.2 _ mm_co) (Nat.le_of_ble_eq_true rfl) (Nat.le_of_ble_eq_true rfl) (Nat.zero_le _) (Nat.zero_le _) dX1_enterLong_47 ?_
          obtain ⟨hi6, hF⟩ := gd_some hF
          refine sa_7 E hP hD hS hi6 dX1_enterLong_50 (fun H locs hP hD hS => ?_)
          refine lv_iload_n hx hb dX1_enterLong_51 rfl (lv_at hl 3 rfl) ?_
          refine lv_aload_n hx hb dX1_enterLong_52 rfl (lv_at hl 0 rfl) ?_
          refine g_1_5 E hP dX1_enterLong_53 ?_
          refine lv_isub hx hb dX1_enterLong_56 ?_
          refine lv_istore_n (lv' := [(3, .int (x3 - ((pt (pt st 6 x4.toNatClampNeg (2 : Int32)) 7 x4.toNatClampNeg (if ((pt st 6 x4.toNatClampNeg (2 : Int32)).1 1 5) < x3 then ((pt st 6 x4.toNatClampNeg (2 : Int32)).1 1 5) else x3)).1 1 5))), (0, .ref (h 1)), (1, .int x1), (2, .int x2), (4, .int x4)]) hx hb dX1_enterLong_57 rfl hl (by decide) rfl (fun ls hl => ?_)
          refine lv_iinc (v := (x4 + (1 : Int32))) (lv' := [(4, .int (x4 + (1 : Int32))), (3, .int (x3 - ((pt (pt st 6 x4.toNatClampNeg (2 : Int32)) 7 x4.toNatClampNeg (if ((pt st 6 x4.toNatClampNeg (2 : Int32)).1 1 5) < x3 then ((pt st 6 x4.toNatClampNeg (2 : Int32)).1 1 5) else x3)).1 1 5))), (0, .ref (h 1)), (1, .int x1), (2, .int x2)]) hx hb dX1_enterLong_58 hl (k := 4) rfl rfl (by decide) rfl (fun ls hl => ?_)
          refine lv_goto (tgt := 5) hx hb dX1_enterLong_61 (by decide) ?_
          exact ih _ _ _ _ _ _ _ _ hP hD hS (lv_sub hl [2, 3, 4, 1, 0] rfl) hF
def FX1_enterLong (n : Nat) (x1 x2 : Int32) (st : St) : Option (Int32 × St) := LX1_enterLong_5 n x1 x2 x2 x1 st
set_option maxHeartbeats 4000000 in
set_option maxRecDepth 100000 in
theorem kX1_enterLong (l : Launch) (D : va_G) (h : Nat → Nat) (cI cJ cZ : ClassId) (n : Nat) (x1 x2 : Int32) (st : St) (r : Int32) (u : St) (hF : FX1_enterLong n x1 x2 st = some (r, u)) : Cv l yX1_enterLong cX1_enterLong 5 1 40 D (tyL cI cJ cZ) (wX h cI cJ cZ) st [.ref (h 1), .int x1, .int x2] u := by
  refine body_v (by decide +kernel) (Nat.le_of_ble_eq_true rfl) ?_
  intro p e s m below meth c A ls E hr hlocks hA hP hD hS hl
  have E : Env1 p s m _ c cX1_enterLong 5 RX1 D (tyL cI cJ cZ) := E
  have hl : lv_has ls 5 [(0, .ref (h 1)), (1, .int x1), (2, .int x2)] := hl
  have hx := E.1.1
  have hb := E.1.2.1
  have hml := E.1.2.2.1
  unfold FX1_enterLong at hF
  refine lv_iload_n hx hb dX1_enterLong_0 rfl (lv_at hl 2 rfl) ?_
  refine lv_istore_n (lv' := [(3, .int x2), (0, .ref (h 1)), (1, .int x1), (2, .int x2)]) hx hb dX1_enterLong_1 rfl hl (by decide) rfl (fun ls hl => ?_)
  refine lv_iload_n hx hb dX1_enterLong_2 rfl (lv_at hl 2 rfl) ?_
  refine lv_istore (lv' := [(4, .int x1), (3, .int x2), (0, .ref (h 1)), (1, .int x1), (2, .int x2)]) hx hb dX1_enterLong_3 hl (by decide) rfl (fun ls hl => ?_)
  exact lX1_enterLong_5 E hr hlocks hA n x1 x2 x2 x1 st _ _ _ hP hD hS (lv_sub hl [2, 3, 4, 1, 0] rfl) hF
theorem cw_X1_90 : cwd RX1 90 RX1 yX1_enterSmall cX1_enterSmall 4 none 2 := ⟨tb_V (tb_in 315 (by decide +kernel) (by decide +kernel)) (tb_in 317 (by decide +kernel) (by decide +kernel)) (tb_in 13 (by decide +kernel) (by decide +kernel)) (tb_in 46 (by decide +kernel) (by decide +kernel)) (tb_in 318 (by decide +kernel) (by decide +kernel)), by decide +kernel⟩
theorem cw_X1_97 : cwd RX1 97 RX1 yX1_enterLong cX1_enterLong 5 none 2 := ⟨tb_V (tb_in 573 (by decide +kernel) (by decide +kernel)) (tb_in 575 (by decide +kernel) (by decide +kernel)) (tb_in 23 (by decide +kernel) (by decide +kernel)) (tb_in 46 (by decide +kernel) (by decide +kernel)) (tb_in 576 (by decide +kernel) (by decide +kernel)), by decide +kernel⟩
theorem cw_X1_100 : cwd RX1 100 RX1 yX1_setRef cX1_setRef 4 none 3 := ⟨tb_V (tb_in 580 (by decide +kernel) (by decide +kernel)) (tb_in 328 (by decide +kernel) (by decide +kernel)) (tb_in 329 (by decide +kernel) (by decide +kernel)) (tb_in 46 (by decide +kernel) (by decide +kernel)) (tb_in 330 (by decide +kernel) (by decide +kernel)), by decide +kernel⟩
-- LooseHeap$Space.putNew
def LX1_putNew_62 : Nat → Int32 → Int32 → Int32 → Int32 → St → Option (Int32 × St)
  | 0 => fun _ _ _ _ _ => none
  | n + 1 => fun x1 x2 x3 x5 st => (if x2 ≤ x5 then some ((0 : Int32), st) else bd (FX1_setRef n x1 x5 (-1 : Int32) st) (fun r8 u9 => LX1_putNew_62 n x1 x2 x3 (x5 + (1 : Int32)) u9))
set_option maxHeartbeats 4000000 in
set_option maxRecDepth 100000 in
theorem lX1_putNew_62 {l : Launch} {D : va_G} {h : Nat → Nat} {cI cJ cZ : ClassId} {p : Program} {e : Env} {s : State} {m : MethodId} {args : Array Value} {below : List Frame} {meth : Method} {c : Code} {A : Nat → Prop} {r : Int32} {u : St} (E : Env1 p s m args c cX1_putNew 6 RX1 D (tyL cI cJ cZ)) (hr : meth.sig.returnType = none) (hlocks : meth.locks = false) (hA : ∀ q : Nat, s.heap.size ≤ q → A q) : ∀ (n : Nat) (x1 x2 x3 x5 : Int32) (st : St) (H : Heap) (locs : List Loc) (ls : Array Slot), va_P D vwCl (wX h cI cJ cZ st) H → va_D A (wX h cI cJ cZ st) → va_S A s.heap H locs → lv_has ls 6 [(0, .ref (h 1)), (1, .int x1), (2, .int x2), (3, .int x3), (5, .int x5)] → LX1_putNew_62 n x1 x2 x3 x5 st = some (r, u) → W p l e (rm 2 64) s m args below meth c H locs 0 0 (MQ below (CQv D (tyL cI cJ cZ) (wX h cI cJ cZ) A u) args s 0 0 A) (F0 m 62 ls []) := by
  have hx := E.1.1
  have hb := E.1.2.1
  have hml := E.1.2.2.1
  intro n
  induction n with
  | zero => intro x1 x2 x3 x5 st H locs ls hP hD hS hl hF; simp only [LX1_putNew_62] at hF; cases hF
  | succ n ih =>
    intro x1 x2 x3 x5 st H locs ls hP hD hS hl hF
    simp only [LX1_putNew_62] at hF
    refine lv_iload hx hb dX1_putNew_62 (lv_at hl 4 rfl) ?_
    refine lv_iload_n hx hb dX1_putNew_64 rfl (lv_at hl 2 rfl) ?_
    refine lv_icmp_ge (tgt := 82) hx hb dX1_putNew_65 (by decide) (fun hc => ?_) (fun hc => ?_)
    · have hF := if_t hc hF
      exact endV E hr hlocks hP hD hS dX1_putNew_82 hF
    · have hF := if_f hc hF
      refine lv_aload_n hx hb dX1_putNew_68 rfl (lv_at hl 0 rfl) ?_
      refine lv_iload_n hx hb dX1_putNew_69 rfl (lv_at hl 1 rfl) ?_
      refine lv_iload hx hb dX1_putNew_70 (lv_at hl 4 rfl) ?_
      refine lv_iconst (v := (-1)) hx hb dX1_putNew_72 (by decide) ?_
      obtain ⟨r8, u9, hc10, hF⟩ := bd_some hF
      refine call_v (rest := []) E hA hP hD hS hl.1 (kX1_setRef l D h cI cJ cZ n x1 x5 (-1 : Int32) st r8 u9 hc10) cw_X1_100 1 rfl rfl rfl rfl rfl (Nat.le_of_ble_eq_true rfl) ⟨Nat.le_of_ble_eq_true rfl, Nat.le_of_ble_eq_true rfl⟩ ⟨Nat.zero_le _, Nat.zero_le _⟩ dX1_putNew_73 (fun H locs hP hD hS => ?_)
      refine lv_iinc (v := (x5 + (1 : Int32))) (lv' := [(5, .int (x5 + (1 : Int32))), (0, .ref (h 1)), (1, .int x1), (2, .int x2), (3, .int x3)]) hx hb dX1_putNew_76 hl (k := 4) rfl rfl (by decide) rfl (fun ls hl => ?_)
      refine lv_goto (tgt := 62) hx hb dX1_putNew_79 (by decide) ?_
      exact ih _ _ _ _ _ _ _ _ hP hD hS (lv_sub hl [1, 2, 3, 4, 0] rfl) hF
def JX1_putNew_46 (n : Nat) (x1 x2 x3 : Int32) (st : St) : Option (Int32 × St) := gd x1 4096 (LX1_putNew_62 n x1 x2 x3 (0 : Int32) (pt st 5 x1.toNatClampNeg (((256 : Int32) * x2) + x3)))
set_option maxHeartbeats 4000000 in
set_option maxRecDepth 100000 in
theorem jX1_putNew_46 {l : Launch} {D : va_G} {h : Nat → Nat} {cI cJ cZ : ClassId} {p : Program} {e : Env} {s : State} {m : MethodId} {args : Array Value} {below : List Frame} {meth : Method} {c : Code} {A : Nat → Prop} {r : Int32} {u : St} (E : Env1 p s m args c cX1_putNew 6 RX1 D (tyL cI cJ cZ)) (hr : meth.sig.returnType = none) (hlocks : meth.locks = false) (hA : ∀ q : Nat, s.heap.size ≤ q → A q) (n : Nat) (x1 x2 x3 : Int32) (st : St) (H : Heap) (locs : List Loc) (ls : Array Slot) (hP : va_P D vwCl (wX h cI cJ cZ st) H) (hD : va_D A (wX h cI cJ cZ st)) (hS : va_S A s.heap H locs) (hl : lv_has ls 6 [(0, .ref (h 1)), (1, .int x1), (2, .int x2), (3, .int x3)]) (hF : JX1_putNew_46 n x1 x2 x3 st = some (r, u)) : W p l e (rm 2 64) s m args below meth c H locs 0 0 (MQ below (CQv D (tyL cI cJ cZ) (wX h cI cJ cZ) A u) args s 0 0 A) (F0 m 46 ls []) := by
  have hx := E.1.1
  have hb := E.1.2.1
  have hml := E.1.2.2.1
  unfold JX1_putNew_46 at hF
  refine lv_aload_n hx hb dX1_putNew_46 rfl (lv_at hl 0 rfl) ?_
  refine g_1_0 E hP dX1_putNew_47 ?_
  refine lv_iload_n hx hb dX1_putNew_50 rfl (lv_at hl 1 rfl) ?_
  refine lv_sipush (v := 256) hx hb dX1_putNew_51 (by decide) ?_
  refine lv_iload_n hx hb dX1_putNew_54 rfl (lv_at hl 2 rfl) ?_
  refine lv_imul hx hb dX1_putNew_55 ?_
  refine lv_iload_n hx hb dX1_putNew_56 rfl (lv_at hl 3 rfl) ?_
  refine lv_iadd hx hb dX1_putNew_57 ?_
  obtain ⟨hi7, hF⟩ := gd_some hF
  refine sa_5 E hP hD hS hi7 dX1_putNew_58 (fun H locs hP hD hS => ?_)
  refine lv_iconst (v := 0) hx hb dX1_putNew_59 (by decide) ?_
  refine lv_istore (lv' := [(5, .int (0 : Int32)), (0, .ref (h 1)), (1, .int x1), (2, .int x2), (3, .int x3)]) hx hb dX1_putNew_60 hl (by decide) rfl (fun ls hl => ?_)
  exact lX1_putNew_62 E hr hlocks hA n x1 x2 x3 (0 : Int32) (pt st 5 x1.toNatClampNeg (((256 : Int32) * x2) + x3)) _ _ _ hP hD hS (lv_sub hl [1, 2, 3, 4, 0] rfl) hF
def FX1_putNew (n : Nat) (x1 x2 x3 : Int32) (st : St) : Option (Int32 × St) := (if (st.1 1 5) < (((1 : Int32) + x2) + x3) then bd (FX1_pageOf n x1 st) (fun r1 u2 => bd (FX1_enterLong n r1 (((1 : Int32) + x2) + x3) u2) (fun r4 u5 => JX1_putNew_46 n x1 x2 x3 u5)) else bd (FX1_enterSmall n x1 (((1 : Int32) + x2) + x3) st) (fun r11 u12 => bd (FX1_pageOf n x1 u12) (fun r14 u15 => JX1_putNew_46 n x1 x2 x3 (pt u15 1 6 r14))))
set_option maxHeartbeats 4000000 in
set_option maxRecDepth 100000 in
theorem kX1_putNew (l : Launch) (D : va_G) (h : Nat → Nat) (cI cJ cZ : ClassId) (n : Nat) (x1 x2 x3 : Int32) (st : St) (r : Int32) (u : St) (hF : FX1_putNew n x1 x2 x3 st = some (r, u)) : Cv l yX1_putNew cX1_putNew 6 2 64 D (tyL cI cJ cZ) (wX h cI cJ cZ) st [.ref (h 1), .int x1, .int x2, .int x3] u := by
  refine body_v (by decide +kernel) (Nat.le_of_ble_eq_true rfl) ?_
  intro p e s m below meth c A ls E hr hlocks hA hP hD hS hl
  have E : Env1 p s m _ c cX1_putNew 6 RX1 D (tyL cI cJ cZ) := E
  have hl : lv_has ls 6 [(0, .ref (h 1)), (1, .int x1), (2, .int x2), (3, .int x3)] := hl
  have hx := E.1.1
  have hb := E.1.2.1
  have hml := E.1.2.2.1
  unfold FX1_putNew at hF
  refine lv_iconst (v := 1) hx hb dX1_putNew_0 (by decide) ?_
  refine lv_iload_n hx hb dX1_putNew_1 rfl (lv_at hl 2 rfl) ?_
  refine lv_iadd hx hb dX1_putNew_2 ?_
  refine lv_iload_n hx hb dX1_putNew_3 rfl (lv_at hl 3 rfl) ?_
  refine lv_iadd hx hb dX1_putNew_4 ?_
  refine lv_istore (lv' := [(4, .int (((1 : Int32) + x2) + x3)), (0, .ref (h 1)), (1, .int x1), (2, .int x2), (3, .int x3)]) hx hb dX1_putNew_5 hl (by decide) rfl (fun ls hl => ?_)
  refine lv_iload hx hb dX1_putNew_7 (lv_at hl 0 rfl) ?_
  refine lv_aload_n hx hb dX1_putNew_9 rfl (lv_at hl 1 rfl) ?_
  refine g_1_5 E hP dX1_putNew_10 ?_
  refine lv_icmp_gt (tgt := 35) hx hb dX1_putNew_13 (by decide) (fun hc => ?_) (fun hc => ?_)
  · have hF := if_t hc hF
    refine lv_aload_n hx hb dX1_putNew_35 rfl (lv_at hl 1 rfl) ?_
    refine lv_aload_n hx hb dX1_putNew_36 rfl (lv_at hl 1 rfl) ?_
    refine lv_iload_n hx hb dX1_putNew_37 rfl (lv_at hl 2 rfl) ?_
    obtain ⟨r1, u2, hc3, hF⟩ := bd_some hF
    refine call_i (rest := [.ref (h 1)]) E hA hP hD hS hl.1 (kX1_pageOf l D h cI cJ cZ n x1 st r1 u2 hc3) cw_X1_94 1 rfl rfl rfl rfl rfl (Nat.le_of_ble_eq_true rfl) ⟨Nat.le_of_ble_eq_true rfl, Nat.le_of_ble_eq_true rfl⟩ ⟨Nat.zero_le _, Nat.zero_le _⟩ dX1_putNew_38 (fun H locs hP hD hS => ?_)
    refine lv_iload hx hb dX1_putNew_41 (lv_at hl 0 rfl) ?_
    obtain ⟨r4, u5, hc6, hF⟩ := bd_some hF
    refine call_v (rest := []) E hA hP hD hS hl.1 (kX1_enterLong l D h cI cJ cZ n r1 (((1 : Int32) + x2) + x3) u2 r4 u5 hc6) cw_X1_97 1 rfl rfl rfl rfl rfl (Nat.le_of_ble_eq_true rfl) ⟨Nat.le_of_ble_eq_true rfl, Nat.le_of_ble_eq_true rfl⟩ ⟨Nat.zero_le _, Nat.zero_le _⟩ dX1_putNew_43 (fun H locs hP hD hS => ?_)
    exact jX1_putNew_46 E hr hlocks hA n x1 x2 x3 u5 _ _ _ hP hD hS (lv_sub hl [1, 2, 3, 4] rfl) hF
  · have hF := if_f hc hF
    refine lv_aload_n hx hb dX1_putNew_16 rfl (lv_at hl 1 rfl) ?_
    refine lv_iload_n hx hb dX1_putNew_17 rfl (lv_at hl 2 rfl) ?_
    refine lv_iload hx hb dX1_putNew_18 (lv_at hl 0 rfl) ?_
    obtain ⟨r11, u12, hc13, hF⟩ := bd_some hF
    refine call_v (rest := []) E hA hP hD hS hl.1 (kX1_enterSmall l D h cI cJ cZ n x1 (((1 : Int32) + x2) + x3) st r11 u12 hc13) cw_X1_90 1 rfl rfl rfl rfl rfl (Nat.le_of_ble_eq_true rfl) ⟨Nat.le_of_ble_eq_true rfl, Nat.le_of_ble_eq_true rfl⟩ ⟨Nat.zero_le _, Nat.zero_le _⟩ dX1_putNew_20 (fun H locs hP hD hS => ?_)
    refine lv_aload_n hx hb dX1_putNew_23 rfl (lv_at hl 1 rfl) ?_
    refine lv_aload_n hx hb dX1_putNew_24 rfl (lv_at hl 1 rfl) ?_
    refine lv_iload_n hx hb dX1_putNew_25 rfl (lv_at hl 2 rfl) ?_
    obtain ⟨r14, u15, hc16, hF⟩ := bd_some hF
    refine call_i (rest := [.ref (h 1)]) E hA hP hD hS hl.1 (kX1_pageOf l D h cI cJ cZ n x1 u12 r14 u15 hc16) cw_X1_94 1 rfl rfl rfl rfl rfl (Nat.le_of_ble_eq_true rfl) ⟨Nat.le_of_ble_eq_true rfl, Nat.le_of_ble_eq_true rfl⟩ ⟨Nat.zero_le _, Nat.zero_le _⟩ dX1_putNew_26 (fun H locs hP hD hS => ?_)
    refine s_1_6 E hP hD hS dX1_putNew_29 (fun H locs hP hD hS => ?_)
    refine lv_goto (tgt := 46) hx hb dX1_putNew_32 (by decide) ?_
    exact jX1_putNew_46 E hr hlocks hA n x1 x2 x3 (pt u15 1 6 r14) _ _ _ hP hD hS (lv_sub hl [1, 2, 3, 4] rfl) hF
-- LooseHeap$Space.copySmall
def FX1_copySmall (n : Nat) (x1 x2 : Int32) (st : St) : Option (Int32 × St) := bd (FX1_sizeOf n x1 st) (fun r1 u2 => bd (FX1_enterSmall n x2 r1 u2) (fun r4 u5 => gc x1 x2 r1 4096 4096 (some ((0 : Int32), (pf u5 5 (va_cpy (u5.1 5) (u5.1 5) x1.toNatClampNeg x2.toNatClampNeg r1.toNatClampNeg))))))
set_option maxHeartbeats 4000000 in
set_option maxRecDepth 100000 in
theorem kX1_copySmall (l : Launch) (D : va_G) (h : Nat → Nat) (cI cJ cZ : ClassId) (n : Nat) (x1 x2 : Int32) (st : St) (r : Int32) (u : St) (hF : FX1_copySmall n x1 x2 st = some (r, u)) : Cv l yX1_copySmall cX1_copySmall 4 2 100 D (tyL cI cJ cZ) (wX h cI cJ cZ) st [.ref (h 1), .int x1, .int x2] u := by
  refine body_v (by decide +kernel) (Nat.le_of_ble_eq_true rfl) ?_
  intro p e s m below meth c A ls E hr hlocks hA hP hD hS hl
  have E : Env1 p s m _ c cX1_copySmall 4 RX1 D (tyL cI cJ cZ) := E
  have hl : lv_has ls 4 [(0, .ref (h 1)), (1, .int x1), (2, .int x2)] := hl
  have hx := E.1.1
  have hb := E.1.2.1
  have hml := E.1.2.2.1
  unfold FX1_copySmall at hF
  refine lv_aload_n hx hb dX1_copySmall_0 rfl (lv_at hl 0 rfl) ?_
  refine lv_iload_n hx hb dX1_copySmall_1 rfl (lv_at hl 1 rfl) ?_
  obtain ⟨r1, u2, hc3, hF⟩ := bd_some hF
  refine call_i (rest := []) E hA hP hD hS hl.1 (kX1_sizeOf l D h cI cJ cZ n x1 st r1 u2 hc3) cw_X1_64 1 rfl rfl rfl rfl rfl (Nat.le_of_ble_eq_true rfl) ⟨Nat.le_of_ble_eq_true rfl, Nat.le_of_ble_eq_true rfl⟩ ⟨Nat.zero_le _, Nat.zero_le _⟩ dX1_copySmall_2 (fun H locs hP hD hS => ?_)
  refine lv_istore_n (lv' := [(3, .int r1), (0, .ref (h 1)), (1, .int x1), (2, .int x2)]) hx hb dX1_copySmall_5 rfl hl (by decide) rfl (fun ls hl => ?_)
  refine lv_aload_n hx hb dX1_copySmall_6 rfl (lv_at hl 1 rfl) ?_
  refine lv_iload_n hx hb dX1_copySmall_7 rfl (lv_at hl 3 rfl) ?_
  refine lv_iload_n hx hb dX1_copySmall_8 rfl (lv_at hl 0 rfl) ?_
  obtain ⟨r4, u5, hc6, hF⟩ := bd_some hF
  refine call_v (rest := []) E hA hP hD hS hl.1 (kX1_enterSmall l D h cI cJ cZ n x2 r1 u2 r4 u5 hc6) cw_X1_90 1 rfl rfl rfl rfl rfl (Nat.le_of_ble_eq_true rfl) ⟨Nat.le_of_ble_eq_true rfl, Nat.le_of_ble_eq_true rfl⟩ ⟨Nat.zero_le _, Nat.zero_le _⟩ dX1_copySmall_9 (fun H locs hP hD hS => ?_)
  refine lv_aload_n hx hb dX1_copySmall_12 rfl (lv_at hl 1 rfl) ?_
  refine g_1_0 E hP dX1_copySmall_13 ?_
  refine lv_iload_n hx hb dX1_copySmall_16 rfl (lv_at hl 2 rfl) ?_
  refine lv_aload_n hx hb dX1_copySmall_17 rfl (lv_at hl 1 rfl) ?_
  refine g_1_0 E hP dX1_copySmall_18 ?_
  refine lv_iload_n hx hb dX1_copySmall_21 rfl (lv_at hl 3 rfl) ?_
  refine lv_iload_n hx hb dX1_copySmall_22 rfl (lv_at hl 0 rfl) ?_
  obtain ⟨hy7, hF⟩ := gc_some hF
  refine cpy_5_5 E hP hD hS hl.1 ml_X1_104 hy7 (Nat.le_of_ble_eq_true rfl) (Nat.le_of_ble_eq_true rfl) dX1_copySmall_23 (fun H locs hP hD hS => ?_)
  exact endV E hr hlocks hP hD hS dX1_copySmall_26 hF
-- LooseHeap$Space.freePage
def LX1_freePage_2 : Nat → Int32 → Int32 → St → Option (Int32 × St)
  | 0 => fun _ _ _ => none
  | n + 1 => fun x1 x2 st => (if (st.1 1 5) ≤ x2 then gd x1 64 (gd x1 64 (gd x1 64 (some ((0 : Int32), (pg (pt (pt st 6 x1.toNatClampNeg (0 : Int32)) 7 x1.toNatClampNeg (0 : Int32)) x1.toNatClampNeg (0 : Int64)))))) else bd (FX1_addressOf n x1 x2 st) (fun r4 u5 => gd r4 4096 (LX1_freePage_2 n x1 (x2 + (1 : Int32)) (pt u5 5 r4.toNatClampNeg (0 : Int32)))))
set_option maxHeartbeats 4000000 in
set_option maxRecDepth 100000 in
theorem lX1_freePage_2 {l : Launch} {D : va_G} {h : Nat → Nat} {cI cJ cZ : ClassId} {p : Program} {e : Env} {s : State} {m : MethodId} {args : Array Value} {below : List Frame} {meth : Method} {c : Code} {A : Nat → Prop} {r : Int32} {u : St} (E : Env1 p s m args c cX1_freePage 3 RX1 D (tyL cI cJ cZ)) (hr : meth.sig.returnType = none) (hlocks : meth.locks = false) (hA : ∀ q : Nat, s.heap.size ≤ q → A q) : ∀ (n : Nat) (x1 x2 : Int32) (st : St) (H : Heap) (locs : List Loc) (ls : Array Slot), va_P D vwCl (wX h cI cJ cZ st) H → va_D A (wX h cI cJ cZ st) → va_S A s.heap H locs → lv_has ls 3 [(0, .ref (h 1)), (1, .int x1), (2, .int x2)] → LX1_freePage_2 n x1 x2 st = some (r, u) → W p l e (rm 1 22) s m args below meth c H locs 0 0 (MQ below (CQv D (tyL cI cJ cZ) (wX h cI cJ cZ) A u) args s 0 0 A) (F0 m 2 ls []) := by
  have hx := E.1.1
  have hb := E.1.2.1
  have hml := E.1.2.2.1
  intro n
  induction n with
  | zero => intro x1 x2 st H locs ls hP hD hS hl hF; simp only [LX1_freePage_2] at hF; cases hF
  | succ n ih =>
    intro x1 x2 st H locs ls hP hD hS hl hF
    simp only [LX1_freePage_2] at hF
    refine lv_iload_n hx hb dX1_freePage_2 rfl (lv_at hl 2 rfl) ?_
    refine lv_aload_n hx hb dX1_freePage_3 rfl (lv_at hl 0 rfl) ?_
    refine g_1_5 E hP dX1_freePage_4 ?_
    refine lv_icmp_ge (tgt := 28) hx hb dX1_freePage_7 (by decide) (fun hc => ?_) (fun hc => ?_)
    · have hF := if_t hc hF
      refine lv_aload_n hx hb dX1_freePage_28 rfl (lv_at hl 0 rfl) ?_
      refine g_1_1 E hP dX1_freePage_29 ?_
      refine lv_iload_n hx hb dX1_freePage_32 rfl (lv_at hl 1 rfl) ?_
      refine lv_iconst (v := 0) hx hb dX1_freePage_33 (by decide) ?_
      obtain ⟨hi1, hF⟩ := gd_some hF
      refine sa_6 E hP hD hS hi1 dX1_freePage_34 (fun H locs hP hD hS => ?_)
      refine lv_aload_n hx hb dX1_freePage_35 rfl (lv_at hl 0 rfl) ?_
      refine g_1_2 E hP dX1_freePage_36 ?_
      refine lv_iload_n hx hb dX1_freePage_39 rfl (lv_at hl 1 rfl) ?_
      refine lv_iconst (v := 0) hx hb dX1_freePage_40 (by decide) ?_
      obtain ⟨hi2, hF⟩ := gd_some hF
      refine sa_7 E hP hD hS hi2 dX1_freePage_41 (fun H locs hP hD hS => ?_)
      refine lv_aload_n hx hb dX1_freePage_42 rfl (lv_at hl 0 rfl) ?_
      refine g_1_3 E hP dX1_freePage_43 ?_
      refine lv_iload_n hx hb dX1_freePage_46 rfl (lv_at hl 1 rfl) ?_
      refine lv_lconst (v := 0) hx hb dX1_freePage_47 rfl ?_
      obtain ⟨hi3, hF⟩ := gd_some hF
      refine sa_8 E hP hD hS hi3 dX1_freePage_48 (fun H locs hP hD hS => ?_)
      exact endV E hr hlocks hP hD hS dX1_freePage_49 hF
    · have hF := if_f hc hF
      refine lv_aload_n hx hb dX1_freePage_10 rfl (lv_at hl 0 rfl) ?_
      refine g_1_0 E hP dX1_freePage_11 ?_
      refine lv_aload_n hx hb dX1_freePage_14 rfl (lv_at hl 0 rfl) ?_
      refine lv_iload_n hx hb dX1_freePage_15 rfl (lv_at hl 1 rfl) ?_
      refine lv_iload_n hx hb dX1_freePage_16 rfl (lv_at hl 2 rfl) ?_
      obtain ⟨r4, u5, hc6, hF⟩ := bd_some hF
      refine call_i (rest := [.ref (h 5)]) E hA hP hD hS hl.1 (kX1_addressOf l D h cI cJ cZ n x1 x2 st r4 u5 hc6) cw_X1_73 1 rfl rfl rfl rfl rfl (Nat.le_of_ble_eq_true rfl) ⟨Nat.le_of_ble_eq_true rfl, Nat.le_of_ble_eq_true rfl⟩ ⟨Nat.zero_le _, Nat.zero_le _⟩ dX1_freePage_17 (fun H locs hP hD hS => ?_)
      refine lv_iconst (v := 0) hx hb dX1_freePage_20 (by decide) ?_
      obtain ⟨hi7, hF⟩ := gd_some hF
      refine sa_5 E hP hD hS hi7 dX1_freePage_21 (fun H locs hP hD hS => ?_)
      refine lv_iinc (v := (x2 + (1 : Int32))) (lv' := [(2, .int (x2 + (1 : Int32))), (0, .ref (h 1)), (1, .int x1)]) hx hb dX1_freePage_22 hl (k := 2) rfl rfl (by decide) rfl (fun ls hl => ?_)
      refine lv_goto (tgt := 2) hx hb dX1_freePage_25 (by decide) ?_
      exact ih _ _ _ _ _ _ hP hD hS (lv_sub hl [1, 2, 0] rfl) hF
def FX1_freePage (n : Nat) (x1 : Int32) (st : St) : Option (Int32 × St) := LX1_freePage_2 n x1 (0 : Int32) st
set_option maxHeartbeats 4000000 in
set_option maxRecDepth 100000 in
theorem kX1_freePage (l : Launch) (D : va_G) (h : Nat → Nat) (cI cJ cZ : ClassId) (n : Nat) (x1 : Int32) (st : St) (r : Int32) (u : St) (hF : FX1_freePage n x1 st = some (r, u)) : Cv l yX1_freePage cX1_freePage 3 1 22 D (tyL cI cJ cZ) (wX h cI cJ cZ) st [.ref (h 1), .int x1] u := by
  refine body_v (by decide +kernel) (Nat.le_of_ble_eq_true rfl) ?_
  intro p e s m below meth c A ls E hr hlocks hA hP hD hS hl
  have E : Env1 p s m _ c cX1_freePage 3 RX1 D (tyL cI cJ cZ) := E
  have hl : lv_has ls 3 [(0, .ref (h 1)), (1, .int x1)] := hl
  have hx := E.1.1
  have hb := E.1.2.1
  have hml := E.1.2.2.1
  unfold FX1_freePage at hF
  refine lv_iconst (v := 0) hx hb dX1_freePage_0 (by decide) ?_
  refine lv_istore_n (lv' := [(2, .int (0 : Int32)), (0, .ref (h 1)), (1, .int x1)]) hx hb dX1_freePage_1 rfl hl (by decide) rfl (fun ls hl => ?_)
  exact lX1_freePage_2 E hr hlocks hA n x1 (0 : Int32) st _ _ _ hP hD hS (lv_sub hl [1, 2, 0] rfl) hF
theorem cw_X1_115 : cwd RX1 115 RX1 yX1_freePage cX1_freePage 3 none 1 := ⟨tb_V (tb_in 343 (by decide +kernel) (by decide +kernel)) (tb_in 345 (by decide +kernel) (by decide +kernel)) (tb_in 17 (by decide +kernel) (by decide +kernel)) (tb_in 46 (by decide +kernel) (by decide +kernel)) (tb_in 346 (by decide +kernel) (by decide +kernel)), by decide +kernel⟩
-- LooseHeap$Space.freePagesBut
def LX1_freePagesBut_4 : Nat → Int32 → Int32 → St → Option (Int32 × St)
  | 0 => fun _ _ _ => none
  | n + 1 => fun x2 x3 st => (if (st.1 1 4) ≤ x3 then some (x2, st) else gd x3 64 ((if (st.1 6 x3.toNatClampNeg) = 0 then LX1_freePagesBut_4 n x2 (x3 + (1 : Int32)) st else gd x3 64 ((if (st.1 12 x3.toNatClampNeg) = 0 then bd (FX1_freePage n x3 st) (fun r3 u4 => LX1_freePagesBut_4 n (x2 + (1 : Int32)) (x3 + (1 : Int32)) u4) else LX1_freePagesBut_4 n x2 (x3 + (1 : Int32)) st)))))
set_option maxHeartbeats 4000000 in
set_option maxRecDepth 100000 in
theorem lX1_freePagesBut_4 {l : Launch} {D : va_G} {h : Nat → Nat} {cI cJ cZ : ClassId} {p : Program} {e : Env} {s : State} {m : MethodId} {args : Array Value} {below : List Frame} {meth : Method} {c : Code} {A : Nat → Prop} {r : Int32} {u : St} (E : Env1 p s m args c cX1_freePagesBut 4 RX1 D (tyL cI cJ cZ)) (hr : meth.sig.returnType = some .int) (hlocks : meth.locks = false) (hA : ∀ q : Nat, s.heap.size ≤ q → A q) : ∀ (n : Nat) (x2 x3 : Int32) (st : St) (H : Heap) (locs : List Loc) (ls : Array Slot), va_P D vwCl (wX h cI cJ cZ st) H → va_D A (wX h cI cJ cZ st) → va_S A s.heap H locs → lv_has ls 4 [(0, .ref (h 1)), (1, .ref (h 12)), (2, .int x2), (3, .int x3)] → LX1_freePagesBut_4 n x2 x3 st = some (r, u) → W p l e (rm 2 44) s m args below meth c H locs 0 0 (MQ below (CQ D (tyL cI cJ cZ) (wX h cI cJ cZ) A r u) args s 0 0 A) (F0 m 4 ls []) := by
  have hx := E.1.1
  have hb := E.1.2.1
  have hml := E.1.2.2.1
  intro n
  induction n with
  | zero => intro x2 x3 st H locs ls hP hD hS hl hF; simp only [LX1_freePagesBut_4] at hF; cases hF
  | succ n ih =>
    intro x2 x3 st H locs ls hP hD hS hl hF
    simp only [LX1_freePagesBut_4] at hF
    refine lv_iload_n hx hb dX1_freePagesBut_4 rfl (lv_at hl 3 rfl) ?_
    refine lv_aload_n hx hb dX1_freePagesBut_5 rfl (lv_at hl 0 rfl) ?_
    refine g_1_4 E hP dX1_freePagesBut_6 ?_
    refine lv_icmp_ge (tgt := 41) hx hb dX1_freePagesBut_9 (by decide) (fun hc => ?_) (fun hc => ?_)
    · have hF := if_t hc hF
      refine lv_iload_n hx hb dX1_freePagesBut_41 rfl (lv_at hl 2 rfl) ?_
      exact endI E hr hlocks hP hD hS dX1_freePagesBut_42 hF
    · have hF := if_f hc hF
      refine lv_aload_n hx hb dX1_freePagesBut_12 rfl (lv_at hl 0 rfl) ?_
      refine g_1_1 E hP dX1_freePagesBut_13 ?_
      refine lv_iload_n hx hb dX1_freePagesBut_16 rfl (lv_at hl 3 rfl) ?_
      obtain ⟨hi1, hF⟩ := gd_some hF
      refine la_6 E hP hi1 dX1_freePagesBut_17 ?_
      refine lv_if_eq (tgt := 35) hx hb dX1_freePagesBut_18 (by decide) (fun hc => ?_) (fun hc => ?_)
      · have hF := if_t hc hF
        refine lv_iinc (v := (x3 + (1 : Int32))) (lv' := [(3, .int (x3 + (1 : Int32))), (0, .ref (h 1)), (1, .ref (h 12)), (2, .int x2)]) hx hb dX1_freePagesBut_35 hl (k := 3) rfl rfl (by decide) rfl (fun ls hl => ?_)
        refine lv_goto (tgt := 4) hx hb dX1_freePagesBut_38 (by decide) ?_
        exact ih _ _ _ _ _ _ hP hD hS (lv_sub hl [1, 2, 3, 0] rfl) hF
      · have hF := if_f hc hF
        refine lv_aload_n hx hb dX1_freePagesBut_21 rfl (lv_at hl 1 rfl) ?_
        refine lv_iload_n hx hb dX1_freePagesBut_22 rfl (lv_at hl 3 rfl) ?_
        obtain ⟨hi2, hF⟩ := gd_some hF
        refine la_12 E hP hi2 dX1_freePagesBut_23 ?_
        refine lv_if_ne (tgt := 35) hx hb dX1_freePagesBut_24 (by decide) (fun hc => ?_) (fun hc => ?_)
        · have hF := if_f hc hF
          refine lv_iinc (v := (x3 + (1 : Int32))) (lv' := [(3, .int (x3 + (1 : Int32))), (0, .ref (h 1)), (1, .ref (h 12)), (2, .int x2)]) hx hb dX1_freePagesBut_35 hl (k := 3) rfl rfl (by decide) rfl (fun ls hl => ?_)
          refine lv_goto (tgt := 4) hx hb dX1_freePagesBut_38 (by decide) ?_
          exact ih _ _ _ _ _ _ hP hD hS (lv_sub hl [1, 2, 3, 0] rfl) hF
        · have hF := if_t hc hF
          refine lv_aload_n hx hb dX1_freePagesBut_27 rfl (lv_at hl 0 rfl) ?_
          refine lv_iload_n hx hb dX1_freePagesBut_28 rfl (lv_at hl 3 rfl) ?_
          obtain ⟨r3, u4, hc5, hF⟩ := bd_some hF
          refine call_v (rest := []) E hA hP hD hS hl.1 (kX1_freePage l D h cI cJ cZ n x3 st r3 u4 hc5) cw_X1_115 1 rfl rfl rfl rfl rfl (Nat.le_of_ble_eq_true rfl) ⟨Nat.le_of_ble_eq_true rfl, Nat.le_of_ble_eq_true rfl⟩ ⟨Nat.zero_le _, Nat.zero_le _⟩ dX1_freePagesBut_29 (fun H locs hP hD hS => ?_)
          refine lv_iinc (v := (x2 + (1 : Int32))) (lv' := [(2, .int (x2 + (1 : Int32))), (0, .ref (h 1)), (1, .ref (h 12)), (3, .int x3)]) hx hb dX1_freePagesBut_32 hl (k := 2) rfl rfl (by decide) rfl (fun ls hl => ?_)
          refine lv_iinc (v := (x3 + (1 : Int32))) (lv' := [(3, .int (x3 + (1 : Int32))), (2, .int (x2 + (1 : Int32))), (0, .ref (h 1)), (1, .ref (h 12))]) hx hb dX1_freePagesBut_35 hl (k := 3) rfl rfl (by decide) rfl (fun ls hl => ?_)
          refine lv_goto (tgt := 4) hx hb dX1_freePagesBut_38 (by decide) ?_
          exact ih _ _ _ _ _ _ hP hD hS (lv_sub hl [2, 3, 1, 0] rfl) hF
def FX1_freePagesBut (n : Nat) (st : St) : Option (Int32 × St) := LX1_freePagesBut_4 n (0 : Int32) (0 : Int32) st
set_option maxHeartbeats 4000000 in
set_option maxRecDepth 100000 in
theorem kX1_freePagesBut (l : Launch) (D : va_G) (h : Nat → Nat) (cI cJ cZ : ClassId) (n : Nat) (st : St) (r : Int32) (u : St) (hF : FX1_freePagesBut n  st = some (r, u)) : Ci l yX1_freePagesBut cX1_freePagesBut 4 (some .int) 2 44 D (tyL cI cJ cZ) (wX h cI cJ cZ) st [.ref (h 1), .ref (h 12)] r u := by
  refine body_i (by decide +kernel) (Nat.le_of_ble_eq_true rfl) ?_
  intro p e s m below meth c A ls E hr hlocks hA hP hD hS hl
  have E : Env1 p s m _ c cX1_freePagesBut 4 RX1 D (tyL cI cJ cZ) := E
  have hl : lv_has ls 4 [(0, .ref (h 1)), (1, .ref (h 12))] := hl
  have hx := E.1.1
  have hb := E.1.2.1
  have hml := E.1.2.2.1
  unfold FX1_freePagesBut at hF
  refine lv_iconst (v := 0) hx hb dX1_freePagesBut_0 (by decide) ?_
  refine lv_istore_n (lv' := [(2, .int (0 : Int32)), (0, .ref (h 1)), (1, .ref (h 12))]) hx hb dX1_freePagesBut_1 rfl hl (by decide) rfl (fun ls hl => ?_)
  refine lv_iconst (v := 0) hx hb dX1_freePagesBut_2 (by decide) ?_
  refine lv_istore_n (lv' := [(3, .int (0 : Int32)), (2, .int (0 : Int32)), (0, .ref (h 1)), (1, .ref (h 12))]) hx hb dX1_freePagesBut_3 rfl hl (by decide) rfl (fun ls hl => ?_)
  exact lX1_freePagesBut_4 E hr hlocks hA n (0 : Int32) (0 : Int32) st _ _ _ hP hD hS (lv_sub hl [2, 3, 1, 0] rfl) hF
end
section
-- LooseHeap$Collector.startOver
def FX0_startOver (n : Nat) (st : St) : Option (Int32 × St) := some ((0 : Int32), (pt (pt (pt (pt (pt (pf (pt (pt st 2 10 (0 : Int32)) 2 11 (0 : Int32)) 13 (flI 64 (0 : Int32) ((pt (pt st 2 10 (0 : Int32)) 2 11 (0 : Int32)).1 13))) 2 13 (0 : Int32)) 2 14 (0 : Int32)) 2 15 (0 : Int32)) 2 16 (0 : Int32)) 2 17 (0 : Int32)))
set_option maxHeartbeats 4000000 in
set_option maxRecDepth 100000 in
theorem kX0_startOver (l : Launch) (D : va_G) (h : Nat → Nat) (cI cJ cZ : ClassId) (n : Nat) (st : St) (r : Int32) (u : St) (hF : FX0_startOver n  st = some (r, u)) : Cv l yX0_startOver cX0_startOver 1 1 40 D (tyL cI cJ cZ) (wX h cI cJ cZ) st [.ref (h 2)] u := by
  refine body_v (by decide +kernel) (Nat.le_of_ble_eq_true rfl) ?_
  intro p e s m below meth c A ls E hr hlocks hA hP hD hS hl
  have E : Env1 p s m _ c cX0_startOver 1 RX0 D (tyL cI cJ cZ) := E
  have hl : lv_has ls 1 [(0, .ref (h 2))] := hl
  have hx := E.1.1
  have hb := E.1.2.1
  have hml := E.1.2.2.1
  unfold FX0_startOver at hF
  refine lv_aload_n hx hb dX0_startOver_0 rfl (lv_at hl 0 rfl) ?_
  refine lv_iconst (v := 0) hx hb dX0_startOver_1 (by decide) ?_
  refine s_2_10 E hP hD hS dX0_startOver_2 (fun H locs hP hD hS => ?_)
  refine lv_aload_n hx hb dX0_startOver_5 rfl (lv_at hl 0 rfl) ?_
  refine lv_iconst (v := 0) hx hb dX0_startOver_6 (by decide) ?_
  refine s_2_11 E hP hD hS dX0_startOver_7 (fun H locs hP hD hS => ?_)
  refine lv_aload_n hx hb dX0_startOver_10 rfl (lv_at hl 0 rfl) ?_
  refine g_2_12 E hP dX0_startOver_11 ?_
  refine lv_iconst (v := 0) hx hb dX0_startOver_14 (by decide) ?_
  refine fill_13 E hA hP hD hS hl.1 ml_X0_39 (rest := []) (Nat.le_of_ble_eq_true rfl) ⟨Nat.le_of_ble_eq_true rfl, Nat.le_of_ble_eq_true rfl⟩ dX0_startOver_15 (fun H locs hP hD hS => ?_)
  refine lv_aload_n hx hb dX0_startOver_18 rfl (lv_at hl 0 rfl) ?_
  refine lv_iconst (v := 0) hx hb dX0_startOver_19 (by decide) ?_
  refine s_2_13 E hP hD hS dX0_startOver_20 (fun H locs hP hD hS => ?_)
  refine lv_aload_n hx hb dX0_startOver_23 rfl (lv_at hl 0 rfl) ?_
  refine lv_iconst (v := 0) hx hb dX0_startOver_24 (by decide) ?_
  refine s_2_14 E hP hD hS dX0_startOver_25 (fun H locs hP hD hS => ?_)
  refine lv_aload_n hx hb dX0_startOver_28 rfl (lv_at hl 0 rfl) ?_
  refine lv_iconst (v := 0) hx hb dX0_startOver_29 (by decide) ?_
  refine s_2_15 E hP hD hS dX0_startOver_30 (fun H locs hP hD hS => ?_)
  refine lv_aload_n hx hb dX0_startOver_33 rfl (lv_at hl 0 rfl) ?_
  refine lv_iconst (v := 0) hx hb dX0_startOver_34 (by decide) ?_
  refine s_2_16 E hP hD hS dX0_startOver_35 (fun H locs hP hD hS => ?_)
  refine lv_aload_n hx hb dX0_startOver_38 rfl (lv_at hl 0 rfl) ?_
  refine lv_iconst (v := 0) hx hb dX0_startOver_39 (by decide) ?_
  refine s_2_17 E hP hD hS dX0_startOver_40 (fun H locs hP hD hS => ?_)
  exact endV E hr hlocks hP hD hS dX0_startOver_43 hF
-- LooseHeap$Collector.done
def FX0_done (n : Nat) (st : St) : Option (Int32 × St) := some ((st.1 2 10), st)
set_option maxHeartbeats 4000000 in
set_option maxRecDepth 100000 in
theorem kX0_done (l : Launch) (D : va_G) (h : Nat → Nat) (cI cJ cZ : ClassId) (n : Nat) (st : St) (r : Int32) (u : St) (hF : FX0_done n  st = some (r, u)) : Ci l yX0_done cX0_done 1 (some .int) 0 0 D (tyL cI cJ cZ) (wX h cI cJ cZ) st [.ref (h 2)] r u := by
  refine body_i (by decide +kernel) (Nat.le_of_ble_eq_true rfl) ?_
  intro p e s m below meth c A ls E hr hlocks hA hP hD hS hl
  have E : Env1 p s m _ c cX0_done 1 RX0 D (tyL cI cJ cZ) := E
  have hl : lv_has ls 1 [(0, .ref (h 2))] := hl
  have hx := E.1.1
  have hb := E.1.2.1
  have hml := E.1.2.2.1
  unfold FX0_done at hF
  refine lv_aload_n hx hb dX0_done_0 rfl (lv_at hl 0 rfl) ?_
  refine g_2_10 E hP dX0_done_1 ?_
  exact endI E hr hlocks hP hD hS dX0_done_4 hF
-- LooseHeap$Collector.givenUp
def FX0_givenUp (n : Nat) (st : St) : Option (Int32 × St) := some ((st.1 2 11), st)
set_option maxHeartbeats 4000000 in
set_option maxRecDepth 100000 in
theorem kX0_givenUp (l : Launch) (D : va_G) (h : Nat → Nat) (cI cJ cZ : ClassId) (n : Nat) (st : St) (r : Int32) (u : St) (hF : FX0_givenUp n  st = some (r, u)) : Ci l yX0_givenUp cX0_givenUp 1 (some .int) 0 0 D (tyL cI cJ cZ) (wX h cI cJ cZ) st [.ref (h 2)] r u := by
  refine body_i (by decide +kernel) (Nat.le_of_ble_eq_true rfl) ?_
  intro p e s m below meth c A ls E hr hlocks hA hP hD hS hl
  have E : Env1 p s m _ c cX0_givenUp 1 RX0 D (tyL cI cJ cZ) := E
  have hl : lv_has ls 1 [(0, .ref (h 2))] := hl
  have hx := E.1.1
  have hb := E.1.2.1
  have hml := E.1.2.2.1
  unfold FX0_givenUp at hF
  refine lv_aload_n hx hb dX0_givenUp_0 rfl (lv_at hl 0 rfl) ?_
  refine g_2_11 E hP dX0_givenUp_1 ?_
  exact endI E hr hlocks hP hD hS dX0_givenUp_4 hF
-- LooseHeap$Collector.hitOf
def FX0_hitOf (n : Nat) (x1 : Int32) (st : St) : Option (Int32 × St) := gd x1 64 (some ((st.1 13 x1.toNatClampNeg), st))
set_option maxHeartbeats 4000000 in
set_option maxRecDepth 100000 in
theorem kX0_hitOf (l : Launch) (D : va_G) (h : Nat → Nat) (cI cJ cZ : ClassId) (n : Nat) (x1 : Int32) (st : St) (r : Int32) (u : St) (hF : FX0_hitOf n x1 st = some (r, u)) : Ci l yX0_hitOf cX0_hitOf 2 (some .int) 0 0 D (tyL cI cJ cZ) (wX h cI cJ cZ) st [.ref (h 2), .int x1] r u := by
  refine body_i (by decide +kernel) (Nat.le_of_ble_eq_true rfl) ?_
  intro p e s m below meth c A ls E hr hlocks hA hP hD hS hl
  have E : Env1 p s m _ c cX0_hitOf 2 RX0 D (tyL cI cJ cZ) := E
  have hl : lv_has ls 2 [(0, .ref (h 2)), (1, .int x1)] := hl
  have hx := E.1.1
  have hb := E.1.2.1
  have hml := E.1.2.2.1
  unfold FX0_hitOf at hF
  refine lv_aload_n hx hb dX0_hitOf_0 rfl (lv_at hl 0 rfl) ?_
  refine g_2_12 E hP dX0_hitOf_1 ?_
  refine lv_iload_n hx hb dX0_hitOf_4 rfl (lv_at hl 1 rfl) ?_
  obtain ⟨hi1, hF⟩ := gd_some hF
  refine la_13 E hP hi1 dX0_hitOf_5 ?_
  exact endI E hr hlocks hP hD hS dX0_hitOf_6 hF
-- LooseHeap$Collector.hitPages
def FX0_hitPages (n : Nat) (st : St) : Option (Int32 × St) := some ((st.1 2 13), st)
set_option maxHeartbeats 4000000 in
set_option maxRecDepth 100000 in
theorem kX0_hitPages (l : Launch) (D : va_G) (h : Nat → Nat) (cI cJ cZ : ClassId) (n : Nat) (st : St) (r : Int32) (u : St) (hF : FX0_hitPages n  st = some (r, u)) : Ci l yX0_hitPages cX0_hitPages 1 (some .int) 0 0 D (tyL cI cJ cZ) (wX h cI cJ cZ) st [.ref (h 2)] r u := by
  refine body_i (by decide +kernel) (Nat.le_of_ble_eq_true rfl) ?_
  intro p e s m below meth c A ls E hr hlocks hA hP hD hS hl
  have E : Env1 p s m _ c cX0_hitPages 1 RX0 D (tyL cI cJ cZ) := E
  have hl : lv_has ls 1 [(0, .ref (h 2))] := hl
  have hx := E.1.1
  have hb := E.1.2.1
  have hml := E.1.2.2.1
  unfold FX0_hitPages at hF
  refine lv_aload_n hx hb dX0_hitPages_0 rfl (lv_at hl 0 rfl) ?_
  refine g_2_13 E hP dX0_hitPages_1 ?_
  exact endI E hr hlocks hP hD hS dX0_hitPages_4 hF
-- LooseHeap$Collector.rowObjects
def FX0_rowObjects (n : Nat) (st : St) : Option (Int32 × St) := some ((st.1 2 14), st)
set_option maxHeartbeats 4000000 in
set_option maxRecDepth 100000 in
theorem kX0_rowObjects (l : Launch) (D : va_G) (h : Nat → Nat) (cI cJ cZ : ClassId) (n : Nat) (st : St) (r : Int32) (u : St) (hF : FX0_rowObjects n  st = some (r, u)) : Ci l yX0_rowObjects cX0_rowObjects 1 (some .int) 0 0 D (tyL cI cJ cZ) (wX h cI cJ cZ) st [.ref (h 2)] r u := by
  refine body_i (by decide +kernel) (Nat.le_of_ble_eq_true rfl) ?_
  intro p e s m below meth c A ls E hr hlocks hA hP hD hS hl
  have E : Env1 p s m _ c cX0_rowObjects 1 RX0 D (tyL cI cJ cZ) := E
  have hl : lv_has ls 1 [(0, .ref (h 2))] := hl
  have hx := E.1.1
  have hb := E.1.2.1
  have hml := E.1.2.2.1
  unfold FX0_rowObjects at hF
  refine lv_aload_n hx hb dX0_rowObjects_0 rfl (lv_at hl 0 rfl) ?_
  refine g_2_14 E hP dX0_rowObjects_1 ?_
  exact endI E hr hlocks hP hD hS dX0_rowObjects_4 hF
-- LooseHeap$Collector.movedObjects
def FX0_movedObjects (n : Nat) (st : St) : Option (Int32 × St) := some ((st.1 2 15), st)
set_option maxHeartbeats 4000000 in
set_option maxRecDepth 100000 in
theorem kX0_movedObjects (l : Launch) (D : va_G) (h : Nat → Nat) (cI cJ cZ : ClassId) (n : Nat) (st : St) (r : Int32) (u : St) (hF : FX0_movedObjects n  st = some (r, u)) : Ci l yX0_movedObjects cX0_movedObjects 1 (some .int) 0 0 D (tyL cI cJ cZ) (wX h cI cJ cZ) st [.ref (h 2)] r u := by
  refine body_i (by decide +kernel) (Nat.le_of_ble_eq_true rfl) ?_
  intro p e s m below meth c A ls E hr hlocks hA hP hD hS hl
  have E : Env1 p s m _ c cX0_movedObjects 1 RX0 D (tyL cI cJ cZ) := E
  have hl : lv_has ls 1 [(0, .ref (h 2))] := hl
  have hx := E.1.1
  have hb := E.1.2.1
  have hml := E.1.2.2.1
  unfold FX0_movedObjects at hF
  refine lv_aload_n hx hb dX0_movedObjects_0 rfl (lv_at hl 0 rfl) ?_
  refine g_2_15 E hP dX0_movedObjects_1 ?_
  exact endI E hr hlocks hP hD hS dX0_movedObjects_4 hF
-- LooseHeap$Collector.takenPages
def FX0_takenPages (n : Nat) (st : St) : Option (Int32 × St) := some ((st.1 2 16), st)
set_option maxHeartbeats 4000000 in
set_option maxRecDepth 100000 in
theorem kX0_takenPages (l : Launch) (D : va_G) (h : Nat → Nat) (cI cJ cZ : ClassId) (n : Nat) (st : St) (r : Int32) (u : St) (hF : FX0_takenPages n  st = some (r, u)) : Ci l yX0_takenPages cX0_takenPages 1 (some .int) 0 0 D (tyL cI cJ cZ) (wX h cI cJ cZ) st [.ref (h 2)] r u := by
  refine body_i (by decide +kernel) (Nat.le_of_ble_eq_true rfl) ?_
  intro p e s m below meth c A ls E hr hlocks hA hP hD hS hl
  have E : Env1 p s m _ c cX0_takenPages 1 RX0 D (tyL cI cJ cZ) := E
  have hl : lv_has ls 1 [(0, .ref (h 2))] := hl
  have hx := E.1.1
  have hb := E.1.2.1
  have hml := E.1.2.2.1
  unfold FX0_takenPages at hF
  refine lv_aload_n hx hb dX0_takenPages_0 rfl (lv_at hl 0 rfl) ?_
  refine g_2_16 E hP dX0_takenPages_1 ?_
  exact endI E hr hlocks hP hD hS dX0_takenPages_4 hF
-- LooseHeap$Collector.freedPages
def FX0_freedPages (n : Nat) (st : St) : Option (Int32 × St) := some ((st.1 2 17), st)
set_option maxHeartbeats 4000000 in
set_option maxRecDepth 100000 in
theorem kX0_freedPages (l : Launch) (D : va_G) (h : Nat → Nat) (cI cJ cZ : ClassId) (n : Nat) (st : St) (r : Int32) (u : St) (hF : FX0_freedPages n  st = some (r, u)) : Ci l yX0_freedPages cX0_freedPages 1 (some .int) 0 0 D (tyL cI cJ cZ) (wX h cI cJ cZ) st [.ref (h 2)] r u := by
  refine body_i (by decide +kernel) (Nat.le_of_ble_eq_true rfl) ?_
  intro p e s m below meth c A ls E hr hlocks hA hP hD hS hl
  have E : Env1 p s m _ c cX0_freedPages 1 RX0 D (tyL cI cJ cZ) := E
  have hl : lv_has ls 1 [(0, .ref (h 2))] := hl
  have hx := E.1.1
  have hb := E.1.2.1
  have hml := E.1.2.2.1
  unfold FX0_freedPages at hF
  refine lv_aload_n hx hb dX0_freedPages_0 rfl (lv_at hl 0 rfl) ?_
  refine g_2_17 E hP dX0_freedPages_1 ?_
  exact endI E hr hlocks hP hD hS dX0_freedPages_4 hF
-- LooseHeap$Collector.clearPlan
def LX0_clearPlan_15 : Nat → Int32 → St → Option (Int32 × St)
  | 0 => fun _ _ => none
  | n + 1 => fun x1 st => (if (64 : Int32) ≤ x1 then some ((0 : Int32), (pt (pt (pt (pt st 2 6 (-1 : Int32)) 2 7 (0 : Int32)) 2 8 (0 : Int32)) 2 9 (0 : Int32))) else gd x1 64 (gd x1 64 (LX0_clearPlan_15 n (x1 + (1 : Int32)) (pt (pt st 11 x1.toNatClampNeg (vp_nar .boolean (0 : Int32))) 12 x1.toNatClampNeg (vp_nar .boolean (0 : Int32))))))
set_option maxHeartbeats 4000000 in
set_option maxRecDepth 100000 in
theorem lX0_clearPlan_15 {l : Launch} {D : va_G} {h : Nat → Nat} {cI cJ cZ : ClassId} {p : Program} {e : Env} {s : State} {m : MethodId} {args : Array Value} {below : List Frame} {meth : Method} {c : Code} {A : Nat → Prop} {r : Int32} {u : St} (E : Env1 p s m args c cX0_clearPlan 2 RX0 D (tyL cI cJ cZ)) (hr : meth.sig.returnType = none) (hlocks : meth.locks = false) (hA : ∀ q : Nat, s.heap.size ≤ q → A q) : ∀ (n : Nat) (x1 : Int32) (st : St) (H : Heap) (locs : List Loc) (ls : Array Slot), va_P D vwCl (wX h cI cJ cZ st) H → va_D A (wX h cI cJ cZ st) → va_S A s.heap H locs → lv_has ls 2 [(0, .ref (h 2)), (1, .int x1)] → LX0_clearPlan_15 n x1 st = some (r, u) → W p l e (rm 1 40) s m args below meth c H locs 0 0 (MQ below (CQv D (tyL cI cJ cZ) (wX h cI cJ cZ) A u) args s 0 0 A) (F0 m 15 ls []) := by
  have hx := E.1.1
  have hb := E.1.2.1
  have hml := E.1.2.2.1
  intro n
  induction n with
  | zero => intro x1 st H locs ls hP hD hS hl hF; simp only [LX0_clearPlan_15] at hF; cases hF
  | succ n ih =>
    intro x1 st H locs ls hP hD hS hl hF
    simp only [LX0_clearPlan_15] at hF
    refine lv_iload_n hx hb dX0_clearPlan_15 rfl (lv_at hl 1 rfl) ?_
    refine lv_bipush (v := 64) hx hb dX0_clearPlan_16 (by decide) ?_
    refine lv_icmp_ge (tgt := 41) hx hb dX0_clearPlan_18 (by decide) (fun hc => ?_) (fun hc => ?_)
    · have hF := if_t hc hF
      refine lv_aload_n hx hb dX0_clearPlan_41 rfl (lv_at hl 0 rfl) ?_
      refine lv_iconst (v := (-1)) hx hb dX0_clearPlan_42 (by decide) ?_
      refine s_2_6 E hP hD hS dX0_clearPlan_43 (fun H locs hP hD hS => ?_)
      refine lv_aload_n hx hb dX0_clearPlan_46 rfl (lv_at hl 0 rfl) ?_
      refine lv_iconst (v := 0) hx hb dX0_clearPlan_47 (by decide) ?_
      refine s_2_7 E hP hD hS dX0_clearPlan_48 (fun H locs hP hD hS => ?_)
      refine lv_aload_n hx hb dX0_clearPlan_51 rfl (lv_at hl 0 rfl) ?_
      refine lv_iconst (v := 0) hx hb dX0_clearPlan_52 (by decide) ?_
      refine s_2_8 E hP hD hS dX0_clearPlan_53 (fun H locs hP hD hS => ?_)
      refine lv_aload_n hx hb dX0_clearPlan_56 rfl (lv_at hl 0 rfl) ?_
      refine lv_iconst (v := 0) hx hb dX0_clearPlan_57 (by decide) ?_
      refine s_2_9 E hP hD hS dX0_clearPlan_58 (fun H locs hP hD hS => ?_)
      exact endV E hr hlocks hP hD hS dX0_clearPlan_61 hF
    · have hF := if_f hc hF
      refine lv_aload_n hx hb dX0_clearPlan_21 rfl (lv_at hl 0 rfl) ?_
      refine g_2_4 E hP dX0_clearPlan_22 ?_
      refine lv_iload_n hx hb dX0_clearPlan_25 rfl (lv_at hl 1 rfl) ?_
      refine lv_iconst (v := 0) hx hb dX0_clearPlan_26 (by decide) ?_
      obtain ⟨hi1, hF⟩ := gd_some hF
      refine sa_11 E hP hD hS hi1 dX0_clearPlan_27 (fun H locs hP hD hS => ?_)
      refine lv_aload_n hx hb dX0_clearPlan_28 rfl (lv_at hl 0 rfl) ?_
      refine g_2_5 E hP dX0_clearPlan_29 ?_
      refine lv_iload_n hx hb dX0_clearPlan_32 rfl (lv_at hl 1 rfl) ?_
      refine lv_iconst (v := 0) hx hb dX0_clearPlan_33 (by decide) ?_
      obtain ⟨hi2, hF⟩ := gd_some hF
      refine sa_12 E hP hD hS hi2 dX0_clearPlan_34 (fun H locs hP hD hS => ?_)
      refine lv_iinc (v := (x1 + (1 : Int32))) (lv' := [(1, .int (x1 + (1 : Int32))), (0, .ref (h 2))]) hx hb dX0_clearPlan_35 hl (k := 1) rfl rfl (by decide) rfl (fun ls hl => ?_)
      refine lv_goto (tgt := 15) hx hb dX0_clearPlan_38 (by decide) ?_
      exact ih _ _ _ _ _ hP hD hS (lv_sub hl [1, 0] rfl) hF
def FX0_clearPlan (n : Nat) (st : St) : Option (Int32 × St) := LX0_clearPlan_15 n (0 : Int32) (pf (pt st 2 2 (0 : Int32)) 10 (flI 4096 (-1 : Int32) ((pt st 2 2 (0 : Int32)).1 10)))
set_option maxHeartbeats 4000000 in
set_option maxRecDepth 100000 in
theorem kX0_clearPlan (l : Launch) (D : va_G) (h : Nat → Nat) (cI cJ cZ : ClassId) (n : Nat) (st : St) (r : Int32) (u : St) (hF : FX0_clearPlan n  st = some (r, u)) : Cv l yX0_clearPlan cX0_clearPlan 2 1 40 D (tyL cI cJ cZ) (wX h cI cJ cZ) st [.ref (h 2)] u := by
  refine body_v (by decide +kernel) (Nat.le_of_ble_eq_true rfl) ?_
  intro p e s m below meth c A ls E hr hlocks hA hP hD hS hl
  have E : Env1 p s m _ c cX0_clearPlan 2 RX0 D (tyL cI cJ cZ) := E
  have hl : lv_has ls 2 [(0, .ref (h 2))] := hl
  have hx := E.1.1
  have hb := E.1.2.1
  have hml := E.1.2.2.1
  unfold FX0_clearPlan at hF
  refine lv_aload_n hx hb dX0_clearPlan_0 rfl (lv_at hl 0 rfl) ?_
  refine lv_iconst (v := 0) hx hb dX0_clearPlan_1 (by decide) ?_
  refine s_2_2 E hP hD hS dX0_clearPlan_2 (fun H locs hP hD hS => ?_)
  refine lv_aload_n hx hb dX0_clearPlan_5 rfl (lv_at hl 0 rfl) ?_
  refine g_2_3 E hP dX0_clearPlan_6 ?_
  refine lv_iconst (v := (-1)) hx hb dX0_clearPlan_9 (by decide) ?_
  refine fill_10 E hA hP hD hS hl.1 ml_X0_39 (rest := []) (Nat.le_of_ble_eq_true rfl) ⟨Nat.le_of_ble_eq_true rfl, Nat.le_of_ble_eq_true rfl⟩ dX0_clearPlan_10 (fun H locs hP hD hS => ?_)
  refine lv_iconst (v := 0) hx hb dX0_clearPlan_13 (by decide) ?_
  refine lv_istore_n (lv' := [(1, .int (0 : Int32)), (0, .ref (h 2))]) hx hb dX0_clearPlan_14 rfl hl (by decide) rfl (fun ls hl => ?_)
  exact lX0_clearPlan_15 E hr hlocks hA n (0 : Int32) (pf (pt st 2 2 (0 : Int32)) 10 (flI 4096 (-1 : Int32) ((pt st 2 2 (0 : Int32)).1 10))) _ _ _ hP hD hS (lv_sub hl [1, 0] rfl) hF
theorem cw_X0_116 : cwd RX0 116 RX1 yX1_isFree cX1_isFree 2 (some .boolean) 1 := ⟨tb_V (tb_in 220 (by decide +kernel) (by decide +kernel)) (tb_in 221 (by decide +kernel) (by decide +kernel)) (tb_in 222 (by decide +kernel) (by decide +kernel)) (tb_in 46 (by decide +kernel) (by decide +kernel)) (tb_in 223 (by decide +kernel) (by decide +kernel)), by decide +kernel⟩
theorem cw_X0_119 : cwd RX0 119 RX1 yX1_firstPageWith cX1_firstPageWith 3 (some .int) 1 := ⟨tb_V (tb_in 224 (by decide +kernel) (by decide +kernel)) (tb_in 225 (by decide +kernel) (by decide +kernel)) (tb_in 226 (by decide +kernel) (by decide +kernel)) (tb_in 46 (by decide +kernel) (by decide +kernel)) (tb_in 227 (by decide +kernel) (by decide +kernel)), by decide +kernel⟩
theorem cw_X0_122 : cwd RX0 122 RX1 yX1_pageBehind cX1_pageBehind 3 (some .int) 1 := ⟨tb_V (tb_in 228 (by decide +kernel) (by decide +kernel)) (tb_in 229 (by decide +kernel) (by decide +kernel)) (tb_in 230 (by decide +kernel) (by decide +kernel)) (tb_in 46 (by decide +kernel) (by decide +kernel)) (tb_in 231 (by decide +kernel) (by decide +kernel)), by decide +kernel⟩
-- LooseHeap$Collector.markHit
def LX0_markHit_33 : Nat → Int32 → Int32 → Int32 → Int32 → St → Option (Int32 × St)
  | 0 => fun _ _ _ _ _ => none
  | n + 1 => fun x1 x2 x3 x4 st => (if x3 ≤ x4 then some ((0 : Int32), st) else gd x4 64 (gd x4 64 (LX0_markHit_33 n x1 x2 x3 (x4 + (1 : Int32)) (pt (pt st 11 x4.toNatClampNeg (vp_nar .boolean (1 : Int32))) 12 x4.toNatClampNeg (vp_nar .boolean (1 : Int32))))))
set_option maxHeartbeats 4000000 in
set_option maxRecDepth 100000 in
theorem lX0_markHit_33 {l : Launch} {D : va_G} {h : Nat → Nat} {cI cJ cZ : ClassId} {p : Program} {e : Env} {s : State} {m : MethodId} {args : Array Value} {below : List Frame} {meth : Method} {c : Code} {A : Nat → Prop} {r : Int32} {u : St} (E : Env1 p s m args c cX0_markHit 5 RX0 D (tyL cI cJ cZ)) (hr : meth.sig.returnType = none) (hlocks : meth.locks = false) (hA : ∀ q : Nat, s.heap.size ≤ q → A q) : ∀ (n : Nat) (x1 x2 x3 x4 : Int32) (st : St) (H : Heap) (locs : List Loc) (ls : Array Slot), va_P D vwCl (wX h cI cJ cZ st) H → va_D A (wX h cI cJ cZ st) → va_S A s.heap H locs → lv_has ls 5 [(0, .ref (h 2)), (1, .int x1), (2, .int x2), (3, .int x3), (4, .int x4)] → LX0_markHit_33 n x1 x2 x3 x4 st = some (r, u) → W p l e (rm 1 22) s m args below meth c H locs 0 0 (MQ below (CQv D (tyL cI cJ cZ) (wX h cI cJ cZ) A u) args s 0 0 A) (F0 m 33 ls []) := by
  have hx := E.1.1
  have hb := E.1.2.1
  have hml := E.1.2.2.1
  intro n
  induction n with
  | zero => intro x1 x2 x3 x4 st H locs ls hP hD hS hl hF; simp only [LX0_markHit_33] at hF; cases hF
  | succ n ih =>
    intro x1 x2 x3 x4 st H locs ls hP hD hS hl hF
    simp only [LX0_markHit_33] at hF
    refine lv_iload hx hb dX0_markHit_33 (lv_at hl 4 rfl) ?_
    refine lv_iload_n hx hb dX0_markHit_35 rfl (lv_at hl 3 rfl) ?_
    refine lv_icmp_ge (tgt := 61) hx hb dX0_markHit_36 (by decide) (fun hc => ?_) (fun hc => ?_)
    · have hF := if_t hc hF
      exact endV E hr hlocks hP hD hS dX0_markHit_61 hF
    · have hF := if_f hc hF
      refine lv_aload_n hx hb dX0_markHit_39 rfl (lv_at hl 0 rfl) ?_
      refine g_2_4 E hP dX0_markHit_40 ?_
      refine lv_iload hx hb dX0_markHit_43 (lv_at hl 4 rfl) ?_
      refine lv_iconst (v := 1) hx hb dX0_markHit_45 (by decide) ?_
      obtain ⟨hi10, hF⟩ := gd_some hF
      refine sa_11 E hP hD hS hi10 dX0_markHit_46 (fun H locs hP hD hS => ?_)
      refine lv_aload_n hx hb dX0_markHit_47 rfl (lv_at hl 0 rfl) ?_
      refine g_2_5 E hP dX0_markHit_48 ?_
      refine lv_iload hx hb dX0_markHit_51 (lv_at hl 4 rfl) ?_
      refine lv_iconst (v := 1) hx hb dX0_markHit_53 (by decide) ?_
      obtain ⟨hi11, hF⟩ := gd_some hF
      refine sa_12 E hP hD hS hi11 dX0_markHit_54 (fun H locs hP hD hS => ?_)
      refine lv_iinc (v := (x4 + (1 : Int32))) (lv' := [(4, .int (x4 + (1 : Int32))), (0, .ref (h 2)), (1, .int x1), (2, .int x2), (3, .int x3)]) hx hb dX0_markHit_55 hl (k := 4) rfl rfl (by decide) rfl (fun ls hl => ?_)
      refine lv_goto (tgt := 33) hx hb dX0_markHit_58 (by decide) ?_
      exact ih _ _ _ _ _ _ _ _ hP hD hS (lv_sub hl [1, 2, 3, 4, 0] rfl) hF
def FX0_markHit (n : Nat) (x1 : Int32) (st : St) : Option (Int32 × St) := bd (FX1_isFree n x1 st) (fun r1 u2 => (if r1 = 0 then bd (FX1_firstPageWith n x1 u2) (fun r4 u5 => bd (FX1_pageBehind n r4 u5) (fun r7 u8 => LX0_markHit_33 n x1 r4 r7 r4 u8)) else some ((0 : Int32), u2)))
set_option maxHeartbeats 4000000 in
set_option maxRecDepth 100000 in
theorem kX0_markHit (l : Launch) (D : va_G) (h : Nat → Nat) (cI cJ cZ : ClassId) (n : Nat) (x1 : Int32) (st : St) (r : Int32) (u : St) (hF : FX0_markHit n x1 st = some (r, u)) : Cv l yX0_markHit cX0_markHit 5 1 22 D (tyL cI cJ cZ) (wX h cI cJ cZ) st [.ref (h 2), .int x1] u := by
  refine body_v (by decide +kernel) (Nat.le_of_ble_eq_true rfl) ?_
  intro p e s m below meth c A ls E hr hlocks hA hP hD hS hl
  have E : Env1 p s m _ c cX0_markHit 5 RX0 D (tyL cI cJ cZ) := E
  have hl : lv_has ls 5 [(0, .ref (h 2)), (1, .int x1)] := hl
  have hx := E.1.1
  have hb := E.1.2.1
  have hml := E.1.2.2.1
  unfold FX0_markHit at hF
  refine lv_aload_n hx hb dX0_markHit_0 rfl (lv_at hl 0 rfl) ?_
  refine g_2_0 E hP dX0_markHit_1 ?_
  refine lv_iload_n hx hb dX0_markHit_4 rfl (lv_at hl 1 rfl) ?_
  obtain ⟨r1, u2, hc3, hF⟩ := bd_some hF
  refine call_i (rest := []) E hA hP hD hS hl.1 (kX1_isFree l D h cI cJ cZ n x1 st r1 u2 hc3) cw_X0_116 1 rfl rfl rfl rfl rfl (Nat.le_of_ble_eq_true rfl) ⟨Nat.le_of_ble_eq_true rfl, Nat.le_of_ble_eq_true rfl⟩ ⟨Nat.zero_le _, Nat.zero_le _⟩ dX0_markHit_5 (fun H locs hP hD hS => ?_)
  refine lv_if_eq (tgt := 12) hx hb dX0_markHit_8 (by decide) (fun hc => ?_) (fun hc => ?_)
  · have hF := if_t hc hF
    refine lv_aload_n hx hb dX0_markHit_12 rfl (lv_at hl 0 rfl) ?_
    refine g_2_0 E hP dX0_markHit_13 ?_
    refine lv_iload_n hx hb dX0_markHit_16 rfl (lv_at hl 1 rfl) ?_
    obtain ⟨r4, u5, hc6, hF⟩ := bd_some hF
    refine call_i (rest := []) E hA hP hD hS hl.1 (kX1_firstPageWith l D h cI cJ cZ n x1 u2 r4 u5 hc6) cw_X0_119 1 rfl rfl rfl rfl rfl (Nat.le_of_ble_eq_true rfl) ⟨Nat.le_of_ble_eq_true rfl, Nat.le_of_ble_eq_true rfl⟩ ⟨Nat.zero_le _, Nat.zero_le _⟩ dX0_markHit_17 (fun H locs hP hD hS => ?_)
    refine lv_istore_n (lv' := [(2, .int r4), (0, .ref (h 2)), (1, .int x1)]) hx hb dX0_markHit_20 rfl hl (by decide) rfl (fun ls hl => ?_)
    refine lv_aload_n hx hb dX0_markHit_21 rfl (lv_at hl 1 rfl) ?_
    refine g_2_0 E hP dX0_markHit_22 ?_
    refine lv_iload_n hx hb dX0_markHit_25 rfl (lv_at hl 0 rfl) ?_
    obtain ⟨r7, u8, hc9, hF⟩ := bd_some hF
    refine call_i (rest := []) E hA hP hD hS hl.1 (kX1_pageBehind l D h cI cJ cZ n r4 u5 r7 u8 hc9) cw_X0_122 1 rfl rfl rfl rfl rfl (Nat.le_of_ble_eq_true rfl) ⟨Nat.le_of_ble_eq_true rfl, Nat.le_of_ble_eq_true rfl⟩ ⟨Nat.zero_le _, Nat.zero_le _⟩ dX0_markHit_26 (fun H locs hP hD hS => ?_)
    refine lv_istore_n (lv' := [(3, .int r7), (2, .int r4), (0, .ref (h 2)), (1, .int x1)]) hx hb dX0_markHit_29 rfl hl (by decide) rfl (fun ls hl => ?_)
    refine lv_iload_n hx hb dX0_markHit_30 rfl (lv_at hl 1 rfl) ?_
    refine lv_istore (lv' := [(4, .int r4), (3, .int r7), (2, .int r4), (0, .ref (h 2)), (1, .int x1)]) hx hb dX0_markHit_31 hl (by decide) rfl (fun ls hl => ?_)
    exact lX0_markHit_33 E hr hlocks hA n x1 r4 r7 r4 u8 _ _ _ hP hD hS (lv_sub hl [3, 4, 2, 1, 0] rfl) hF
  · have hF := if_f hc hF
    exact endV E hr hlocks hP hD hS dX0_markHit_11 hF
theorem cw_X0_102 : cwd RX0 102 RX1 yX1_isAddress cX1_isAddress 2 (some .boolean) 1 := ⟨tb_V (tb_in 208 (by decide +kernel) (by decide +kernel)) (tb_in 209 (by decide +kernel) (by decide +kernel)) (tb_in 210 (by decide +kernel) (by decide +kernel)) (tb_in 46 (by decide +kernel) (by decide +kernel)) (tb_in 211 (by decide +kernel) (by decide +kernel)), by decide +kernel⟩
theorem cw_X0_108 : cwd RX0 108 RX1 yX1_pageOf cX1_pageOf 2 (some .int) 1 := ⟨tb_V (tb_in 212 (by decide +kernel) (by decide +kernel)) (tb_in 213 (by decide +kernel) (by decide +kernel)) (tb_in 214 (by decide +kernel) (by decide +kernel)) (tb_in 46 (by decide +kernel) (by decide +kernel)) (tb_in 215 (by decide +kernel) (by decide +kernel)), by decide +kernel⟩
theorem cw_X0_112 : cwd RX0 112 RX0 yX0_markHit cX0_markHit 5 none 1 := ⟨tb_V (tb_in 216 (by decide +kernel) (by decide +kernel)) (tb_in 218 (by decide +kernel) (by decide +kernel)) (tb_in 3 (by decide +kernel) (by decide +kernel)) (tb_in 47 (by decide +kernel) (by decide +kernel)) (tb_in 219 (by decide +kernel) (by decide +kernel)), by decide +kernel⟩
-- LooseHeap$Collector.markHits
def LX0_markHits_2 : Nat → Int32 → St → Option (Int32 × St)
  | 0 => fun _ _ => none
  | n + 1 => fun x2 st => (if (32 : Int32) ≤ x2 then some ((0 : Int32), st) else gd x2 32 (bd (FX1_isAddress n (st.1 4 x2.toNatClampNeg) st) (fun r2 u3 => (if r2 = 0 then LX0_markHits_2 n (x2 + (1 : Int32)) u3 else gd x2 32 (bd (FX1_pageOf n (u3.1 4 x2.toNatClampNeg) u3) (fun r6 u7 => bd (FX0_markHit n r6 u7) (fun r9 u10 => LX0_markHits_2 n (x2 + (1 : Int32)) u10)))))))
set_option maxHeartbeats 4000000 in
set_option maxRecDepth 100000 in
theorem lX0_markHits_2 {l : Launch} {D : va_G} {h : Nat → Nat} {cI cJ cZ : ClassId} {p : Program} {e : Env} {s : State} {m : MethodId} {args : Array Value} {below : List Frame} {meth : Method} {c : Code} {A : Nat → Prop} {r : Int32} {u : St} (E : Env1 p s m args c cX0_markHits 3 RX0 D (tyL cI cJ cZ)) (hr : meth.sig.returnType = none) (hlocks : meth.locks = false) (hA : ∀ q : Nat, s.heap.size ≤ q → A q) : ∀ (n : Nat) (x2 : Int32) (st : St) (H : Heap) (locs : List Loc) (ls : Array Slot), va_P D vwCl (wX h cI cJ cZ st) H → va_D A (wX h cI cJ cZ st) → va_S A s.heap H locs → lv_has ls 3 [(0, .ref (h 2)), (1, .ref (h 4)), (2, .int x2)] → LX0_markHits_2 n x2 st = some (r, u) → W p l e (rm 2 46) s m args below meth c H locs 0 0 (MQ below (CQv D (tyL cI cJ cZ) (wX h cI cJ cZ) A u) args s 0 0 A) (F0 m 2 ls []) := by
  have hx := E.1.1
  have hb := E.1.2.1
  have hml := E.1.2.2.1
  intro n
  induction n with
  | zero => intro x2 st H locs ls hP hD hS hl hF; simp only [LX0_markHits_2] at hF; cases hF
  | succ n ih =>
    intro x2 st H locs ls hP hD hS hl hF
    simp only [LX0_markHits_2] at hF
    refine lv_iload_n hx hb dX0_markHits_2 rfl (lv_at hl 2 rfl) ?_
    refine lv_aload_n hx hb dX0_markHits_3 rfl (lv_at hl 1 rfl) ?_
    refine al_4 E hP dX0_markHits_4 ?_
    refine lv_icmp_ge (tgt := 41) hx hb dX0_markHits_5 (by decide) (fun hc => ?_) (fun hc => ?_)
    · have hF := if_t hc hF
      exact endV E hr hlocks hP hD hS dX0_markHits_41 hF
    · have hF := if_f hc hF
      refine lv_aload_n hx hb dX0_markHits_8 rfl (lv_at hl 0 rfl) ?_
      refine g_2_0 E hP dX0_markHits_9 ?_
      refine lv_aload_n hx hb dX0_markHits_12 rfl (lv_at hl 1 rfl) ?_
      refine lv_iload_n hx hb dX0_markHits_13 rfl (lv_at hl 2 rfl) ?_
      obtain ⟨hi1, hF⟩ := gd_some hF
      refine la_4 E hP hi1 dX0_markHits_14 ?_
      obtain ⟨r2, u3, hc4, hF⟩ := bd_some hF
      refine call_i (rest := []) E hA hP hD hS hl.1 (kX1_isAddress l D h cI cJ cZ n (st.1 4 x2.toNatClampNeg) st r2 u3 hc4) cw_X0_102 1 rfl rfl rfl rfl rfl (Nat.le_of_ble_eq_true rfl) ⟨Nat.le_of_ble_eq_true rfl, Nat.le_of_ble_eq_true rfl⟩ ⟨Nat.zero_le _, Nat.zero_le _⟩ dX0_markHits_15 (fun H locs hP hD hS => ?_)
      refine lv_if_eq (tgt := 35) hx hb dX0_markHits_18 (by decide) (fun hc => ?_) (fun hc => ?_)
      · have hF := if_t hc hF
        refine lv_iinc (v := (x2 + (1 : Int32))) (lv' := [(2, .int (x2 + (1 : Int32))), (0, .ref (h 2)), (1, .ref (h 4))]) hx hb dX0_markHits_35 hl (k := 2) rfl rfl (by decide) rfl (fun ls hl => ?_)
        refine lv_goto (tgt := 2) hx hb dX0_markHits_38 (by decide) ?_
        exact ih _ _ _ _ _ hP hD hS (lv_sub hl [1, 2, 0] rfl) hF
      · have hF := if_f hc hF
        refine lv_aload_n hx hb dX0_markHits_21 rfl (lv_at hl 0 rfl) ?_
        refine lv_aload_n hx hb dX0_markHits_22 rfl (lv_at hl 0 rfl) ?_
        refine g_2_0 E hP dX0_markHits_23 ?_
        refine lv_aload_n hx hb dX0_markHits_26 rfl (lv_at hl 1 rfl) ?_
        refine lv_iload_n hx hb dX0_markHits_27 rfl (lv_at hl 2 rfl) ?_
        obtain ⟨hi5, hF⟩ := gd_some hF
        refine la_4 E hP hi5 dX0_markHits_28 ?_
        obtain ⟨r6, u7, hc8, hF⟩ := bd_some hF
        refine call_i (rest := [.ref (h 2)]) E hA hP hD hS hl.1 (kX1_pageOf l D h cI cJ cZ n (u3.1 4 x2.toNatClampNeg) u3 r6 u7 hc8) cw_X0_108 1 rfl rfl rfl rfl rfl (Nat.le_of_ble_eq_true rfl) ⟨Nat.le_of_ble_eq_true rfl, Nat.le_of_ble_eq_true rfl⟩ ⟨Nat.zero_le _, Nat.zero_le _⟩ dX0_markHits_29 (fun H locs hP hD hS => ?_)
        obtain ⟨r9, u10, hc11, hF⟩ := bd_some hF
        refine call_v (rest := []) E hA hP hD hS hl.1 (kX0_markHit l D h cI cJ cZ n r6 u7 r9 u10 hc11) cw_X0_112 2 rfl rfl rfl rfl rfl (Nat.le_of_ble_eq_true rfl) ⟨Nat.le_of_ble_eq_true rfl, Nat.le_of_ble_eq_true rfl⟩ ⟨Nat.zero_le _, Nat.zero_le _⟩ dX0_markHits_32 (fun H locs hP hD hS => ?_)
        refine lv_iinc (v := (x2 + (1 : Int32))) (lv' := [(2, .int (x2 + (1 : Int32))), (0, .ref (h 2)), (1, .ref (h 4))]) hx hb dX0_markHits_35 hl (k := 2) rfl rfl (by decide) rfl (fun ls hl => ?_)
        refine lv_goto (tgt := 2) hx hb dX0_markHits_38 (by decide) ?_
        exact ih _ _ _ _ _ hP hD hS (lv_sub hl [1, 2, 0] rfl) hF
def FX0_markHits (n : Nat) (st : St) : Option (Int32 × St) := LX0_markHits_2 n (0 : Int32) st
set_option maxHeartbeats 4000000 in
set_option maxRecDepth 100000 in
theorem kX0_markHits (l : Launch) (D : va_G) (h : Nat → Nat) (cI cJ cZ : ClassId) (n : Nat) (st : St) (r : Int32) (u : St) (hF : FX0_markHits n  st = some (r, u)) : Cv l yX0_markHits cX0_markHits 3 2 46 D (tyL cI cJ cZ) (wX h cI cJ cZ) st [.ref (h 2), .ref (h 4)] u := by
  refine body_v (by decide +kernel) (Nat.le_of_ble_eq_true rfl) ?_
  intro p e s m below meth c A ls E hr hlocks hA hP hD hS hl
  have E : Env1 p s m _ c cX0_markHits 3 RX0 D (tyL cI cJ cZ) := E
  have hl : lv_has ls 3 [(0, .ref (h 2)), (1, .ref (h 4))] := hl
  have hx := E.1.1
  have hb := E.1.2.1
  have hml := E.1.2.2.1
  unfold FX0_markHits at hF
  refine lv_iconst (v := 0) hx hb dX0_markHits_0 (by decide) ?_
  refine lv_istore_n (lv' := [(2, .int (0 : Int32)), (0, .ref (h 2)), (1, .ref (h 4))]) hx hb dX0_markHits_1 rfl hl (by decide) rfl (fun ls hl => ?_)
  exact lX0_markHits_2 E hr hlocks hA n (0 : Int32) st _ _ _ hP hD hS (lv_sub hl [1, 2, 0] rfl) hF
-- LooseHeap$Collector.addToRow
def FX0_addToRow (n : Nat) (x1 x2 : Int32) (st : St) : Option (Int32 × St) := gd (st.1 2 2) 4096 (gd x1 4096 (some ((0 : Int32), (pt (pt (pt st 9 (st.1 2 2).toNatClampNeg x1) 2 2 (((pt st 9 (st.1 2 2).toNatClampNeg x1).1 2 2) + (1 : Int32))) 10 x1.toNatClampNeg x2))))
set_option maxHeartbeats 4000000 in
set_option maxRecDepth 100000 in
theorem kX0_addToRow (l : Launch) (D : va_G) (h : Nat → Nat) (cI cJ cZ : ClassId) (n : Nat) (x1 x2 : Int32) (st : St) (r : Int32) (u : St) (hF : FX0_addToRow n x1 x2 st = some (r, u)) : Cv l yX0_addToRow cX0_addToRow 3 0 0 D (tyL cI cJ cZ) (wX h cI cJ cZ) st [.ref (h 2), .int x1, .int x2] u := by
  refine body_v (by decide +kernel) (Nat.le_of_ble_eq_true rfl) ?_
  intro p e s m below meth c A ls E hr hlocks hA hP hD hS hl
  have E : Env1 p s m _ c cX0_addToRow 3 RX0 D (tyL cI cJ cZ) := E
  have hl : lv_has ls 3 [(0, .ref (h 2)), (1, .int x1), (2, .int x2)] := hl
  have hx := E.1.1
  have hb := E.1.2.1
  have hml := E.1.2.2.1
  unfold FX0_addToRow at hF
  refine lv_aload_n hx hb dX0_addToRow_0 rfl (lv_at hl 0 rfl) ?_
  refine g_2_1 E hP dX0_addToRow_1 ?_
  refine lv_aload_n hx hb dX0_addToRow_4 rfl (lv_at hl 0 rfl) ?_
  refine g_2_2 E hP dX0_addToRow_5 ?_
  refine lv_iload_n hx hb dX0_addToRow_8 rfl (lv_at hl 1 rfl) ?_
  obtain ⟨hi1, hF⟩ := gd_some hF
  refine sa_9 E hP hD hS hi1 dX0_addToRow_9 (fun H locs hP hD hS => ?_)
  refine lv_aload_n hx hb dX0_addToRow_10 rfl (lv_at hl 0 rfl) ?_
  refine lv_dup hx hb dX0_addToRow_11 rfl ?_
  refine g_2_2 E hP dX0_addToRow_12 ?_
  refine lv_iconst (v := 1) hx hb dX0_addToRow_15 (by decide) ?_
  refine lv_iadd hx hb dX0_addToRow_16 ?_
  refine s_2_2 E hP hD hS dX0_addToRow_17 (fun H locs hP hD hS => ?_)
  refine lv_aload_n hx hb dX0_addToRow_20 rfl (lv_at hl 0 rfl) ?_
  refine g_2_3 E hP dX0_addToRow_21 ?_
  refine lv_iload_n hx hb dX0_addToRow_24 rfl (lv_at hl 1 rfl) ?_
  refine lv_iload_n hx hb dX0_addToRow_25 rfl (lv_at hl 2 rfl) ?_
  obtain ⟨hi2, hF⟩ := gd_some hF
  refine sa_10 E hP hD hS hi2 dX0_addToRow_26 (fun H locs hP hD hS => ?_)
  exact endV E hr hlocks hP hD hS dX0_addToRow_27 hF
theorem cw_X0_132 : cwd RX0 132 RX1 yX1_words cX1_words 1 (some .int) 0 := ⟨tb_V (tb_in 244 (by decide +kernel) (by decide +kernel)) (tb_in 245 (by decide +kernel) (by decide +kernel)) (tb_in 246 (by decide +kernel) (by decide +kernel)) (tb_in 46 (by decide +kernel) (by decide +kernel)) (tb_in 247 (by decide +kernel) (by decide +kernel)), by decide +kernel⟩
theorem cw_X0_135 : cwd RX0 135 RX1 yX1_addressOf cX1_addressOf 3 (some .int) 2 := ⟨tb_V (tb_in 248 (by decide +kernel) (by decide +kernel)) (tb_in 249 (by decide +kernel) (by decide +kernel)) (tb_in 250 (by decide +kernel) (by decide +kernel)) (tb_in 46 (by decide +kernel) (by decide +kernel)) (tb_in 251 (by decide +kernel) (by decide +kernel)), by decide +kernel⟩
theorem cw_X0_139 : cwd RX0 139 RX1 yX1_beginsAt cX1_beginsAt 2 (some .boolean) 1 := ⟨tb_V (tb_in 252 (by decide +kernel) (by decide +kernel)) (tb_in 253 (by decide +kernel) (by decide +kernel)) (tb_in 254 (by decide +kernel) (by decide +kernel)) (tb_in 46 (by decide +kernel) (by decide +kernel)) (tb_in 255 (by decide +kernel) (by decide +kernel)), by decide +kernel⟩
theorem cw_X0_142 : cwd RX0 142 RX0 yX0_addToRow cX0_addToRow 3 none 2 := ⟨tb_V (tb_in 257 (by decide +kernel) (by decide +kernel)) (tb_in 259 (by decide +kernel) (by decide +kernel)) (tb_in 6 (by decide +kernel) (by decide +kernel)) (tb_in 47 (by decide +kernel) (by decide +kernel)) (tb_in 260 (by decide +kernel) (by decide +kernel)), by decide +kernel⟩
-- LooseHeap$Collector.keepObjectsOf
def LX0_keepObjectsOf_2 : Nat → Int32 → Int32 → St → Option (Int32 × St)
  | 0 => fun _ _ _ => none
  | n + 1 => fun x1 x2 st => bd (FX1_words n  st) (fun r1 u2 => (if r1 ≤ x2 then some ((0 : Int32), u2) else bd (FX1_addressOf n x1 x2 u2) (fun r4 u5 => bd (FX1_beginsAt n r4 u5) (fun r7 u8 => (if r7 = 0 then LX0_keepObjectsOf_2 n x1 (x2 + (1 : Int32)) u8 else bd (FX0_addToRow n r4 r4 u8) (fun r10 u11 => LX0_keepObjectsOf_2 n x1 (x2 + (1 : Int32)) u11))))))
set_option maxHeartbeats 4000000 in
set_option maxRecDepth 100000 in
theorem lX0_keepObjectsOf_2 {l : Launch} {D : va_G} {h : Nat → Nat} {cI cJ cZ : ClassId} {p : Program} {e : Env} {s : State} {m : MethodId} {args : Array Value} {below : List Frame} {meth : Method} {c : Code} {A : Nat → Prop} {r : Int32} {u : St} (E : Env1 p s m args c cX0_keepObjectsOf 4 RX0 D (tyL cI cJ cZ)) (hr : meth.sig.returnType = none) (hlocks : meth.locks = false) (hA : ∀ q : Nat, s.heap.size ≤ q → A q) : ∀ (n : Nat) (x1 x2 : Int32) (st : St) (H : Heap) (locs : List Loc) (ls : Array Slot), va_P D vwCl (wX h cI cJ cZ st) H → va_D A (wX h cI cJ cZ st) → va_S A s.heap H locs → lv_has ls 4 [(0, .ref (h 2)), (1, .int x1), (2, .int x2)] → LX0_keepObjectsOf_2 n x1 x2 st = some (r, u) → W p l e (rm 2 42) s m args below meth c H locs 0 0 (MQ below (CQv D (tyL cI cJ cZ) (wX h cI cJ cZ) A u) args s 0 0 A) (F0 m 2 ls []) := by
  have hx := E.1.1
  have hb := E.1.2.1
  have hml := E.1.2.2.1
  intro n
  induction n with
  | zero => intro x1 x2 st H locs ls hP hD hS hl hF; simp only [LX0_keepObjectsOf_2] at hF; cases hF
  | succ n ih =>
    intro x1 x2 st H locs ls hP hD hS hl hF
    simp only [LX0_keepObjectsOf_2] at hF
    refine lv_iload_n hx hb dX0_keepObjectsOf_2 rfl (lv_at hl 2 rfl) ?_
    refine lv_aload_n hx hb dX0_keepObjectsOf_3 rfl (lv_at hl 0 rfl) ?_
    refine g_2_0 E hP dX0_keepObjectsOf_4 ?_
    obtain ⟨r1, u2, hc3, hF⟩ := bd_some hF
    refine call_i (rest := [.int x2]) E hA hP hD hS hl.1 (kX1_words l D h cI cJ cZ n  st r1 u2 hc3) cw_X0_132 1 rfl rfl rfl rfl rfl (Nat.le_of_ble_eq_true rfl) ⟨Nat.le_of_ble_eq_true rfl, Nat.le_of_ble_eq_true rfl⟩ ⟨Nat.zero_le _, Nat.zero_le _⟩ dX0_keepObjectsOf_7 (fun H locs hP hD hS => ?_)
    refine lv_icmp_ge (tgt := 46) hx hb dX0_keepObjectsOf_10 (by decide) (fun hc => ?_) (fun hc => ?_)
    · have hF := if_t hc hF
      exact endV E hr hlocks hP hD hS dX0_keepObjectsOf_46 hF
    · have hF := if_f hc hF
      refine lv_aload_n hx hb dX0_keepObjectsOf_13 rfl (lv_at hl 0 rfl) ?_
      refine g_2_0 E hP dX0_keepObjectsOf_14 ?_
      refine lv_iload_n hx hb dX0_keepObjectsOf_17 rfl (lv_at hl 1 rfl) ?_
      refine lv_iload_n hx hb dX0_keepObjectsOf_18 rfl (lv_at hl 2 rfl) ?_
      obtain ⟨r4, u5, hc6, hF⟩ := bd_some hF
      refine call_i (rest := []) E hA hP hD hS hl.1 (kX1_addressOf l D h cI cJ cZ n x1 x2 u2 r4 u5 hc6) cw_X0_135 1 rfl rfl rfl rfl rfl (Nat.le_of_ble_eq_true rfl) ⟨Nat.le_of_ble_eq_true rfl, Nat.le_of_ble_eq_true rfl⟩ ⟨Nat.zero_le _, Nat.zero_le _⟩ dX0_keepObjectsOf_19 (fun H locs hP hD hS => ?_)
      refine lv_istore_n (lv' := [(3, .int r4), (0, .ref (h 2)), (1, .int x1), (2, .int x2)]) hx hb dX0_keepObjectsOf_22 rfl hl (by decide) rfl (fun ls hl => ?_)
      refine lv_aload_n hx hb dX0_keepObjectsOf_23 rfl (lv_at hl 1 rfl) ?_
      refine g_2_0 E hP dX0_keepObjectsOf_24 ?_
      refine lv_iload_n hx hb dX0_keepObjectsOf_27 rfl (lv_at hl 0 rfl) ?_
      obtain ⟨r7, u8, hc9, hF⟩ := bd_some hF
      refine call_i (rest := []) E hA hP hD hS hl.1 (kX1_beginsAt l D h cI cJ cZ n r4 u5 r7 u8 hc9) cw_X0_139 1 rfl rfl rfl rfl rfl (Nat.le_of_ble_eq_true rfl) ⟨Nat.le_of_ble_eq_true rfl, Nat.le_of_ble_eq_true rfl⟩ ⟨Nat.zero_le _, Nat.zero_le _⟩ dX0_keepObjectsOf_28 (fun H locs hP hD hS => ?_)
      refine lv_if_eq (tgt := 40) hx hb dX0_keepObjectsOf_31 (by decide) (fun hc => ?_) (fun hc => ?_)
      · have hF := if_t hc hF
        refine lv_iinc (v := (x2 + (1 : Int32))) (lv' := [(2, .int (x2 + (1 : Int32))), (3, .int r4), (0, .ref (h 2)), (1, .int x1)]) hx hb dX0_keepObjectsOf_40 hl (k := 3) rfl rfl (by decide) rfl (fun ls hl => ?_)
        refine lv_goto (tgt := 2) hx hb dX0_keepObjectsOf_43 (by decide) ?_
        exact ih _ _ _ _ _ _ hP hD hS (lv_sub hl [2, 3, 0] rfl) hF
      · have hF := if_f hc hF
        refine lv_aload_n hx hb dX0_keepObjectsOf_34 rfl (lv_at hl 1 rfl) ?_
        refine lv_iload_n hx hb dX0_keepObjectsOf_35 rfl (lv_at hl 0 rfl) ?_
        refine lv_iload_n hx hb dX0_keepObjectsOf_36 rfl (lv_at hl 0 rfl) ?_
        obtain ⟨r10, u11, hc12, hF⟩ := bd_some hF
        refine call_v (rest := []) E hA hP hD hS hl.1 (kX0_addToRow l D h cI cJ cZ n r4 r4 u8 r10 u11 hc12) cw_X0_142 2 rfl rfl rfl rfl rfl (Nat.le_of_ble_eq_true rfl) ⟨Nat.le_of_ble_eq_true rfl, Nat.le_of_ble_eq_true rfl⟩ ⟨Nat.zero_le _, Nat.zero_le _⟩ dX0_keepObjectsOf_37 (fun H locs hP hD hS => ?_)
        refine lv_iinc (v := (x2 + (1 : Int32))) (lv' := [(2, .int (x2 + (1 : Int32))), (3, .int r4), (0, .ref (h 2)), (1, .int x1)]) hx hb dX0_keepObjectsOf_40 hl (k := 3) rfl rfl (by decide) rfl (fun ls hl => ?_)
        refine lv_goto (tgt := 2) hx hb dX0_keepObjectsOf_43 (by decide) ?_
        exact ih _ _ _ _ _ _ hP hD hS (lv_sub hl [2, 3, 0] rfl) hF
def FX0_keepObjectsOf (n : Nat) (x1 : Int32) (st : St) : Option (Int32 × St) := LX0_keepObjectsOf_2 n x1 (0 : Int32) st
set_option maxHeartbeats 4000000 in
set_option maxRecDepth 100000 in
theorem kX0_keepObjectsOf (l : Launch) (D : va_G) (h : Nat → Nat) (cI cJ cZ : ClassId) (n : Nat) (x1 : Int32) (st : St) (r : Int32) (u : St) (hF : FX0_keepObjectsOf n x1 st = some (r, u)) : Cv l yX0_keepObjectsOf cX0_keepObjectsOf 4 2 42 D (tyL cI cJ cZ) (wX h cI cJ cZ) st [.ref (h 2), .int x1] u := by
  refine body_v (by decide +kernel) (Nat.le_of_ble_eq_true rfl) ?_
  intro p e s m below meth c A ls E hr hlocks hA hP hD hS hl
  have E : Env1 p s m _ c cX0_keepObjectsOf 4 RX0 D (tyL cI cJ cZ) := E
  have hl : lv_has ls 4 [(0, .ref (h 2)), (1, .int x1)] := hl
  have hx := E.1.1
  have hb := E.1.2.1
  have hml := E.1.2.2.1
  unfold FX0_keepObjectsOf at hF
  refine lv_iconst (v := 0) hx hb dX0_keepObjectsOf_0 (by decide) ?_
  refine lv_istore_n (lv' := [(2, .int (0 : Int32)), (0, .ref (h 2)), (1, .int x1)]) hx hb dX0_keepObjectsOf_1 rfl hl (by decide) rfl (fun ls hl => ?_)
  exact lX0_keepObjectsOf_2 E hr hlocks hA n x1 (0 : Int32) st _ _ _ hP hD hS (lv_sub hl [1, 2, 0] rfl) hF
theorem cw_X0_125 : cwd RX0 125 RX1 yX1_pages cX1_pages 1 (some .int) 0 := ⟨tb_V (tb_in 236 (by decide +kernel) (by decide +kernel)) (tb_in 237 (by decide +kernel) (by decide +kernel)) (tb_in 238 (by decide +kernel) (by decide +kernel)) (tb_in 46 (by decide +kernel) (by decide +kernel)) (tb_in 239 (by decide +kernel) (by decide +kernel)), by decide +kernel⟩
theorem cw_X0_129 : cwd RX0 129 RX0 yX0_keepObjectsOf cX0_keepObjectsOf 4 none 1 := ⟨tb_V (tb_in 240 (by decide +kernel) (by decide +kernel)) (tb_in 242 (by decide +kernel) (by decide +kernel)) (tb_in 5 (by decide +kernel) (by decide +kernel)) (tb_in 47 (by decide +kernel) (by decide +kernel)) (tb_in 243 (by decide +kernel) (by decide +kernel)), by decide +kernel⟩
-- LooseHeap$Collector.keepHitObjects
def LX0_keepHitObjects_2 : Nat → Int32 → St → Option (Int32 × St)
  | 0 => fun _ _ => none
  | n + 1 => fun x1 st => bd (FX1_pages n  st) (fun r1 u2 => (if r1 ≤ x1 then some ((0 : Int32), u2) else gd x1 64 ((if (u2.1 11 x1.toNatClampNeg) = 0 then LX0_keepHitObjects_2 n (x1 + (1 : Int32)) u2 else bd (FX0_keepObjectsOf n x1 u2) (fun r5 u6 => LX0_keepHitObjects_2 n (x1 + (1 : Int32)) u6)))))
set_option maxHeartbeats 4000000 in
set_option maxRecDepth 100000 in
theorem lX0_keepHitObjects_2 {l : Launch} {D : va_G} {h : Nat → Nat} {cI cJ cZ : ClassId} {p : Program} {e : Env} {s : State} {m : MethodId} {args : Array Value} {below : List Frame} {meth : Method} {c : Code} {A : Nat → Prop} {r : Int32} {u : St} (E : Env1 p s m args c cX0_keepHitObjects 2 RX0 D (tyL cI cJ cZ)) (hr : meth.sig.returnType = none) (hlocks : meth.locks = false) (hA : ∀ q : Nat, s.heap.size ≤ q → A q) : ∀ (n : Nat) (x1 : Int32) (st : St) (H : Heap) (locs : List Loc) (ls : Array Slot), va_P D vwCl (wX h cI cJ cZ st) H → va_D A (wX h cI cJ cZ st) → va_S A s.heap H locs → lv_has ls 2 [(0, .ref (h 2)), (1, .int x1)] → LX0_keepHitObjects_2 n x1 st = some (r, u) → W p l e (rm 3 65) s m args below meth c H locs 0 0 (MQ below (CQv D (tyL cI cJ cZ) (wX h cI cJ cZ) A u) args s 0 0 A) (F0 m 2 ls []) := by
  have hx := E.1.1
  have hb := E.1.2.1
  have hml := E.1.2.2.1
  intro n
  induction n with
  | zero => intro x1 st H locs ls hP hD hS hl hF; simp only [LX0_keepHitObjects_2] at hF; cases hF
  | succ n ih =>
    intro x1 st H locs ls hP hD hS hl hF
    simp only [LX0_keepHitObjects_2] at hF
    refine lv_iload_n hx hb dX0_keepHitObjects_2 rfl (lv_at hl 1 rfl) ?_
    refine lv_aload_n hx hb dX0_keepHitObjects_3 rfl (lv_at hl 0 rfl) ?_
    refine g_2_0 E hP dX0_keepHitObjects_4 ?_
    obtain ⟨r1, u2, hc3, hF⟩ := bd_some hF
    refine call_i (rest := [.int x1]) E hA hP hD hS hl.1 (kX1_pages l D h cI cJ cZ n  st r1 u2 hc3) cw_X0_125 1 rfl rfl rfl rfl rfl (Nat.le_of_ble_eq_true rfl) ⟨Nat.le_of_ble_eq_true rfl, Nat.le_of_ble_eq_true rfl⟩ ⟨Nat.zero_le _, Nat.zero_le _⟩ dX0_keepHitObjects_7 (fun H locs hP hD hS => ?_)
    refine lv_icmp_ge (tgt := 33) hx hb dX0_keepHitObjects_10 (by decide) (fun hc => ?_) (fun hc => ?_)
    · have hF := if_t hc hF
      exact endV E hr hlocks hP hD hS dX0_keepHitObjects_33 hF
    · have hF := if_f hc hF
      refine lv_aload_n hx hb dX0_keepHitObjects_13 rfl (lv_at hl 0 rfl) ?_
      refine g_2_4 E hP dX0_keepHitObjects_14 ?_
      refine lv_iload_n hx hb dX0_keepHitObjects_17 rfl (lv_at hl 1 rfl) ?_
      obtain ⟨hi4, hF⟩ := gd_some hF
      refine la_11 E hP hi4 dX0_keepHitObjects_18 ?_
      refine lv_if_eq (tgt := 27) hx hb dX0_keepHitObjects_19 (by decide) (fun hc => ?_) (fun hc => ?_)
      · have hF := if_t hc hF
        refine lv_iinc (v := (x1 + (1 : Int32))) (lv' := [(1, .int (x1 + (1 : Int32))), (0, .ref (h 2))]) hx hb dX0_keepHitObjects_27 hl (k := 1) rfl rfl (by decide) rfl (fun ls hl => ?_)
        refine lv_goto (tgt := 2) hx hb dX0_keepHitObjects_30 (by decide) ?_
        exact ih _ _ _ _ _ hP hD hS (lv_sub hl [1, 0] rfl) hF
      · have hF := if_f hc hF
        refine lv_aload_n hx hb dX0_keepHitObjects_22 rfl (lv_at hl 0 rfl) ?_
        refine lv_iload_n hx hb dX0_keepHitObjects_23 rfl (lv_at hl 1 rfl) ?_
        obtain ⟨r5, u6, hc7, hF⟩ := bd_some hF
        refine call_v (rest := []) E hA hP hD hS hl.1 (kX0_keepObjectsOf l D h cI cJ cZ n x1 u2 r5 u6 hc7) cw_X0_129 2 rfl rfl rfl rfl rfl (Nat.le_of_ble_eq_true rfl) ⟨Nat.le_of_ble_eq_true rfl, Nat.le_of_ble_eq_true rfl⟩ ⟨Nat.zero_le _, Nat.zero_le _⟩ dX0_keepHitObjects_24 (fun H locs hP hD hS => ?_)
        refine lv_iinc (v := (x1 + (1 : Int32))) (lv' := [(1, .int (x1 + (1 : Int32))), (0, .ref (h 2))]) hx hb dX0_keepHitObjects_27 hl (k := 1) rfl rfl (by decide) rfl (fun ls hl => ?_)
        refine lv_goto (tgt := 2) hx hb dX0_keepHitObjects_30 (by decide) ?_
        exact ih _ _ _ _ _ hP hD hS (lv_sub hl [1, 0] rfl) hF
def FX0_keepHitObjects (n : Nat) (st : St) : Option (Int32 × St) := LX0_keepHitObjects_2 n (0 : Int32) st
set_option maxHeartbeats 4000000 in
set_option maxRecDepth 100000 in
theorem kX0_keepHitObjects (l : Launch) (D : va_G) (h : Nat → Nat) (cI cJ cZ : ClassId) (n : Nat) (st : St) (r : Int32) (u : St) (hF : FX0_keepHitObjects n  st = some (r, u)) : Cv l yX0_keepHitObjects cX0_keepHitObjects 2 3 65 D (tyL cI cJ cZ) (wX h cI cJ cZ) st [.ref (h 2)] u := by
  refine body_v (by decide +kernel) (Nat.le_of_ble_eq_true rfl) ?_
  intro p e s m below meth c A ls E hr hlocks hA hP hD hS hl
  have E : Env1 p s m _ c cX0_keepHitObjects 2 RX0 D (tyL cI cJ cZ) := E
  have hl : lv_has ls 2 [(0, .ref (h 2))] := hl
  have hx := E.1.1
  have hb := E.1.2.1
  have hml := E.1.2.2.1
  unfold FX0_keepHitObjects at hF
  refine lv_iconst (v := 0) hx hb dX0_keepHitObjects_0 (by decide) ?_
  refine lv_istore_n (lv' := [(1, .int (0 : Int32)), (0, .ref (h 2))]) hx hb dX0_keepHitObjects_1 rfl hl (by decide) rfl (fun ls hl => ?_)
  exact lX0_keepHitObjects_2 E hr hlocks hA n (0 : Int32) st _ _ _ hP hD hS (lv_sub hl [1, 0] rfl) hF
-- LooseHeap$Collector.keepLong
def LX0_keepLong_21 : Nat → Int32 → Int32 → Int32 → Int32 → St → Option (Int32 × St)
  | 0 => fun _ _ _ _ _ => none
  | n + 1 => fun x1 x2 x3 x4 st => (if x3 ≤ x4 then bd (FX0_addToRow n x1 x1 st) (fun r7 u8 => some ((0 : Int32), u8)) else gd x4 64 (LX0_keepLong_21 n x1 x2 x3 (x4 + (1 : Int32)) (pt st 12 x4.toNatClampNeg (vp_nar .boolean (1 : Int32)))))
set_option maxHeartbeats 4000000 in
set_option maxRecDepth 100000 in
theorem lX0_keepLong_21 {l : Launch} {D : va_G} {h : Nat → Nat} {cI cJ cZ : ClassId} {p : Program} {e : Env} {s : State} {m : MethodId} {args : Array Value} {below : List Frame} {meth : Method} {c : Code} {A : Nat → Prop} {r : Int32} {u : St} (E : Env1 p s m args c cX0_keepLong 5 RX0 D (tyL cI cJ cZ)) (hr : meth.sig.returnType = none) (hlocks : meth.locks = false) (hA : ∀ q : Nat, s.heap.size ≤ q → A q) : ∀ (n : Nat) (x1 x2 x3 x4 : Int32) (st : St) (H : Heap) (locs : List Loc) (ls : Array Slot), va_P D vwCl (wX h cI cJ cZ st) H → va_D A (wX h cI cJ cZ st) → va_S A s.heap H locs → lv_has ls 5 [(0, .ref (h 2)), (1, .int x1), (2, .int x2), (3, .int x3), (4, .int x4)] → LX0_keepLong_21 n x1 x2 x3 x4 st = some (r, u) → W p l e (rm 1 22) s m args below meth c H locs 0 0 (MQ below (CQv D (tyL cI cJ cZ) (wX h cI cJ cZ) A u) args s 0 0 A) (F0 m 21 ls []) := by
  have hx := E.1.1
  have hb := E.1.2.1
  have hml := E.1.2.2.1
  intro n
  induction n with
  | zero => intro x1 x2 x3 x4 st H locs ls hP hD hS hl hF; simp only [LX0_keepLong_21] at hF; cases hF
  | succ n ih =>
    intro x1 x2 x3 x4 st H locs ls hP hD hS hl hF
    simp only [LX0_keepLong_21] at hF
    refine lv_iload hx hb dX0_keepLong_21 (lv_at hl 4 rfl) ?_
    refine lv_iload_n hx hb dX0_keepLong_23 rfl (lv_at hl 3 rfl) ?_
    refine lv_icmp_ge (tgt := 41) hx hb dX0_keepLong_24 (by decide) (fun hc => ?_) (fun hc => ?_)
    · have hF := if_t hc hF
      refine lv_aload_n hx hb dX0_keepLong_41 rfl (lv_at hl 0 rfl) ?_
      refine lv_iload_n hx hb dX0_keepLong_42 rfl (lv_at hl 1 rfl) ?_
      refine lv_iload_n hx hb dX0_keepLong_43 rfl (lv_at hl 1 rfl) ?_
      obtain ⟨r7, u8, hc9, hF⟩ := bd_some hF
      refine call_v (rest := []) E hA hP hD hS hl.1 (kX0_addToRow l D h cI cJ cZ n x1 x1 st r7 u8 hc9) cw_X0_142 2 rfl rfl rfl rfl rfl (Nat.le_of_ble_eq_true rfl) ⟨Nat.le_of_ble_eq_true rfl, Nat.le_of_ble_eq_true rfl⟩ ⟨Nat.zero_le _, Nat.zero_le _⟩ dX0_keepLong_44 (fun H locs hP hD hS => ?_)
      exact endV E hr hlocks hP hD hS dX0_keepLong_47 hF
    · have hF := if_f hc hF
      refine lv_aload_n hx hb dX0_keepLong_27 rfl (lv_at hl 0 rfl) ?_
      refine g_2_5 E hP dX0_keepLong_28 ?_
      refine lv_iload hx hb dX0_keepLong_31 (lv_at hl 4 rfl) ?_
      refine lv_iconst (v := 1) hx hb dX0_keepLong_33 (by decide) ?_
      obtain ⟨hi10, hF⟩ := gd_some hF
      refine sa_12 E hP hD hS hi10 dX0_keepLong_34 (fun H locs hP hD hS => ?_)
      refine lv_iinc (v := (x4 + (1 : Int32))) (lv' := [(4, .int (x4 + (1 : Int32))), (0, .ref (h 2)), (1, .int x1), (2, .int x2), (3, .int x3)]) hx hb dX0_keepLong_35 hl (k := 4) rfl rfl (by decide) rfl (fun ls hl => ?_)
      refine lv_goto (tgt := 21) hx hb dX0_keepLong_38 (by decide) ?_
      exact ih _ _ _ _ _ _ _ _ hP hD hS (lv_sub hl [1, 2, 3, 4, 0] rfl) hF
def FX0_keepLong (n : Nat) (x1 : Int32) (st : St) : Option (Int32 × St) := bd (FX1_pageOf n x1 st) (fun r1 u2 => bd (FX1_pageBehind n r1 u2) (fun r4 u5 => LX0_keepLong_21 n x1 r1 r4 r1 u5))
set_option maxHeartbeats 4000000 in
set_option maxRecDepth 100000 in
theorem kX0_keepLong (l : Launch) (D : va_G) (h : Nat → Nat) (cI cJ cZ : ClassId) (n : Nat) (x1 : Int32) (st : St) (r : Int32) (u : St) (hF : FX0_keepLong n x1 st = some (r, u)) : Cv l yX0_keepLong cX0_keepLong 5 1 22 D (tyL cI cJ cZ) (wX h cI cJ cZ) st [.ref (h 2), .int x1] u := by
  refine body_v (by decide +kernel) (Nat.le_of_ble_eq_true rfl) ?_
  intro p e s m below meth c A ls E hr hlocks hA hP hD hS hl
  have E : Env1 p s m _ c cX0_keepLong 5 RX0 D (tyL cI cJ cZ) := E
  have hl : lv_has ls 5 [(0, .ref (h 2)), (1, .int x1)] := hl
  have hx := E.1.1
  have hb := E.1.2.1
  have hml := E.1.2.2.1
  unfold FX0_keepLong at hF
  refine lv_aload_n hx hb dX0_keepLong_0 rfl (lv_at hl 0 rfl) ?_
  refine g_2_0 E hP dX0_keepLong_1 ?_
  refine lv_iload_n hx hb dX0_keepLong_4 rfl (lv_at hl 1 rfl) ?_
  obtain ⟨r1, u2, hc3, hF⟩ := bd_some hF
  refine call_i (rest := []) E hA hP hD hS hl.1 (kX1_pageOf l D h cI cJ cZ n x1 st r1 u2 hc3) cw_X0_108 1 rfl rfl rfl rfl rfl (Nat.le_of_ble_eq_true rfl) ⟨Nat.le_of_ble_eq_true rfl, Nat.le_of_ble_eq_true rfl⟩ ⟨Nat.zero_le _, Nat.zero_le _⟩ dX0_keepLong_5 (fun H locs hP hD hS => ?_)
  refine lv_istore_n (lv' := [(2, .int r1), (0, .ref (h 2)), (1, .int x1)]) hx hb dX0_keepLong_8 rfl hl (by decide) rfl (fun ls hl => ?_)
  refine lv_aload_n hx hb dX0_keepLong_9 rfl (lv_at hl 1 rfl) ?_
  refine g_2_0 E hP dX0_keepLong_10 ?_
  refine lv_iload_n hx hb dX0_keepLong_13 rfl (lv_at hl 0 rfl) ?_
  obtain ⟨r4, u5, hc6, hF⟩ := bd_some hF
  refine call_i (rest := []) E hA hP hD hS hl.1 (kX1_pageBehind l D h cI cJ cZ n r1 u2 r4 u5 hc6) cw_X0_122 1 rfl rfl rfl rfl rfl (Nat.le_of_ble_eq_true rfl) ⟨Nat.le_of_ble_eq_true rfl, Nat.le_of_ble_eq_true rfl⟩ ⟨Nat.zero_le _, Nat.zero_le _⟩ dX0_keepLong_14 (fun H locs hP hD hS => ?_)
  refine lv_istore_n (lv' := [(3, .int r4), (2, .int r1), (0, .ref (h 2)), (1, .int x1)]) hx hb dX0_keepLong_17 rfl hl (by decide) rfl (fun ls hl => ?_)
  refine lv_iload_n hx hb dX0_keepLong_18 rfl (lv_at hl 1 rfl) ?_
  refine lv_istore (lv' := [(4, .int r1), (3, .int r4), (2, .int r1), (0, .ref (h 2)), (1, .int x1)]) hx hb dX0_keepLong_19 hl (by decide) rfl (fun ls hl => ?_)
  exact lX0_keepLong_21 E hr hlocks hA n x1 r1 r4 r1 u5 _ _ _ hP hD hS (lv_sub hl [3, 4, 2, 1, 0] rfl) hF
theorem cw_X0_164 : cwd RX0 164 RX1 yX1_sizeOf cX1_sizeOf 2 (some .int) 1 := ⟨tb_V (tb_in 293 (by decide +kernel) (by decide +kernel)) (tb_in 274 (by decide +kernel) (by decide +kernel)) (tb_in 275 (by decide +kernel) (by decide +kernel)) (tb_in 46 (by decide +kernel) (by decide +kernel)) (tb_in 276 (by decide +kernel) (by decide +kernel)), by decide +kernel⟩
theorem cw_X0_167 : cwd RX0 167 RX1 yX1_freePageFrom cX1_freePageFrom 3 (some .int) 1 := ⟨tb_V (tb_in 294 (by decide +kernel) (by decide +kernel)) (tb_in 295 (by decide +kernel) (by decide +kernel)) (tb_in 296 (by decide +kernel) (by decide +kernel)) (tb_in 46 (by decide +kernel) (by decide +kernel)) (tb_in 297 (by decide +kernel) (by decide +kernel)), by decide +kernel⟩
-- LooseHeap$Collector.planMove
def JX0_planMove_81 (n : Nat) (x1 x2 : Int32) (st : St) : Option (Int32 × St) := bd (FX1_addressOf n (st.1 2 6) (st.1 2 7) st) (fun r8 u9 => bd (FX0_addToRow n x1 r8 u9) (fun r11 u12 => some ((1 : Int32), (pt (pt u12 2 7 ((u12.1 2 7) + x2)) 2 8 (((pt u12 2 7 ((u12.1 2 7) + x2)).1 2 8) + (1 : Int32))))))
set_option maxHeartbeats 4000000 in
set_option maxRecDepth 100000 in
theorem jX0_planMove_81 {l : Launch} {D : va_G} {h : Nat → Nat} {cI cJ cZ : ClassId} {p : Program} {e : Env} {s : State} {m : MethodId} {args : Array Value} {below : List Frame} {meth : Method} {c : Code} {A : Nat → Prop} {r : Int32} {u : St} (E : Env1 p s m args c cX0_planMove 4 RX0 D (tyL cI cJ cZ)) (hr : meth.sig.returnType = some .boolean) (hlocks : meth.locks = false) (hA : ∀ q : Nat, s.heap.size ≤ q → A q) (n : Nat) (x1 x2 : Int32) (st : St) (H : Heap) (locs : List Loc) (ls : Array Slot) (hP : va_P D vwCl (wX h cI cJ cZ st) H) (hD : va_D A (wX h cI cJ cZ st)) (hS : va_S A s.heap H locs) (hl : lv_has ls 4 [(0, .ref (h 2)), (1, .int x1), (2, .int x2)]) (hF : JX0_planMove_81 n x1 x2 st = some (r, u)) : W p l e (rm 2 42) s m args below meth c H locs 0 0 (MQ below (CQ D (tyL cI cJ cZ) (wX h cI cJ cZ) A r u) args s 0 0 A) (F0 m 81 ls []) := by
  have hx := E.1.1
  have hb := E.1.2.1
  have hml := E.1.2.2.1
  unfold JX0_planMove_81 at hF
  refine lv_aload_n hx hb dX0_planMove_81 rfl (lv_at hl 0 rfl) ?_
  refine lv_iload_n hx hb dX0_planMove_82 rfl (lv_at hl 1 rfl) ?_
  refine lv_aload_n hx hb dX0_planMove_83 rfl (lv_at hl 0 rfl) ?_
  refine g_2_0 E hP dX0_planMove_84 ?_
  refine lv_aload_n hx hb dX0_planMove_87 rfl (lv_at hl 0 rfl) ?_
  refine g_2_6 E hP dX0_planMove_88 ?_
  refine lv_aload_n hx hb dX0_planMove_91 rfl (lv_at hl 0 rfl) ?_
  refine g_2_7 E hP dX0_planMove_92 ?_
  obtain ⟨r8, u9, hc10, hF⟩ := bd_some hF
  refine call_i (rest := [.int x1, .ref (h 2)]) E hA hP hD hS hl.1 (kX1_addressOf l D h cI cJ cZ n (st.1 2 6) (st.1 2 7) st r8 u9 hc10) cw_X0_135 1 rfl rfl rfl rfl rfl (Nat.le_of_ble_eq_true rfl) ⟨Nat.le_of_ble_eq_true rfl, Nat.le_of_ble_eq_true rfl⟩ ⟨Nat.zero_le _, Nat.zero_le _⟩ dX0_planMove_95 (fun H locs hP hD hS => ?_)
  obtain ⟨r11, u12, hc13, hF⟩ := bd_some hF
  refine call_v (rest := []) E hA hP hD hS hl.1 (kX0_addToRow l D h cI cJ cZ n x1 r8 u9 r11 u12 hc13) cw_X0_142 2 rfl rfl rfl rfl rfl (Nat.le_of_ble_eq_true rfl) ⟨Nat.le_of_ble_eq_true rfl, Nat.le_of_ble_eq_true rfl⟩ ⟨Nat.zero_le _, Nat.zero_le _⟩ dX0_planMove_98 (fun H locs hP hD hS => ?_)
  refine lv_aload_n hx hb dX0_planMove_101 rfl (lv_at hl 0 rfl) ?_
  refine lv_dup hx hb dX0_planMove_102 rfl ?_
  refine g_2_7 E hP dX0_planMove_103 ?_
  refine lv_iload_n hx hb dX0_planMove_106 rfl (lv_at hl 2 rfl) ?_
  refine lv_iadd hx hb dX0_planMove_107 ?_
  refine s_2_7 E hP hD hS dX0_planMove_108 (fun H locs hP hD hS => ?_)
  refine lv_aload_n hx hb dX0_planMove_111 rfl (lv_at hl 0 rfl) ?_
  refine lv_dup hx hb dX0_planMove_112 rfl ?_
  refine g_2_8 E hP dX0_planMove_113 ?_
  refine lv_iconst (v := 1) hx hb dX0_planMove_116 (by decide) ?_
  refine lv_iadd hx hb dX0_planMove_117 ?_
  refine s_2_8 E hP hD hS dX0_planMove_118 (fun H locs hP hD hS => ?_)
  refine lv_iconst (v := 1) hx hb dX0_planMove_121 (by decide) ?_
  exact endZ0 E hr hlocks hP hD hS dX0_planMove_122 rfl hF
def JX0_planMove_33 (n : Nat) (x1 x2 : Int32) (st : St) : Option (Int32 × St) := bd (FX1_freePageFrom n ((st.1 2 6) + (1 : Int32)) st) (fun r4 u5 => (if r4 = (-1 : Int32) then some ((0 : Int32), u5) else gd r4 64 (JX0_planMove_81 n x1 x2 (pt (pt (pt (pt u5 2 6 r4) 2 7 (0 : Int32)) 12 r4.toNatClampNeg (vp_nar .boolean (1 : Int32))) 2 9 (((pt (pt (pt u5 2 6 r4) 2 7 (0 : Int32)) 12 r4.toNatClampNeg (vp_nar .boolean (1 : Int32))).1 2 9) + (1 : Int32))))))
set_option maxHeartbeats 4000000 in
set_option maxRecDepth 100000 in
theorem jX0_planMove_33 {l : Launch} {D : va_G} {h : Nat → Nat} {cI cJ cZ : ClassId} {p : Program} {e : Env} {s : State} {m : MethodId} {args : Array Value} {below : List Frame} {meth : Method} {c : Code} {A : Nat → Prop} {r : Int32} {u : St} (E : Env1 p s m args c cX0_planMove 4 RX0 D (tyL cI cJ cZ)) (hr : meth.sig.returnType = some .boolean) (hlocks : meth.locks = false) (hA : ∀ q : Nat, s.heap.size ≤ q → A q) (n : Nat) (x1 x2 : Int32) (st : St) (H : Heap) (locs : List Loc) (ls : Array Slot) (hP : va_P D vwCl (wX h cI cJ cZ st) H) (hD : va_D A (wX h cI cJ cZ st)) (hS : va_S A s.heap H locs) (hl : lv_has ls 4 [(0, .ref (h 2)), (1, .int x1), (2, .int x2)]) (hF : JX0_planMove_33 n x1 x2 st = some (r, u)) : W p l e (rm 2 42) s m args below meth c H locs 0 0 (MQ below (CQ D (tyL cI cJ cZ) (wX h cI cJ cZ) A r u) args s 0 0 A) (F0 m 33 ls []) := by
  have hx := E.1.1
  have hb := E.1.2.1
  have hml := E.1.2.2.1
  unfold JX0_planMove_33 at hF
  refine lv_aload_n hx hb dX0_planMove_33 rfl (lv_at hl 0 rfl) ?_
  refine g_2_0 E hP dX0_planMove_34 ?_
  refine lv_aload_n hx hb dX0_planMove_37 rfl (lv_at hl 0 rfl) ?_
  refine g_2_6 E hP dX0_planMove_38 ?_
  refine lv_iconst (v := 1) hx hb dX0_planMove_41 (by decide) ?_
  refine lv_iadd hx hb dX0_planMove_42 ?_
  obtain ⟨r4, u5, hc6, hF⟩ := bd_some hF
  refine call_i (rest := []) E hA hP hD hS hl.1 (kX1_freePageFrom l D h cI cJ cZ n ((st.1 2 6) + (1 : Int32)) st r4 u5 hc6) cw_X0_167 1 rfl rfl rfl rfl rfl (Nat.le_of_ble_eq_true rfl) ⟨Nat.le_of_ble_eq_true rfl, Nat.le_of_ble_eq_true rfl⟩ ⟨Nat.zero_le _, Nat.zero_le _⟩ dX0_planMove_43 (fun H locs hP hD hS => ?_)
  refine lv_istore_n (lv' := [(3, .int r4), (0, .ref (h 2)), (1, .int x1), (2, .int x2)]) hx hb dX0_planMove_46 rfl hl (by decide) rfl (fun ls hl => ?_)
  refine lv_iload_n hx hb dX0_planMove_47 rfl (lv_at hl 0 rfl) ?_
  refine lv_iconst (v := (-1)) hx hb dX0_planMove_48 (by decide) ?_
  refine lv_icmp_ne (tgt := 54) hx hb dX0_planMove_49 (by decide) (fun hc => ?_) (fun hc => ?_)
  · have hF := if_f hc hF
    refine lv_aload_n hx hb dX0_planMove_54 rfl (lv_at hl 1 rfl) ?_
    refine lv_iload_n hx hb dX0_planMove_55 rfl (lv_at hl 0 rfl) ?_
    refine s_2_6 E hP hD hS dX0_planMove_56 (fun H locs hP hD hS => ?_)
    refine lv_aload_n hx hb dX0_planMove_59 rfl (lv_at hl 1 rfl) ?_
    refine lv_iconst (v := 0) hx hb dX0_planMove_60 (by decide) ?_
    refine s_2_7 E hP hD hS dX0_planMove_61 (fun H locs hP hD hS => ?_)
    refine lv_aload_n hx hb dX0_planMove_64 rfl (lv_at hl 1 rfl) ?_
    refine g_2_5 E hP dX0_planMove_65 ?_
    refine lv_iload_n hx hb dX0_planMove_68 rfl (lv_at hl 0 rfl) ?_
    refine lv_iconst (v := 1) hx hb dX0_planMove_69 (by decide) ?_
    obtain ⟨hi7, hF⟩ := gd_some hF
    refine sa_12 E hP hD hS hi7 dX0_planMove_70 (fun H locs hP hD hS => ?_)
    refine lv_aload_n hx hb dX0_planMove_71 rfl (lv_at hl 1 rfl) ?_
    refine lv_dup hx hb dX0_planMove_72 rfl ?_
    refine g_2_9 E hP dX0_planMove_73 ?_
    refine lv_iconst (v := 1) hx hb dX0_planMove_76 (by decide) ?_
    refine lv_iadd hx hb dX0_planMove_77 ?_
    refine s_2_9 E hP hD hS dX0_planMove_78 (fun H locs hP hD hS => ?_)
    exact jX0_planMove_81 E hr hlocks hA n x1 x2 (pt (pt (pt (pt u5 2 6 r4) 2 7 (0 : Int32)) 12 r4.toNatClampNeg (vp_nar .boolean (1 : Int32))) 2 9 (((pt (pt (pt u5 2 6 r4) 2 7 (0 : Int32)) 12 r4.toNatClampNeg (vp_nar .boolean (1 : Int32))).1 2 9) + (1 : Int32))) _ _ _ hP hD hS (lv_sub hl [1, 2, 3] rfl) hF
  · have hF := if_t hc hF
    refine lv_iconst (v := 0) hx hb dX0_planMove_52 (by decide) ?_
    exact endZ0 E hr hlocks hP hD hS dX0_planMove_53 rfl hF
def FX0_planMove (n : Nat) (x1 : Int32) (st : St) : Option (Int32 × St) := bd (FX1_sizeOf n x1 st) (fun r1 u2 => (if (u2.1 2 6) = (-1 : Int32) then JX0_planMove_33 n x1 r1 u2 else bd (FX1_words n  u2) (fun r14 u15 => (if r1 ≤ (r14 - (u15.1 2 7)) then JX0_planMove_81 n x1 r1 u15 else JX0_planMove_33 n x1 r1 u15))))
set_option maxHeartbeats 4000000 in
set_option maxRecDepth 100000 in
theorem kX0_planMove (l : Launch) (D : va_G) (h : Nat → Nat) (cI cJ cZ : ClassId) (n : Nat) (x1 : Int32) (st : St) (r : Int32) (u : St) (hF : FX0_planMove n x1 st = some (r, u)) : Ci l yX0_planMove cX0_planMove 4 (some .boolean) 2 42 D (tyL cI cJ cZ) (wX h cI cJ cZ) st [.ref (h 2), .int x1] r u := by
  refine body_i (by decide +kernel) (Nat.le_of_ble_eq_true rfl) ?_
  intro p e s m below meth c A ls E hr hlocks hA hP hD hS hl
  have E : Env1 p s m _ c cX0_planMove 4 RX0 D (tyL cI cJ cZ) := E
  have hl : lv_has ls 4 [(0, .ref (h 2)), (1, .int x1)] := hl
  have hx := E.1.1
  have hb := E.1.2.1
  have hml := E.1.2.2.1
  unfold FX0_planMove at hF
  refine lv_aload_n hx hb dX0_planMove_0 rfl (lv_at hl 0 rfl) ?_
  refine g_2_0 E hP dX0_planMove_1 ?_
  refine lv_iload_n hx hb dX0_planMove_4 rfl (lv_at hl 1 rfl) ?_
  obtain ⟨r1, u2, hc3, hF⟩ := bd_some hF
  refine call_i (rest := []) E hA hP hD hS hl.1 (kX1_sizeOf l D h cI cJ cZ n x1 st r1 u2 hc3) cw_X0_164 1 rfl rfl rfl rfl rfl (Nat.le_of_ble_eq_true rfl) ⟨Nat.le_of_ble_eq_true rfl, Nat.le_of_ble_eq_true rfl⟩ ⟨Nat.zero_le _, Nat.zero_le _⟩ dX0_planMove_5 (fun H locs hP hD hS => ?_)
  refine lv_istore_n (lv' := [(2, .int r1), (0, .ref (h 2)), (1, .int x1)]) hx hb dX0_planMove_8 rfl hl (by decide) rfl (fun ls hl => ?_)
  refine lv_aload_n hx hb dX0_planMove_9 rfl (lv_at hl 1 rfl) ?_
  refine g_2_6 E hP dX0_planMove_10 ?_
  refine lv_iconst (v := (-1)) hx hb dX0_planMove_13 (by decide) ?_
  refine lv_icmp_eq (tgt := 33) hx hb dX0_planMove_14 (by decide) (fun hc => ?_) (fun hc => ?_)
  · have hF := if_t hc hF
    exact jX0_planMove_33 E hr hlocks hA n x1 r1 u2 _ _ _ hP hD hS (lv_sub hl [1, 2, 0] rfl) hF
  · have hF := if_f hc hF
    refine lv_iload_n hx hb dX0_planMove_17 rfl (lv_at hl 0 rfl) ?_
    refine lv_aload_n hx hb dX0_planMove_18 rfl (lv_at hl 1 rfl) ?_
    refine g_2_0 E hP dX0_planMove_19 ?_
    obtain ⟨r14, u15, hc16, hF⟩ := bd_some hF
    refine call_i (rest := [.int r1]) E hA hP hD hS hl.1 (kX1_words l D h cI cJ cZ n  u2 r14 u15 hc16) cw_X0_132 1 rfl rfl rfl rfl rfl (Nat.le_of_ble_eq_true rfl) ⟨Nat.le_of_ble_eq_true rfl, Nat.le_of_ble_eq_true rfl⟩ ⟨Nat.zero_le _, Nat.zero_le _⟩ dX0_planMove_22 (fun H locs hP hD hS => ?_)
    refine lv_aload_n hx hb dX0_planMove_25 rfl (lv_at hl 1 rfl) ?_
    refine g_2_7 E hP dX0_planMove_26 ?_
    refine lv_isub hx hb dX0_planMove_29 ?_
    refine lv_icmp_le (tgt := 81) hx hb dX0_planMove_30 (by decide) (fun hc => ?_) (fun hc => ?_)
    · have hF := if_t hc hF
      exact jX0_planMove_81 E hr hlocks hA n x1 r1 u15 _ _ _ hP hD hS (lv_sub hl [1, 2, 0] rfl) hF
    · have hF := if_f hc hF
      exact jX0_planMove_33 E hr hlocks hA n x1 r1 u15 _ _ _ hP hD hS (lv_sub hl [1, 2, 0] rfl) hF
theorem cw_X0_155 : cwd RX0 155 RX1 yX1_isLong cX1_isLong 2 (some .boolean) 1 := ⟨tb_V (tb_in 269 (by decide +kernel) (by decide +kernel)) (tb_in 270 (by decide +kernel) (by decide +kernel)) (tb_in 271 (by decide +kernel) (by decide +kernel)) (tb_in 46 (by decide +kernel) (by decide +kernel)) (tb_in 272 (by decide +kernel) (by decide +kernel)), by decide +kernel⟩
theorem cw_X0_158 : cwd RX0 158 RX0 yX0_keepLong cX0_keepLong 5 none 1 := ⟨tb_V (tb_in 285 (by decide +kernel) (by decide +kernel)) (tb_in 287 (by decide +kernel) (by decide +kernel)) (tb_in 9 (by decide +kernel) (by decide +kernel)) (tb_in 47 (by decide +kernel) (by decide +kernel)) (tb_in 288 (by decide +kernel) (by decide +kernel)), by decide +kernel⟩
theorem cw_X0_161 : cwd RX0 161 RX0 yX0_planMove cX0_planMove 4 (some .boolean) 1 := ⟨tb_V (tb_in 289 (by decide +kernel) (by decide +kernel)) (tb_in 291 (by decide +kernel) (by decide +kernel)) (tb_in 10 (by decide +kernel) (by decide +kernel)) (tb_in 47 (by decide +kernel) (by decide +kernel)) (tb_in 292 (by decide +kernel) (by decide +kernel)), by decide +kernel⟩
-- LooseHeap$Collector.reach
def FX0_reach (n : Nat) (x1 : Int32) (st : St) : Option (Int32 × St) := (if x1 = (-1 : Int32) then some ((1 : Int32), st) else gd x1 4096 ((if (st.1 10 x1.toNatClampNeg) = (-1 : Int32) then bd (FX1_isLong n x1 st) (fun r2 u3 => (if r2 = 0 then bd (FX0_planMove n x1 u3) (fun r5 u6 => gz r5 (some (r5, u6))) else bd (FX0_keepLong n x1 u3) (fun r8 u9 => some ((1 : Int32), u9)))) else some ((1 : Int32), st))))
set_option maxHeartbeats 4000000 in
set_option maxRecDepth 100000 in
theorem kX0_reach (l : Launch) (D : va_G) (h : Nat → Nat) (cI cJ cZ : ClassId) (n : Nat) (x1 : Int32) (st : St) (r : Int32) (u : St) (hF : FX0_reach n x1 st = some (r, u)) : Ci l yX0_reach cX0_reach 2 (some .boolean) 3 65 D (tyL cI cJ cZ) (wX h cI cJ cZ) st [.ref (h 2), .int x1] r u := by
  refine body_i (by decide +kernel) (Nat.le_of_ble_eq_true rfl) ?_
  intro p e s m below meth c A ls E hr hlocks hA hP hD hS hl
  have E : Env1 p s m _ c cX0_reach 2 RX0 D (tyL cI cJ cZ) := E
  have hl : lv_has ls 2 [(0, .ref (h 2)), (1, .int x1)] := hl
  have hx := E.1.1
  have hb := E.1.2.1
  have hml := E.1.2.2.1
  unfold FX0_reach at hF
  refine lv_iload_n hx hb dX0_reach_0 rfl (lv_at hl 1 rfl) ?_
  refine lv_iconst (v := (-1)) hx hb dX0_reach_1 (by decide) ?_
  refine lv_icmp_eq (tgt := 15) hx hb dX0_reach_2 (by decide) (fun hc => ?_) (fun hc => ?_)
  · have hF := if_t hc hF
    refine lv_iconst (v := 1) hx hb dX0_reach_15 (by decide) ?_
    exact endZ0 E hr hlocks hP hD hS dX0_reach_16 rfl hF
  · have hF := if_f hc hF
    refine lv_aload_n hx hb dX0_reach_5 rfl (lv_at hl 0 rfl) ?_
    refine g_2_3 E hP dX0_reach_6 ?_
    refine lv_iload_n hx hb dX0_reach_9 rfl (lv_at hl 1 rfl) ?_
    obtain ⟨hi1, hF⟩ := gd_some hF
    refine la_10 E hP hi1 dX0_reach_10 ?_
    refine lv_iconst (v := (-1)) hx hb dX0_reach_11 (by decide) ?_
    refine lv_icmp_eq (tgt := 17) hx hb dX0_reach_12 (by decide) (fun hc => ?_) (fun hc => ?_)
    · have hF := if_t hc hF
      refine lv_aload_n hx hb dX0_reach_17 rfl (lv_at hl 0 rfl) ?_
      refine g_2_0 E hP dX0_reach_18 ?_
      refine lv_iload_n hx hb dX0_reach_21 rfl (lv_at hl 1 rfl) ?_
      obtain ⟨r2, u3, hc4, hF⟩ := bd_some hF
      refine call_i (rest := []) E hA hP hD hS hl.1 (kX1_isLong l D h cI cJ cZ n x1 st r2 u3 hc4) cw_X0_155 1 rfl rfl rfl rfl rfl (Nat.le_of_ble_eq_true rfl) ⟨Nat.le_of_ble_eq_true rfl, Nat.le_of_ble_eq_true rfl⟩ ⟨Nat.zero_le _, Nat.zero_le _⟩ dX0_reach_22 (fun H locs hP hD hS => ?_)
      refine lv_if_eq (tgt := 35) hx hb dX0_reach_25 (by decide) (fun hc => ?_) (fun hc => ?_)
      · have hF := if_t hc hF
        refine lv_aload_n hx hb dX0_reach_35 rfl (lv_at hl 0 rfl) ?_
        refine lv_iload_n hx hb dX0_reach_36 rfl (lv_at hl 1 rfl) ?_
        obtain ⟨r5, u6, hc7, hF⟩ := bd_some hF
        refine call_i (rest := []) E hA hP hD hS hl.1 (kX0_planMove l D h cI cJ cZ n x1 u3 r5 u6 hc7) cw_X0_161 2 rfl rfl rfl rfl rfl (Nat.le_of_ble_eq_true rfl) ⟨Nat.le_of_ble_eq_true rfl, Nat.le_of_ble_eq_true rfl⟩ ⟨Nat.zero_le _, Nat.zero_le _⟩ dX0_reach_37 (fun H locs hP hD hS => ?_)
        exact endZ E hr hlocks hP hD hS dX0_reach_40 hF
      · have hF := if_f hc hF
        refine lv_aload_n hx hb dX0_reach_28 rfl (lv_at hl 0 rfl) ?_
        refine lv_iload_n hx hb dX0_reach_29 rfl (lv_at hl 1 rfl) ?_
        obtain ⟨r8, u9, hc10, hF⟩ := bd_some hF
        refine call_v (rest := []) E hA hP hD hS hl.1 (kX0_keepLong l D h cI cJ cZ n x1 u3 r8 u9 hc10) cw_X0_158 2 rfl rfl rfl rfl rfl (Nat.le_of_ble_eq_true rfl) ⟨Nat.le_of_ble_eq_true rfl, Nat.le_of_ble_eq_true rfl⟩ ⟨Nat.zero_le _, Nat.zero_le _⟩ dX0_reach_30 (fun H locs hP hD hS => ?_)
        refine lv_iconst (v := 1) hx hb dX0_reach_33 (by decide) ?_
        exact endZ0 E hr hlocks hP hD hS dX0_reach_34 rfl hF
    · have hF := if_f hc hF
      refine lv_iconst (v := 1) hx hb dX0_reach_15 (by decide) ?_
      exact endZ0 E hr hlocks hP hD hS dX0_reach_16 rfl hF
theorem cw_X0_146 : cwd RX0 146 RX0 yX0_reach cX0_reach 2 (some .boolean) 1 := ⟨tb_V (tb_in 265 (by decide +kernel) (by decide +kernel)) (tb_in 267 (by decide +kernel) (by decide +kernel)) (tb_in 8 (by decide +kernel) (by decide +kernel)) (tb_in 47 (by decide +kernel) (by decide +kernel)) (tb_in 268 (by decide +kernel) (by decide +kernel)), by decide +kernel⟩
-- LooseHeap$Collector.reachFromRoots
def LX0_reachFromRoots_2 : Nat → Int32 → St → Option (Int32 × St)
  | 0 => fun _ _ => none
  | n + 1 => fun x2 st => (if (32 : Int32) ≤ x2 then some ((1 : Int32), st) else gd x2 32 (bd (FX0_reach n (st.1 3 x2.toNatClampNeg) st) (fun r2 u3 => (if r2 = 0 then some ((0 : Int32), u3) else LX0_reachFromRoots_2 n (x2 + (1 : Int32)) u3))))
set_option maxHeartbeats 4000000 in
set_option maxRecDepth 100000 in
theorem lX0_reachFromRoots_2 {l : Launch} {D : va_G} {h : Nat → Nat} {cI cJ cZ : ClassId} {p : Program} {e : Env} {s : State} {m : MethodId} {args : Array Value} {below : List Frame} {meth : Method} {c : Code} {A : Nat → Prop} {r : Int32} {u : St} (E : Env1 p s m args c cX0_reachFromRoots 3 RX0 D (tyL cI cJ cZ)) (hr : meth.sig.returnType = some .boolean) (hlocks : meth.locks = false) (hA : ∀ q : Nat, s.heap.size ≤ q → A q) : ∀ (n : Nat) (x2 : Int32) (st : St) (H : Heap) (locs : List Loc) (ls : Array Slot), va_P D vwCl (wX h cI cJ cZ st) H → va_D A (wX h cI cJ cZ st) → va_S A s.heap H locs → lv_has ls 3 [(0, .ref (h 2)), (1, .ref (h 3)), (2, .int x2)] → LX0_reachFromRoots_2 n x2 st = some (r, u) → W p l e (rm 4 86) s m args below meth c H locs 0 0 (MQ below (CQ D (tyL cI cJ cZ) (wX h cI cJ cZ) A r u) args s 0 0 A) (F0 m 2 ls []) := by
  have hx := E.1.1
  have hb := E.1.2.1
  have hml := E.1.2.2.1
  intro n
  induction n with
  | zero => intro x2 st H locs ls hP hD hS hl hF; simp only [LX0_reachFromRoots_2] at hF; cases hF
  | succ n ih =>
    intro x2 st H locs ls hP hD hS hl hF
    simp only [LX0_reachFromRoots_2] at hF
    refine lv_iload_n hx hb dX0_reachFromRoots_2 rfl (lv_at hl 2 rfl) ?_
    refine lv_aload_n hx hb dX0_reachFromRoots_3 rfl (lv_at hl 1 rfl) ?_
    refine al_3 E hP dX0_reachFromRoots_4 ?_
    refine lv_icmp_ge (tgt := 26) hx hb dX0_reachFromRoots_5 (by decide) (fun hc => ?_) (fun hc => ?_)
    · have hF := if_t hc hF
      refine lv_iconst (v := 1) hx hb dX0_reachFromRoots_26 (by decide) ?_
      exact endZ0 E hr hlocks hP hD hS dX0_reachFromRoots_27 rfl hF
    · have hF := if_f hc hF
      refine lv_aload_n hx hb dX0_reachFromRoots_8 rfl (lv_at hl 0 rfl) ?_
      refine lv_aload_n hx hb dX0_reachFromRoots_9 rfl (lv_at hl 1 rfl) ?_
      refine lv_iload_n hx hb dX0_reachFromRoots_10 rfl (lv_at hl 2 rfl) ?_
      obtain ⟨hi1, hF⟩ := gd_some hF
      refine la_3 E hP hi1 dX0_reachFromRoots_11 ?_
      obtain ⟨r2, u3, hc4, hF⟩ := bd_some hF
      refine call_i (rest := []) E hA hP hD hS hl.1 (kX0_reach l D h cI cJ cZ n (st.1 3 x2.toNatClampNeg) st r2 u3 hc4) cw_X0_146 2 rfl rfl rfl rfl rfl (Nat.le_of_ble_eq_true rfl) ⟨Nat.le_of_ble_eq_true rfl, Nat.le_of_ble_eq_true rfl⟩ ⟨Nat.zero_le _, Nat.zero_le _⟩ dX0_reachFromRoots_12 (fun H locs hP hD hS => ?_)
      refine lv_if_ne (tgt := 20) hx hb dX0_reachFromRoots_15 (by decide) (fun hc => ?_) (fun hc => ?_)
      · have hF := if_f hc hF
        refine lv_iinc (v := (x2 + (1 : Int32))) (lv' := [(2, .int (x2 + (1 : Int32))), (0, .ref (h 2)), (1, .ref (h 3))]) hx hb dX0_reachFromRoots_20 hl (k := 2) rfl rfl (by decide) rfl (fun ls hl => ?_)
        refine lv_goto (tgt := 2) hx hb dX0_reachFromRoots_23 (by decide) ?_
        exact ih _ _ _ _ _ hP hD hS (lv_sub hl [1, 2, 0] rfl) hF
      · have hF := if_t hc hF
        refine lv_iconst (v := 0) hx hb dX0_reachFromRoots_18 (by decide) ?_
        exact endZ0 E hr hlocks hP hD hS dX0_reachFromRoots_19 rfl hF
def FX0_reachFromRoots (n : Nat) (st : St) : Option (Int32 × St) := LX0_reachFromRoots_2 n (0 : Int32) st
set_option maxHeartbeats 4000000 in
set_option maxRecDepth 100000 in
theorem kX0_reachFromRoots (l : Launch) (D : va_G) (h : Nat → Nat) (cI cJ cZ : ClassId) (n : Nat) (st : St) (r : Int32) (u : St) (hF : FX0_reachFromRoots n  st = some (r, u)) : Ci l yX0_reachFromRoots cX0_reachFromRoots 3 (some .boolean) 4 86 D (tyL cI cJ cZ) (wX h cI cJ cZ) st [.ref (h 2), .ref (h 3)] r u := by
  refine body_i (by decide +kernel) (Nat.le_of_ble_eq_true rfl) ?_
  intro p e s m below meth c A ls E hr hlocks hA hP hD hS hl
  have E : Env1 p s m _ c cX0_reachFromRoots 3 RX0 D (tyL cI cJ cZ) := E
  have hl : lv_has ls 3 [(0, .ref (h 2)), (1, .ref (h 3))] := hl
  have hx := E.1.1
  have hb := E.1.2.1
  have hml := E.1.2.2.1
  unfold FX0_reachFromRoots at hF
  refine lv_iconst (v := 0) hx hb dX0_reachFromRoots_0 (by decide) ?_
  refine lv_istore_n (lv' := [(2, .int (0 : Int32)), (0, .ref (h 2)), (1, .ref (h 3))]) hx hb dX0_reachFromRoots_1 rfl hl (by decide) rfl (fun ls hl => ?_)
  exact lX0_reachFromRoots_2 E hr hlocks hA n (0 : Int32) st _ _ _ hP hD hS (lv_sub hl [1, 2, 0] rfl) hF
theorem cw_X0_149 : cwd RX0 149 RX1 yX1_refsOf cX1_refsOf 2 (some .int) 1 := ⟨tb_V (tb_in 302 (by decide +kernel) (by decide +kernel)) (tb_in 278 (by decide +kernel) (by decide +kernel)) (tb_in 279 (by decide +kernel) (by decide +kernel)) (tb_in 46 (by decide +kernel) (by decide +kernel)) (tb_in 280 (by decide +kernel) (by decide +kernel)), by decide +kernel⟩
theorem cw_X0_152 : cwd RX0 152 RX1 yX1_ref cX1_ref 3 (some .int) 2 := ⟨tb_V (tb_in 303 (by decide +kernel) (by decide +kernel)) (tb_in 304 (by decide +kernel) (by decide +kernel)) (tb_in 305 (by decide +kernel) (by decide +kernel)) (tb_in 46 (by decide +kernel) (by decide +kernel)) (tb_in 306 (by decide +kernel) (by decide +kernel)), by decide +kernel⟩
-- LooseHeap$Collector.reachFromRow
def LX0_reachFromRow_35 : Nat → Int32 → Int32 → Int32 → St → Option (((Int32 × Int32 × Int32 × St) ⊕ (Int32 × St)))
  | 0 => fun _ _ _ _ => none
  | n + 1 => fun x1 x2 x3 st => (if x2 ≤ x3 then some (.inl (x1, x2, x3, st)) else gd x1 4096 (bd (FX1_ref n (st.1 9 x1.toNatClampNeg) x3 st) (fun r6 u7 => bd (FX0_reach n r6 u7) (fun r9 u10 => (if r9 = 0 then some (.inr ((0 : Int32), u10)) else LX0_reachFromRow_35 n x1 x2 (x3 + (1 : Int32)) u10)))))
set_option maxHeartbeats 4000000 in
set_option maxRecDepth 100000 in
theorem lX0_reachFromRow_35 {l : Launch} {D : va_G} {h : Nat → Nat} {cI cJ cZ : ClassId} {p : Program} {e : Env} {s : State} {m : MethodId} {args : Array Value} {below : List Frame} {meth : Method} {c : Code} {A : Nat → Prop} {r : Int32} {u : St} (E : Env1 p s m args c cX0_reachFromRow 4 RX0 D (tyL cI cJ cZ)) (hr : meth.sig.returnType = some .boolean) (hlocks : meth.locks = false) (hA : ∀ q : Nat, s.heap.size ≤ q → A q) : ∀ (n : Nat) (x1 x2 x3 : Int32) (st : St) (H : Heap) (locs : List Loc) (ls : Array Slot) (q : ((Int32 × Int32 × Int32 × St) ⊕ (Int32 × St))), va_P D vwCl (wX h cI cJ cZ st) H → va_D A (wX h cI cJ cZ st) → va_S A s.heap H locs → lv_has ls 4 [(0, .ref (h 2)), (1, .int x1), (2, .int x2), (3, .int x3)] → LX0_reachFromRow_35 n x1 x2 x3 st = some q → (∀ (H : Heap) (locs : List Loc) (ls : Array Slot) (y1 y2 y3 : Int32) (u1 : St), q = .inl (y1, y2, y3, u1) → va_P D vwCl (wX h cI cJ cZ u1) H → va_D A (wX h cI cJ cZ u1) → va_S A s.heap H locs → lv_has ls 4 [(0, .ref (h 2)), (1, .int y1), (2, .int y2), (3, .int y3)] → W p l e (rm 4 86) s m args below meth c H locs 0 0 (MQ below (CQ D (tyL cI cJ cZ) (wX h cI cJ cZ) A r u) args s 0 0 A) (F0 m 69 ls [])) → (∀ (r1 : Int32) (u1 : St), q = .inr (r1, u1) → (r1, u1) = (r, u)) → W p l e (rm 4 86) s m args below meth c H locs 0 0 (MQ below (CQ D (tyL cI cJ cZ) (wX h cI cJ cZ) A r u) args s 0 0 A) (F0 m 35 ls []) := by
  have hx := E.1.1
  have hb := E.1.2.1
  have hml := E.1.2.2.1
  intro n
  induction n with
  | zero => intro x1 x2 x3 st H locs ls q hP hD hS hl hF; simp only [LX0_reachFromRow_35] at hF; cases hF
  | succ n ih =>
    intro x1 x2 x3 st H locs ls q hP hD hS hl hF kx kr
    simp only [LX0_reachFromRow_35] at hF
    refine lv_iload_n hx hb dX0_reachFromRow_35 rfl (lv_at hl 3 rfl) ?_
    refine lv_iload_n hx hb dX0_reachFromRow_36 rfl (lv_at hl 2 rfl) ?_
    refine lv_icmp_ge (tgt := 69) hx hb dX0_reachFromRow_37 (by decide) (fun hc => ?_) (fun hc => ?_)
    · have hF := if_t hc hF
      exact kx _ _ _ _ _ _ _ (Option.some.inj hF).symm hP hD hS (lv_sub hl [0, 1, 2, 3] rfl)
    · have hF := if_f hc hF
      refine lv_aload_n hx hb dX0_reachFromRow_40 rfl (lv_at hl 0 rfl) ?_
      refine lv_aload_n hx hb dX0_reachFromRow_41 rfl (lv_at hl 0 rfl) ?_
      refine g_2_0 E hP dX0_reachFromRow_42 ?_
      refine lv_aload_n hx hb dX0_reachFromRow_45 rfl (lv_at hl 0 rfl) ?_
      refine g_2_1 E hP dX0_reachFromRow_46 ?_
      refine lv_iload_n hx hb dX0_reachFromRow_49 rfl (lv_at hl 1 rfl) ?_
      obtain ⟨hi5, hF⟩ := gd_some hF
      refine la_9 E hP hi5 dX0_reachFromRow_50 ?_
      refine lv_iload_n hx hb dX0_reachFromRow_51 rfl (lv_at hl 3 rfl) ?_
      obtain ⟨r6, u7, hc8, hF⟩ := bd_some hF
      refine call_i (rest := [.ref (h 2)]) E hA hP hD hS hl.1 (kX1_ref l D h cI cJ cZ n (st.1 9 x1.toNatClampNeg) x3 st r6 u7 hc8) cw_X0_152 1 rfl rfl rfl rfl rfl (Nat.le_of_ble_eq_true rfl) ⟨Nat.le_of_ble_eq_true rfl, Nat.le_of_ble_eq_true rfl⟩ ⟨Nat.zero_le _, Nat.zero_le _⟩ dX0_reachFromRow_52 (fun H locs hP hD hS => ?_)
      obtain ⟨r9, u10, hc11, hF⟩ := bd_some hF
      refine call_i (rest := []) E hA hP hD hS hl.1 (kX0_reach l D h cI cJ cZ n r6 u7 r9 u10 hc11) cw_X0_146 2 rfl rfl rfl rfl rfl (Nat.le_of_ble_eq_true rfl) ⟨Nat.le_of_ble_eq_true rfl, Nat.le_of_ble_eq_true rfl⟩ ⟨Nat.zero_le _, Nat.zero_le _⟩ dX0_reachFromRow_55 (fun H locs hP hD hS => ?_)
      refine lv_if_ne (tgt := 63) hx hb dX0_reachFromRow_58 (by decide) (fun hc => ?_) (fun hc => ?_)
      · have hF := if_f hc hF
        refine lv_iinc (v := (x3 + (1 : Int32))) (lv' := [(3, .int (x3 + (1 : Int32))), (0, .ref (h 2)), (1, .int x1), (2, .int x2)]) hx hb dX0_reachFromRow_63 hl (k := 3) rfl rfl (by decide) rfl (fun ls hl => ?_)
        refine lv_goto (tgt := 35) hx hb dX0_reachFromRow_66 (by decide) ?_
        exact ih _ _ _ _ _ _ _ _ hP hD hS (lv_sub hl [1, 2, 3, 0] rfl) hF kx kr
      · have hF := if_t hc hF
        refine lv_iconst (v := 0) hx hb dX0_reachFromRow_61 (by decide) ?_
        obtain ⟨rfl, rfl⟩ := Prod.mk.inj (kr _ _ (Option.some.inj hF).symm)
        exact end_z E hr hlocks rfl hP hD hS dX0_reachFromRow_62
def LX0_reachFromRow_2 : Nat → Int32 → St → Option (Int32 × St)
  | 0 => fun _ _ => none
  | n + 1 => fun x1 st => (if (4096 : Int32) ≤ x1 then some ((1 : Int32), st) else (if (st.1 2 2) ≤ x1 then some ((1 : Int32), st) else gd x1 4096 (bd (FX1_refsOf n (st.1 9 x1.toNatClampNeg) st) (fun r2 u3 => be (LX0_reachFromRow_35 n x1 r2 (0 : Int32) u3) (fun q => match q with | .inl (y14, y15, y16, u17) => LX0_reachFromRow_2 n (y14 + (1 : Int32)) u17 | .inr o => some o)))))
set_option maxHeartbeats 4000000 in
set_option maxRecDepth 100000 in
theorem lX0_reachFromRow_2 {l : Launch} {D : va_G} {h : Nat → Nat} {cI cJ cZ : ClassId} {p : Program} {e : Env} {s : State} {m : MethodId} {args : Array Value} {below : List Frame} {meth : Method} {c : Code} {A : Nat → Prop} {r : Int32} {u : St} (E : Env1 p s m args c cX0_reachFromRow 4 RX0 D (tyL cI cJ cZ)) (hr : meth.sig.returnType = some .boolean) (hlocks : meth.locks = false) (hA : ∀ q : Nat, s.heap.size ≤ q → A q) : ∀ (n : Nat) (x1 : Int32) (st : St) (H : Heap) (locs : List Loc) (ls : Array Slot), va_P D vwCl (wX h cI cJ cZ st) H → va_D A (wX h cI cJ cZ st) → va_S A s.heap H locs → lv_has ls 4 [(0, .ref (h 2)), (1, .int x1)] → LX0_reachFromRow_2 n x1 st = some (r, u) → W p l e (rm 4 86) s m args below meth c H locs 0 0 (MQ below (CQ D (tyL cI cJ cZ) (wX h cI cJ cZ) A r u) args s 0 0 A) (F0 m 2 ls []) := by
  have hx := E.1.1
  have hb := E.1.2.1
  have hml := E.1.2.2.1
  intro n
  induction n with
  | zero => intro x1 st H locs ls hP hD hS hl hF; simp only [LX0_reachFromRow_2] at hF; cases hF
  | succ n ih =>
    intro x1 st H locs ls hP hD hS hl hF
    simp only [LX0_reachFromRow_2] at hF
    refine lv_iload_n hx hb dX0_reachFromRow_2 rfl (lv_at hl 1 rfl) ?_
    refine lv_aload_n hx hb dX0_reachFromRow_3 rfl (lv_at hl 0 rfl) ?_
    refine g_2_1 E hP dX0_reachFromRow_4 ?_
    refine al_9 E hP dX0_reachFromRow_7 ?_
    refine lv_icmp_ge (tgt := 75) hx hb dX0_reachFromRow_8 (by decide) (fun hc => ?_) (fun hc => ?_)
    · have hF := if_t hc hF
      refine lv_iconst (v := 1) hx hb dX0_reachFromRow_75 (by decide) ?_
      exact endZ0 E hr hlocks hP hD hS dX0_reachFromRow_76 rfl hF
    · have hF := if_f hc hF
      refine lv_iload_n hx hb dX0_reachFromRow_11 rfl (lv_at hl 1 rfl) ?_
      refine lv_aload_n hx hb dX0_reachFromRow_12 rfl (lv_at hl 0 rfl) ?_
      refine g_2_2 E hP dX0_reachFromRow_13 ?_
      refine lv_icmp_ge (tgt := 75) hx hb dX0_reachFromRow_16 (by decide) (fun hc => ?_) (fun hc => ?_)
      · have hF := if_t hc hF
        refine lv_iconst (v := 1) hx hb dX0_reachFromRow_75 (by decide) ?_
        exact endZ0 E hr hlocks hP hD hS dX0_reachFromRow_76 rfl hF
      · have hF := if_f hc hF
        refine lv_aload_n hx hb dX0_reachFromRow_19 rfl (lv_at hl 0 rfl) ?_
        refine g_2_0 E hP dX0_reachFromRow_20 ?_
        refine lv_aload_n hx hb dX0_reachFromRow_23 rfl (lv_at hl 0 rfl) ?_
        refine g_2_1 E hP dX0_reachFromRow_24 ?_
        refine lv_iload_n hx hb dX0_reachFromRow_27 rfl (lv_at hl 1 rfl) ?_
        obtain ⟨hi1, hF⟩ := gd_some hF
        refine la_9 E hP hi1 dX0_reachFromRow_28 ?_
        obtain ⟨r2, u3, hc4, hF⟩ := bd_some hF
        refine call_i (rest := []) E hA hP hD hS hl.1 (kX1_refsOf l D h cI cJ cZ n (st.1 9 x1.toNatClampNeg) st r2 u3 hc4) cw_X0_149 1 rfl rfl rfl rfl rfl (Nat.le_of_ble_eq_true rfl) ⟨Nat.le_of_ble_eq_true rfl, Nat.le_of_ble_eq_true rfl⟩ ⟨Nat.zero_le _, Nat.zero_le _⟩ dX0_reachFromRow_29 (fun H locs hP hD hS => ?_)
        refine lv_istore_n (lv' := [(2, .int r2), (0, .ref (h 2)), (1, .int x1)]) hx hb dX0_reachFromRow_32 rfl hl (by decide) rfl (fun ls hl => ?_)
        refine lv_iconst (v := 0) hx hb dX0_reachFromRow_33 (by decide) ?_
        refine lv_istore_n (lv' := [(3, .int (0 : Int32)), (2, .int r2), (0, .ref (h 2)), (1, .int x1)]) hx hb dX0_reachFromRow_34 rfl hl (by decide) rfl (fun ls hl => ?_)
        obtain ⟨q12, hq13, hF⟩ := be_some hF
        refine lX0_reachFromRow_35 E hr hlocks hA n x1 r2 (0 : Int32) u3 _ _ _ _ hP hD hS (lv_sub hl [2, 3, 1, 0] rfl) hq13 (fun H locs ls y14 y15 y16 u17 he hP hD hS hl => ?_) (fun r1 u1 he => ?_)
        · subst he
          refine lv_iinc (v := (y14 + (1 : Int32))) (lv' := [(1, .int (y14 + (1 : Int32))), (0, .ref (h 2)), (2, .int y15), (3, .int y16)]) hx hb dX0_reachFromRow_69 hl (k := 1) rfl rfl (by decide) rfl (fun ls hl => ?_)
          refine lv_goto (tgt := 2) hx hb dX0_reachFromRow_72 (by decide) ?_
          exact ih _ _ _ _ _ hP hD hS (lv_sub hl [1, 0] rfl) hF
        · subst he; exact Option.some.inj hF
def FX0_reachFromRow (n : Nat) (st : St) : Option (Int32 × St) := LX0_reachFromRow_2 n (0 : Int32) st
set_option maxHeartbeats 4000000 in
set_option maxRecDepth 100000 in
theorem kX0_reachFromRow (l : Launch) (D : va_G) (h : Nat → Nat) (cI cJ cZ : ClassId) (n : Nat) (st : St) (r : Int32) (u : St) (hF : FX0_reachFromRow n  st = some (r, u)) : Ci l yX0_reachFromRow cX0_reachFromRow 4 (some .boolean) 4 86 D (tyL cI cJ cZ) (wX h cI cJ cZ) st [.ref (h 2)] r u := by
  refine body_i (by decide +kernel) (Nat.le_of_ble_eq_true rfl) ?_
  intro p e s m below meth c A ls E hr hlocks hA hP hD hS hl
  have E : Env1 p s m _ c cX0_reachFromRow 4 RX0 D (tyL cI cJ cZ) := E
  have hl : lv_has ls 4 [(0, .ref (h 2))] := hl
  have hx := E.1.1
  have hb := E.1.2.1
  have hml := E.1.2.2.1
  unfold FX0_reachFromRow at hF
  refine lv_iconst (v := 0) hx hb dX0_reachFromRow_0 (by decide) ?_
  refine lv_istore_n (lv' := [(1, .int (0 : Int32)), (0, .ref (h 2))]) hx hb dX0_reachFromRow_1 rfl hl (by decide) rfl (fun ls hl => ?_)
  exact lX0_reachFromRow_2 E hr hlocks hA n (0 : Int32) st _ _ _ hP hD hS (lv_sub hl [1, 0] rfl) hF
theorem cw_X0_176 : cwd RX0 176 RX1 yX1_setRef cX1_setRef 4 none 3 := ⟨tb_V (tb_in 327 (by decide +kernel) (by decide +kernel)) (tb_in 328 (by decide +kernel) (by decide +kernel)) (tb_in 329 (by decide +kernel) (by decide +kernel)) (tb_in 46 (by decide +kernel) (by decide +kernel)) (tb_in 330 (by decide +kernel) (by decide +kernel)), by decide +kernel⟩
-- LooseHeap$Collector.tellNewRefs
def LX0_tellNewRefs_11 : Nat → Int32 → Int32 → Int32 → St → Option (Int32 × St)
  | 0 => fun _ _ _ _ => none
  | n + 1 => fun x1 x2 x3 st => (if x2 ≤ x3 then some ((0 : Int32), st) else bd (FX1_ref n x1 x3 st) (fun r4 u5 => (if r4 = (-1 : Int32) then LX0_tellNewRefs_11 n x1 x2 (x3 + (1 : Int32)) u5 else gd r4 4096 (bd (FX1_setRef n x1 x3 (u5.1 10 r4.toNatClampNeg) u5) (fun r8 u9 => LX0_tellNewRefs_11 n x1 x2 (x3 + (1 : Int32)) u9)))))
set_option maxHeartbeats 4000000 in
set_option maxRecDepth 100000 in
theorem lX0_tellNewRefs_11 {l : Launch} {D : va_G} {h : Nat → Nat} {cI cJ cZ : ClassId} {p : Program} {e : Env} {s : State} {m : MethodId} {args : Array Value} {below : List Frame} {meth : Method} {c : Code} {A : Nat → Prop} {r : Int32} {u : St} (E : Env1 p s m args c cX0_tellNewRefs 5 RX0 D (tyL cI cJ cZ)) (hr : meth.sig.returnType = none) (hlocks : meth.locks = false) (hA : ∀ q : Nat, s.heap.size ≤ q → A q) : ∀ (n : Nat) (x1 x2 x3 : Int32) (st : St) (H : Heap) (locs : List Loc) (ls : Array Slot), va_P D vwCl (wX h cI cJ cZ st) H → va_D A (wX h cI cJ cZ st) → va_S A s.heap H locs → lv_has ls 5 [(0, .ref (h 2)), (1, .int x1), (2, .int x2), (3, .int x3)] → LX0_tellNewRefs_11 n x1 x2 x3 st = some (r, u) → W p l e (rm 1 23) s m args below meth c H locs 0 0 (MQ below (CQv D (tyL cI cJ cZ) (wX h cI cJ cZ) A u) args s 0 0 A) (F0 m 11 ls []) := by
  have hx := E.1.1
  have hb := E.1.2.1
  have hml := E.1.2.2.1
  intro n
  induction n with
  | zero => intro x1 x2 x3 st H locs ls hP hD hS hl hF; simp only [LX0_tellNewRefs_11] at hF; cases hF
  | succ n ih =>
    intro x1 x2 x3 st H locs ls hP hD hS hl hF
    simp only [LX0_tellNewRefs_11] at hF
    refine lv_iload_n hx hb dX0_tellNewRefs_11 rfl (lv_at hl 3 rfl) ?_
    refine lv_iload_n hx hb dX0_tellNewRefs_12 rfl (lv_at hl 2 rfl) ?_
    refine lv_icmp_ge (tgt := 55) hx hb dX0_tellNewRefs_13 (by decide) (fun hc => ?_) (fun hc => ?_)
    · have hF := if_t hc hF
      exact endV E hr hlocks hP hD hS dX0_tellNewRefs_55 hF
    · have hF := if_f hc hF
      refine lv_aload_n hx hb dX0_tellNewRefs_16 rfl (lv_at hl 0 rfl) ?_
      refine g_2_0 E hP dX0_tellNewRefs_17 ?_
      refine lv_iload_n hx hb dX0_tellNewRefs_20 rfl (lv_at hl 1 rfl) ?_
      refine lv_iload_n hx hb dX0_tellNewRefs_21 rfl (lv_at hl 3 rfl) ?_
      obtain ⟨r4, u5, hc6, hF⟩ := bd_some hF
      refine call_i (rest := []) E hA hP hD hS hl.1 (kX1_ref l D h cI cJ cZ n x1 x3 st r4 u5 hc6) cw_X0_152 1 rfl rfl rfl rfl rfl (Nat.le_of_ble_eq_true rfl) ⟨Nat.le_of_ble_eq_true rfl, Nat.le_of_ble_eq_true rfl⟩ ⟨Nat.zero_le _, Nat.zero_le _⟩ dX0_tellNewRefs_22 (fun H locs hP hD hS => ?_)
      refine lv_istore (lv' := [(4, .int r4), (0, .ref (h 2)), (1, .int x1), (2, .int x2), (3, .int x3)]) hx hb dX0_tellNewRefs_25 hl (by decide) rfl (fun ls hl => ?_)
      refine lv_iload hx hb dX0_tellNewRefs_27 (lv_at hl 0 rfl) ?_
      refine lv_iconst (v := (-1)) hx hb dX0_tellNewRefs_29 (by decide) ?_
      refine lv_icmp_eq (tgt := 49) hx hb dX0_tellNewRefs_30 (by decide) (fun hc => ?_) (fun hc => ?_)
      · have hF := if_t hc hF
        refine lv_iinc (v := (x3 + (1 : Int32))) (lv' := [(3, .int (x3 + (1 : Int32))), (4, .int r4), (0, .ref (h 2)), (1, .int x1), (2, .int x2)]) hx hb dX0_tellNewRefs_49 hl (k := 4) rfl rfl (by decide) rfl (fun ls hl => ?_)
        refine lv_goto (tgt := 11) hx hb dX0_tellNewRefs_52 (by decide) ?_
        exact ih _ _ _ _ _ _ _ hP hD hS (lv_sub hl [2, 3, 4, 0] rfl) hF
      · have hF := if_f hc hF
        refine lv_aload_n hx hb dX0_tellNewRefs_33 rfl (lv_at hl 1 rfl) ?_
        refine g_2_0 E hP dX0_tellNewRefs_34 ?_
        refine lv_iload_n hx hb dX0_tellNewRefs_37 rfl (lv_at hl 2 rfl) ?_
        refine lv_iload_n hx hb dX0_tellNewRefs_38 rfl (lv_at hl 4 rfl) ?_
        refine lv_aload_n hx hb dX0_tellNewRefs_39 rfl (lv_at hl 1 rfl) ?_
        refine g_2_3 E hP dX0_tellNewRefs_40 ?_
        refine lv_iload hx hb dX0_tellNewRefs_43 (lv_at hl 0 rfl) ?_
        obtain ⟨hi7, hF⟩ := gd_some hF
        refine la_10 E hP hi7 dX0_tellNewRefs_45 ?_
        obtain ⟨r8, u9, hc10, hF⟩ := bd_some hF
        refine call_v (rest := []) E hA hP hD hS hl.1 (kX1_setRef l D h cI cJ cZ n x1 x3 (u5.1 10 r4.toNatClampNeg) u5 r8 u9 hc10) cw_X0_176 1 rfl rfl rfl rfl rfl (Nat.le_of_ble_eq_true rfl) ⟨Nat.le_of_ble_eq_true rfl, Nat.le_of_ble_eq_true rfl⟩ ⟨Nat.zero_le _, Nat.zero_le _⟩ dX0_tellNewRefs_46 (fun H locs hP hD hS => ?_)
        refine lv_iinc (v := (x3 + (1 : Int32))) (lv' := [(3, .int (x3 + (1 : Int32))), (4, .int r4), (0, .ref (h 2)), (1, .int x1), (2, .int x2)]) hx hb dX0_tellNewRefs_49 hl (k := 4) rfl rfl (by decide) rfl (fun ls hl => ?_)
        refine lv_goto (tgt := 11) hx hb dX0_tellNewRefs_52 (by decide) ?_
        exact ih _ _ _ _ _ _ _ hP hD hS (lv_sub hl [2, 3, 4, 0] rfl) hF
def FX0_tellNewRefs (n : Nat) (x1 : Int32) (st : St) : Option (Int32 × St) := bd (FX1_refsOf n x1 st) (fun r1 u2 => LX0_tellNewRefs_11 n x1 r1 (0 : Int32) u2)
set_option maxHeartbeats 4000000 in
set_option maxRecDepth 100000 in
theorem kX0_tellNewRefs (l : Launch) (D : va_G) (h : Nat → Nat) (cI cJ cZ : ClassId) (n : Nat) (x1 : Int32) (st : St) (r : Int32) (u : St) (hF : FX0_tellNewRefs n x1 st = some (r, u)) : Cv l yX0_tellNewRefs cX0_tellNewRefs 5 1 23 D (tyL cI cJ cZ) (wX h cI cJ cZ) st [.ref (h 2), .int x1] u := by
  refine body_v (by decide +kernel) (Nat.le_of_ble_eq_true rfl) ?_
  intro p e s m below meth c A ls E hr hlocks hA hP hD hS hl
  have E : Env1 p s m _ c cX0_tellNewRefs 5 RX0 D (tyL cI cJ cZ) := E
  have hl : lv_has ls 5 [(0, .ref (h 2)), (1, .int x1)] := hl
  have hx := E.1.1
  have hb := E.1.2.1
  have hml := E.1.2.2.1
  unfold FX0_tellNewRefs at hF
  refine lv_aload_n hx hb dX0_tellNewRefs_0 rfl (lv_at hl 0 rfl) ?_
  refine g_2_0 E hP dX0_tellNewRefs_1 ?_
  refine lv_iload_n hx hb dX0_tellNewRefs_4 rfl (lv_at hl 1 rfl) ?_
  obtain ⟨r1, u2, hc3, hF⟩ := bd_some hF
  refine call_i (rest := []) E hA hP hD hS hl.1 (kX1_refsOf l D h cI cJ cZ n x1 st r1 u2 hc3) cw_X0_149 1 rfl rfl rfl rfl rfl (Nat.le_of_ble_eq_true rfl) ⟨Nat.le_of_ble_eq_true rfl, Nat.le_of_ble_eq_true rfl⟩ ⟨Nat.zero_le _, Nat.zero_le _⟩ dX0_tellNewRefs_5 (fun H locs hP hD hS => ?_)
  refine lv_istore_n (lv' := [(2, .int r1), (0, .ref (h 2)), (1, .int x1)]) hx hb dX0_tellNewRefs_8 rfl hl (by decide) rfl (fun ls hl => ?_)
  refine lv_iconst (v := 0) hx hb dX0_tellNewRefs_9 (by decide) ?_
  refine lv_istore_n (lv' := [(3, .int (0 : Int32)), (2, .int r1), (0, .ref (h 2)), (1, .int x1)]) hx hb dX0_tellNewRefs_10 rfl hl (by decide) rfl (fun ls hl => ?_)
  exact lX0_tellNewRefs_11 E hr hlocks hA n x1 r1 (0 : Int32) u2 _ _ _ hP hD hS (lv_sub hl [2, 3, 1, 0] rfl) hF
theorem cw_X0_170 : cwd RX0 170 RX1 yX1_copySmall cX1_copySmall 4 none 2 := ⟨tb_V (tb_in 311 (by decide +kernel) (by decide +kernel)) (tb_in 312 (by decide +kernel) (by decide +kernel)) (tb_in 313 (by decide +kernel) (by decide +kernel)) (tb_in 46 (by decide +kernel) (by decide +kernel)) (tb_in 314 (by decide +kernel) (by decide +kernel)), by decide +kernel⟩
theorem cw_X0_173 : cwd RX0 173 RX0 yX0_tellNewRefs cX0_tellNewRefs 5 none 1 := ⟨tb_V (tb_in 323 (by decide +kernel) (by decide +kernel)) (tb_in 325 (by decide +kernel) (by decide +kernel)) (tb_in 14 (by decide +kernel) (by decide +kernel)) (tb_in 47 (by decide +kernel) (by decide +kernel)) (tb_in 326 (by decide +kernel) (by decide +kernel)), by decide +kernel⟩
-- LooseHeap$Collector.moveRow
def LX0_moveRow_2 : Nat → Int32 → St → Option (Int32 × St)
  | 0 => fun _ _ => none
  | n + 1 => fun x1 st => (if (st.1 2 2) ≤ x1 then some ((0 : Int32), st) else gd x1 4096 (gd (st.1 9 x1.toNatClampNeg) 4096 ((if (st.1 9 x1.toNatClampNeg) = (st.1 10 (st.1 9 x1.toNatClampNeg).toNatClampNeg) then bd (FX0_tellNewRefs n (st.1 10 (st.1 9 x1.toNatClampNeg).toNatClampNeg) st) (fun r3 u4 => LX0_moveRow_2 n (x1 + (1 : Int32)) u4) else bd (FX1_copySmall n (st.1 9 x1.toNatClampNeg) (st.1 10 (st.1 9 x1.toNatClampNeg).toNatClampNeg) st) (fun r6 u7 => bd (FX0_tellNewRefs n (st.1 10 (st.1 9 x1.toNatClampNeg).toNatClampNeg) u7) (fun r9 u10 => LX0_moveRow_2 n (x1 + (1 : Int32)) u10))))))
set_option maxHeartbeats 4000000 in
set_option maxRecDepth 100000 in
theorem lX0_moveRow_2 {l : Launch} {D : va_G} {h : Nat → Nat} {cI cJ cZ : ClassId} {p : Program} {e : Env} {s : State} {m : MethodId} {args : Array Value} {below : List Frame} {meth : Method} {c : Code} {A : Nat → Prop} {r : Int32} {u : St} (E : Env1 p s m args c cX0_moveRow 4 RX0 D (tyL cI cJ cZ)) (hr : meth.sig.returnType = none) (hlocks : meth.locks = false) (hA : ∀ q : Nat, s.heap.size ≤ q → A q) : ∀ (n : Nat) (x1 : Int32) (st : St) (H : Heap) (locs : List Loc) (ls : Array Slot), va_P D vwCl (wX h cI cJ cZ st) H → va_D A (wX h cI cJ cZ st) → va_S A s.heap H locs → lv_has ls 4 [(0, .ref (h 2)), (1, .int x1)] → LX0_moveRow_2 n x1 st = some (r, u) → W p l e (rm 3 123) s m args below meth c H locs 0 0 (MQ below (CQv D (tyL cI cJ cZ) (wX h cI cJ cZ) A u) args s 0 0 A) (F0 m 2 ls []) := by
  have hx := E.1.1
  have hb := E.1.2.1
  have hml := E.1.2.2.1
  intro n
  induction n with
  | zero => intro x1 st H locs ls hP hD hS hl hF; simp only [LX0_moveRow_2] at hF; cases hF
  | succ n ih =>
    intro x1 st H locs ls hP hD hS hl hF
    simp only [LX0_moveRow_2] at hF
    refine lv_iload_n hx hb dX0_moveRow_2 rfl (lv_at hl 1 rfl) ?_
    refine lv_aload_n hx hb dX0_moveRow_3 rfl (lv_at hl 0 rfl) ?_
    refine g_2_2 E hP dX0_moveRow_4 ?_
    refine lv_icmp_ge (tgt := 49) hx hb dX0_moveRow_7 (by decide) (fun hc => ?_) (fun hc => ?_)
    · have hF := if_t hc hF
      exact endV E hr hlocks hP hD hS dX0_moveRow_49 hF
    · have hF := if_f hc hF
      refine lv_aload_n hx hb dX0_moveRow_10 rfl (lv_at hl 0 rfl) ?_
      refine g_2_1 E hP dX0_moveRow_11 ?_
      refine lv_iload_n hx hb dX0_moveRow_14 rfl (lv_at hl 1 rfl) ?_
      obtain ⟨hi1, hF⟩ := gd_some hF
      refine la_9 E hP hi1 dX0_moveRow_15 ?_
      refine lv_istore_n (lv' := [(2, .int (st.1 9 x1.toNatClampNeg)), (0, .ref (h 2)), (1, .int x1)]) hx hb dX0_moveRow_16 rfl hl (by decide) rfl (fun ls hl => ?_)
      refine lv_aload_n hx hb dX0_moveRow_17 rfl (lv_at hl 1 rfl) ?_
      refine g_2_3 E hP dX0_moveRow_18 ?_
      refine lv_iload_n hx hb dX0_moveRow_21 rfl (lv_at hl 0 rfl) ?_
      obtain ⟨hi2, hF⟩ := gd_some hF
      refine la_10 E hP hi2 dX0_moveRow_22 ?_
      refine lv_istore_n (lv' := [(3, .int (st.1 10 (st.1 9 x1.toNatClampNeg).toNatClampNeg)), (2, .int (st.1 9 x1.toNatClampNeg)), (0, .ref (h 2)), (1, .int x1)]) hx hb dX0_moveRow_23 rfl hl (by decide) rfl (fun ls hl => ?_)
      refine lv_iload_n hx hb dX0_moveRow_24 rfl (lv_at hl 1 rfl) ?_
      refine lv_iload_n hx hb dX0_moveRow_25 rfl (lv_at hl 0 rfl) ?_
      refine lv_icmp_eq (tgt := 38) hx hb dX0_moveRow_26 (by decide) (fun hc => ?_) (fun hc => ?_)
      · have hF := if_t hc hF
        refine lv_aload_n hx hb dX0_moveRow_38 rfl (lv_at hl 2 rfl) ?_
        refine lv_iload_n hx hb dX0_moveRow_39 rfl (lv_at hl 0 rfl) ?_
        obtain ⟨r3, u4, hc5, hF⟩ := bd_some hF
        refine call_v (rest := []) E hA hP hD hS hl.1 (kX0_tellNewRefs l D h cI cJ cZ n (st.1 10 (st.1 9 x1.toNatClampNeg).toNatClampNeg) st r3 u4 hc5) cw_X0_173 2 rfl rfl rfl rfl rfl (Nat.le_of_ble_eq_true rfl) ⟨Nat.le_of_ble_eq_true rfl, Nat.le_of_ble_eq_true rfl⟩ ⟨Nat.zero_le _, Nat.zero_le _⟩ dX0_moveRow_40 (fun H locs hP hD hS => ?_)
        refine lv_iinc (v := (x1 + (1 : Int32))) (lv' := [(1, .int (x1 + (1 : Int32))), (3, .int (st.1 10 (st.1 9 x1.toNatClampNeg).toNatClampNeg)), (2, .int (st.1 9 x1.toNatClampNeg)), (0, .ref (h 2))]) hx hb dX0_moveRow_43 hl (k := 3) rfl rfl (by decide) rfl (fun ls hl => ?_)
        refine lv_goto (tgt := 2) hx hb dX0_moveRow_46 (by decide) ?_
        exact ih _ _ _ _ _ hP hD hS (lv_sub hl [3, 0] rfl) hF
      · have hF := if_f hc hF
        refine lv_aload_n hx hb dX0_moveRow_29 rfl (lv_at hl 2 rfl) ?_
        refine g_2_0 E hP dX0_moveRow_30 ?_
        refine lv_iload_n hx hb dX0_moveRow_33 rfl (lv_at hl 1 rfl) ?_
        refine lv_iload_n hx hb dX0_moveRow_34 rfl (lv_at hl 0 rfl) ?_
        obtain ⟨r6, u7, hc8, hF⟩ := bd_some hF
        refine call_v (rest := []) E hA hP hD hS hl.1 (kX1_copySmall l D h cI cJ cZ n (st.1 9 x1.toNatClampNeg) (st.1 10 (st.1 9 x1.toNatClampNeg).toNatClampNeg) st r6 u7 hc8) cw_X0_170 1 rfl rfl rfl rfl rfl (Nat.le_of_ble_eq_true rfl) ⟨Nat.le_of_ble_eq_true rfl, Nat.le_of_ble_eq_true rfl⟩ ⟨Nat.zero_le _, Nat.zero_le _⟩ dX0_moveRow_35 (fun H locs hP hD hS => ?_)
        refine lv_aload_n hx hb dX0_moveRow_38 rfl (lv_at hl 2 rfl) ?_
        refine lv_iload_n hx hb dX0_moveRow_39 rfl (lv_at hl 0 rfl) ?_
        obtain ⟨r9, u10, hc11, hF⟩ := bd_some hF
        refine call_v (rest := []) E hA hP hD hS hl.1 (kX0_tellNewRefs l D h cI cJ cZ n (st.1 10 (st.1 9 x1.toNatClampNeg).toNatClampNeg) u7 r9 u10 hc11) cw_X0_173 2 rfl rfl rfl rfl rfl (Nat.le_of_ble_eq_true rfl) ⟨Nat.le_of_ble_eq_true rfl, Nat.le_of_ble_eq_true rfl⟩ ⟨Nat.zero_le _, Nat.zero_le _⟩ dX0_moveRow_40 (fun H locs hP hD hS => ?_)
        refine lv_iinc (v := (x1 + (1 : Int32))) (lv' := [(1, .int (x1 + (1 : Int32))), (3, .int (st.1 10 (st.1 9 x1.toNatClampNeg).toNatClampNeg)), (2, .int (st.1 9 x1.toNatClampNeg)), (0, .ref (h 2))]) hx hb dX0_moveRow_43 hl (k := 3) rfl rfl (by decide) rfl (fun ls hl => ?_)
        refine lv_goto (tgt := 2) hx hb dX0_moveRow_46 (by decide) ?_
        exact ih _ _ _ _ _ hP hD hS (lv_sub hl [3, 0] rfl) hF
def FX0_moveRow (n : Nat) (st : St) : Option (Int32 × St) := LX0_moveRow_2 n (0 : Int32) st
set_option maxHeartbeats 4000000 in
set_option maxRecDepth 100000 in
theorem kX0_moveRow (l : Launch) (D : va_G) (h : Nat → Nat) (cI cJ cZ : ClassId) (n : Nat) (st : St) (r : Int32) (u : St) (hF : FX0_moveRow n  st = some (r, u)) : Cv l yX0_moveRow cX0_moveRow 4 3 123 D (tyL cI cJ cZ) (wX h cI cJ cZ) st [.ref (h 2)] u := by
  refine body_v (by decide +kernel) (Nat.le_of_ble_eq_true rfl) ?_
  intro p e s m below meth c A ls E hr hlocks hA hP hD hS hl
  have E : Env1 p s m _ c cX0_moveRow 4 RX0 D (tyL cI cJ cZ) := E
  have hl : lv_has ls 4 [(0, .ref (h 2))] := hl
  have hx := E.1.1
  have hb := E.1.2.1
  have hml := E.1.2.2.1
  unfold FX0_moveRow at hF
  refine lv_iconst (v := 0) hx hb dX0_moveRow_0 (by decide) ?_
  refine lv_istore_n (lv' := [(1, .int (0 : Int32)), (0, .ref (h 2))]) hx hb dX0_moveRow_1 rfl hl (by decide) rfl (fun ls hl => ?_)
  exact lX0_moveRow_2 E hr hlocks hA n (0 : Int32) st _ _ _ hP hD hS (lv_sub hl [1, 0] rfl) hF
-- LooseHeap$Collector.tellNewAddresses
def LX0_tellNewAddresses_2 : Nat → Int32 → St → Option (Int32 × St)
  | 0 => fun _ _ => none
  | n + 1 => fun x2 st => (if (32 : Int32) ≤ x2 then some ((0 : Int32), st) else gd x2 32 ((if (st.1 3 x2.toNatClampNeg) = (-1 : Int32) then LX0_tellNewAddresses_2 n (x2 + (1 : Int32)) st else gd x2 32 (gd (st.1 3 x2.toNatClampNeg) 4096 (gd x2 32 (LX0_tellNewAddresses_2 n (x2 + (1 : Int32)) (pt st 3 x2.toNatClampNeg (st.1 10 (st.1 3 x2.toNatClampNeg).toNatClampNeg))))))))
set_option maxHeartbeats 4000000 in
set_option maxRecDepth 100000 in
theorem lX0_tellNewAddresses_2 {l : Launch} {D : va_G} {h : Nat → Nat} {cI cJ cZ : ClassId} {p : Program} {e : Env} {s : State} {m : MethodId} {args : Array Value} {below : List Frame} {meth : Method} {c : Code} {A : Nat → Prop} {r : Int32} {u : St} (E : Env1 p s m args c cX0_tellNewAddresses 3 RX0 D (tyL cI cJ cZ)) (hr : meth.sig.returnType = none) (hlocks : meth.locks = false) (hA : ∀ q : Nat, s.heap.size ≤ q → A q) : ∀ (n : Nat) (x2 : Int32) (st : St) (H : Heap) (locs : List Loc) (ls : Array Slot), va_P D vwCl (wX h cI cJ cZ st) H → va_D A (wX h cI cJ cZ st) → va_S A s.heap H locs → lv_has ls 3 [(0, .ref (h 2)), (1, .ref (h 3)), (2, .int x2)] → LX0_tellNewAddresses_2 n x2 st = some (r, u) → W p l e (rm 0 0) s m args below meth c H locs 0 0 (MQ below (CQv D (tyL cI cJ cZ) (wX h cI cJ cZ) A u) args s 0 0 A) (F0 m 2 ls []) := by
  have hx := E.1.1
  have hb := E.1.2.1
  have hml := E.1.2.2.1
  intro n
  induction n with
  | zero => intro x2 st H locs ls hP hD hS hl hF; simp only [LX0_tellNewAddresses_2] at hF; cases hF
  | succ n ih =>
    intro x2 st H locs ls hP hD hS hl hF
    simp only [LX0_tellNewAddresses_2] at hF
    refine lv_iload_n hx hb dX0_tellNewAddresses_2 rfl (lv_at hl 2 rfl) ?_
    refine lv_aload_n hx hb dX0_tellNewAddresses_3 rfl (lv_at hl 1 rfl) ?_
    refine al_3 E hP dX0_tellNewAddresses_4 ?_
    refine lv_icmp_ge (tgt := 32) hx hb dX0_tellNewAddresses_5 (by decide) (fun hc => ?_) (fun hc => ?_)
    · have hF := if_t hc hF
      exact endV E hr hlocks hP hD hS dX0_tellNewAddresses_32 hF
    · have hF := if_f hc hF
      refine lv_aload_n hx hb dX0_tellNewAddresses_8 rfl (lv_at hl 1 rfl) ?_
      refine lv_iload_n hx hb dX0_tellNewAddresses_9 rfl (lv_at hl 2 rfl) ?_
      obtain ⟨hi1, hF⟩ := gd_some hF
      refine la_3 E hP hi1 dX0_tellNewAddresses_10 ?_
      refine lv_iconst (v := (-1)) hx hb dX0_tellNewAddresses_11 (by decide) ?_
      refine lv_icmp_eq (tgt := 26) hx hb dX0_tellNewAddresses_12 (by decide) (fun hc => ?_) (fun hc => ?_)
      · have hF := if_t hc hF
        refine lv_iinc (v := (x2 + (1 : Int32))) (lv' := [(2, .int (x2 + (1 : Int32))), (0, .ref (h 2)), (1, .ref (h 3))]) hx hb dX0_tellNewAddresses_26 hl (k := 2) rfl rfl (by decide) rfl (fun ls hl => ?_)
        refine lv_goto (tgt := 2) hx hb dX0_tellNewAddresses_29 (by decide) ?_
        exact ih _ _ _ _ _ hP hD hS (lv_sub hl [1, 2, 0] rfl) hF
      · have hF := if_f hc hF
        refine lv_aload_n hx hb dX0_tellNewAddresses_15 rfl (lv_at hl 1 rfl) ?_
        refine lv_iload_n hx hb dX0_tellNewAddresses_16 rfl (lv_at hl 2 rfl) ?_
        refine lv_aload_n hx hb dX0_tellNewAddresses_17 rfl (lv_at hl 0 rfl) ?_
        refine g_2_3 E hP dX0_tellNewAddresses_18 ?_
        refine lv_aload_n hx hb dX0_tellNewAddresses_21 rfl (lv_at hl 1 rfl) ?_
        refine lv_iload_n hx hb dX0_tellNewAddresses_22 rfl (lv_at hl 2 rfl) ?_
        obtain ⟨hi2, hF⟩ := gd_some hF
        refine la_3 E hP hi2 dX0_tellNewAddresses_23 ?_
        obtain ⟨hi3, hF⟩ := gd_some hF
        refine la_10 E hP hi3 dX0_tellNewAddresses_24 ?_
        obtain ⟨hi4, hF⟩ := gd_some hF
        refine sa_3 E hP hD hS hi4 dX0_tellNewAddresses_25 (fun H locs hP hD hS => ?_)
        refine lv_iinc (v := (x2 + (1 : Int32))) (lv' := [(2, .int (x2 + (1 : Int32))), (0, .ref (h 2)), (1, .ref (h 3))]) hx hb dX0_tellNewAddresses_26 hl (k := 2) rfl rfl (by decide) rfl (fun ls hl => ?_)
        refine lv_goto (tgt := 2) hx hb dX0_tellNewAddresses_29 (by decide) ?_
        exact ih _ _ _ _ _ hP hD hS (lv_sub hl [1, 2, 0] rfl) hF
def FX0_tellNewAddresses (n : Nat) (st : St) : Option (Int32 × St) := LX0_tellNewAddresses_2 n (0 : Int32) st
set_option maxHeartbeats 4000000 in
set_option maxRecDepth 100000 in
theorem kX0_tellNewAddresses (l : Launch) (D : va_G) (h : Nat → Nat) (cI cJ cZ : ClassId) (n : Nat) (st : St) (r : Int32) (u : St) (hF : FX0_tellNewAddresses n  st = some (r, u)) : Cv l yX0_tellNewAddresses cX0_tellNewAddresses 3 0 0 D (tyL cI cJ cZ) (wX h cI cJ cZ) st [.ref (h 2), .ref (h 3)] u := by
  refine body_v (by decide +kernel) (Nat.le_of_ble_eq_true rfl) ?_
  intro p e s m below meth c A ls E hr hlocks hA hP hD hS hl
  have E : Env1 p s m _ c cX0_tellNewAddresses 3 RX0 D (tyL cI cJ cZ) := E
  have hl : lv_has ls 3 [(0, .ref (h 2)), (1, .ref (h 3))] := hl
  have hx := E.1.1
  have hb := E.1.2.1
  have hml := E.1.2.2.1
  unfold FX0_tellNewAddresses at hF
  refine lv_iconst (v := 0) hx hb dX0_tellNewAddresses_0 (by decide) ?_
  refine lv_istore_n (lv' := [(2, .int (0 : Int32)), (0, .ref (h 2)), (1, .ref (h 3))]) hx hb dX0_tellNewAddresses_1 rfl hl (by decide) rfl (fun ls hl => ?_)
  exact lX0_tellNewAddresses_2 E hr hlocks hA n (0 : Int32) st _ _ _ hP hD hS (lv_sub hl [1, 2, 0] rfl) hF
theorem cw_X0_180 : cwd RX0 180 RX1 yX1_freePagesBut cX1_freePagesBut 4 (some .int) 1 := ⟨tb_V (tb_in 339 (by decide +kernel) (by decide +kernel)) (tb_in 340 (by decide +kernel) (by decide +kernel)) (tb_in 341 (by decide +kernel) (by decide +kernel)) (tb_in 46 (by decide +kernel) (by decide +kernel)) (tb_in 342 (by decide +kernel) (by decide +kernel)), by decide +kernel⟩
theorem cw_X0_184 : cwd RX0 184 RX1 yX1_setOpenPage cX1_setOpenPage 2 none 1 := ⟨tb_V (tb_in 348 (by decide +kernel) (by decide +kernel)) (tb_in 349 (by decide +kernel) (by decide +kernel)) (tb_in 350 (by decide +kernel) (by decide +kernel)) (tb_in 46 (by decide +kernel) (by decide +kernel)) (tb_in 351 (by decide +kernel) (by decide +kernel)), by decide +kernel⟩
-- LooseHeap$Collector.finish
def LX0_finish_33 : Nat → Int32 → St → Option (Int32 × St)
  | 0 => fun _ _ => none
  | n + 1 => fun x1 st => (if (64 : Int32) ≤ x1 then some ((0 : Int32), (pt (pt (pt (pt st 2 14 (st.1 2 2)) 2 15 ((pt st 2 14 (st.1 2 2)).1 2 8)) 2 16 ((pt (pt st 2 14 (st.1 2 2)) 2 15 ((pt st 2 14 (st.1 2 2)).1 2 8)).1 2 9)) 2 10 (((pt (pt (pt st 2 14 (st.1 2 2)) 2 15 ((pt st 2 14 (st.1 2 2)).1 2 8)) 2 16 ((pt (pt st 2 14 (st.1 2 2)) 2 15 ((pt st 2 14 (st.1 2 2)).1 2 8)).1 2 9)).1 2 10) + (1 : Int32)))) else gd x1 64 ((if (st.1 11 x1.toNatClampNeg) = 0 then gd x1 64 (gd x1 64 (LX0_finish_33 n (x1 + (1 : Int32)) (pt (pt st 13 x1.toNatClampNeg (0 : Int32)) 2 13 (((pt st 13 x1.toNatClampNeg (0 : Int32)).1 2 13) + ((pt st 13 x1.toNatClampNeg (0 : Int32)).1 13 x1.toNatClampNeg))))) else gd x1 64 (gd x1 64 (LX0_finish_33 n (x1 + (1 : Int32)) (pt (pt st 13 x1.toNatClampNeg (1 : Int32)) 2 13 (((pt st 13 x1.toNatClampNeg (1 : Int32)).1 2 13) + ((pt st 13 x1.toNatClampNeg (1 : Int32)).1 13 x1.toNatClampNeg))))))))
set_option maxHeartbeats 4000000 in
set_option maxRecDepth 100000 in
theorem lX0_finish_33 {l : Launch} {D : va_G} {h : Nat → Nat} {cI cJ cZ : ClassId} {p : Program} {e : Env} {s : State} {m : MethodId} {args : Array Value} {below : List Frame} {meth : Method} {c : Code} {A : Nat → Prop} {r : Int32} {u : St} (E : Env1 p s m args c cX0_finish 2 RX0 D (tyL cI cJ cZ)) (hr : meth.sig.returnType = none) (hlocks : meth.locks = false) (hA : ∀ q : Nat, s.heap.size ≤ q → A q) : ∀ (n : Nat) (x1 : Int32) (st : St) (H : Heap) (locs : List Loc) (ls : Array Slot), va_P D vwCl (wX h cI cJ cZ st) H → va_D A (wX h cI cJ cZ st) → va_S A s.heap H locs → lv_has ls 2 [(0, .ref (h 2)), (1, .int x1)] → LX0_finish_33 n x1 st = some (r, u) → W p l e (rm 3 67) s m args below meth c H locs 0 0 (MQ below (CQv D (tyL cI cJ cZ) (wX h cI cJ cZ) A u) args s 0 0 A) (F0 m 33 ls []) := by
  have hx := E.1.1
  have hb := E.1.2.1
  have hml := E.1.2.2.1
  intro n
  induction n with
  | zero => intro x1 st H locs ls hP hD hS hl hF; simp only [LX0_finish_33] at hF; cases hF
  | succ n ih =>
    intro x1 st H locs ls hP hD hS hl hF
    simp only [LX0_finish_33] at hF
    refine lv_iload_n hx hb dX0_finish_33 rfl (lv_at hl 1 rfl) ?_
    refine lv_bipush (v := 64) hx hb dX0_finish_34 (by decide) ?_
    refine lv_icmp_ge (tgt := 80) hx hb dX0_finish_36 (by decide) (fun hc => ?_) (fun hc => ?_)
    · have hF := if_t hc hF
      refine lv_aload_n hx hb dX0_finish_80 rfl (lv_at hl 0 rfl) ?_
      refine lv_aload_n hx hb dX0_finish_81 rfl (lv_at hl 0 rfl) ?_
      refine g_2_2 E hP dX0_finish_82 ?_
      refine s_2_14 E hP hD hS dX0_finish_85 (fun H locs hP hD hS => ?_)
      refine lv_aload_n hx hb dX0_finish_88 rfl (lv_at hl 0 rfl) ?_
      refine lv_aload_n hx hb dX0_finish_89 rfl (lv_at hl 0 rfl) ?_
      refine g_2_8 E hP dX0_finish_90 ?_
      refine s_2_15 E hP hD hS dX0_finish_93 (fun H locs hP hD hS => ?_)
      refine lv_aload_n hx hb dX0_finish_96 rfl (lv_at hl 0 rfl) ?_
      refine lv_aload_n hx hb dX0_finish_97 rfl (lv_at hl 0 rfl) ?_
      refine g_2_9 E hP dX0_finish_98 ?_
      refine s_2_16 E hP hD hS dX0_finish_101 (fun H locs hP hD hS => ?_)
      refine lv_aload_n hx hb dX0_finish_104 rfl (lv_at hl 0 rfl) ?_
      refine lv_dup hx hb dX0_finish_105 rfl ?_
      refine g_2_10 E hP dX0_finish_106 ?_
      refine lv_iconst (v := 1) hx hb dX0_finish_109 (by decide) ?_
      refine lv_iadd hx hb dX0_finish_110 ?_
      refine s_2_10 E hP hD hS dX0_finish_111 (fun H locs hP hD hS => ?_)
      exact endV E hr hlocks hP hD hS dX0_finish_114 hF
    · have hF := if_f hc hF
      refine lv_aload_n hx hb dX0_finish_39 rfl (lv_at hl 0 rfl) ?_
      refine g_2_12 E hP dX0_finish_40 ?_
      refine lv_iload_n hx hb dX0_finish_43 rfl (lv_at hl 1 rfl) ?_
      refine lv_aload_n hx hb dX0_finish_44 rfl (lv_at hl 0 rfl) ?_
      refine g_2_4 E hP dX0_finish_45 ?_
      refine lv_iload_n hx hb dX0_finish_48 rfl (lv_at hl 1 rfl) ?_
      obtain ⟨hi7, hF⟩ := gd_some hF
      refine la_11 E hP hi7 dX0_finish_49 ?_
      refine lv_if_eq (tgt := 57) hx hb dX0_finish_50 (by decide) (fun hc => ?_) (fun hc => ?_)
      · have hF := if_t hc hF
        refine lv_iconst (v := 0) hx hb dX0_finish_57 (by decide) ?_
        obtain ⟨hi8, hF⟩ := gd_some hF
        refine sa_13 E hP hD hS hi8 dX0_finish_58 (fun H locs hP hD hS => ?_)
        refine lv_aload_n hx hb dX0_finish_59 rfl (lv_at hl 0 rfl) ?_
        refine lv_dup hx hb dX0_finish_60 rfl ?_
        refine g_2_13 E hP dX0_finish_61 ?_
        refine lv_aload_n hx hb dX0_finish_64 rfl (lv_at hl 0 rfl) ?_
        refine g_2_12 E hP dX0_finish_65 ?_
        refine lv_iload_n hx hb dX0_finish_68 rfl (lv_at hl 1 rfl) ?_
        obtain ⟨hi9, hF⟩ := gd_some hF
        refine la_13 E hP hi9 dX0_finish_69 ?_
        refine lv_iadd hx hb dX0_finish_70 ?_
        refine s_2_13 E hP hD hS dX0_finish_71 (fun H locs hP hD hS => ?_)
        refine lv_iinc (v := (x1 + (1 : Int32))) (lv' := [(1, .int (x1 + (1 : Int32))), (0, .ref (h 2))]) hx hb dX0_finish_74 hl (k := 1) rfl rfl (by decide) rfl (fun ls hl => ?_)
        refine lv_goto (tgt := 33) hx hb dX0_finish_77 (by decide) ?_
        exact ih _ _ _ _ _ hP hD hS (lv_sub hl [1, 0] rfl) hF
      · have hF := if_f hc hF
        refine lv_iconst (v := 1) hx hb dX0_finish_53 (by decide) ?_
        refine lv_goto (tgt := 58) hx hb dX0_finish_54 (by decide) ?_
        obtain ⟨hi10, hF⟩ := gd_some hF
        refine sa_13 E hP hD hS hi10 dX0_finish_58 (fun H locs hP hD hS => ?_)
        refine lv_aload_n hx hb dX0_finish_59 rfl (lv_at hl 0 rfl) ?_
        refine lv_dup hx hb dX0_finish_60 rfl ?_
        refine g_2_13 E hP dX0_finish_61 ?_
        refine lv_aload_n hx hb dX0_finish_64 rfl (lv_at hl 0 rfl) ?_
        refine g_2_12 E hP dX0_finish_65 ?_
        refine lv_iload_n hx hb dX0_finish_68 rfl (lv_at hl 1 rfl) ?_
        obtain ⟨hi11, hF⟩ := gd_some hF
        refine la_13 E hP hi11 dX0_finish_69 ?_
        refine lv_iadd hx hb dX0_finish_70 ?_
        refine s_2_13 E hP hD hS dX0_finish_71 (fun H locs hP hD hS => ?_)
        refine lv_iinc (v := (x1 + (1 : Int32))) (lv' := [(1, .int (x1 + (1 : Int32))), (0, .ref (h 2))]) hx hb dX0_finish_74 hl (k := 1) rfl rfl (by decide) rfl (fun ls hl => ?_)
        refine lv_goto (tgt := 33) hx hb dX0_finish_77 (by decide) ?_
        exact ih _ _ _ _ _ hP hD hS (lv_sub hl [1, 0] rfl) hF
def FX0_finish (n : Nat) (st : St) : Option (Int32 × St) := bd (FX1_freePagesBut n  st) (fun r1 u2 => bd (FX1_setOpenPage n ((pt u2 2 17 r1).1 2 6) (pt u2 2 17 r1)) (fun r4 u5 => LX0_finish_33 n (0 : Int32) (pt u5 2 13 (0 : Int32))))
set_option maxHeartbeats 4000000 in
set_option maxRecDepth 100000 in
theorem kX0_finish (l : Launch) (D : va_G) (h : Nat → Nat) (cI cJ cZ : ClassId) (n : Nat) (st : St) (r : Int32) (u : St) (hF : FX0_finish n  st = some (r, u)) : Cv l yX0_finish cX0_finish 2 3 67 D (tyL cI cJ cZ) (wX h cI cJ cZ) st [.ref (h 2)] u := by
  refine body_v (by decide +kernel) (Nat.le_of_ble_eq_true rfl) ?_
  intro p e s m below meth c A ls E hr hlocks hA hP hD hS hl
  have E : Env1 p s m _ c cX0_finish 2 RX0 D (tyL cI cJ cZ) := E
  have hl : lv_has ls 2 [(0, .ref (h 2))] := hl
  have hx := E.1.1
  have hb := E.1.2.1
  have hml := E.1.2.2.1
  unfold FX0_finish at hF
  refine lv_aload_n hx hb dX0_finish_0 rfl (lv_at hl 0 rfl) ?_
  refine lv_aload_n hx hb dX0_finish_1 rfl (lv_at hl 0 rfl) ?_
  refine g_2_0 E hP dX0_finish_2 ?_
  refine lv_aload_n hx hb dX0_finish_5 rfl (lv_at hl 0 rfl) ?_
  refine g_2_5 E hP dX0_finish_6 ?_
  obtain ⟨r1, u2, hc3, hF⟩ := bd_some hF
  refine call_i (rest := [.ref (h 2)]) E hA hP hD hS hl.1 (kX1_freePagesBut l D h cI cJ cZ n  st r1 u2 hc3) cw_X0_180 1 rfl rfl rfl rfl rfl (Nat.le_of_ble_eq_true rfl) ⟨Nat.le_of_ble_eq_true rfl, Nat.le_of_ble_eq_true rfl⟩ ⟨Nat.zero_le _, Nat.zero_le _⟩ dX0_finish_9 (fun H locs hP hD hS => ?_)
  refine s_2_17 E hP hD hS dX0_finish_12 (fun H locs hP hD hS => ?_)
  refine lv_aload_n hx hb dX0_finish_15 rfl (lv_at hl 0 rfl) ?_
  refine g_2_0 E hP dX0_finish_16 ?_
  refine lv_aload_n hx hb dX0_finish_19 rfl (lv_at hl 0 rfl) ?_
  refine g_2_6 E hP dX0_finish_20 ?_
  obtain ⟨r4, u5, hc6, hF⟩ := bd_some hF
  refine call_v (rest := []) E hA hP hD hS hl.1 (kX1_setOpenPage l D h cI cJ cZ n ((pt u2 2 17 r1).1 2 6) (pt u2 2 17 r1) r4 u5 hc6) cw_X0_184 1 rfl rfl rfl rfl rfl (Nat.le_of_ble_eq_true rfl) ⟨Nat.le_of_ble_eq_true rfl, Nat.le_of_ble_eq_true rfl⟩ ⟨Nat.zero_le _, Nat.zero_le _⟩ dX0_finish_23 (fun H locs hP hD hS => ?_)
  refine lv_aload_n hx hb dX0_finish_26 rfl (lv_at hl 0 rfl) ?_
  refine lv_iconst (v := 0) hx hb dX0_finish_27 (by decide) ?_
  refine s_2_13 E hP hD hS dX0_finish_28 (fun H locs hP hD hS => ?_)
  refine lv_iconst (v := 0) hx hb dX0_finish_31 (by decide) ?_
  refine lv_istore_n (lv' := [(1, .int (0 : Int32)), (0, .ref (h 2))]) hx hb dX0_finish_32 rfl hl (by decide) rfl (fun ls hl => ?_)
  exact lX0_finish_33 E hr hlocks hA n (0 : Int32) (pt u5 2 13 (0 : Int32)) _ _ _ hP hD hS (lv_sub hl [1, 0] rfl) hF
theorem cw_X0_60 : cwd RX0 60 RX0 yX0_clearPlan cX0_clearPlan 2 none 0 := ⟨tb_V (tb_in 200 (by decide +kernel) (by decide +kernel)) (tb_in 202 (by decide +kernel) (by decide +kernel)) (tb_in 1 (by decide +kernel) (by decide +kernel)) (tb_in 47 (by decide +kernel) (by decide +kernel)) (tb_in 203 (by decide +kernel) (by decide +kernel)), by decide +kernel⟩
theorem cw_X0_63 : cwd RX0 63 RX0 yX0_markHits cX0_markHits 3 none 1 := ⟨tb_V (tb_in 204 (by decide +kernel) (by decide +kernel)) (tb_in 206 (by decide +kernel) (by decide +kernel)) (tb_in 2 (by decide +kernel) (by decide +kernel)) (tb_in 47 (by decide +kernel) (by decide +kernel)) (tb_in 207 (by decide +kernel) (by decide +kernel)), by decide +kernel⟩
theorem cw_X0_67 : cwd RX0 67 RX0 yX0_keepHitObjects cX0_keepHitObjects 2 none 0 := ⟨tb_V (tb_in 232 (by decide +kernel) (by decide +kernel)) (tb_in 234 (by decide +kernel) (by decide +kernel)) (tb_in 4 (by decide +kernel) (by decide +kernel)) (tb_in 47 (by decide +kernel) (by decide +kernel)) (tb_in 235 (by decide +kernel) (by decide +kernel)), by decide +kernel⟩
theorem cw_X0_70 : cwd RX0 70 RX0 yX0_reachFromRoots cX0_reachFromRoots 3 (some .boolean) 1 := ⟨tb_V (tb_in 261 (by decide +kernel) (by decide +kernel)) (tb_in 263 (by decide +kernel) (by decide +kernel)) (tb_in 7 (by decide +kernel) (by decide +kernel)) (tb_in 47 (by decide +kernel) (by decide +kernel)) (tb_in 264 (by decide +kernel) (by decide +kernel)), by decide +kernel⟩
theorem cw_X0_74 : cwd RX0 74 RX0 yX0_reachFromRow cX0_reachFromRow 4 (some .boolean) 0 := ⟨tb_V (tb_in 298 (by decide +kernel) (by decide +kernel)) (tb_in 300 (by decide +kernel) (by decide +kernel)) (tb_in 11 (by decide +kernel) (by decide +kernel)) (tb_in 47 (by decide +kernel) (by decide +kernel)) (tb_in 301 (by decide +kernel) (by decide +kernel)), by decide +kernel⟩
theorem cw_X0_78 : cwd RX0 78 RX0 yX0_moveRow cX0_moveRow 4 none 0 := ⟨tb_V (tb_in 307 (by decide +kernel) (by decide +kernel)) (tb_in 309 (by decide +kernel) (by decide +kernel)) (tb_in 12 (by decide +kernel) (by decide +kernel)) (tb_in 47 (by decide +kernel) (by decide +kernel)) (tb_in 310 (by decide +kernel) (by decide +kernel)), by decide +kernel⟩
theorem cw_X0_81 : cwd RX0 81 RX0 yX0_tellNewAddresses cX0_tellNewAddresses 3 none 1 := ⟨tb_V (tb_in 331 (by decide +kernel) (by decide +kernel)) (tb_in 333 (by decide +kernel) (by decide +kernel)) (tb_in 15 (by decide +kernel) (by decide +kernel)) (tb_in 47 (by decide +kernel) (by decide +kernel)) (tb_in 334 (by decide +kernel) (by decide +kernel)), by decide +kernel⟩
theorem cw_X0_84 : cwd RX0 84 RX0 yX0_finish cX0_finish 2 none 0 := ⟨tb_V (tb_in 335 (by decide +kernel) (by decide +kernel)) (tb_in 337 (by decide +kernel) (by decide +kernel)) (tb_in 16 (by decide +kernel) (by decide +kernel)) (tb_in 47 (by decide +kernel) (by decide +kernel)) (tb_in 338 (by decide +kernel) (by decide +kernel)), by decide +kernel⟩
-- LooseHeap$Collector.run
def FX0_run (n : Nat) (st : St) : Option (Int32 × St) := bd (FX0_clearPlan n  st) (fun r1 u2 => bd (FX0_markHits n  u2) (fun r4 u5 => bd (FX0_keepHitObjects n  u5) (fun r7 u8 => bd (FX0_reachFromRoots n  u8) (fun r10 u11 => (if r10 = 0 then some ((0 : Int32), (pt u11 2 11 ((u11.1 2 11) + (1 : Int32)))) else bd (FX0_reachFromRow n  u11) (fun r13 u14 => (if r13 = 0 then some ((0 : Int32), (pt u14 2 11 ((u14.1 2 11) + (1 : Int32)))) else bd (FX0_moveRow n  u14) (fun r16 u17 => bd (FX0_tellNewAddresses n  u17) (fun r19 u20 => bd (FX0_finish n  u20) (fun r22 u23 => some ((1 : Int32), u23)))))))))))
set_option maxHeartbeats 4000000 in
set_option maxRecDepth 100000 in
theorem kX0_run (l : Launch) (D : va_G) (h : Nat → Nat) (cI cJ cZ : ClassId) (n : Nat) (st : St) (r : Int32) (u : St) (hF : FX0_run n  st = some (r, u)) : Ci l yX0_run cX0_run 3 (some .boolean) 5 146 D (tyL cI cJ cZ) (wX h cI cJ cZ) st [.ref (h 2), .ref (h 3), .ref (h 4)] r u := by
  refine body_i (by decide +kernel) (Nat.le_of_ble_eq_true rfl) ?_
  intro p e s m below meth c A ls E hr hlocks hA hP hD hS hl
  have E : Env1 p s m _ c cX0_run 3 RX0 D (tyL cI cJ cZ) := E
  have hl : lv_has ls 3 [(0, .ref (h 2)), (1, .ref (h 3)), (2, .ref (h 4))] := hl
  have hx := E.1.1
  have hb := E.1.2.1
  have hml := E.1.2.2.1
  unfold FX0_run at hF
  refine lv_aload_n hx hb dX0_run_0 rfl (lv_at hl 0 rfl) ?_
  obtain ⟨r1, u2, hc3, hF⟩ := bd_some hF
  refine call_v (rest := []) E hA hP hD hS hl.1 (kX0_clearPlan l D h cI cJ cZ n  st r1 u2 hc3) cw_X0_60 2 rfl rfl rfl rfl rfl (Nat.le_of_ble_eq_true rfl) ⟨Nat.le_of_ble_eq_true rfl, Nat.le_of_ble_eq_true rfl⟩ ⟨Nat.zero_le _, Nat.zero_le _⟩ dX0_run_1 (fun H locs hP hD hS => ?_)
  refine lv_aload_n hx hb dX0_run_4 rfl (lv_at hl 0 rfl) ?_
  refine lv_aload_n hx hb dX0_run_5 rfl (lv_at hl 2 rfl) ?_
  obtain ⟨r4, u5, hc6, hF⟩ := bd_some hF
  refine call_v (rest := []) E hA hP hD hS hl.1 (kX0_markHits l D h cI cJ cZ n  u2 r4 u5 hc6) cw_X0_63 2 rfl rfl rfl rfl rfl (Nat.le_of_ble_eq_true rfl) ⟨Nat.le_of_ble_eq_true rfl, Nat.le_of_ble_eq_true rfl⟩ ⟨Nat.zero_le _, Nat.zero_le _⟩ dX0_run_6 (fun H locs hP hD hS => ?_)
  refine lv_aload_n hx hb dX0_run_9 rfl (lv_at hl 0 rfl) ?_
  obtain ⟨r7, u8, hc9, hF⟩ := bd_some hF
  refine call_v (rest := []) E hA hP hD hS hl.1 (kX0_keepHitObjects l D h cI cJ cZ n  u5 r7 u8 hc9) cw_X0_67 2 rfl rfl rfl rfl rfl (Nat.le_of_ble_eq_true rfl) ⟨Nat.le_of_ble_eq_true rfl, Nat.le_of_ble_eq_true rfl⟩ ⟨Nat.zero_le _, Nat.zero_le _⟩ dX0_run_10 (fun H locs hP hD hS => ?_)
  refine lv_aload_n hx hb dX0_run_13 rfl (lv_at hl 0 rfl) ?_
  refine lv_aload_n hx hb dX0_run_14 rfl (lv_at hl 1 rfl) ?_
  obtain ⟨r10, u11, hc12, hF⟩ := bd_some hF
  refine call_i (rest := []) E hA hP hD hS hl.1 (kX0_reachFromRoots l D h cI cJ cZ n  u8 r10 u11 hc12) cw_X0_70 2 rfl rfl rfl rfl rfl (Nat.le_of_ble_eq_true rfl) ⟨Nat.le_of_ble_eq_true rfl, Nat.le_of_ble_eq_true rfl⟩ ⟨Nat.zero_le _, Nat.zero_le _⟩ dX0_run_15 (fun H locs hP hD hS => ?_)
  refine lv_if_eq (tgt := 28) hx hb dX0_run_18 (by decide) (fun hc => ?_) (fun hc => ?_)
  · have hF := if_t hc hF
    refine lv_aload_n hx hb dX0_run_28 rfl (lv_at hl 0 rfl) ?_
    refine lv_dup hx hb dX0_run_29 rfl ?_
    refine g_2_11 E hP dX0_run_30 ?_
    refine lv_iconst (v := 1) hx hb dX0_run_33 (by decide) ?_
    refine lv_iadd hx hb dX0_run_34 ?_
    refine s_2_11 E hP hD hS dX0_run_35 (fun H locs hP hD hS => ?_)
    refine lv_iconst (v := 0) hx hb dX0_run_38 (by decide) ?_
    exact endZ0 E hr hlocks hP hD hS dX0_run_39 rfl hF
  · have hF := if_f hc hF
    refine lv_aload_n hx hb dX0_run_21 rfl (lv_at hl 0 rfl) ?_
    obtain ⟨r13, u14, hc15, hF⟩ := bd_some hF
    refine call_i (rest := []) E hA hP hD hS hl.1 (kX0_reachFromRow l D h cI cJ cZ n  u11 r13 u14 hc15) cw_X0_74 2 rfl rfl rfl rfl rfl (Nat.le_of_ble_eq_true rfl) ⟨Nat.le_of_ble_eq_true rfl, Nat.le_of_ble_eq_true rfl⟩ ⟨Nat.zero_le _, Nat.zero_le _⟩ dX0_run_22 (fun H locs hP hD hS => ?_)
    refine lv_if_ne (tgt := 40) hx hb dX0_run_25 (by decide) (fun hc => ?_) (fun hc => ?_)
    · have hF := if_f hc hF
      refine lv_aload_n hx hb dX0_run_40 rfl (lv_at hl 0 rfl) ?_
      obtain ⟨r16, u17, hc18, hF⟩ := bd_some hF
      refine call_v (rest := []) E hA hP hD hS hl.1 (kX0_moveRow l D h cI cJ cZ n  u14 r16 u17 hc18) cw_X0_78 2 rfl rfl rfl rfl rfl (Nat.le_of_ble_eq_true rfl) ⟨Nat.le_of_ble_eq_true rfl, Nat.le_of_ble_eq_true rfl⟩ ⟨Nat.zero_le _, Nat.zero_le _⟩ dX0_run_41 (fun H locs hP hD hS => ?_)
      refine lv_aload_n hx hb dX0_run_44 rfl (lv_at hl 0 rfl) ?_
      refine lv_aload_n hx hb dX0_run_45 rfl (lv_at hl 1 rfl) ?_
      obtain ⟨r19, u20, hc21, hF⟩ := bd_some hF
      refine call_v (rest := []) E hA hP hD hS hl.1 (kX0_tellNewAddresses l D h cI cJ cZ n  u17 r19 u20 hc21) cw_X0_81 2 rfl rfl rfl rfl rfl (Nat.le_of_ble_eq_true rfl) ⟨Nat.le_of_ble_eq_true rfl, Nat.le_of_ble_eq_true rfl⟩ ⟨Nat.zero_le _, Nat.zero_le _⟩ dX0_run_46 (fun H locs hP hD hS => ?_)
      refine lv_aload_n hx hb dX0_run_49 rfl (lv_at hl 0 rfl) ?_
      obtain ⟨r22, u23, hc24, hF⟩ := bd_some hF
      refine call_v (rest := []) E hA hP hD hS hl.1 (kX0_finish l D h cI cJ cZ n  u20 r22 u23 hc24) cw_X0_84 2 rfl rfl rfl rfl rfl (Nat.le_of_ble_eq_true rfl) ⟨Nat.le_of_ble_eq_true rfl, Nat.le_of_ble_eq_true rfl⟩ ⟨Nat.zero_le _, Nat.zero_le _⟩ dX0_run_50 (fun H locs hP hD hS => ?_)
      refine lv_iconst (v := 1) hx hb dX0_run_53 (by decide) ?_
      exact endZ0 E hr hlocks hP hD hS dX0_run_54 rfl hF
    · have hF := if_t hc hF
      refine lv_aload_n hx hb dX0_run_28 rfl (lv_at hl 0 rfl) ?_
      refine lv_dup hx hb dX0_run_29 rfl ?_
      refine g_2_11 E hP dX0_run_30 ?_
      refine lv_iconst (v := 1) hx hb dX0_run_33 (by decide) ?_
      refine lv_iadd hx hb dX0_run_34 ?_
      refine s_2_11 E hP hD hS dX0_run_35 (fun H locs hP hD hS => ?_)
      refine lv_iconst (v := 0) hx hb dX0_run_38 (by decide) ?_
      exact endZ0 E hr hlocks hP hD hS dX0_run_39 rfl hF
end
