-- ===== PART A: goes FIRST, ahead of the names: the tables' words, and 'selects' of the private methods out of them =====
/-- a private method of a class that the tables say can be made, by its rows of tables_1 -/
def lw_okq (q : MethodName × Nat) : Prop := (q.1.cls ≠ "java/lang/invoke/MethodHandle" ∧ q.1.cls ≠ "java/lang/invoke/VarHandle") ∧ Cond.instantiable q.1.cls q.2 ∈ tables_1 ∧ Cond.privateMethod q.1 ∈ tables_1 ∧ Cond.instanceMethod q.1 ∈ tables_1
theorem lw_p0 : lw_okq (⟨"QuietSweep$Memory", "blank", "(I)V"⟩, 3) := ⟨⟨by decide +kernel, by decide +kernel⟩, List.mem_of_getElem? (i := 54) (by decide +kernel), List.mem_of_getElem? (i := 60) (by decide +kernel), List.mem_of_getElem? (i := 61) (by decide +kernel)⟩
theorem lw_p1 : lw_okq (⟨"QuietSweep$Source", "translateAt", "(I)I"⟩, 6) := ⟨⟨by decide +kernel, by decide +kernel⟩, List.mem_of_getElem? (i := 25) (by decide +kernel), List.mem_of_getElem? (i := 206) (by decide +kernel), List.mem_of_getElem? (i := 207) (by decide +kernel)⟩
theorem lw_p2 : lw_okq (⟨"QuietSweep$Source", "openLoop", "(I)I"⟩, 6) := ⟨⟨by decide +kernel, by decide +kernel⟩, List.mem_of_getElem? (i := 25) (by decide +kernel), List.mem_of_getElem? (i := 210) (by decide +kernel), List.mem_of_getElem? (i := 211) (by decide +kernel)⟩
theorem lw_p3 : lw_okq (⟨"QuietSweep$Source", "emit", "(I)V"⟩, 6) := ⟨⟨by decide +kernel, by decide +kernel⟩, List.mem_of_getElem? (i := 25) (by decide +kernel), List.mem_of_getElem? (i := 220) (by decide +kernel), List.mem_of_getElem? (i := 221) (by decide +kernel)⟩
theorem lw_p4 : lw_okq (⟨"QuietSweep$Source", "closeLoop", "()I"⟩, 6) := ⟨⟨by decide +kernel, by decide +kernel⟩, List.mem_of_getElem? (i := 25) (by decide +kernel), List.mem_of_getElem? (i := 224) (by decide +kernel), List.mem_of_getElem? (i := 225) (by decide +kernel)⟩
theorem lw_p5 : lw_okq (⟨"QuietSweep$Source", "hasShape", "(ILjava/lang/String;)Z"⟩, 6) := ⟨⟨by decide +kernel, by decide +kernel⟩, List.mem_of_getElem? (i := 25) (by decide +kernel), List.mem_of_getElem? (i := 246) (by decide +kernel), List.mem_of_getElem? (i := 247) (by decide +kernel)⟩
theorem lw_p6 : lw_okq (⟨"QuietSweep$Source", "operandsAt", "(ILjava/lang/String;)I"⟩, 6) := ⟨⟨by decide +kernel, by decide +kernel⟩, List.mem_of_getElem? (i := 25) (by decide +kernel), List.mem_of_getElem? (i := 298) (by decide +kernel), List.mem_of_getElem? (i := 299) (by decide +kernel)⟩
theorem lw_p7 : lw_okq (⟨"QuietSweep", "doEntry", "(I)Z"⟩, 4) := ⟨⟨by decide +kernel, by decide +kernel⟩, List.mem_of_getElem? (i := 17) (by decide +kernel), List.mem_of_getElem? (i := 321) (by decide +kernel), List.mem_of_getElem? (i := 322) (by decide +kernel)⟩
theorem lw_p8 : lw_okq (⟨"QuietSweep$Mutator", "behindLoopPart", "(IZI)I"⟩, 9) := ⟨⟨by decide +kernel, by decide +kernel⟩, List.mem_of_getElem? (i := 82) (by decide +kernel), List.mem_of_getElem? (i := 329) (by decide +kernel), List.mem_of_getElem? (i := 330) (by decide +kernel)⟩
theorem lw_p9 : lw_okq (⟨"QuietSweep$Mutator", "doWithInts", "(LQuietSweep$Memory;IIII)V"⟩, 9) := ⟨⟨by decide +kernel, by decide +kernel⟩, List.mem_of_getElem? (i := 82) (by decide +kernel), List.mem_of_getElem? (i := 333) (by decide +kernel), List.mem_of_getElem? (i := 334) (by decide +kernel)⟩
theorem lw_p10 : lw_okq (⟨"QuietSweep$Mutator", "get", "(LQuietSweep$Memory;III)I"⟩, 9) := ⟨⟨by decide +kernel, by decide +kernel⟩, List.mem_of_getElem? (i := 82) (by decide +kernel), List.mem_of_getElem? (i := 337) (by decide +kernel), List.mem_of_getElem? (i := 338) (by decide +kernel)⟩
theorem lw_p11 : lw_okq (⟨"QuietSweep$Mutator", "doWithCells", "(LQuietSweep$Memory;III)Z"⟩, 9) := ⟨⟨by decide +kernel, by decide +kernel⟩, List.mem_of_getElem? (i := 82) (by decide +kernel), List.mem_of_getElem? (i := 359) (by decide +kernel), List.mem_of_getElem? (i := 360) (by decide +kernel)⟩
theorem lw_p12 : lw_okq (⟨"QuietSweep$Mutator", "takeCell", "(LQuietSweep$Memory;I)Z"⟩, 9) := ⟨⟨by decide +kernel, by decide +kernel⟩, List.mem_of_getElem? (i := 82) (by decide +kernel), List.mem_of_getElem? (i := 363) (by decide +kernel), List.mem_of_getElem? (i := 364) (by decide +kernel)⟩
theorem lw_p13 : lw_okq (⟨"QuietSweep$Mutator", "store", "(LQuietSweep$Memory;III)Z"⟩, 9) := ⟨⟨by decide +kernel, by decide +kernel⟩, List.mem_of_getElem? (i := 82) (by decide +kernel), List.mem_of_getElem? (i := 375) (by decide +kernel), List.mem_of_getElem? (i := 376) (by decide +kernel)⟩
theorem lw_p14 : lw_okq (⟨"QuietSweep$Collector", "trace", "(LQuietSweep$Memory;)V"⟩, 4) := ⟨⟨by decide +kernel, by decide +kernel⟩, List.mem_of_getElem? (i := 156) (by decide +kernel), List.mem_of_getElem? (i := 416) (by decide +kernel), List.mem_of_getElem? (i := 417) (by decide +kernel)⟩
theorem lw_p15 : lw_okq (⟨"QuietSweep$Collector", "sweep", "(LQuietSweep$Memory;)V"⟩, 4) := ⟨⟨by decide +kernel, by decide +kernel⟩, List.mem_of_getElem? (i := 156) (by decide +kernel), List.mem_of_getElem? (i := 423) (by decide +kernel), List.mem_of_getElem? (i := 424) (by decide +kernel)⟩
def lw_privs_1 : List (MethodName × Nat) := [(⟨"QuietSweep$Memory", "blank", "(I)V"⟩, 3), (⟨"QuietSweep$Source", "translateAt", "(I)I"⟩, 6), (⟨"QuietSweep$Source", "openLoop", "(I)I"⟩, 6), (⟨"QuietSweep$Source", "emit", "(I)V"⟩, 6), (⟨"QuietSweep$Source", "closeLoop", "()I"⟩, 6), (⟨"QuietSweep$Source", "hasShape", "(ILjava/lang/String;)Z"⟩, 6), (⟨"QuietSweep$Source", "operandsAt", "(ILjava/lang/String;)I"⟩, 6), (⟨"QuietSweep", "doEntry", "(I)Z"⟩, 4), (⟨"QuietSweep$Mutator", "behindLoopPart", "(IZI)I"⟩, 9), (⟨"QuietSweep$Mutator", "doWithInts", "(LQuietSweep$Memory;IIII)V"⟩, 9), (⟨"QuietSweep$Mutator", "get", "(LQuietSweep$Memory;III)I"⟩, 9), (⟨"QuietSweep$Mutator", "doWithCells", "(LQuietSweep$Memory;III)Z"⟩, 9), (⟨"QuietSweep$Mutator", "takeCell", "(LQuietSweep$Memory;I)Z"⟩, 9), (⟨"QuietSweep$Mutator", "store", "(LQuietSweep$Memory;III)Z"⟩, 9), (⟨"QuietSweep$Collector", "trace", "(LQuietSweep$Memory;)V"⟩, 4), (⟨"QuietSweep$Collector", "sweep", "(LQuietSweep$Memory;)V"⟩, 4)]
theorem lw_r1 : ∀ q ∈ lw_privs_1, lw_okq q := List.forall_mem_cons.mpr ⟨lw_p0, List.forall_mem_cons.mpr ⟨lw_p1, List.forall_mem_cons.mpr ⟨lw_p2, List.forall_mem_cons.mpr ⟨lw_p3, List.forall_mem_cons.mpr ⟨lw_p4, List.forall_mem_cons.mpr ⟨lw_p5, List.forall_mem_cons.mpr ⟨lw_p6, List.forall_mem_cons.mpr ⟨lw_p7, List.forall_mem_cons.mpr ⟨lw_p8, List.forall_mem_cons.mpr ⟨lw_p9, List.forall_mem_cons.mpr ⟨lw_p10, List.forall_mem_cons.mpr ⟨lw_p11, List.forall_mem_cons.mpr ⟨lw_p12, List.forall_mem_cons.mpr ⟨lw_p13, List.forall_mem_cons.mpr ⟨lw_p14, List.forall_mem_cons.mpr ⟨lw_p15, fun _ h => absurd h List.not_mem_nil⟩⟩⟩⟩⟩⟩⟩⟩⟩⟩⟩⟩⟩⟩⟩⟩
theorem lw_p16 : lw_okq (⟨"QuietSweep$Collector", "passIfAnswered", "([LQuietSweep$Mutator;)Z"⟩, 4) := ⟨⟨by decide +kernel, by decide +kernel⟩, List.mem_of_getElem? (i := 156) (by decide +kernel), List.mem_of_getElem? (i := 427) (by decide +kernel), List.mem_of_getElem? (i := 428) (by decide +kernel)⟩
theorem lw_p17 : lw_okq (⟨"QuietSweep", "reachedSet", "()I"⟩, 4) := ⟨⟨by decide +kernel, by decide +kernel⟩, List.mem_of_getElem? (i := 17) (by decide +kernel), List.mem_of_getElem? (i := 521) (by decide +kernel), List.mem_of_getElem? (i := 522) (by decide +kernel)⟩
theorem lw_p18 : lw_okq (⟨"QuietSweepModel", "read", "()Z"⟩, 32) := ⟨⟨by decide +kernel, by decide +kernel⟩, List.mem_of_getElem? (i := 556) (by decide +kernel), List.mem_of_getElem? (i := 671) (by decide +kernel), List.mem_of_getElem? (i := 672) (by decide +kernel)⟩
theorem lw_p19 : lw_okq (⟨"QuietSweepModel", "loop", "(I)I"⟩, 32) := ⟨⟨by decide +kernel, by decide +kernel⟩, List.mem_of_getElem? (i := 556) (by decide +kernel), List.mem_of_getElem? (i := 675) (by decide +kernel), List.mem_of_getElem? (i := 676) (by decide +kernel)⟩
theorem lw_p20 : lw_okq (⟨"QuietSweepModel", "at", "(I)C"⟩, 32) := ⟨⟨by decide +kernel, by decide +kernel⟩, List.mem_of_getElem? (i := 556) (by decide +kernel), List.mem_of_getElem? (i := 679) (by decide +kernel), List.mem_of_getElem? (i := 680) (by decide +kernel)⟩
theorem lw_p21 : lw_okq (⟨"QuietSweepModel", "intVariable", "(I)I"⟩, 32) := ⟨⟨by decide +kernel, by decide +kernel⟩, List.mem_of_getElem? (i := 556) (by decide +kernel), List.mem_of_getElem? (i := 683) (by decide +kernel), List.mem_of_getElem? (i := 684) (by decide +kernel)⟩
theorem lw_p22 : lw_okq (⟨"QuietSweepModel", "add", "(IIII)V"⟩, 32) := ⟨⟨by decide +kernel, by decide +kernel⟩, List.mem_of_getElem? (i := 556) (by decide +kernel), List.mem_of_getElem? (i := 687) (by decide +kernel), List.mem_of_getElem? (i := 688) (by decide +kernel)⟩
theorem lw_p23 : lw_okq (⟨"QuietSweepModel", "cellVariable", "(I)I"⟩, 32) := ⟨⟨by decide +kernel, by decide +kernel⟩, List.mem_of_getElem? (i := 556) (by decide +kernel), List.mem_of_getElem? (i := 691) (by decide +kernel), List.mem_of_getElem? (i := 692) (by decide +kernel)⟩
theorem lw_p24 : lw_okq (⟨"QuietSweepModel", "cellStatement", "(I)I"⟩, 32) := ⟨⟨by decide +kernel, by decide +kernel⟩, List.mem_of_getElem? (i := 556) (by decide +kernel), List.mem_of_getElem? (i := 695) (by decide +kernel), List.mem_of_getElem? (i := 696) (by decide +kernel)⟩
theorem lw_p25 : lw_okq (⟨"QuietSweepModel", "storing", "(II)I"⟩, 32) := ⟨⟨by decide +kernel, by decide +kernel⟩, List.mem_of_getElem? (i := 556) (by decide +kernel), List.mem_of_getElem? (i := 699) (by decide +kernel), List.mem_of_getElem? (i := 700) (by decide +kernel)⟩
theorem lw_p26 : lw_okq (⟨"QuietSweepModel", "intStatement", "(I)I"⟩, 32) := ⟨⟨by decide +kernel, by decide +kernel⟩, List.mem_of_getElem? (i := 556) (by decide +kernel), List.mem_of_getElem? (i := 703) (by decide +kernel), List.mem_of_getElem? (i := 704) (by decide +kernel)⟩
theorem lw_p27 : lw_okq (⟨"QuietSweepModel", "entry", "(I)Z"⟩, 32) := ⟨⟨by decide +kernel, by decide +kernel⟩, List.mem_of_getElem? (i := 556) (by decide +kernel), List.mem_of_getElem? (i := 715) (by decide +kernel), List.mem_of_getElem? (i := 716) (by decide +kernel)⟩
theorem lw_p28 : lw_okq (⟨"QuietSweepModel", "step", "(I)Z"⟩, 32) := ⟨⟨by decide +kernel, by decide +kernel⟩, List.mem_of_getElem? (i := 556) (by decide +kernel), List.mem_of_getElem? (i := 719) (by decide +kernel), List.mem_of_getElem? (i := 720) (by decide +kernel)⟩
theorem lw_p29 : lw_okq (⟨"QuietSweepModel", "fresh", "(II)Z"⟩, 32) := ⟨⟨by decide +kernel, by decide +kernel⟩, List.mem_of_getElem? (i := 556) (by decide +kernel), List.mem_of_getElem? (i := 723) (by decide +kernel), List.mem_of_getElem? (i := 724) (by decide +kernel)⟩
theorem lw_p30 : lw_okq (⟨"QuietSweepModel", "stall", "(I)Z"⟩, 32) := ⟨⟨by decide +kernel, by decide +kernel⟩, List.mem_of_getElem? (i := 556) (by decide +kernel), List.mem_of_getElem? (i := 727) (by decide +kernel), List.mem_of_getElem? (i := 728) (by decide +kernel)⟩
theorem lw_p31 : lw_okq (⟨"QuietSweepModel", "store", "(IIII)Z"⟩, 32) := ⟨⟨by decide +kernel, by decide +kernel⟩, List.mem_of_getElem? (i := 556) (by decide +kernel), List.mem_of_getElem? (i := 731) (by decide +kernel), List.mem_of_getElem? (i := 732) (by decide +kernel)⟩
def lw_privs_2 : List (MethodName × Nat) := [(⟨"QuietSweep$Collector", "passIfAnswered", "([LQuietSweep$Mutator;)Z"⟩, 4), (⟨"QuietSweep", "reachedSet", "()I"⟩, 4), (⟨"QuietSweepModel", "read", "()Z"⟩, 32), (⟨"QuietSweepModel", "loop", "(I)I"⟩, 32), (⟨"QuietSweepModel", "at", "(I)C"⟩, 32), (⟨"QuietSweepModel", "intVariable", "(I)I"⟩, 32), (⟨"QuietSweepModel", "add", "(IIII)V"⟩, 32), (⟨"QuietSweepModel", "cellVariable", "(I)I"⟩, 32), (⟨"QuietSweepModel", "cellStatement", "(I)I"⟩, 32), (⟨"QuietSweepModel", "storing", "(II)I"⟩, 32), (⟨"QuietSweepModel", "intStatement", "(I)I"⟩, 32), (⟨"QuietSweepModel", "entry", "(I)Z"⟩, 32), (⟨"QuietSweepModel", "step", "(I)Z"⟩, 32), (⟨"QuietSweepModel", "fresh", "(II)Z"⟩, 32), (⟨"QuietSweepModel", "stall", "(I)Z"⟩, 32), (⟨"QuietSweepModel", "store", "(IIII)Z"⟩, 32)]
theorem lw_r2 : ∀ q ∈ lw_privs_2, lw_okq q := List.forall_mem_cons.mpr ⟨lw_p16, List.forall_mem_cons.mpr ⟨lw_p17, List.forall_mem_cons.mpr ⟨lw_p18, List.forall_mem_cons.mpr ⟨lw_p19, List.forall_mem_cons.mpr ⟨lw_p20, List.forall_mem_cons.mpr ⟨lw_p21, List.forall_mem_cons.mpr ⟨lw_p22, List.forall_mem_cons.mpr ⟨lw_p23, List.forall_mem_cons.mpr ⟨lw_p24, List.forall_mem_cons.mpr ⟨lw_p25, List.forall_mem_cons.mpr ⟨lw_p26, List.forall_mem_cons.mpr ⟨lw_p27, List.forall_mem_cons.mpr ⟨lw_p28, List.forall_mem_cons.mpr ⟨lw_p29, List.forall_mem_cons.mpr ⟨lw_p30, List.forall_mem_cons.mpr ⟨lw_p31, fun _ h => absurd h List.not_mem_nil⟩⟩⟩⟩⟩⟩⟩⟩⟩⟩⟩⟩⟩⟩⟩⟩
theorem lw_p32 : lw_okq (⟨"QuietSweepModel", "sees", "(III)I"⟩, 32) := ⟨⟨by decide +kernel, by decide +kernel⟩, List.mem_of_getElem? (i := 556) (by decide +kernel), List.mem_of_getElem? (i := 735) (by decide +kernel), List.mem_of_getElem? (i := 736) (by decide +kernel)⟩
theorem lw_p33 : lw_okq (⟨"QuietSweepModel", "mark", "(I)V"⟩, 32) := ⟨⟨by decide +kernel, by decide +kernel⟩, List.mem_of_getElem? (i := 556) (by decide +kernel), List.mem_of_getElem? (i := 739) (by decide +kernel), List.mem_of_getElem? (i := 740) (by decide +kernel)⟩
theorem lw_p34 : lw_okq (⟨"QuietSweepModel", "number", "(IIII)V"⟩, 32) := ⟨⟨by decide +kernel, by decide +kernel⟩, List.mem_of_getElem? (i := 556) (by decide +kernel), List.mem_of_getElem? (i := 743) (by decide +kernel), List.mem_of_getElem? (i := 744) (by decide +kernel)⟩
theorem lw_p35 : lw_okq (⟨"QuietSweepModel", "flush", "(I)Z"⟩, 32) := ⟨⟨by decide +kernel, by decide +kernel⟩, List.mem_of_getElem? (i := 556) (by decide +kernel), List.mem_of_getElem? (i := 747) (by decide +kernel), List.mem_of_getElem? (i := 748) (by decide +kernel)⟩
theorem lw_p36 : lw_okq (⟨"QuietSweepModel", "answer", "(I)Z"⟩, 32) := ⟨⟨by decide +kernel, by decide +kernel⟩, List.mem_of_getElem? (i := 556) (by decide +kernel), List.mem_of_getElem? (i := 751) (by decide +kernel), List.mem_of_getElem? (i := 752) (by decide +kernel)⟩
theorem lw_p37 : lw_okq (⟨"QuietSweepModel", "asked", "()I"⟩, 32) := ⟨⟨by decide +kernel, by decide +kernel⟩, List.mem_of_getElem? (i := 556) (by decide +kernel), List.mem_of_getElem? (i := 755) (by decide +kernel), List.mem_of_getElem? (i := 756) (by decide +kernel)⟩
theorem lw_p38 : lw_okq (⟨"QuietSweepModel", "collect", "()Z"⟩, 32) := ⟨⟨by decide +kernel, by decide +kernel⟩, List.mem_of_getElem? (i := 556) (by decide +kernel), List.mem_of_getElem? (i := 759) (by decide +kernel), List.mem_of_getElem? (i := 760) (by decide +kernel)⟩
theorem lw_p39 : lw_okq (⟨"QuietSweepModel", "trace", "()V"⟩, 32) := ⟨⟨by decide +kernel, by decide +kernel⟩, List.mem_of_getElem? (i := 556) (by decide +kernel), List.mem_of_getElem? (i := 763) (by decide +kernel), List.mem_of_getElem? (i := 764) (by decide +kernel)⟩
theorem lw_p40 : lw_okq (⟨"QuietSweepModel", "isCell", "(I)Z"⟩, 32) := ⟨⟨by decide +kernel, by decide +kernel⟩, List.mem_of_getElem? (i := 556) (by decide +kernel), List.mem_of_getElem? (i := 803) (by decide +kernel), List.mem_of_getElem? (i := 804) (by decide +kernel)⟩
theorem lw_p41 : lw_okq (⟨"QuietSweepModel", "reach", "()V"⟩, 32) := ⟨⟨by decide +kernel, by decide +kernel⟩, List.mem_of_getElem? (i := 556) (by decide +kernel), List.mem_of_getElem? (i := 831) (by decide +kernel), List.mem_of_getElem? (i := 832) (by decide +kernel)⟩
theorem lw_p42 : lw_okq (⟨"QuietSweepModel", "hold", "(I)V"⟩, 32) := ⟨⟨by decide +kernel, by decide +kernel⟩, List.mem_of_getElem? (i := 556) (by decide +kernel), List.mem_of_getElem? (i := 835) (by decide +kernel), List.mem_of_getElem? (i := 836) (by decide +kernel)⟩
def lw_privs_3 : List (MethodName × Nat) := [(⟨"QuietSweepModel", "sees", "(III)I"⟩, 32), (⟨"QuietSweepModel", "mark", "(I)V"⟩, 32), (⟨"QuietSweepModel", "number", "(IIII)V"⟩, 32), (⟨"QuietSweepModel", "flush", "(I)Z"⟩, 32), (⟨"QuietSweepModel", "answer", "(I)Z"⟩, 32), (⟨"QuietSweepModel", "asked", "()I"⟩, 32), (⟨"QuietSweepModel", "collect", "()Z"⟩, 32), (⟨"QuietSweepModel", "trace", "()V"⟩, 32), (⟨"QuietSweepModel", "isCell", "(I)Z"⟩, 32), (⟨"QuietSweepModel", "reach", "()V"⟩, 32), (⟨"QuietSweepModel", "hold", "(I)V"⟩, 32)]
theorem lw_r3 : ∀ q ∈ lw_privs_3, lw_okq q := List.forall_mem_cons.mpr ⟨lw_p32, List.forall_mem_cons.mpr ⟨lw_p33, List.forall_mem_cons.mpr ⟨lw_p34, List.forall_mem_cons.mpr ⟨lw_p35, List.forall_mem_cons.mpr ⟨lw_p36, List.forall_mem_cons.mpr ⟨lw_p37, List.forall_mem_cons.mpr ⟨lw_p38, List.forall_mem_cons.mpr ⟨lw_p39, List.forall_mem_cons.mpr ⟨lw_p40, List.forall_mem_cons.mpr ⟨lw_p41, List.forall_mem_cons.mpr ⟨lw_p42, fun _ h => absurd h List.not_mem_nil⟩⟩⟩⟩⟩⟩⟩⟩⟩⟩⟩
def lw_privs : List (MethodName × Nat) := lw_privs_1 ++ (lw_privs_2 ++ (lw_privs_3))
def lw_tbl : List Cond := k2_sels lw_privs ++ tables_1
theorem lw_privs_ok : ∀ q ∈ lw_privs, lw_okq q := by
  show ∀ q ∈ lw_privs_1 ++ (lw_privs_2 ++ (lw_privs_3)), lw_okq q
  exact List.forall_mem_append.mpr ⟨lw_r1, List.forall_mem_append.mpr ⟨lw_r2, lw_r3⟩⟩

/-! ===== the words: each row of the tables by its place ===== -/
def qG : List Cond := lw_tbl.filter goodWord
theorem qG_good : ∀ w ∈ qG, ((w.onTables && w.keeps) = true ∨ ∃ ty, w = .arrayClass ty) := fun w h => good_of_word (List.mem_filter.mp h).2
theorem qG_tbl : ∀ w ∈ qG, w ∈ lw_tbl := fun w h => (List.mem_filter.mp h).1
theorem qw_0 : (Cond.initialized "QuietSweepLaw") ∈ qG := List.mem_filter.mpr ⟨List.mem_append_right _ (List.mem_of_getElem? (i := 0) (by decide +kernel)), rfl⟩
theorem qw_1 : (Cond.initialized "QuietSweep") ∈ qG := List.mem_filter.mpr ⟨List.mem_append_right _ (List.mem_of_getElem? (i := 1) (by decide +kernel)), rfl⟩
theorem qw_2 : (Cond.initialized "QuietSweep$Source") ∈ qG := List.mem_filter.mpr ⟨List.mem_append_right _ (List.mem_of_getElem? (i := 2) (by decide +kernel)), rfl⟩
theorem qw_3 : (Cond.initialized "QuietSweep$Memory") ∈ qG := List.mem_filter.mpr ⟨List.mem_append_right _ (List.mem_of_getElem? (i := 3) (by decide +kernel)), rfl⟩
theorem qw_4 : (Cond.initialized "QuietSweep$Mutator") ∈ qG := List.mem_filter.mpr ⟨List.mem_append_right _ (List.mem_of_getElem? (i := 4) (by decide +kernel)), rfl⟩
theorem qw_5 : (Cond.initialized "QuietSweep$Buffer") ∈ qG := List.mem_filter.mpr ⟨List.mem_append_right _ (List.mem_of_getElem? (i := 5) (by decide +kernel)), rfl⟩
theorem qw_6 : (Cond.initialized "QuietSweep$Outs") ∈ qG := List.mem_filter.mpr ⟨List.mem_append_right _ (List.mem_of_getElem? (i := 6) (by decide +kernel)), rfl⟩
theorem qw_7 : (Cond.initialized "QuietSweep$Collector") ∈ qG := List.mem_filter.mpr ⟨List.mem_append_right _ (List.mem_of_getElem? (i := 7) (by decide +kernel)), rfl⟩
theorem qw_8 : (Cond.initialized "QuietSweepModel") ∈ qG := List.mem_filter.mpr ⟨List.mem_append_right _ (List.mem_of_getElem? (i := 8) (by decide +kernel)), rfl⟩
theorem qw_9 : (Cond.initialized "java/lang/String") ∈ qG := List.mem_filter.mpr ⟨List.mem_append_right _ (List.mem_of_getElem? (i := 9) (by decide +kernel)), rfl⟩
theorem qw_10 : (Cond.initialized "java/lang/StringLatin1") ∈ qG := List.mem_filter.mpr ⟨List.mem_append_right _ (List.mem_of_getElem? (i := 10) (by decide +kernel)), rfl⟩
theorem qw_11 : (Cond.initialized "jdk/internal/util/Preconditions") ∈ qG := List.mem_filter.mpr ⟨List.mem_append_right _ (List.mem_of_getElem? (i := 11) (by decide +kernel)), rfl⟩
theorem qw_12 : (Cond.initialized "java/lang/StringUTF16") ∈ qG := List.mem_filter.mpr ⟨List.mem_append_right _ (List.mem_of_getElem? (i := 12) (by decide +kernel)), rfl⟩
theorem qw_13 : (Cond.initialized "java/lang/System") ∈ qG := List.mem_filter.mpr ⟨List.mem_append_right _ (List.mem_of_getElem? (i := 13) (by decide +kernel)), rfl⟩
theorem qw_14 : (Cond.initialized "java/lang/Math") ∈ qG := List.mem_filter.mpr ⟨List.mem_append_right _ (List.mem_of_getElem? (i := 14) (by decide +kernel)), rfl⟩
theorem qw_15 : (Cond.initialized "java/lang/Integer") ∈ qG := List.mem_filter.mpr ⟨List.mem_append_right _ (List.mem_of_getElem? (i := 15) (by decide +kernel)), rfl⟩
theorem qw_16 : (Cond.classLink "QuietSweepLaw" 7 "QuietSweep") ∈ qG := List.mem_filter.mpr ⟨List.mem_append_right _ (List.mem_of_getElem? (i := 16) (by decide +kernel)), rfl⟩
theorem qw_17 : (Cond.instantiable "QuietSweep" 4) ∈ qG := List.mem_filter.mpr ⟨List.mem_append_right _ (List.mem_of_getElem? (i := 17) (by decide +kernel)), rfl⟩
theorem qw_18 : (Cond.methodLink "QuietSweepLaw" 15 ⟨"QuietSweep", "<init>", "(I)V"⟩) ∈ qG := List.mem_filter.mpr ⟨List.mem_append_right _ (List.mem_of_getElem? (i := 18) (by decide +kernel)), rfl⟩
theorem qw_19 : (Cond.instanceMethod ⟨"QuietSweep", "<init>", "(I)V"⟩) ∈ qG := List.mem_filter.mpr ⟨List.mem_append_right _ (List.mem_of_getElem? (i := 19) (by decide +kernel)), rfl⟩
theorem qw_20 : (Cond.code ⟨"QuietSweep", "<init>", "(I)V"⟩ prog_1_method_1_code 3 (Option.none : Option Jvm.ClassFile.FieldType)) ∈ qG := List.mem_filter.mpr ⟨List.mem_append_right _ (List.mem_of_getElem? (i := 20) (by decide +kernel)), rfl⟩
theorem qw_21 : (Cond.methodLink "QuietSweep" 1 ⟨"java/lang/Object", "<init>", "()V"⟩) ∈ qG := List.mem_filter.mpr ⟨List.mem_append_right _ (List.mem_of_getElem? (i := 21) (by decide +kernel)), rfl⟩
theorem qw_22 : (Cond.instanceMethod ⟨"java/lang/Object", "<init>", "()V"⟩) ∈ qG := List.mem_filter.mpr ⟨List.mem_append_right _ (List.mem_of_getElem? (i := 22) (by decide +kernel)), rfl⟩
theorem qw_23 : (Cond.code ⟨"java/lang/Object", "<init>", "()V"⟩ object_method_1_code 1 (Option.none : Option Jvm.ClassFile.FieldType)) ∈ qG := List.mem_filter.mpr ⟨List.mem_append_right _ (List.mem_of_getElem? (i := 23) (by decide +kernel)), rfl⟩
theorem qw_24 : (Cond.classLink "QuietSweep" 7 "QuietSweep$Source") ∈ qG := List.mem_filter.mpr ⟨List.mem_append_right _ (List.mem_of_getElem? (i := 24) (by decide +kernel)), rfl⟩
theorem qw_25 : (Cond.instantiable "QuietSweep$Source" 6) ∈ qG := List.mem_filter.mpr ⟨List.mem_append_right _ (List.mem_of_getElem? (i := 25) (by decide +kernel)), rfl⟩
theorem qx_26 : (Cond.methodLinkNest "QuietSweep" 9 ⟨"QuietSweep$Source", "<init>", "()V"⟩ "QuietSweep") ∈ lw_tbl := List.mem_append_right _ (List.mem_of_getElem? (i := 26) (by decide +kernel))
theorem qw_27 : (Cond.instanceMethod ⟨"QuietSweep$Source", "<init>", "()V"⟩) ∈ qG := List.mem_filter.mpr ⟨List.mem_append_right _ (List.mem_of_getElem? (i := 27) (by decide +kernel)), rfl⟩
theorem qw_28 : (Cond.code ⟨"QuietSweep$Source", "<init>", "()V"⟩ prog_7_method_1_code 1 (Option.none : Option Jvm.ClassFile.FieldType)) ∈ qG := List.mem_filter.mpr ⟨List.mem_append_right _ (List.mem_of_getElem? (i := 28) (by decide +kernel)), rfl⟩
theorem qw_29 : (Cond.methodLink "QuietSweep$Source" 3 ⟨"java/lang/Object", "<init>", "()V"⟩) ∈ qG := List.mem_filter.mpr ⟨List.mem_append_right _ (List.mem_of_getElem? (i := 29) (by decide +kernel)), rfl⟩
theorem qw_30 : (Cond.fieldLink "QuietSweep$Source" 11 "QuietSweep$Source" "text" "[C") ∈ qG := List.mem_filter.mpr ⟨List.mem_append_right _ (List.mem_of_getElem? (i := 30) (by decide +kernel)), rfl⟩
theorem qw_31 : (Cond.fieldLink "QuietSweep$Source" 15 "QuietSweep$Source" "length" "I") ∈ qG := List.mem_filter.mpr ⟨List.mem_append_right _ (List.mem_of_getElem? (i := 31) (by decide +kernel)), rfl⟩
theorem qw_32 : (Cond.fieldLink "QuietSweep$Source" 19 "QuietSweep$Source" "made" "[I") ∈ qG := List.mem_filter.mpr ⟨List.mem_append_right _ (List.mem_of_getElem? (i := 32) (by decide +kernel)), rfl⟩
theorem qx_33 : (Cond.fieldLinkNest "QuietSweep" 54 "QuietSweep$Source" "made" "[I" "QuietSweep") ∈ lw_tbl := List.mem_append_right _ (List.mem_of_getElem? (i := 33) (by decide +kernel))
theorem qw_34 : (Cond.fieldLink "QuietSweep$Source" 23 "QuietSweep$Source" "madeCount" "I") ∈ qG := List.mem_filter.mpr ⟨List.mem_append_right _ (List.mem_of_getElem? (i := 34) (by decide +kernel)), rfl⟩
theorem qx_35 : (Cond.fieldLinkNest "QuietSweep" 58 "QuietSweep$Source" "madeCount" "I" "QuietSweep") ∈ lw_tbl := List.mem_append_right _ (List.mem_of_getElem? (i := 35) (by decide +kernel))
theorem qw_36 : (Cond.fieldLink "QuietSweep$Source" 26 "QuietSweep$Source" "openTests" "[I") ∈ qG := List.mem_filter.mpr ⟨List.mem_append_right _ (List.mem_of_getElem? (i := 36) (by decide +kernel)), rfl⟩
theorem qw_37 : (Cond.fieldLink "QuietSweep$Source" 29 "QuietSweep$Source" "depth" "I") ∈ qG := List.mem_filter.mpr ⟨List.mem_append_right _ (List.mem_of_getElem? (i := 37) (by decide +kernel)), rfl⟩
theorem qw_38 : (Cond.laysFinal "QuietSweep$Source" "QuietSweep$Source" "text" "[C") ∈ qG := List.mem_filter.mpr ⟨List.mem_append_right _ (List.mem_of_getElem? (i := 38) (by decide +kernel)), rfl⟩
theorem qw_40 : (Cond.lays "QuietSweep$Source" "QuietSweep$Source" "length" "I") ∈ qG := List.mem_filter.mpr ⟨List.mem_append_right _ (List.mem_of_getElem? (i := 40) (by decide +kernel)), rfl⟩
theorem qw_42 : (Cond.laysFinal "QuietSweep$Source" "QuietSweep$Source" "made" "[I") ∈ qG := List.mem_filter.mpr ⟨List.mem_append_right _ (List.mem_of_getElem? (i := 42) (by decide +kernel)), rfl⟩
theorem qw_44 : (Cond.lays "QuietSweep$Source" "QuietSweep$Source" "madeCount" "I") ∈ qG := List.mem_filter.mpr ⟨List.mem_append_right _ (List.mem_of_getElem? (i := 44) (by decide +kernel)), rfl⟩
theorem qw_46 : (Cond.laysFinal "QuietSweep$Source" "QuietSweep$Source" "openTests" "[I") ∈ qG := List.mem_filter.mpr ⟨List.mem_append_right _ (List.mem_of_getElem? (i := 46) (by decide +kernel)), rfl⟩
theorem qw_48 : (Cond.lays "QuietSweep$Source" "QuietSweep$Source" "depth" "I") ∈ qG := List.mem_filter.mpr ⟨List.mem_append_right _ (List.mem_of_getElem? (i := 48) (by decide +kernel)), rfl⟩
theorem qw_51 : (Cond.arrayClass Jvm.ClassFile.FieldType.char) ∈ qG := List.mem_filter.mpr ⟨List.mem_append_right _ (List.mem_of_getElem? (i := 51) (by decide +kernel)), rfl⟩
theorem qw_52 : (Cond.arrayClass Jvm.ClassFile.FieldType.int) ∈ qG := List.mem_filter.mpr ⟨List.mem_append_right _ (List.mem_of_getElem? (i := 52) (by decide +kernel)), rfl⟩
theorem qw_53 : (Cond.classLink "QuietSweep" 16 "QuietSweep$Memory") ∈ qG := List.mem_filter.mpr ⟨List.mem_append_right _ (List.mem_of_getElem? (i := 53) (by decide +kernel)), rfl⟩
theorem qw_54 : (Cond.instantiable "QuietSweep$Memory" 3) ∈ qG := List.mem_filter.mpr ⟨List.mem_append_right _ (List.mem_of_getElem? (i := 54) (by decide +kernel)), rfl⟩
theorem qw_55 : (Cond.methodLink "QuietSweep" 18 ⟨"QuietSweep$Memory", "<init>", "(I)V"⟩) ∈ qG := List.mem_filter.mpr ⟨List.mem_append_right _ (List.mem_of_getElem? (i := 55) (by decide +kernel)), rfl⟩
theorem qw_56 : (Cond.instanceMethod ⟨"QuietSweep$Memory", "<init>", "(I)V"⟩) ∈ qG := List.mem_filter.mpr ⟨List.mem_append_right _ (List.mem_of_getElem? (i := 56) (by decide +kernel)), rfl⟩
theorem qw_57 : (Cond.code ⟨"QuietSweep$Memory", "<init>", "(I)V"⟩ prog_4_method_1_code 3 (Option.none : Option Jvm.ClassFile.FieldType)) ∈ qG := List.mem_filter.mpr ⟨List.mem_append_right _ (List.mem_of_getElem? (i := 57) (by decide +kernel)), rfl⟩
theorem qw_58 : (Cond.methodLink "QuietSweep$Memory" 3 ⟨"java/lang/Object", "<init>", "()V"⟩) ∈ qG := List.mem_filter.mpr ⟨List.mem_append_right _ (List.mem_of_getElem? (i := 58) (by decide +kernel)), rfl⟩
theorem qw_59 : (Cond.methodLink "QuietSweep$Memory" 22 ⟨"QuietSweep$Memory", "blank", "(I)V"⟩) ∈ qG := List.mem_filter.mpr ⟨List.mem_append_right _ (List.mem_of_getElem? (i := 59) (by decide +kernel)), rfl⟩
theorem qw_61 : (Cond.instanceMethod ⟨"QuietSweep$Memory", "blank", "(I)V"⟩) ∈ qG := List.mem_filter.mpr ⟨List.mem_append_right _ (List.mem_of_getElem? (i := 61) (by decide +kernel)), rfl⟩
theorem qw_62 : (Cond.code ⟨"QuietSweep$Memory", "blank", "(I)V"⟩ prog_4_method_11_code 2 (Option.none : Option Jvm.ClassFile.FieldType)) ∈ qG := List.mem_filter.mpr ⟨List.mem_append_right _ (List.mem_of_getElem? (i := 62) (by decide +kernel)), rfl⟩
theorem qw_63 : (Cond.methodLink "QuietSweep$Memory" 37 ⟨"QuietSweep$Memory", "put", "(III)V"⟩) ∈ qG := List.mem_filter.mpr ⟨List.mem_append_right _ (List.mem_of_getElem? (i := 63) (by decide +kernel)), rfl⟩
theorem qw_64 : (Cond.instanceMethod ⟨"QuietSweep$Memory", "put", "(III)V"⟩) ∈ qG := List.mem_filter.mpr ⟨List.mem_append_right _ (List.mem_of_getElem? (i := 64) (by decide +kernel)), rfl⟩
theorem qw_65 : (Cond.selects "QuietSweep$Memory" ⟨"QuietSweep$Memory", "put", "(III)V"⟩ ⟨"QuietSweep$Memory", "put", "(III)V"⟩) ∈ qG := List.mem_filter.mpr ⟨List.mem_append_right _ (List.mem_of_getElem? (i := 65) (by decide +kernel)), rfl⟩
theorem qw_66 : (Cond.code ⟨"QuietSweep$Memory", "put", "(III)V"⟩ prog_4_method_4_code 4 (Option.none : Option Jvm.ClassFile.FieldType)) ∈ qG := List.mem_filter.mpr ⟨List.mem_append_right _ (List.mem_of_getElem? (i := 66) (by decide +kernel)), rfl⟩
theorem qw_67 : (Cond.fieldLink "QuietSweep$Memory" 9 "QuietSweep$Memory" "size" "I") ∈ qG := List.mem_filter.mpr ⟨List.mem_append_right _ (List.mem_of_getElem? (i := 67) (by decide +kernel)), rfl⟩
theorem qx_68 : (Cond.fieldLinkNest "QuietSweep$Collector" 65 "QuietSweep$Memory" "size" "I" "QuietSweep") ∈ lw_tbl := List.mem_append_right _ (List.mem_of_getElem? (i := 68) (by decide +kernel))
theorem qw_69 : (Cond.fieldLink "QuietSweep$Memory" 15 "QuietSweep$Memory" "colours" "[I") ∈ qG := List.mem_filter.mpr ⟨List.mem_append_right _ (List.mem_of_getElem? (i := 69) (by decide +kernel)), rfl⟩
theorem qx_70 : (Cond.fieldLinkNest "QuietSweep$Collector" 57 "QuietSweep$Memory" "colours" "[I" "QuietSweep") ∈ lw_tbl := List.mem_append_right _ (List.mem_of_getElem? (i := 70) (by decide +kernel))
theorem qx_71 : (Cond.fieldLinkNest "QuietSweep" 107 "QuietSweep$Memory" "colours" "[I" "QuietSweep") ∈ lw_tbl := List.mem_append_right _ (List.mem_of_getElem? (i := 71) (by decide +kernel))
theorem qw_72 : (Cond.fieldLink "QuietSweep$Memory" 19 "QuietSweep$Memory" "fields" "[I") ∈ qG := List.mem_filter.mpr ⟨List.mem_append_right _ (List.mem_of_getElem? (i := 72) (by decide +kernel)), rfl⟩
theorem qw_73 : (Cond.laysFinal "QuietSweep$Memory" "QuietSweep$Memory" "size" "I") ∈ qG := List.mem_filter.mpr ⟨List.mem_append_right _ (List.mem_of_getElem? (i := 73) (by decide +kernel)), rfl⟩
theorem qw_75 : (Cond.laysFinal "QuietSweep$Memory" "QuietSweep$Memory" "colours" "[I") ∈ qG := List.mem_filter.mpr ⟨List.mem_append_right _ (List.mem_of_getElem? (i := 75) (by decide +kernel)), rfl⟩
theorem qw_77 : (Cond.laysFinal "QuietSweep$Memory" "QuietSweep$Memory" "fields" "[I") ∈ qG := List.mem_filter.mpr ⟨List.mem_append_right _ (List.mem_of_getElem? (i := 77) (by decide +kernel)), rfl⟩
theorem qw_80 : (Cond.classLink "QuietSweep" 25 "QuietSweep$Mutator") ∈ qG := List.mem_filter.mpr ⟨List.mem_append_right _ (List.mem_of_getElem? (i := 80) (by decide +kernel)), rfl⟩
theorem qx_81 : (Cond.arrayOver (Jvm.ClassFile.FieldType.object "QuietSweep$Mutator")) ∈ lw_tbl := List.mem_append_right _ (List.mem_of_getElem? (i := 81) (by decide +kernel))
theorem qw_82 : (Cond.instantiable "QuietSweep$Mutator" 9) ∈ qG := List.mem_filter.mpr ⟨List.mem_append_right _ (List.mem_of_getElem? (i := 82) (by decide +kernel)), rfl⟩
theorem qx_83 : (Cond.methodLinkNest "QuietSweep" 31 ⟨"QuietSweep$Mutator", "<init>", "()V"⟩ "QuietSweep") ∈ lw_tbl := List.mem_append_right _ (List.mem_of_getElem? (i := 83) (by decide +kernel))
theorem qw_84 : (Cond.instanceMethod ⟨"QuietSweep$Mutator", "<init>", "()V"⟩) ∈ qG := List.mem_filter.mpr ⟨List.mem_append_right _ (List.mem_of_getElem? (i := 84) (by decide +kernel)), rfl⟩
theorem qw_85 : (Cond.code ⟨"QuietSweep$Mutator", "<init>", "()V"⟩ prog_5_method_1_code 1 (Option.none : Option Jvm.ClassFile.FieldType)) ∈ qG := List.mem_filter.mpr ⟨List.mem_append_right _ (List.mem_of_getElem? (i := 85) (by decide +kernel)), rfl⟩
theorem qw_86 : (Cond.methodLink "QuietSweep$Mutator" 3 ⟨"java/lang/Object", "<init>", "()V"⟩) ∈ qG := List.mem_filter.mpr ⟨List.mem_append_right _ (List.mem_of_getElem? (i := 86) (by decide +kernel)), rfl⟩
theorem qw_87 : (Cond.classLink "QuietSweep$Mutator" 36 "QuietSweep$Buffer") ∈ qG := List.mem_filter.mpr ⟨List.mem_append_right _ (List.mem_of_getElem? (i := 87) (by decide +kernel)), rfl⟩
theorem qw_88 : (Cond.instantiable "QuietSweep$Buffer" 4) ∈ qG := List.mem_filter.mpr ⟨List.mem_append_right _ (List.mem_of_getElem? (i := 88) (by decide +kernel)), rfl⟩
theorem qx_89 : (Cond.methodLinkNest "QuietSweep$Mutator" 38 ⟨"QuietSweep$Buffer", "<init>", "()V"⟩ "QuietSweep") ∈ lw_tbl := List.mem_append_right _ (List.mem_of_getElem? (i := 89) (by decide +kernel))
theorem qw_90 : (Cond.instanceMethod ⟨"QuietSweep$Buffer", "<init>", "()V"⟩) ∈ qG := List.mem_filter.mpr ⟨List.mem_append_right _ (List.mem_of_getElem? (i := 90) (by decide +kernel)), rfl⟩
theorem qw_91 : (Cond.code ⟨"QuietSweep$Buffer", "<init>", "()V"⟩ prog_2_method_1_code 1 (Option.none : Option Jvm.ClassFile.FieldType)) ∈ qG := List.mem_filter.mpr ⟨List.mem_append_right _ (List.mem_of_getElem? (i := 91) (by decide +kernel)), rfl⟩
theorem qw_92 : (Cond.methodLink "QuietSweep$Buffer" 3 ⟨"java/lang/Object", "<init>", "()V"⟩) ∈ qG := List.mem_filter.mpr ⟨List.mem_append_right _ (List.mem_of_getElem? (i := 92) (by decide +kernel)), rfl⟩
theorem qw_93 : (Cond.fieldLink "QuietSweep$Buffer" 11 "QuietSweep$Buffer" "cells" "[I") ∈ qG := List.mem_filter.mpr ⟨List.mem_append_right _ (List.mem_of_getElem? (i := 93) (by decide +kernel)), rfl⟩
theorem qw_94 : (Cond.fieldLink "QuietSweep$Buffer" 15 "QuietSweep$Buffer" "fields" "[I") ∈ qG := List.mem_filter.mpr ⟨List.mem_append_right _ (List.mem_of_getElem? (i := 94) (by decide +kernel)), rfl⟩
theorem qw_95 : (Cond.fieldLink "QuietSweep$Buffer" 18 "QuietSweep$Buffer" "values" "[I") ∈ qG := List.mem_filter.mpr ⟨List.mem_append_right _ (List.mem_of_getElem? (i := 95) (by decide +kernel)), rfl⟩
theorem qw_96 : (Cond.fieldLink "QuietSweep$Buffer" 21 "QuietSweep$Buffer" "count" "I") ∈ qG := List.mem_filter.mpr ⟨List.mem_append_right _ (List.mem_of_getElem? (i := 96) (by decide +kernel)), rfl⟩
theorem qx_97 : (Cond.fieldLinkNest "QuietSweep" 86 "QuietSweep$Buffer" "count" "I" "QuietSweep") ∈ lw_tbl := List.mem_append_right _ (List.mem_of_getElem? (i := 97) (by decide +kernel))
theorem qw_98 : (Cond.laysFinal "QuietSweep$Buffer" "QuietSweep$Buffer" "cells" "[I") ∈ qG := List.mem_filter.mpr ⟨List.mem_append_right _ (List.mem_of_getElem? (i := 98) (by decide +kernel)), rfl⟩
theorem qw_100 : (Cond.laysFinal "QuietSweep$Buffer" "QuietSweep$Buffer" "fields" "[I") ∈ qG := List.mem_filter.mpr ⟨List.mem_append_right _ (List.mem_of_getElem? (i := 100) (by decide +kernel)), rfl⟩
theorem qw_102 : (Cond.laysFinal "QuietSweep$Buffer" "QuietSweep$Buffer" "values" "[I") ∈ qG := List.mem_filter.mpr ⟨List.mem_append_right _ (List.mem_of_getElem? (i := 102) (by decide +kernel)), rfl⟩
theorem qw_104 : (Cond.lays "QuietSweep$Buffer" "QuietSweep$Buffer" "count" "I") ∈ qG := List.mem_filter.mpr ⟨List.mem_append_right _ (List.mem_of_getElem? (i := 104) (by decide +kernel)), rfl⟩
theorem qw_107 : (Cond.classLink "QuietSweep$Mutator" 43 "QuietSweep$Outs") ∈ qG := List.mem_filter.mpr ⟨List.mem_append_right _ (List.mem_of_getElem? (i := 107) (by decide +kernel)), rfl⟩
theorem qw_108 : (Cond.instantiable "QuietSweep$Outs" 2) ∈ qG := List.mem_filter.mpr ⟨List.mem_append_right _ (List.mem_of_getElem? (i := 108) (by decide +kernel)), rfl⟩
theorem qx_109 : (Cond.methodLinkNest "QuietSweep$Mutator" 45 ⟨"QuietSweep$Outs", "<init>", "()V"⟩ "QuietSweep") ∈ lw_tbl := List.mem_append_right _ (List.mem_of_getElem? (i := 109) (by decide +kernel))
theorem qw_110 : (Cond.instanceMethod ⟨"QuietSweep$Outs", "<init>", "()V"⟩) ∈ qG := List.mem_filter.mpr ⟨List.mem_append_right _ (List.mem_of_getElem? (i := 110) (by decide +kernel)), rfl⟩
theorem qw_111 : (Cond.code ⟨"QuietSweep$Outs", "<init>", "()V"⟩ prog_6_method_1_code 1 (Option.none : Option Jvm.ClassFile.FieldType)) ∈ qG := List.mem_filter.mpr ⟨List.mem_append_right _ (List.mem_of_getElem? (i := 111) (by decide +kernel)), rfl⟩
theorem qw_112 : (Cond.methodLink "QuietSweep$Outs" 1 ⟨"java/lang/Object", "<init>", "()V"⟩) ∈ qG := List.mem_filter.mpr ⟨List.mem_append_right _ (List.mem_of_getElem? (i := 112) (by decide +kernel)), rfl⟩
theorem qw_113 : (Cond.fieldLink "QuietSweep$Outs" 9 "QuietSweep$Outs" "ring" "[I") ∈ qG := List.mem_filter.mpr ⟨List.mem_append_right _ (List.mem_of_getElem? (i := 113) (by decide +kernel)), rfl⟩
theorem qw_114 : (Cond.fieldLink "QuietSweep$Outs" 13 "QuietSweep$Outs" "count" "I") ∈ qG := List.mem_filter.mpr ⟨List.mem_append_right _ (List.mem_of_getElem? (i := 114) (by decide +kernel)), rfl⟩
theorem qx_115 : (Cond.fieldLinkNest "QuietSweep" 98 "QuietSweep$Outs" "count" "I" "QuietSweep") ∈ lw_tbl := List.mem_append_right _ (List.mem_of_getElem? (i := 115) (by decide +kernel))
theorem qw_116 : (Cond.laysFinal "QuietSweep$Outs" "QuietSweep$Outs" "ring" "[I") ∈ qG := List.mem_filter.mpr ⟨List.mem_append_right _ (List.mem_of_getElem? (i := 116) (by decide +kernel)), rfl⟩
theorem qw_118 : (Cond.lays "QuietSweep$Outs" "QuietSweep$Outs" "count" "I") ∈ qG := List.mem_filter.mpr ⟨List.mem_append_right _ (List.mem_of_getElem? (i := 118) (by decide +kernel)), rfl⟩
theorem qw_121 : (Cond.fieldLink "QuietSweep$Mutator" 11 "QuietSweep$Mutator" "program" "[I") ∈ qG := List.mem_filter.mpr ⟨List.mem_append_right _ (List.mem_of_getElem? (i := 121) (by decide +kernel)), rfl⟩
theorem qw_122 : (Cond.fieldLink "QuietSweep$Mutator" 17 "QuietSweep$Mutator" "programSize" "I") ∈ qG := List.mem_filter.mpr ⟨List.mem_append_right _ (List.mem_of_getElem? (i := 122) (by decide +kernel)), rfl⟩
theorem qw_123 : (Cond.fieldLink "QuietSweep$Mutator" 21 "QuietSweep$Mutator" "at" "I") ∈ qG := List.mem_filter.mpr ⟨List.mem_append_right _ (List.mem_of_getElem? (i := 123) (by decide +kernel)), rfl⟩
theorem qx_124 : (Cond.fieldLinkNest "QuietSweep" 73 "QuietSweep$Mutator" "at" "I" "QuietSweep") ∈ lw_tbl := List.mem_append_right _ (List.mem_of_getElem? (i := 124) (by decide +kernel))
theorem qw_125 : (Cond.fieldLink "QuietSweep$Mutator" 24 "QuietSweep$Mutator" "cellVariables" "[I") ∈ qG := List.mem_filter.mpr ⟨List.mem_append_right _ (List.mem_of_getElem? (i := 125) (by decide +kernel)), rfl⟩
theorem qw_126 : (Cond.fieldLink "QuietSweep$Mutator" 27 "QuietSweep$Mutator" "intVariables" "[I") ∈ qG := List.mem_filter.mpr ⟨List.mem_append_right _ (List.mem_of_getElem? (i := 126) (by decide +kernel)), rfl⟩
theorem qw_127 : (Cond.fieldLink "QuietSweep$Mutator" 30 "QuietSweep$Mutator" "standing" "I") ∈ qG := List.mem_filter.mpr ⟨List.mem_append_right _ (List.mem_of_getElem? (i := 127) (by decide +kernel)), rfl⟩
theorem qx_128 : (Cond.fieldLinkNest "QuietSweep$Collector" 40 "QuietSweep$Mutator" "standing" "I" "QuietSweep") ∈ lw_tbl := List.mem_append_right _ (List.mem_of_getElem? (i := 128) (by decide +kernel))
theorem qx_129 : (Cond.fieldLinkNest "QuietSweep" 79 "QuietSweep$Mutator" "standing" "I" "QuietSweep") ∈ lw_tbl := List.mem_append_right _ (List.mem_of_getElem? (i := 129) (by decide +kernel))
theorem qw_130 : (Cond.fieldLink "QuietSweep$Mutator" 33 "QuietSweep$Mutator" "stallCount" "I") ∈ qG := List.mem_filter.mpr ⟨List.mem_append_right _ (List.mem_of_getElem? (i := 130) (by decide +kernel)), rfl⟩
theorem qx_131 : (Cond.fieldLinkNest "QuietSweep" 91 "QuietSweep$Mutator" "stallCount" "I" "QuietSweep") ∈ lw_tbl := List.mem_append_right _ (List.mem_of_getElem? (i := 131) (by decide +kernel))
theorem qw_132 : (Cond.fieldLink "QuietSweep$Mutator" 39 "QuietSweep$Mutator" "buffer" "LQuietSweep$Buffer;") ∈ qG := List.mem_filter.mpr ⟨List.mem_append_right _ (List.mem_of_getElem? (i := 132) (by decide +kernel)), rfl⟩
theorem qx_133 : (Cond.fieldLinkNest "QuietSweep" 82 "QuietSweep$Mutator" "buffer" "LQuietSweep$Buffer;" "QuietSweep") ∈ lw_tbl := List.mem_append_right _ (List.mem_of_getElem? (i := 133) (by decide +kernel))
theorem qw_134 : (Cond.fieldLink "QuietSweep$Mutator" 46 "QuietSweep$Mutator" "outs" "LQuietSweep$Outs;") ∈ qG := List.mem_filter.mpr ⟨List.mem_append_right _ (List.mem_of_getElem? (i := 134) (by decide +kernel)), rfl⟩
theorem qx_135 : (Cond.fieldLinkNest "QuietSweep" 94 "QuietSweep$Mutator" "outs" "LQuietSweep$Outs;" "QuietSweep") ∈ lw_tbl := List.mem_append_right _ (List.mem_of_getElem? (i := 135) (by decide +kernel))
theorem qw_136 : (Cond.laysFinal "QuietSweep$Mutator" "QuietSweep$Mutator" "program" "[I") ∈ qG := List.mem_filter.mpr ⟨List.mem_append_right _ (List.mem_of_getElem? (i := 136) (by decide +kernel)), rfl⟩
theorem qw_138 : (Cond.lays "QuietSweep$Mutator" "QuietSweep$Mutator" "programSize" "I") ∈ qG := List.mem_filter.mpr ⟨List.mem_append_right _ (List.mem_of_getElem? (i := 138) (by decide +kernel)), rfl⟩
theorem qw_140 : (Cond.lays "QuietSweep$Mutator" "QuietSweep$Mutator" "at" "I") ∈ qG := List.mem_filter.mpr ⟨List.mem_append_right _ (List.mem_of_getElem? (i := 140) (by decide +kernel)), rfl⟩
theorem qw_142 : (Cond.laysFinal "QuietSweep$Mutator" "QuietSweep$Mutator" "cellVariables" "[I") ∈ qG := List.mem_filter.mpr ⟨List.mem_append_right _ (List.mem_of_getElem? (i := 142) (by decide +kernel)), rfl⟩
theorem qw_144 : (Cond.laysFinal "QuietSweep$Mutator" "QuietSweep$Mutator" "intVariables" "[I") ∈ qG := List.mem_filter.mpr ⟨List.mem_append_right _ (List.mem_of_getElem? (i := 144) (by decide +kernel)), rfl⟩
theorem qw_146 : (Cond.lays "QuietSweep$Mutator" "QuietSweep$Mutator" "standing" "I") ∈ qG := List.mem_filter.mpr ⟨List.mem_append_right _ (List.mem_of_getElem? (i := 146) (by decide +kernel)), rfl⟩
theorem qw_148 : (Cond.lays "QuietSweep$Mutator" "QuietSweep$Mutator" "stallCount" "I") ∈ qG := List.mem_filter.mpr ⟨List.mem_append_right _ (List.mem_of_getElem? (i := 148) (by decide +kernel)), rfl⟩
theorem qw_150 : (Cond.laysFinal "QuietSweep$Mutator" "QuietSweep$Mutator" "buffer" "LQuietSweep$Buffer;") ∈ qG := List.mem_filter.mpr ⟨List.mem_append_right _ (List.mem_of_getElem? (i := 150) (by decide +kernel)), rfl⟩
theorem qw_152 : (Cond.laysFinal "QuietSweep$Mutator" "QuietSweep$Mutator" "outs" "LQuietSweep$Outs;") ∈ qG := List.mem_filter.mpr ⟨List.mem_append_right _ (List.mem_of_getElem? (i := 152) (by decide +kernel)), rfl⟩
theorem qw_155 : (Cond.classLink "QuietSweep" 32 "QuietSweep$Collector") ∈ qG := List.mem_filter.mpr ⟨List.mem_append_right _ (List.mem_of_getElem? (i := 155) (by decide +kernel)), rfl⟩
theorem qw_156 : (Cond.instantiable "QuietSweep$Collector" 4) ∈ qG := List.mem_filter.mpr ⟨List.mem_append_right _ (List.mem_of_getElem? (i := 156) (by decide +kernel)), rfl⟩
theorem qx_157 : (Cond.methodLinkNest "QuietSweep" 34 ⟨"QuietSweep$Collector", "<init>", "()V"⟩ "QuietSweep") ∈ lw_tbl := List.mem_append_right _ (List.mem_of_getElem? (i := 157) (by decide +kernel))
theorem qw_158 : (Cond.instanceMethod ⟨"QuietSweep$Collector", "<init>", "()V"⟩) ∈ qG := List.mem_filter.mpr ⟨List.mem_append_right _ (List.mem_of_getElem? (i := 158) (by decide +kernel)), rfl⟩
theorem qw_159 : (Cond.code ⟨"QuietSweep$Collector", "<init>", "()V"⟩ prog_3_method_1_code 1 (Option.none : Option Jvm.ClassFile.FieldType)) ∈ qG := List.mem_filter.mpr ⟨List.mem_append_right _ (List.mem_of_getElem? (i := 159) (by decide +kernel)), rfl⟩
theorem qw_160 : (Cond.methodLink "QuietSweep$Collector" 3 ⟨"java/lang/Object", "<init>", "()V"⟩) ∈ qG := List.mem_filter.mpr ⟨List.mem_append_right _ (List.mem_of_getElem? (i := 160) (by decide +kernel)), rfl⟩
theorem qw_161 : (Cond.fieldLink "QuietSweep$Collector" 11 "QuietSweep$Collector" "stage" "I") ∈ qG := List.mem_filter.mpr ⟨List.mem_append_right _ (List.mem_of_getElem? (i := 161) (by decide +kernel)), rfl⟩
theorem qx_162 : (Cond.fieldLinkNest "QuietSweep" 121 "QuietSweep$Collector" "stage" "I" "QuietSweep") ∈ lw_tbl := List.mem_append_right _ (List.mem_of_getElem? (i := 162) (by decide +kernel))
theorem qw_163 : (Cond.fieldLink "QuietSweep$Collector" 15 "QuietSweep$Collector" "cycleCount" "I") ∈ qG := List.mem_filter.mpr ⟨List.mem_append_right _ (List.mem_of_getElem? (i := 163) (by decide +kernel)), rfl⟩
theorem qx_164 : (Cond.fieldLinkNest "QuietSweep" 124 "QuietSweep$Collector" "cycleCount" "I" "QuietSweep") ∈ lw_tbl := List.mem_append_right _ (List.mem_of_getElem? (i := 164) (by decide +kernel))
theorem qw_165 : (Cond.fieldLink "QuietSweep$Collector" 18 "QuietSweep$Collector" "halfScanned" "I") ∈ qG := List.mem_filter.mpr ⟨List.mem_append_right _ (List.mem_of_getElem? (i := 165) (by decide +kernel)), rfl⟩
theorem qw_166 : (Cond.fieldLink "QuietSweep$Collector" 21 "QuietSweep$Collector" "sweepAt" "I") ∈ qG := List.mem_filter.mpr ⟨List.mem_append_right _ (List.mem_of_getElem? (i := 166) (by decide +kernel)), rfl⟩
theorem qw_167 : (Cond.lays "QuietSweep$Collector" "QuietSweep$Collector" "stage" "I") ∈ qG := List.mem_filter.mpr ⟨List.mem_append_right _ (List.mem_of_getElem? (i := 167) (by decide +kernel)), rfl⟩
theorem qw_169 : (Cond.lays "QuietSweep$Collector" "QuietSweep$Collector" "cycleCount" "I") ∈ qG := List.mem_filter.mpr ⟨List.mem_append_right _ (List.mem_of_getElem? (i := 169) (by decide +kernel)), rfl⟩
theorem qw_171 : (Cond.lays "QuietSweep$Collector" "QuietSweep$Collector" "halfScanned" "I") ∈ qG := List.mem_filter.mpr ⟨List.mem_append_right _ (List.mem_of_getElem? (i := 171) (by decide +kernel)), rfl⟩
theorem qw_173 : (Cond.lays "QuietSweep$Collector" "QuietSweep$Collector" "sweepAt" "I") ∈ qG := List.mem_filter.mpr ⟨List.mem_append_right _ (List.mem_of_getElem? (i := 173) (by decide +kernel)), rfl⟩
theorem qw_176 : (Cond.fieldLink "QuietSweep" 10 "QuietSweep" "source" "LQuietSweep$Source;") ∈ qG := List.mem_filter.mpr ⟨List.mem_append_right _ (List.mem_of_getElem? (i := 176) (by decide +kernel)), rfl⟩
theorem qw_177 : (Cond.fieldLink "QuietSweep" 21 "QuietSweep" "memory" "LQuietSweep$Memory;") ∈ qG := List.mem_filter.mpr ⟨List.mem_append_right _ (List.mem_of_getElem? (i := 177) (by decide +kernel)), rfl⟩
theorem qw_178 : (Cond.fieldLink "QuietSweep" 27 "QuietSweep" "mutators" "[LQuietSweep$Mutator;") ∈ qG := List.mem_filter.mpr ⟨List.mem_append_right _ (List.mem_of_getElem? (i := 178) (by decide +kernel)), rfl⟩
theorem qw_179 : (Cond.fieldLink "QuietSweep" 35 "QuietSweep" "collector" "LQuietSweep$Collector;") ∈ qG := List.mem_filter.mpr ⟨List.mem_append_right _ (List.mem_of_getElem? (i := 179) (by decide +kernel)), rfl⟩
theorem qw_180 : (Cond.laysFinal "QuietSweep" "QuietSweep" "source" "LQuietSweep$Source;") ∈ qG := List.mem_filter.mpr ⟨List.mem_append_right _ (List.mem_of_getElem? (i := 180) (by decide +kernel)), rfl⟩
theorem qw_182 : (Cond.laysFinal "QuietSweep" "QuietSweep" "memory" "LQuietSweep$Memory;") ∈ qG := List.mem_filter.mpr ⟨List.mem_append_right _ (List.mem_of_getElem? (i := 182) (by decide +kernel)), rfl⟩
theorem qw_184 : (Cond.laysFinal "QuietSweep" "QuietSweep" "mutators" "[LQuietSweep$Mutator;") ∈ qG := List.mem_filter.mpr ⟨List.mem_append_right _ (List.mem_of_getElem? (i := 184) (by decide +kernel)), rfl⟩
theorem qw_186 : (Cond.laysFinal "QuietSweep" "QuietSweep" "collector" "LQuietSweep$Collector;") ∈ qG := List.mem_filter.mpr ⟨List.mem_append_right _ (List.mem_of_getElem? (i := 186) (by decide +kernel)), rfl⟩
theorem qw_189 : (Cond.methodLink "QuietSweepLaw" 21 ⟨"QuietSweep", "write", "(C)Z"⟩) ∈ qG := List.mem_filter.mpr ⟨List.mem_append_right _ (List.mem_of_getElem? (i := 189) (by decide +kernel)), rfl⟩
theorem qw_190 : (Cond.instanceMethod ⟨"QuietSweep", "write", "(C)Z"⟩) ∈ qG := List.mem_filter.mpr ⟨List.mem_append_right _ (List.mem_of_getElem? (i := 190) (by decide +kernel)), rfl⟩
theorem qw_191 : (Cond.selects "QuietSweep" ⟨"QuietSweep", "write", "(C)Z"⟩ ⟨"QuietSweep", "write", "(C)Z"⟩) ∈ qG := List.mem_filter.mpr ⟨List.mem_append_right _ (List.mem_of_getElem? (i := 191) (by decide +kernel)), rfl⟩
theorem qw_192 : (Cond.code ⟨"QuietSweep", "write", "(C)Z"⟩ prog_1_method_2_code 2 (Option.some Jvm.ClassFile.FieldType.boolean)) ∈ qG := List.mem_filter.mpr ⟨List.mem_append_right _ (List.mem_of_getElem? (i := 192) (by decide +kernel)), rfl⟩
theorem qw_193 : (Cond.methodLink "QuietSweep" 39 ⟨"QuietSweep$Source", "append", "(C)Z"⟩) ∈ qG := List.mem_filter.mpr ⟨List.mem_append_right _ (List.mem_of_getElem? (i := 193) (by decide +kernel)), rfl⟩
theorem qw_194 : (Cond.instanceMethod ⟨"QuietSweep$Source", "append", "(C)Z"⟩) ∈ qG := List.mem_filter.mpr ⟨List.mem_append_right _ (List.mem_of_getElem? (i := 194) (by decide +kernel)), rfl⟩
theorem qw_195 : (Cond.selects "QuietSweep$Source" ⟨"QuietSweep$Source", "append", "(C)Z"⟩ ⟨"QuietSweep$Source", "append", "(C)Z"⟩) ∈ qG := List.mem_filter.mpr ⟨List.mem_append_right _ (List.mem_of_getElem? (i := 195) (by decide +kernel)), rfl⟩
theorem qw_196 : (Cond.code ⟨"QuietSweep$Source", "append", "(C)Z"⟩ prog_7_method_2_code 2 (Option.some Jvm.ClassFile.FieldType.boolean)) ∈ qG := List.mem_filter.mpr ⟨List.mem_append_right _ (List.mem_of_getElem? (i := 196) (by decide +kernel)), rfl⟩
theorem qw_197 : (Cond.methodLink "QuietSweepLaw" 26 ⟨"QuietSweep", "load", "(I)I"⟩) ∈ qG := List.mem_filter.mpr ⟨List.mem_append_right _ (List.mem_of_getElem? (i := 197) (by decide +kernel)), rfl⟩
theorem qw_198 : (Cond.instanceMethod ⟨"QuietSweep", "load", "(I)I"⟩) ∈ qG := List.mem_filter.mpr ⟨List.mem_append_right _ (List.mem_of_getElem? (i := 198) (by decide +kernel)), rfl⟩
theorem qw_199 : (Cond.selects "QuietSweep" ⟨"QuietSweep", "load", "(I)I"⟩ ⟨"QuietSweep", "load", "(I)I"⟩) ∈ qG := List.mem_filter.mpr ⟨List.mem_append_right _ (List.mem_of_getElem? (i := 199) (by decide +kernel)), rfl⟩
theorem qw_200 : (Cond.code ⟨"QuietSweep", "load", "(I)I"⟩ prog_1_method_3_code 3 (Option.some Jvm.ClassFile.FieldType.int)) ∈ qG := List.mem_filter.mpr ⟨List.mem_append_right _ (List.mem_of_getElem? (i := 200) (by decide +kernel)), rfl⟩
theorem qw_201 : (Cond.methodLink "QuietSweep" 43 ⟨"QuietSweep$Source", "translate", "()Z"⟩) ∈ qG := List.mem_filter.mpr ⟨List.mem_append_right _ (List.mem_of_getElem? (i := 201) (by decide +kernel)), rfl⟩
theorem qw_202 : (Cond.instanceMethod ⟨"QuietSweep$Source", "translate", "()Z"⟩) ∈ qG := List.mem_filter.mpr ⟨List.mem_append_right _ (List.mem_of_getElem? (i := 202) (by decide +kernel)), rfl⟩
theorem qw_203 : (Cond.selects "QuietSweep$Source" ⟨"QuietSweep$Source", "translate", "()Z"⟩ ⟨"QuietSweep$Source", "translate", "()Z"⟩) ∈ qG := List.mem_filter.mpr ⟨List.mem_append_right _ (List.mem_of_getElem? (i := 203) (by decide +kernel)), rfl⟩
theorem qw_204 : (Cond.code ⟨"QuietSweep$Source", "translate", "()Z"⟩ prog_7_method_4_code 3 (Option.some Jvm.ClassFile.FieldType.boolean)) ∈ qG := List.mem_filter.mpr ⟨List.mem_append_right _ (List.mem_of_getElem? (i := 204) (by decide +kernel)), rfl⟩
theorem qw_205 : (Cond.methodLink "QuietSweep$Source" 32 ⟨"QuietSweep$Source", "translateAt", "(I)I"⟩) ∈ qG := List.mem_filter.mpr ⟨List.mem_append_right _ (List.mem_of_getElem? (i := 205) (by decide +kernel)), rfl⟩
theorem qw_207 : (Cond.instanceMethod ⟨"QuietSweep$Source", "translateAt", "(I)I"⟩) ∈ qG := List.mem_filter.mpr ⟨List.mem_append_right _ (List.mem_of_getElem? (i := 207) (by decide +kernel)), rfl⟩
theorem qw_208 : (Cond.code ⟨"QuietSweep$Source", "translateAt", "(I)I"⟩ prog_7_method_5_code 4 (Option.some Jvm.ClassFile.FieldType.int)) ∈ qG := List.mem_filter.mpr ⟨List.mem_append_right _ (List.mem_of_getElem? (i := 208) (by decide +kernel)), rfl⟩
theorem qw_209 : (Cond.methodLink "QuietSweep$Source" 36 ⟨"QuietSweep$Source", "openLoop", "(I)I"⟩) ∈ qG := List.mem_filter.mpr ⟨List.mem_append_right _ (List.mem_of_getElem? (i := 209) (by decide +kernel)), rfl⟩
theorem qw_211 : (Cond.instanceMethod ⟨"QuietSweep$Source", "openLoop", "(I)I"⟩) ∈ qG := List.mem_filter.mpr ⟨List.mem_append_right _ (List.mem_of_getElem? (i := 211) (by decide +kernel)), rfl⟩
theorem qw_212 : (Cond.code ⟨"QuietSweep$Source", "openLoop", "(I)I"⟩ prog_7_method_6_code 2 (Option.some Jvm.ClassFile.FieldType.int)) ∈ qG := List.mem_filter.mpr ⟨List.mem_append_right _ (List.mem_of_getElem? (i := 212) (by decide +kernel)), rfl⟩
theorem qw_213 : (Cond.methodLink "QuietSweep$Source" 63 ⟨"QuietSweep$Source", "fits", "(CC)Z"⟩) ∈ qG := List.mem_filter.mpr ⟨List.mem_append_right _ (List.mem_of_getElem? (i := 213) (by decide +kernel)), rfl⟩
theorem qw_214 : (Cond.static ⟨"QuietSweep$Source", "fits", "(CC)Z"⟩) ∈ qG := List.mem_filter.mpr ⟨List.mem_append_right _ (List.mem_of_getElem? (i := 214) (by decide +kernel)), rfl⟩
theorem qw_215 : (Cond.code ⟨"QuietSweep$Source", "fits", "(CC)Z"⟩ prog_7_method_11_code 2 (Option.some Jvm.ClassFile.FieldType.boolean)) ∈ qG := List.mem_filter.mpr ⟨List.mem_append_right _ (List.mem_of_getElem? (i := 215) (by decide +kernel)), rfl⟩
theorem qw_216 : (Cond.methodLink "QuietSweep$Source" 67 ⟨"QuietSweep$Source", "numberOf", "(C)I"⟩) ∈ qG := List.mem_filter.mpr ⟨List.mem_append_right _ (List.mem_of_getElem? (i := 216) (by decide +kernel)), rfl⟩
theorem qw_217 : (Cond.static ⟨"QuietSweep$Source", "numberOf", "(C)I"⟩) ∈ qG := List.mem_filter.mpr ⟨List.mem_append_right _ (List.mem_of_getElem? (i := 217) (by decide +kernel)), rfl⟩
theorem qw_218 : (Cond.code ⟨"QuietSweep$Source", "numberOf", "(C)I"⟩ prog_7_method_13_code 1 (Option.some Jvm.ClassFile.FieldType.int)) ∈ qG := List.mem_filter.mpr ⟨List.mem_append_right _ (List.mem_of_getElem? (i := 218) (by decide +kernel)), rfl⟩
theorem qw_219 : (Cond.methodLink "QuietSweep$Source" 55 ⟨"QuietSweep$Source", "emit", "(I)V"⟩) ∈ qG := List.mem_filter.mpr ⟨List.mem_append_right _ (List.mem_of_getElem? (i := 219) (by decide +kernel)), rfl⟩
theorem qw_221 : (Cond.instanceMethod ⟨"QuietSweep$Source", "emit", "(I)V"⟩) ∈ qG := List.mem_filter.mpr ⟨List.mem_append_right _ (List.mem_of_getElem? (i := 221) (by decide +kernel)), rfl⟩
theorem qw_222 : (Cond.code ⟨"QuietSweep$Source", "emit", "(I)V"⟩ prog_7_method_8_code 2 (Option.none : Option Jvm.ClassFile.FieldType)) ∈ qG := List.mem_filter.mpr ⟨List.mem_append_right _ (List.mem_of_getElem? (i := 222) (by decide +kernel)), rfl⟩
theorem qw_223 : (Cond.methodLink "QuietSweep$Source" 39 ⟨"QuietSweep$Source", "closeLoop", "()I"⟩) ∈ qG := List.mem_filter.mpr ⟨List.mem_append_right _ (List.mem_of_getElem? (i := 223) (by decide +kernel)), rfl⟩
theorem qw_225 : (Cond.instanceMethod ⟨"QuietSweep$Source", "closeLoop", "()I"⟩) ∈ qG := List.mem_filter.mpr ⟨List.mem_append_right _ (List.mem_of_getElem? (i := 225) (by decide +kernel)), rfl⟩
theorem qw_226 : (Cond.code ⟨"QuietSweep$Source", "closeLoop", "()I"⟩ prog_7_method_7_code 3 (Option.some Jvm.ClassFile.FieldType.int)) ∈ qG := List.mem_filter.mpr ⟨List.mem_append_right _ (List.mem_of_getElem? (i := 226) (by decide +kernel)), rfl⟩
theorem qw_227 : (Cond.methodLink "QuietSweep$Source" 43 ⟨"QuietSweep$Source", "shapeOf", "(I)Ljava/lang/String;"⟩) ∈ qG := List.mem_filter.mpr ⟨List.mem_append_right _ (List.mem_of_getElem? (i := 227) (by decide +kernel)), rfl⟩
theorem qw_228 : (Cond.static ⟨"QuietSweep$Source", "shapeOf", "(I)Ljava/lang/String;"⟩) ∈ qG := List.mem_filter.mpr ⟨List.mem_append_right _ (List.mem_of_getElem? (i := 228) (by decide +kernel)), rfl⟩
theorem qw_229 : (Cond.code ⟨"QuietSweep$Source", "shapeOf", "(I)Ljava/lang/String;"⟩ prog_7_method_9_code 1 (Option.some (Jvm.ClassFile.FieldType.object "java/lang/String"))) ∈ qG := List.mem_filter.mpr ⟨List.mem_append_right _ (List.mem_of_getElem? (i := 229) (by decide +kernel)), rfl⟩
theorem qx_230 : (Cond.stringRef "QuietSweep$Source" 71 "R=*;") ∈ lw_tbl := List.mem_append_right _ (List.mem_of_getElem? (i := 230) (by decide +kernel))
theorem qx_231 : (Cond.stringRef "QuietSweep$Source" 73 "R=-;") ∈ lw_tbl := List.mem_append_right _ (List.mem_of_getElem? (i := 231) (by decide +kernel))
theorem qx_232 : (Cond.stringRef "QuietSweep$Source" 75 "R=R;") ∈ lw_tbl := List.mem_append_right _ (List.mem_of_getElem? (i := 232) (by decide +kernel))
theorem qx_233 : (Cond.stringRef "QuietSweep$Source" 77 "R=R.l;") ∈ lw_tbl := List.mem_append_right _ (List.mem_of_getElem? (i := 233) (by decide +kernel))
theorem qx_234 : (Cond.stringRef "QuietSweep$Source" 79 "R=R.r;") ∈ lw_tbl := List.mem_append_right _ (List.mem_of_getElem? (i := 234) (by decide +kernel))
theorem qx_235 : (Cond.stringRef "QuietSweep$Source" 81 "R.l=R;") ∈ lw_tbl := List.mem_append_right _ (List.mem_of_getElem? (i := 235) (by decide +kernel))
theorem qx_236 : (Cond.stringRef "QuietSweep$Source" 83 "R.r=R;") ∈ lw_tbl := List.mem_append_right _ (List.mem_of_getElem? (i := 236) (by decide +kernel))
theorem qx_237 : (Cond.stringRef "QuietSweep$Source" 85 "R.l=-;") ∈ lw_tbl := List.mem_append_right _ (List.mem_of_getElem? (i := 237) (by decide +kernel))
theorem qx_238 : (Cond.stringRef "QuietSweep$Source" 87 "R.r=-;") ∈ lw_tbl := List.mem_append_right _ (List.mem_of_getElem? (i := 238) (by decide +kernel))
theorem qx_239 : (Cond.stringRef "QuietSweep$Source" 89 "R.n=I;") ∈ lw_tbl := List.mem_append_right _ (List.mem_of_getElem? (i := 239) (by decide +kernel))
theorem qx_240 : (Cond.stringRef "QuietSweep$Source" 91 "I=0;") ∈ lw_tbl := List.mem_append_right _ (List.mem_of_getElem? (i := 240) (by decide +kernel))
theorem qx_241 : (Cond.stringRef "QuietSweep$Source" 93 "I=I;") ∈ lw_tbl := List.mem_append_right _ (List.mem_of_getElem? (i := 241) (by decide +kernel))
theorem qx_242 : (Cond.stringRef "QuietSweep$Source" 95 "I=I+I;") ∈ lw_tbl := List.mem_append_right _ (List.mem_of_getElem? (i := 242) (by decide +kernel))
theorem qx_243 : (Cond.stringRef "QuietSweep$Source" 97 "I=R.n;") ∈ lw_tbl := List.mem_append_right _ (List.mem_of_getElem? (i := 243) (by decide +kernel))
theorem qx_244 : (Cond.stringRef "QuietSweep$Source" 99 "!I;") ∈ lw_tbl := List.mem_append_right _ (List.mem_of_getElem? (i := 244) (by decide +kernel))
theorem qw_245 : (Cond.methodLink "QuietSweep$Source" 47 ⟨"QuietSweep$Source", "hasShape", "(ILjava/lang/String;)Z"⟩) ∈ qG := List.mem_filter.mpr ⟨List.mem_append_right _ (List.mem_of_getElem? (i := 245) (by decide +kernel)), rfl⟩
theorem qw_247 : (Cond.instanceMethod ⟨"QuietSweep$Source", "hasShape", "(ILjava/lang/String;)Z"⟩) ∈ qG := List.mem_filter.mpr ⟨List.mem_append_right _ (List.mem_of_getElem? (i := 247) (by decide +kernel)), rfl⟩
theorem qw_248 : (Cond.code ⟨"QuietSweep$Source", "hasShape", "(ILjava/lang/String;)Z"⟩ prog_7_method_10_code 4 (Option.some Jvm.ClassFile.FieldType.boolean)) ∈ qG := List.mem_filter.mpr ⟨List.mem_append_right _ (List.mem_of_getElem? (i := 248) (by decide +kernel)), rfl⟩
theorem qw_249 : (Cond.methodLink "QuietSweep$Source" 59 ⟨"java/lang/String", "length", "()I"⟩) ∈ qG := List.mem_filter.mpr ⟨List.mem_append_right _ (List.mem_of_getElem? (i := 249) (by decide +kernel)), rfl⟩
theorem qw_250 : (Cond.instanceMethod ⟨"java/lang/String", "length", "()I"⟩) ∈ qG := List.mem_filter.mpr ⟨List.mem_append_right _ (List.mem_of_getElem? (i := 250) (by decide +kernel)), rfl⟩
theorem qw_251 : (Cond.selects "java/lang/String" ⟨"java/lang/String", "length", "()I"⟩ ⟨"java/lang/String", "length", "()I"⟩) ∈ qG := List.mem_filter.mpr ⟨List.mem_append_right _ (List.mem_of_getElem? (i := 251) (by decide +kernel)), rfl⟩
theorem qw_252 : (Cond.code ⟨"java/lang/String", "length", "()I"⟩ prog_12_method_54_code 1 (Option.some Jvm.ClassFile.FieldType.int)) ∈ qG := List.mem_filter.mpr ⟨List.mem_append_right _ (List.mem_of_getElem? (i := 252) (by decide +kernel)), rfl⟩
theorem qw_253 : (Cond.methodLink "java/lang/String" 335 ⟨"java/lang/String", "coder", "()B"⟩) ∈ qG := List.mem_filter.mpr ⟨List.mem_append_right _ (List.mem_of_getElem? (i := 253) (by decide +kernel)), rfl⟩
theorem qw_254 : (Cond.instanceMethod ⟨"java/lang/String", "coder", "()B"⟩) ∈ qG := List.mem_filter.mpr ⟨List.mem_append_right _ (List.mem_of_getElem? (i := 254) (by decide +kernel)), rfl⟩
theorem qw_255 : (Cond.selects "java/lang/String" ⟨"java/lang/String", "coder", "()B"⟩ ⟨"java/lang/String", "coder", "()B"⟩) ∈ qG := List.mem_filter.mpr ⟨List.mem_append_right _ (List.mem_of_getElem? (i := 255) (by decide +kernel)), rfl⟩
theorem qw_256 : (Cond.code ⟨"java/lang/String", "coder", "()B"⟩ prog_12_method_152_code 1 (Option.some Jvm.ClassFile.FieldType.byte)) ∈ qG := List.mem_filter.mpr ⟨List.mem_append_right _ (List.mem_of_getElem? (i := 256) (by decide +kernel)), rfl⟩
theorem qw_257 : (Cond.fieldLink "java/lang/String" 38 "java/lang/String" "COMPACT_STRINGS" "Z") ∈ qG := List.mem_filter.mpr ⟨List.mem_append_right _ (List.mem_of_getElem? (i := 257) (by decide +kernel)), rfl⟩
theorem qw_259 : (Cond.methodLink "QuietSweep$Source" 101 ⟨"java/lang/String", "charAt", "(I)C"⟩) ∈ qG := List.mem_filter.mpr ⟨List.mem_append_right _ (List.mem_of_getElem? (i := 259) (by decide +kernel)), rfl⟩
theorem qw_260 : (Cond.instanceMethod ⟨"java/lang/String", "charAt", "(I)C"⟩) ∈ qG := List.mem_filter.mpr ⟨List.mem_append_right _ (List.mem_of_getElem? (i := 260) (by decide +kernel)), rfl⟩
theorem qw_261 : (Cond.selects "java/lang/String" ⟨"java/lang/String", "charAt", "(I)C"⟩ ⟨"java/lang/String", "charAt", "(I)C"⟩) ∈ qG := List.mem_filter.mpr ⟨List.mem_append_right _ (List.mem_of_getElem? (i := 261) (by decide +kernel)), rfl⟩
theorem qw_262 : (Cond.code ⟨"java/lang/String", "charAt", "(I)C"⟩ prog_12_method_56_code 2 (Option.some Jvm.ClassFile.FieldType.char)) ∈ qG := List.mem_filter.mpr ⟨List.mem_append_right _ (List.mem_of_getElem? (i := 262) (by decide +kernel)), rfl⟩
theorem qw_263 : (Cond.methodLink "java/lang/String" 492 ⟨"java/lang/String", "isLatin1", "()Z"⟩) ∈ qG := List.mem_filter.mpr ⟨List.mem_append_right _ (List.mem_of_getElem? (i := 263) (by decide +kernel)), rfl⟩
theorem qw_264 : (Cond.instanceMethod ⟨"java/lang/String", "isLatin1", "()Z"⟩) ∈ qG := List.mem_filter.mpr ⟨List.mem_append_right _ (List.mem_of_getElem? (i := 264) (by decide +kernel)), rfl⟩
theorem qw_265 : (Cond.selects "java/lang/String" ⟨"java/lang/String", "isLatin1", "()Z"⟩ ⟨"java/lang/String", "isLatin1", "()Z"⟩) ∈ qG := List.mem_filter.mpr ⟨List.mem_append_right _ (List.mem_of_getElem? (i := 265) (by decide +kernel)), rfl⟩
theorem qw_266 : (Cond.code ⟨"java/lang/String", "isLatin1", "()Z"⟩ prog_12_method_154_code 1 (Option.some Jvm.ClassFile.FieldType.boolean)) ∈ qG := List.mem_filter.mpr ⟨List.mem_append_right _ (List.mem_of_getElem? (i := 266) (by decide +kernel)), rfl⟩
theorem qw_267 : (Cond.methodLink "java/lang/String" 495 ⟨"java/lang/StringLatin1", "charAt", "([BI)C"⟩) ∈ qG := List.mem_filter.mpr ⟨List.mem_append_right _ (List.mem_of_getElem? (i := 267) (by decide +kernel)), rfl⟩
theorem qw_268 : (Cond.static ⟨"java/lang/StringLatin1", "charAt", "([BI)C"⟩) ∈ qG := List.mem_filter.mpr ⟨List.mem_append_right _ (List.mem_of_getElem? (i := 268) (by decide +kernel)), rfl⟩
theorem qw_269 : (Cond.code ⟨"java/lang/StringLatin1", "charAt", "([BI)C"⟩ prog_13_method_2_code 2 (Option.some Jvm.ClassFile.FieldType.char)) ∈ qG := List.mem_filter.mpr ⟨List.mem_append_right _ (List.mem_of_getElem? (i := 269) (by decide +kernel)), rfl⟩
theorem qw_270 : (Cond.methodLink "java/lang/StringLatin1" 9 ⟨"java/lang/String", "checkIndex", "(II)V"⟩) ∈ qG := List.mem_filter.mpr ⟨List.mem_append_right _ (List.mem_of_getElem? (i := 270) (by decide +kernel)), rfl⟩
theorem qw_271 : (Cond.static ⟨"java/lang/String", "checkIndex", "(II)V"⟩) ∈ qG := List.mem_filter.mpr ⟨List.mem_append_right _ (List.mem_of_getElem? (i := 271) (by decide +kernel)), rfl⟩
theorem qw_272 : (Cond.code ⟨"java/lang/String", "checkIndex", "(II)V"⟩ prog_12_method_155_code 2 (Option.none : Option Jvm.ClassFile.FieldType)) ∈ qG := List.mem_filter.mpr ⟨List.mem_append_right _ (List.mem_of_getElem? (i := 272) (by decide +kernel)), rfl⟩
theorem qw_273 : (Cond.fieldLink "java/lang/String" 1053 "jdk/internal/util/Preconditions" "SIOOBE_FORMATTER" "Ljava/util/function/BiFunction;") ∈ qG := List.mem_filter.mpr ⟨List.mem_append_right _ (List.mem_of_getElem? (i := 273) (by decide +kernel)), rfl⟩
theorem qw_275 : (Cond.methodLink "java/lang/String" 1059 ⟨"jdk/internal/util/Preconditions", "checkIndex", "(IILjava/util/function/BiFunction;)I"⟩) ∈ qG := List.mem_filter.mpr ⟨List.mem_append_right _ (List.mem_of_getElem? (i := 275) (by decide +kernel)), rfl⟩
theorem qw_276 : (Cond.static ⟨"jdk/internal/util/Preconditions", "checkIndex", "(IILjava/util/function/BiFunction;)I"⟩) ∈ qG := List.mem_filter.mpr ⟨List.mem_append_right _ (List.mem_of_getElem? (i := 276) (by decide +kernel)), rfl⟩
theorem qw_277 : (Cond.code ⟨"jdk/internal/util/Preconditions", "checkIndex", "(IILjava/util/function/BiFunction;)I"⟩ prog_16_method_11_code 3 (Option.some Jvm.ClassFile.FieldType.int)) ∈ qG := List.mem_filter.mpr ⟨List.mem_append_right _ (List.mem_of_getElem? (i := 277) (by decide +kernel)), rfl⟩
theorem qw_278 : (Cond.methodLink "java/lang/String" 498 ⟨"java/lang/StringUTF16", "charAt", "([BI)C"⟩) ∈ qG := List.mem_filter.mpr ⟨List.mem_append_right _ (List.mem_of_getElem? (i := 278) (by decide +kernel)), rfl⟩
theorem qw_279 : (Cond.static ⟨"java/lang/StringUTF16", "charAt", "([BI)C"⟩) ∈ qG := List.mem_filter.mpr ⟨List.mem_append_right _ (List.mem_of_getElem? (i := 279) (by decide +kernel)), rfl⟩
theorem qw_280 : (Cond.code ⟨"java/lang/StringUTF16", "charAt", "([BI)C"⟩ prog_14_method_83_code 2 (Option.some Jvm.ClassFile.FieldType.char)) ∈ qG := List.mem_filter.mpr ⟨List.mem_append_right _ (List.mem_of_getElem? (i := 280) (by decide +kernel)), rfl⟩
theorem qw_281 : (Cond.methodLink "java/lang/StringUTF16" 67 ⟨"java/lang/StringUTF16", "checkIndex", "(I[B)V"⟩) ∈ qG := List.mem_filter.mpr ⟨List.mem_append_right _ (List.mem_of_getElem? (i := 281) (by decide +kernel)), rfl⟩
theorem qw_282 : (Cond.static ⟨"java/lang/StringUTF16", "checkIndex", "(I[B)V"⟩) ∈ qG := List.mem_filter.mpr ⟨List.mem_append_right _ (List.mem_of_getElem? (i := 282) (by decide +kernel)), rfl⟩
theorem qw_283 : (Cond.code ⟨"java/lang/StringUTF16", "checkIndex", "(I[B)V"⟩ prog_14_method_91_code 2 (Option.none : Option Jvm.ClassFile.FieldType)) ∈ qG := List.mem_filter.mpr ⟨List.mem_append_right _ (List.mem_of_getElem? (i := 283) (by decide +kernel)), rfl⟩
theorem qw_284 : (Cond.methodLink "java/lang/StringUTF16" 48 ⟨"java/lang/StringUTF16", "length", "([B)I"⟩) ∈ qG := List.mem_filter.mpr ⟨List.mem_append_right _ (List.mem_of_getElem? (i := 284) (by decide +kernel)), rfl⟩
theorem qw_285 : (Cond.static ⟨"java/lang/StringUTF16", "length", "([B)I"⟩) ∈ qG := List.mem_filter.mpr ⟨List.mem_append_right _ (List.mem_of_getElem? (i := 285) (by decide +kernel)), rfl⟩
theorem qw_286 : (Cond.code ⟨"java/lang/StringUTF16", "length", "([B)I"⟩ prog_14_method_6_code 1 (Option.some Jvm.ClassFile.FieldType.int)) ∈ qG := List.mem_filter.mpr ⟨List.mem_append_right _ (List.mem_of_getElem? (i := 286) (by decide +kernel)), rfl⟩
theorem qw_287 : (Cond.methodLink "java/lang/StringUTF16" 414 ⟨"java/lang/String", "checkIndex", "(II)V"⟩) ∈ qG := List.mem_filter.mpr ⟨List.mem_append_right _ (List.mem_of_getElem? (i := 287) (by decide +kernel)), rfl⟩
theorem qw_288 : (Cond.methodLink "java/lang/StringUTF16" 71 ⟨"java/lang/StringUTF16", "getChar", "([BI)C"⟩) ∈ qG := List.mem_filter.mpr ⟨List.mem_append_right _ (List.mem_of_getElem? (i := 288) (by decide +kernel)), rfl⟩
theorem qw_289 : (Cond.static ⟨"java/lang/StringUTF16", "getChar", "([BI)C"⟩) ∈ qG := List.mem_filter.mpr ⟨List.mem_append_right _ (List.mem_of_getElem? (i := 289) (by decide +kernel)), rfl⟩
theorem qw_290 : (Cond.code ⟨"java/lang/StringUTF16", "getChar", "([BI)C"⟩ prog_14_method_5_code 2 (Option.some Jvm.ClassFile.FieldType.char)) ∈ qG := List.mem_filter.mpr ⟨List.mem_append_right _ (List.mem_of_getElem? (i := 290) (by decide +kernel)), rfl⟩
theorem qw_291 : (Cond.fieldLink "java/lang/StringUTF16" 44 "java/lang/StringUTF16" "$assertionsDisabled" "Z") ∈ qG := List.mem_filter.mpr ⟨List.mem_append_right _ (List.mem_of_getElem? (i := 291) (by decide +kernel)), rfl⟩
theorem qw_293 : (Cond.fieldLink "java/lang/StringUTF16" 59 "java/lang/StringUTF16" "HI_BYTE_SHIFT" "I") ∈ qG := List.mem_filter.mpr ⟨List.mem_append_right _ (List.mem_of_getElem? (i := 293) (by decide +kernel)), rfl⟩
theorem qw_295 : (Cond.fieldLink "java/lang/StringUTF16" 63 "java/lang/StringUTF16" "LO_BYTE_SHIFT" "I") ∈ qG := List.mem_filter.mpr ⟨List.mem_append_right _ (List.mem_of_getElem? (i := 295) (by decide +kernel)), rfl⟩
theorem qw_297 : (Cond.methodLink "QuietSweep$Source" 51 ⟨"QuietSweep$Source", "operandsAt", "(ILjava/lang/String;)I"⟩) ∈ qG := List.mem_filter.mpr ⟨List.mem_append_right _ (List.mem_of_getElem? (i := 297) (by decide +kernel)), rfl⟩
theorem qw_299 : (Cond.instanceMethod ⟨"QuietSweep$Source", "operandsAt", "(ILjava/lang/String;)I"⟩) ∈ qG := List.mem_filter.mpr ⟨List.mem_append_right _ (List.mem_of_getElem? (i := 299) (by decide +kernel)), rfl⟩
theorem qw_300 : (Cond.code ⟨"QuietSweep$Source", "operandsAt", "(ILjava/lang/String;)I"⟩ prog_7_method_12_code 7 (Option.some Jvm.ClassFile.FieldType.int)) ∈ qG := List.mem_filter.mpr ⟨List.mem_append_right _ (List.mem_of_getElem? (i := 300) (by decide +kernel)), rfl⟩
theorem qw_301 : (Cond.methodLink "QuietSweep" 47 ⟨"QuietSweep$Source", "empty", "()V"⟩) ∈ qG := List.mem_filter.mpr ⟨List.mem_append_right _ (List.mem_of_getElem? (i := 301) (by decide +kernel)), rfl⟩
theorem qw_302 : (Cond.instanceMethod ⟨"QuietSweep$Source", "empty", "()V"⟩) ∈ qG := List.mem_filter.mpr ⟨List.mem_append_right _ (List.mem_of_getElem? (i := 302) (by decide +kernel)), rfl⟩
theorem qw_303 : (Cond.selects "QuietSweep$Source" ⟨"QuietSweep$Source", "empty", "()V"⟩ ⟨"QuietSweep$Source", "empty", "()V"⟩) ∈ qG := List.mem_filter.mpr ⟨List.mem_append_right _ (List.mem_of_getElem? (i := 303) (by decide +kernel)), rfl⟩
theorem qw_304 : (Cond.code ⟨"QuietSweep$Source", "empty", "()V"⟩ prog_7_method_3_code 1 (Option.none : Option Jvm.ClassFile.FieldType)) ∈ qG := List.mem_filter.mpr ⟨List.mem_append_right _ (List.mem_of_getElem? (i := 304) (by decide +kernel)), rfl⟩
theorem qw_305 : (Cond.methodLink "QuietSweep" 50 ⟨"QuietSweep", "isMutator", "(I)Z"⟩) ∈ qG := List.mem_filter.mpr ⟨List.mem_append_right _ (List.mem_of_getElem? (i := 305) (by decide +kernel)), rfl⟩
theorem qw_306 : (Cond.static ⟨"QuietSweep", "isMutator", "(I)Z"⟩) ∈ qG := List.mem_filter.mpr ⟨List.mem_append_right _ (List.mem_of_getElem? (i := 306) (by decide +kernel)), rfl⟩
theorem qw_307 : (Cond.code ⟨"QuietSweep", "isMutator", "(I)Z"⟩ prog_1_method_24_code 1 (Option.some Jvm.ClassFile.FieldType.boolean)) ∈ qG := List.mem_filter.mpr ⟨List.mem_append_right _ (List.mem_of_getElem? (i := 307) (by decide +kernel)), rfl⟩
theorem qw_308 : (Cond.methodLink "QuietSweep" 62 ⟨"QuietSweep$Mutator", "install", "([II)V"⟩) ∈ qG := List.mem_filter.mpr ⟨List.mem_append_right _ (List.mem_of_getElem? (i := 308) (by decide +kernel)), rfl⟩
theorem qw_309 : (Cond.instanceMethod ⟨"QuietSweep$Mutator", "install", "([II)V"⟩) ∈ qG := List.mem_filter.mpr ⟨List.mem_append_right _ (List.mem_of_getElem? (i := 309) (by decide +kernel)), rfl⟩
theorem qw_310 : (Cond.selects "QuietSweep$Mutator" ⟨"QuietSweep$Mutator", "install", "([II)V"⟩ ⟨"QuietSweep$Mutator", "install", "([II)V"⟩) ∈ qG := List.mem_filter.mpr ⟨List.mem_append_right _ (List.mem_of_getElem? (i := 310) (by decide +kernel)), rfl⟩
theorem qw_311 : (Cond.code ⟨"QuietSweep$Mutator", "install", "([II)V"⟩ prog_5_method_2_code 3 (Option.none : Option Jvm.ClassFile.FieldType)) ∈ qG := List.mem_filter.mpr ⟨List.mem_append_right _ (List.mem_of_getElem? (i := 311) (by decide +kernel)), rfl⟩
theorem qw_312 : (Cond.methodLink "QuietSweep$Mutator" 50 ⟨"java/lang/System", "arraycopy", "(Ljava/lang/Object;ILjava/lang/Object;II)V"⟩) ∈ qG := List.mem_filter.mpr ⟨List.mem_append_right _ (List.mem_of_getElem? (i := 312) (by decide +kernel)), rfl⟩
theorem qw_313 : (Cond.static ⟨"java/lang/System", "arraycopy", "(Ljava/lang/Object;ILjava/lang/Object;II)V"⟩) ∈ qG := List.mem_filter.mpr ⟨List.mem_append_right _ (List.mem_of_getElem? (i := 313) (by decide +kernel)), rfl⟩
theorem qw_314 : (Cond.native ⟨"java/lang/System", "arraycopy", "(Ljava/lang/Object;ILjava/lang/Object;II)V"⟩) ∈ qG := List.mem_filter.mpr ⟨List.mem_append_right _ (List.mem_of_getElem? (i := 314) (by decide +kernel)), rfl⟩
theorem qw_315 : (Cond.arrayClass Jvm.ClassFile.FieldType.byte) ∈ qG := List.mem_filter.mpr ⟨List.mem_append_right _ (List.mem_of_getElem? (i := 315) (by decide +kernel)), rfl⟩
theorem qw_316 : (Cond.methodLink "QuietSweepLaw" 31 ⟨"QuietSweep", "go", "(II)I"⟩) ∈ qG := List.mem_filter.mpr ⟨List.mem_append_right _ (List.mem_of_getElem? (i := 316) (by decide +kernel)), rfl⟩
theorem qw_317 : (Cond.instanceMethod ⟨"QuietSweep", "go", "(II)I"⟩) ∈ qG := List.mem_filter.mpr ⟨List.mem_append_right _ (List.mem_of_getElem? (i := 317) (by decide +kernel)), rfl⟩
theorem qw_318 : (Cond.selects "QuietSweep" ⟨"QuietSweep", "go", "(II)I"⟩ ⟨"QuietSweep", "go", "(II)I"⟩) ∈ qG := List.mem_filter.mpr ⟨List.mem_append_right _ (List.mem_of_getElem? (i := 318) (by decide +kernel)), rfl⟩
theorem qw_319 : (Cond.code ⟨"QuietSweep", "go", "(II)I"⟩ prog_1_method_4_code 5 (Option.some Jvm.ClassFile.FieldType.int)) ∈ qG := List.mem_filter.mpr ⟨List.mem_append_right _ (List.mem_of_getElem? (i := 319) (by decide +kernel)), rfl⟩
theorem qw_320 : (Cond.methodLink "QuietSweep" 66 ⟨"QuietSweep", "doEntry", "(I)Z"⟩) ∈ qG := List.mem_filter.mpr ⟨List.mem_append_right _ (List.mem_of_getElem? (i := 320) (by decide +kernel)), rfl⟩
theorem qw_322 : (Cond.instanceMethod ⟨"QuietSweep", "doEntry", "(I)Z"⟩) ∈ qG := List.mem_filter.mpr ⟨List.mem_append_right _ (List.mem_of_getElem? (i := 322) (by decide +kernel)), rfl⟩
theorem qw_323 : (Cond.code ⟨"QuietSweep", "doEntry", "(I)Z"⟩ prog_1_method_22_code 3 (Option.some Jvm.ClassFile.FieldType.boolean)) ∈ qG := List.mem_filter.mpr ⟨List.mem_append_right _ (List.mem_of_getElem? (i := 323) (by decide +kernel)), rfl⟩
theorem qw_324 : (Cond.methodLink "QuietSweep" 139 ⟨"QuietSweep$Mutator", "doInstruction", "(LQuietSweep$Memory;)Z"⟩) ∈ qG := List.mem_filter.mpr ⟨List.mem_append_right _ (List.mem_of_getElem? (i := 324) (by decide +kernel)), rfl⟩
theorem qw_325 : (Cond.instanceMethod ⟨"QuietSweep$Mutator", "doInstruction", "(LQuietSweep$Memory;)Z"⟩) ∈ qG := List.mem_filter.mpr ⟨List.mem_append_right _ (List.mem_of_getElem? (i := 325) (by decide +kernel)), rfl⟩
theorem qw_326 : (Cond.selects "QuietSweep$Mutator" ⟨"QuietSweep$Mutator", "doInstruction", "(LQuietSweep$Memory;)Z"⟩ ⟨"QuietSweep$Mutator", "doInstruction", "(LQuietSweep$Memory;)Z"⟩) ∈ qG := List.mem_filter.mpr ⟨List.mem_append_right _ (List.mem_of_getElem? (i := 326) (by decide +kernel)), rfl⟩
theorem qw_327 : (Cond.code ⟨"QuietSweep$Mutator", "doInstruction", "(LQuietSweep$Memory;)Z"⟩ prog_5_method_5_code 7 (Option.some Jvm.ClassFile.FieldType.boolean)) ∈ qG := List.mem_filter.mpr ⟨List.mem_append_right _ (List.mem_of_getElem? (i := 327) (by decide +kernel)), rfl⟩
theorem qw_328 : (Cond.methodLink "QuietSweep$Mutator" 56 ⟨"QuietSweep$Mutator", "behindLoopPart", "(IZI)I"⟩) ∈ qG := List.mem_filter.mpr ⟨List.mem_append_right _ (List.mem_of_getElem? (i := 328) (by decide +kernel)), rfl⟩
theorem qw_330 : (Cond.instanceMethod ⟨"QuietSweep$Mutator", "behindLoopPart", "(IZI)I"⟩) ∈ qG := List.mem_filter.mpr ⟨List.mem_append_right _ (List.mem_of_getElem? (i := 330) (by decide +kernel)), rfl⟩
theorem qw_331 : (Cond.code ⟨"QuietSweep$Mutator", "behindLoopPart", "(IZI)I"⟩ prog_5_method_6_code 4 (Option.some Jvm.ClassFile.FieldType.int)) ∈ qG := List.mem_filter.mpr ⟨List.mem_append_right _ (List.mem_of_getElem? (i := 331) (by decide +kernel)), rfl⟩
theorem qw_332 : (Cond.methodLink "QuietSweep$Mutator" 60 ⟨"QuietSweep$Mutator", "doWithInts", "(LQuietSweep$Memory;IIII)V"⟩) ∈ qG := List.mem_filter.mpr ⟨List.mem_append_right _ (List.mem_of_getElem? (i := 332) (by decide +kernel)), rfl⟩
theorem qw_334 : (Cond.instanceMethod ⟨"QuietSweep$Mutator", "doWithInts", "(LQuietSweep$Memory;IIII)V"⟩) ∈ qG := List.mem_filter.mpr ⟨List.mem_append_right _ (List.mem_of_getElem? (i := 334) (by decide +kernel)), rfl⟩
theorem qw_335 : (Cond.code ⟨"QuietSweep$Mutator", "doWithInts", "(LQuietSweep$Memory;IIII)V"⟩ prog_5_method_8_code 6 (Option.none : Option Jvm.ClassFile.FieldType)) ∈ qG := List.mem_filter.mpr ⟨List.mem_append_right _ (List.mem_of_getElem? (i := 335) (by decide +kernel)), rfl⟩
theorem qw_336 : (Cond.methodLink "QuietSweep$Mutator" 72 ⟨"QuietSweep$Mutator", "get", "(LQuietSweep$Memory;III)I"⟩) ∈ qG := List.mem_filter.mpr ⟨List.mem_append_right _ (List.mem_of_getElem? (i := 336) (by decide +kernel)), rfl⟩
theorem qw_338 : (Cond.instanceMethod ⟨"QuietSweep$Mutator", "get", "(LQuietSweep$Memory;III)I"⟩) ∈ qG := List.mem_filter.mpr ⟨List.mem_append_right _ (List.mem_of_getElem? (i := 338) (by decide +kernel)), rfl⟩
theorem qw_339 : (Cond.code ⟨"QuietSweep$Mutator", "get", "(LQuietSweep$Memory;III)I"⟩ prog_5_method_9_code 5 (Option.some Jvm.ClassFile.FieldType.int)) ∈ qG := List.mem_filter.mpr ⟨List.mem_append_right _ (List.mem_of_getElem? (i := 339) (by decide +kernel)), rfl⟩
theorem qw_340 : (Cond.methodLink "QuietSweep$Mutator" 83 ⟨"QuietSweep$Buffer", "look", "(LQuietSweep$Memory;II)I"⟩) ∈ qG := List.mem_filter.mpr ⟨List.mem_append_right _ (List.mem_of_getElem? (i := 340) (by decide +kernel)), rfl⟩
theorem qw_341 : (Cond.instanceMethod ⟨"QuietSweep$Buffer", "look", "(LQuietSweep$Memory;II)I"⟩) ∈ qG := List.mem_filter.mpr ⟨List.mem_append_right _ (List.mem_of_getElem? (i := 341) (by decide +kernel)), rfl⟩
theorem qw_342 : (Cond.selects "QuietSweep$Buffer" ⟨"QuietSweep$Buffer", "look", "(LQuietSweep$Memory;II)I"⟩ ⟨"QuietSweep$Buffer", "look", "(LQuietSweep$Memory;II)I"⟩) ∈ qG := List.mem_filter.mpr ⟨List.mem_append_right _ (List.mem_of_getElem? (i := 342) (by decide +kernel)), rfl⟩
theorem qw_343 : (Cond.code ⟨"QuietSweep$Buffer", "look", "(LQuietSweep$Memory;II)I"⟩ prog_2_method_4_code 5 (Option.some Jvm.ClassFile.FieldType.int)) ∈ qG := List.mem_filter.mpr ⟨List.mem_append_right _ (List.mem_of_getElem? (i := 343) (by decide +kernel)), rfl⟩
theorem qw_344 : (Cond.methodLink "QuietSweep$Buffer" 25 ⟨"QuietSweep$Memory", "read", "(II)I"⟩) ∈ qG := List.mem_filter.mpr ⟨List.mem_append_right _ (List.mem_of_getElem? (i := 344) (by decide +kernel)), rfl⟩
theorem qw_345 : (Cond.instanceMethod ⟨"QuietSweep$Memory", "read", "(II)I"⟩) ∈ qG := List.mem_filter.mpr ⟨List.mem_append_right _ (List.mem_of_getElem? (i := 345) (by decide +kernel)), rfl⟩
theorem qw_346 : (Cond.selects "QuietSweep$Memory" ⟨"QuietSweep$Memory", "read", "(II)I"⟩ ⟨"QuietSweep$Memory", "read", "(II)I"⟩) ∈ qG := List.mem_filter.mpr ⟨List.mem_append_right _ (List.mem_of_getElem? (i := 346) (by decide +kernel)), rfl⟩
theorem qw_347 : (Cond.code ⟨"QuietSweep$Memory", "read", "(II)I"⟩ prog_4_method_3_code 3 (Option.some Jvm.ClassFile.FieldType.int)) ∈ qG := List.mem_filter.mpr ⟨List.mem_append_right _ (List.mem_of_getElem? (i := 347) (by decide +kernel)), rfl⟩
theorem qw_348 : (Cond.methodLink "QuietSweep$Mutator" 79 ⟨"QuietSweep$Outs", "add", "(I)V"⟩) ∈ qG := List.mem_filter.mpr ⟨List.mem_append_right _ (List.mem_of_getElem? (i := 348) (by decide +kernel)), rfl⟩
theorem qw_349 : (Cond.instanceMethod ⟨"QuietSweep$Outs", "add", "(I)V"⟩) ∈ qG := List.mem_filter.mpr ⟨List.mem_append_right _ (List.mem_of_getElem? (i := 349) (by decide +kernel)), rfl⟩
theorem qw_350 : (Cond.selects "QuietSweep$Outs" ⟨"QuietSweep$Outs", "add", "(I)V"⟩ ⟨"QuietSweep$Outs", "add", "(I)V"⟩) ∈ qG := List.mem_filter.mpr ⟨List.mem_append_right _ (List.mem_of_getElem? (i := 350) (by decide +kernel)), rfl⟩
theorem qw_351 : (Cond.code ⟨"QuietSweep$Outs", "add", "(I)V"⟩ prog_6_method_2_code 2 (Option.none : Option Jvm.ClassFile.FieldType)) ∈ qG := List.mem_filter.mpr ⟨List.mem_append_right _ (List.mem_of_getElem? (i := 351) (by decide +kernel)), rfl⟩
theorem qw_352 : (Cond.methodLink "QuietSweep$Outs" 17 ⟨"QuietSweep$Outs", "placeOf", "(I)I"⟩) ∈ qG := List.mem_filter.mpr ⟨List.mem_append_right _ (List.mem_of_getElem? (i := 352) (by decide +kernel)), rfl⟩
theorem qw_353 : (Cond.static ⟨"QuietSweep$Outs", "placeOf", "(I)I"⟩) ∈ qG := List.mem_filter.mpr ⟨List.mem_append_right _ (List.mem_of_getElem? (i := 353) (by decide +kernel)), rfl⟩
theorem qw_354 : (Cond.code ⟨"QuietSweep$Outs", "placeOf", "(I)I"⟩ prog_6_method_4_code 1 (Option.some Jvm.ClassFile.FieldType.int)) ∈ qG := List.mem_filter.mpr ⟨List.mem_append_right _ (List.mem_of_getElem? (i := 354) (by decide +kernel)), rfl⟩
theorem qw_355 : (Cond.methodLink "QuietSweep$Outs" 21 ⟨"java/lang/Math", "floorMod", "(II)I"⟩) ∈ qG := List.mem_filter.mpr ⟨List.mem_append_right _ (List.mem_of_getElem? (i := 355) (by decide +kernel)), rfl⟩
theorem qw_356 : (Cond.static ⟨"java/lang/Math", "floorMod", "(II)I"⟩) ∈ qG := List.mem_filter.mpr ⟨List.mem_append_right _ (List.mem_of_getElem? (i := 356) (by decide +kernel)), rfl⟩
theorem qw_357 : (Cond.code ⟨"java/lang/Math", "floorMod", "(II)I"⟩ prog_11_method_50_code 3 (Option.some Jvm.ClassFile.FieldType.int)) ∈ qG := List.mem_filter.mpr ⟨List.mem_append_right _ (List.mem_of_getElem? (i := 357) (by decide +kernel)), rfl⟩
theorem qw_358 : (Cond.methodLink "QuietSweep$Mutator" 64 ⟨"QuietSweep$Mutator", "doWithCells", "(LQuietSweep$Memory;III)Z"⟩) ∈ qG := List.mem_filter.mpr ⟨List.mem_append_right _ (List.mem_of_getElem? (i := 358) (by decide +kernel)), rfl⟩
theorem qw_360 : (Cond.instanceMethod ⟨"QuietSweep$Mutator", "doWithCells", "(LQuietSweep$Memory;III)Z"⟩) ∈ qG := List.mem_filter.mpr ⟨List.mem_append_right _ (List.mem_of_getElem? (i := 360) (by decide +kernel)), rfl⟩
theorem qw_361 : (Cond.code ⟨"QuietSweep$Mutator", "doWithCells", "(LQuietSweep$Memory;III)Z"⟩ prog_5_method_7_code 5 (Option.some Jvm.ClassFile.FieldType.boolean)) ∈ qG := List.mem_filter.mpr ⟨List.mem_append_right _ (List.mem_of_getElem? (i := 361) (by decide +kernel)), rfl⟩
theorem qw_362 : (Cond.methodLink "QuietSweep$Mutator" 68 ⟨"QuietSweep$Mutator", "takeCell", "(LQuietSweep$Memory;I)Z"⟩) ∈ qG := List.mem_filter.mpr ⟨List.mem_append_right _ (List.mem_of_getElem? (i := 362) (by decide +kernel)), rfl⟩
theorem qw_364 : (Cond.instanceMethod ⟨"QuietSweep$Mutator", "takeCell", "(LQuietSweep$Memory;I)Z"⟩) ∈ qG := List.mem_filter.mpr ⟨List.mem_append_right _ (List.mem_of_getElem? (i := 364) (by decide +kernel)), rfl⟩
theorem qw_365 : (Cond.code ⟨"QuietSweep$Mutator", "takeCell", "(LQuietSweep$Memory;I)Z"⟩ prog_5_method_10_code 5 (Option.some Jvm.ClassFile.FieldType.boolean)) ∈ qG := List.mem_filter.mpr ⟨List.mem_append_right _ (List.mem_of_getElem? (i := 365) (by decide +kernel)), rfl⟩
theorem qw_366 : (Cond.methodLink "QuietSweep$Mutator" 87 ⟨"QuietSweep$Memory", "takeFree", "(I)I"⟩) ∈ qG := List.mem_filter.mpr ⟨List.mem_append_right _ (List.mem_of_getElem? (i := 366) (by decide +kernel)), rfl⟩
theorem qw_367 : (Cond.instanceMethod ⟨"QuietSweep$Memory", "takeFree", "(I)I"⟩) ∈ qG := List.mem_filter.mpr ⟨List.mem_append_right _ (List.mem_of_getElem? (i := 367) (by decide +kernel)), rfl⟩
theorem qw_368 : (Cond.selects "QuietSweep$Memory" ⟨"QuietSweep$Memory", "takeFree", "(I)I"⟩ ⟨"QuietSweep$Memory", "takeFree", "(I)I"⟩) ∈ qG := List.mem_filter.mpr ⟨List.mem_append_right _ (List.mem_of_getElem? (i := 368) (by decide +kernel)), rfl⟩
theorem qw_369 : (Cond.code ⟨"QuietSweep$Memory", "takeFree", "(I)I"⟩ prog_4_method_6_code 3 (Option.some Jvm.ClassFile.FieldType.int)) ∈ qG := List.mem_filter.mpr ⟨List.mem_append_right _ (List.mem_of_getElem? (i := 369) (by decide +kernel)), rfl⟩
theorem qw_370 : (Cond.methodLink "QuietSweep$Memory" 26 ⟨"QuietSweep$Memory", "leastOf", "(I)I"⟩) ∈ qG := List.mem_filter.mpr ⟨List.mem_append_right _ (List.mem_of_getElem? (i := 370) (by decide +kernel)), rfl⟩
theorem qw_371 : (Cond.instanceMethod ⟨"QuietSweep$Memory", "leastOf", "(I)I"⟩) ∈ qG := List.mem_filter.mpr ⟨List.mem_append_right _ (List.mem_of_getElem? (i := 371) (by decide +kernel)), rfl⟩
theorem qw_372 : (Cond.selects "QuietSweep$Memory" ⟨"QuietSweep$Memory", "leastOf", "(I)I"⟩ ⟨"QuietSweep$Memory", "leastOf", "(I)I"⟩) ∈ qG := List.mem_filter.mpr ⟨List.mem_append_right _ (List.mem_of_getElem? (i := 372) (by decide +kernel)), rfl⟩
theorem qw_373 : (Cond.code ⟨"QuietSweep$Memory", "leastOf", "(I)I"⟩ prog_4_method_7_code 3 (Option.some Jvm.ClassFile.FieldType.int)) ∈ qG := List.mem_filter.mpr ⟨List.mem_append_right _ (List.mem_of_getElem? (i := 373) (by decide +kernel)), rfl⟩
theorem qw_374 : (Cond.methodLink "QuietSweep$Mutator" 76 ⟨"QuietSweep$Mutator", "store", "(LQuietSweep$Memory;III)Z"⟩) ∈ qG := List.mem_filter.mpr ⟨List.mem_append_right _ (List.mem_of_getElem? (i := 374) (by decide +kernel)), rfl⟩
theorem qw_376 : (Cond.instanceMethod ⟨"QuietSweep$Mutator", "store", "(LQuietSweep$Memory;III)Z"⟩) ∈ qG := List.mem_filter.mpr ⟨List.mem_append_right _ (List.mem_of_getElem? (i := 376) (by decide +kernel)), rfl⟩
theorem qw_377 : (Cond.code ⟨"QuietSweep$Mutator", "store", "(LQuietSweep$Memory;III)Z"⟩ prog_5_method_11_code 5 (Option.some Jvm.ClassFile.FieldType.boolean)) ∈ qG := List.mem_filter.mpr ⟨List.mem_append_right _ (List.mem_of_getElem? (i := 377) (by decide +kernel)), rfl⟩
theorem qw_378 : (Cond.methodLink "QuietSweep$Mutator" 93 ⟨"QuietSweep$Buffer", "isFull", "()Z"⟩) ∈ qG := List.mem_filter.mpr ⟨List.mem_append_right _ (List.mem_of_getElem? (i := 378) (by decide +kernel)), rfl⟩
theorem qw_379 : (Cond.instanceMethod ⟨"QuietSweep$Buffer", "isFull", "()Z"⟩) ∈ qG := List.mem_filter.mpr ⟨List.mem_append_right _ (List.mem_of_getElem? (i := 379) (by decide +kernel)), rfl⟩
theorem qw_380 : (Cond.selects "QuietSweep$Buffer" ⟨"QuietSweep$Buffer", "isFull", "()Z"⟩ ⟨"QuietSweep$Buffer", "isFull", "()Z"⟩) ∈ qG := List.mem_filter.mpr ⟨List.mem_append_right _ (List.mem_of_getElem? (i := 380) (by decide +kernel)), rfl⟩
theorem qw_381 : (Cond.code ⟨"QuietSweep$Buffer", "isFull", "()Z"⟩ prog_2_method_2_code 1 (Option.some Jvm.ClassFile.FieldType.boolean)) ∈ qG := List.mem_filter.mpr ⟨List.mem_append_right _ (List.mem_of_getElem? (i := 381) (by decide +kernel)), rfl⟩
theorem qw_382 : (Cond.methodLink "QuietSweep$Mutator" 97 ⟨"QuietSweep$Memory", "mark", "(I)V"⟩) ∈ qG := List.mem_filter.mpr ⟨List.mem_append_right _ (List.mem_of_getElem? (i := 382) (by decide +kernel)), rfl⟩
theorem qw_383 : (Cond.instanceMethod ⟨"QuietSweep$Memory", "mark", "(I)V"⟩) ∈ qG := List.mem_filter.mpr ⟨List.mem_append_right _ (List.mem_of_getElem? (i := 383) (by decide +kernel)), rfl⟩
theorem qw_384 : (Cond.selects "QuietSweep$Memory" ⟨"QuietSweep$Memory", "mark", "(I)V"⟩ ⟨"QuietSweep$Memory", "mark", "(I)V"⟩) ∈ qG := List.mem_filter.mpr ⟨List.mem_append_right _ (List.mem_of_getElem? (i := 384) (by decide +kernel)), rfl⟩
theorem qw_385 : (Cond.code ⟨"QuietSweep$Memory", "mark", "(I)V"⟩ prog_4_method_5_code 2 (Option.none : Option Jvm.ClassFile.FieldType)) ∈ qG := List.mem_filter.mpr ⟨List.mem_append_right _ (List.mem_of_getElem? (i := 385) (by decide +kernel)), rfl⟩
theorem qw_386 : (Cond.methodLink "QuietSweep$Mutator" 100 ⟨"QuietSweep$Buffer", "add", "(III)V"⟩) ∈ qG := List.mem_filter.mpr ⟨List.mem_append_right _ (List.mem_of_getElem? (i := 386) (by decide +kernel)), rfl⟩
theorem qw_387 : (Cond.instanceMethod ⟨"QuietSweep$Buffer", "add", "(III)V"⟩) ∈ qG := List.mem_filter.mpr ⟨List.mem_append_right _ (List.mem_of_getElem? (i := 387) (by decide +kernel)), rfl⟩
theorem qw_388 : (Cond.selects "QuietSweep$Buffer" ⟨"QuietSweep$Buffer", "add", "(III)V"⟩ ⟨"QuietSweep$Buffer", "add", "(III)V"⟩) ∈ qG := List.mem_filter.mpr ⟨List.mem_append_right _ (List.mem_of_getElem? (i := 388) (by decide +kernel)), rfl⟩
theorem qw_389 : (Cond.code ⟨"QuietSweep$Buffer", "add", "(III)V"⟩ prog_2_method_3_code 4 (Option.none : Option Jvm.ClassFile.FieldType)) ∈ qG := List.mem_filter.mpr ⟨List.mem_append_right _ (List.mem_of_getElem? (i := 389) (by decide +kernel)), rfl⟩
theorem qw_390 : (Cond.methodLink "QuietSweep" 143 ⟨"QuietSweep$Buffer", "passOldest", "(LQuietSweep$Memory;)Z"⟩) ∈ qG := List.mem_filter.mpr ⟨List.mem_append_right _ (List.mem_of_getElem? (i := 390) (by decide +kernel)), rfl⟩
theorem qw_391 : (Cond.instanceMethod ⟨"QuietSweep$Buffer", "passOldest", "(LQuietSweep$Memory;)Z"⟩) ∈ qG := List.mem_filter.mpr ⟨List.mem_append_right _ (List.mem_of_getElem? (i := 391) (by decide +kernel)), rfl⟩
theorem qw_392 : (Cond.selects "QuietSweep$Buffer" ⟨"QuietSweep$Buffer", "passOldest", "(LQuietSweep$Memory;)Z"⟩ ⟨"QuietSweep$Buffer", "passOldest", "(LQuietSweep$Memory;)Z"⟩) ∈ qG := List.mem_filter.mpr ⟨List.mem_append_right _ (List.mem_of_getElem? (i := 392) (by decide +kernel)), rfl⟩
theorem qw_393 : (Cond.code ⟨"QuietSweep$Buffer", "passOldest", "(LQuietSweep$Memory;)Z"⟩ prog_2_method_5_code 3 (Option.some Jvm.ClassFile.FieldType.boolean)) ∈ qG := List.mem_filter.mpr ⟨List.mem_append_right _ (List.mem_of_getElem? (i := 393) (by decide +kernel)), rfl⟩
theorem qw_394 : (Cond.methodLink "QuietSweep$Buffer" 31 ⟨"QuietSweep$Memory", "put", "(III)V"⟩) ∈ qG := List.mem_filter.mpr ⟨List.mem_append_right _ (List.mem_of_getElem? (i := 394) (by decide +kernel)), rfl⟩
theorem qw_395 : (Cond.methodLink "QuietSweep" 146 ⟨"QuietSweep$Collector", "asked", "()I"⟩) ∈ qG := List.mem_filter.mpr ⟨List.mem_append_right _ (List.mem_of_getElem? (i := 395) (by decide +kernel)), rfl⟩
theorem qw_396 : (Cond.instanceMethod ⟨"QuietSweep$Collector", "asked", "()I"⟩) ∈ qG := List.mem_filter.mpr ⟨List.mem_append_right _ (List.mem_of_getElem? (i := 396) (by decide +kernel)), rfl⟩
theorem qw_397 : (Cond.selects "QuietSweep$Collector" ⟨"QuietSweep$Collector", "asked", "()I"⟩ ⟨"QuietSweep$Collector", "asked", "()I"⟩) ∈ qG := List.mem_filter.mpr ⟨List.mem_append_right _ (List.mem_of_getElem? (i := 397) (by decide +kernel)), rfl⟩
theorem qw_398 : (Cond.code ⟨"QuietSweep$Collector", "asked", "()I"⟩ prog_3_method_2_code 1 (Option.some Jvm.ClassFile.FieldType.int)) ∈ qG := List.mem_filter.mpr ⟨List.mem_append_right _ (List.mem_of_getElem? (i := 398) (by decide +kernel)), rfl⟩
theorem qw_399 : (Cond.methodLink "QuietSweep" 149 ⟨"QuietSweep$Mutator", "answer", "(LQuietSweep$Memory;I)Z"⟩) ∈ qG := List.mem_filter.mpr ⟨List.mem_append_right _ (List.mem_of_getElem? (i := 399) (by decide +kernel)), rfl⟩
theorem qw_400 : (Cond.instanceMethod ⟨"QuietSweep$Mutator", "answer", "(LQuietSweep$Memory;I)Z"⟩) ∈ qG := List.mem_filter.mpr ⟨List.mem_append_right _ (List.mem_of_getElem? (i := 400) (by decide +kernel)), rfl⟩
theorem qw_401 : (Cond.selects "QuietSweep$Mutator" ⟨"QuietSweep$Mutator", "answer", "(LQuietSweep$Memory;I)Z"⟩ ⟨"QuietSweep$Mutator", "answer", "(LQuietSweep$Memory;I)Z"⟩) ∈ qG := List.mem_filter.mpr ⟨List.mem_append_right _ (List.mem_of_getElem? (i := 401) (by decide +kernel)), rfl⟩
theorem qw_402 : (Cond.code ⟨"QuietSweep$Mutator", "answer", "(LQuietSweep$Memory;I)Z"⟩ prog_5_method_12_code 4 (Option.some Jvm.ClassFile.FieldType.boolean)) ∈ qG := List.mem_filter.mpr ⟨List.mem_append_right _ (List.mem_of_getElem? (i := 402) (by decide +kernel)), rfl⟩
theorem qw_403 : (Cond.methodLink "QuietSweep$Mutator" 103 ⟨"QuietSweep$Buffer", "passAll", "(LQuietSweep$Memory;)V"⟩) ∈ qG := List.mem_filter.mpr ⟨List.mem_append_right _ (List.mem_of_getElem? (i := 403) (by decide +kernel)), rfl⟩
theorem qw_404 : (Cond.instanceMethod ⟨"QuietSweep$Buffer", "passAll", "(LQuietSweep$Memory;)V"⟩) ∈ qG := List.mem_filter.mpr ⟨List.mem_append_right _ (List.mem_of_getElem? (i := 404) (by decide +kernel)), rfl⟩
theorem qw_405 : (Cond.selects "QuietSweep$Buffer" ⟨"QuietSweep$Buffer", "passAll", "(LQuietSweep$Memory;)V"⟩ ⟨"QuietSweep$Buffer", "passAll", "(LQuietSweep$Memory;)V"⟩) ∈ qG := List.mem_filter.mpr ⟨List.mem_append_right _ (List.mem_of_getElem? (i := 405) (by decide +kernel)), rfl⟩
theorem qw_406 : (Cond.code ⟨"QuietSweep$Buffer", "passAll", "(LQuietSweep$Memory;)V"⟩ prog_2_method_6_code 3 (Option.none : Option Jvm.ClassFile.FieldType)) ∈ qG := List.mem_filter.mpr ⟨List.mem_append_right _ (List.mem_of_getElem? (i := 406) (by decide +kernel)), rfl⟩
theorem qw_407 : (Cond.methodLink "QuietSweep" 153 ⟨"QuietSweep$Collector", "doStep", "(LQuietSweep$Memory;[LQuietSweep$Mutator;)Z"⟩) ∈ qG := List.mem_filter.mpr ⟨List.mem_append_right _ (List.mem_of_getElem? (i := 407) (by decide +kernel)), rfl⟩
theorem qw_408 : (Cond.instanceMethod ⟨"QuietSweep$Collector", "doStep", "(LQuietSweep$Memory;[LQuietSweep$Mutator;)Z"⟩) ∈ qG := List.mem_filter.mpr ⟨List.mem_append_right _ (List.mem_of_getElem? (i := 408) (by decide +kernel)), rfl⟩
theorem qw_409 : (Cond.selects "QuietSweep$Collector" ⟨"QuietSweep$Collector", "doStep", "(LQuietSweep$Memory;[LQuietSweep$Mutator;)Z"⟩ ⟨"QuietSweep$Collector", "doStep", "(LQuietSweep$Memory;[LQuietSweep$Mutator;)Z"⟩) ∈ qG := List.mem_filter.mpr ⟨List.mem_append_right _ (List.mem_of_getElem? (i := 409) (by decide +kernel)), rfl⟩
theorem qw_410 : (Cond.code ⟨"QuietSweep$Collector", "doStep", "(LQuietSweep$Memory;[LQuietSweep$Mutator;)Z"⟩ prog_3_method_3_code 3 (Option.some Jvm.ClassFile.FieldType.boolean)) ∈ qG := List.mem_filter.mpr ⟨List.mem_append_right _ (List.mem_of_getElem? (i := 410) (by decide +kernel)), rfl⟩
theorem qw_411 : (Cond.methodLink "QuietSweep$Collector" 24 ⟨"QuietSweep$Memory", "whitenUsed", "()V"⟩) ∈ qG := List.mem_filter.mpr ⟨List.mem_append_right _ (List.mem_of_getElem? (i := 411) (by decide +kernel)), rfl⟩
theorem qw_412 : (Cond.instanceMethod ⟨"QuietSweep$Memory", "whitenUsed", "()V"⟩) ∈ qG := List.mem_filter.mpr ⟨List.mem_append_right _ (List.mem_of_getElem? (i := 412) (by decide +kernel)), rfl⟩
theorem qw_413 : (Cond.selects "QuietSweep$Memory" ⟨"QuietSweep$Memory", "whitenUsed", "()V"⟩ ⟨"QuietSweep$Memory", "whitenUsed", "()V"⟩) ∈ qG := List.mem_filter.mpr ⟨List.mem_append_right _ (List.mem_of_getElem? (i := 413) (by decide +kernel)), rfl⟩
theorem qw_414 : (Cond.code ⟨"QuietSweep$Memory", "whitenUsed", "()V"⟩ prog_4_method_9_code 2 (Option.none : Option Jvm.ClassFile.FieldType)) ∈ qG := List.mem_filter.mpr ⟨List.mem_append_right _ (List.mem_of_getElem? (i := 414) (by decide +kernel)), rfl⟩
theorem qw_415 : (Cond.methodLink "QuietSweep$Collector" 29 ⟨"QuietSweep$Collector", "trace", "(LQuietSweep$Memory;)V"⟩) ∈ qG := List.mem_filter.mpr ⟨List.mem_append_right _ (List.mem_of_getElem? (i := 415) (by decide +kernel)), rfl⟩
theorem qw_417 : (Cond.instanceMethod ⟨"QuietSweep$Collector", "trace", "(LQuietSweep$Memory;)V"⟩) ∈ qG := List.mem_filter.mpr ⟨List.mem_append_right _ (List.mem_of_getElem? (i := 417) (by decide +kernel)), rfl⟩
theorem qw_418 : (Cond.code ⟨"QuietSweep$Collector", "trace", "(LQuietSweep$Memory;)V"⟩ prog_3_method_5_code 2 (Option.none : Option Jvm.ClassFile.FieldType)) ∈ qG := List.mem_filter.mpr ⟨List.mem_append_right _ (List.mem_of_getElem? (i := 418) (by decide +kernel)), rfl⟩
theorem qw_419 : (Cond.methodLink "QuietSweep$Collector" 49 ⟨"QuietSweep$Memory", "read", "(II)I"⟩) ∈ qG := List.mem_filter.mpr ⟨List.mem_append_right _ (List.mem_of_getElem? (i := 419) (by decide +kernel)), rfl⟩
theorem qw_420 : (Cond.methodLink "QuietSweep$Collector" 53 ⟨"QuietSweep$Memory", "mark", "(I)V"⟩) ∈ qG := List.mem_filter.mpr ⟨List.mem_append_right _ (List.mem_of_getElem? (i := 420) (by decide +kernel)), rfl⟩
theorem qw_421 : (Cond.methodLink "QuietSweep$Collector" 61 ⟨"QuietSweep$Memory", "leastOf", "(I)I"⟩) ∈ qG := List.mem_filter.mpr ⟨List.mem_append_right _ (List.mem_of_getElem? (i := 421) (by decide +kernel)), rfl⟩
theorem qw_422 : (Cond.methodLink "QuietSweep$Collector" 33 ⟨"QuietSweep$Collector", "sweep", "(LQuietSweep$Memory;)V"⟩) ∈ qG := List.mem_filter.mpr ⟨List.mem_append_right _ (List.mem_of_getElem? (i := 422) (by decide +kernel)), rfl⟩
theorem qw_424 : (Cond.instanceMethod ⟨"QuietSweep$Collector", "sweep", "(LQuietSweep$Memory;)V"⟩) ∈ qG := List.mem_filter.mpr ⟨List.mem_append_right _ (List.mem_of_getElem? (i := 424) (by decide +kernel)), rfl⟩
theorem qw_425 : (Cond.code ⟨"QuietSweep$Collector", "sweep", "(LQuietSweep$Memory;)V"⟩ prog_3_method_6_code 2 (Option.none : Option Jvm.ClassFile.FieldType)) ∈ qG := List.mem_filter.mpr ⟨List.mem_append_right _ (List.mem_of_getElem? (i := 425) (by decide +kernel)), rfl⟩
theorem qw_426 : (Cond.methodLink "QuietSweep$Collector" 36 ⟨"QuietSweep$Collector", "passIfAnswered", "([LQuietSweep$Mutator;)Z"⟩) ∈ qG := List.mem_filter.mpr ⟨List.mem_append_right _ (List.mem_of_getElem? (i := 426) (by decide +kernel)), rfl⟩
theorem qw_428 : (Cond.instanceMethod ⟨"QuietSweep$Collector", "passIfAnswered", "([LQuietSweep$Mutator;)Z"⟩) ∈ qG := List.mem_filter.mpr ⟨List.mem_append_right _ (List.mem_of_getElem? (i := 428) (by decide +kernel)), rfl⟩
theorem qw_429 : (Cond.code ⟨"QuietSweep$Collector", "passIfAnswered", "([LQuietSweep$Mutator;)Z"⟩ prog_3_method_4_code 3 (Option.some Jvm.ClassFile.FieldType.boolean)) ∈ qG := List.mem_filter.mpr ⟨List.mem_append_right _ (List.mem_of_getElem? (i := 429) (by decide +kernel)), rfl⟩
theorem qw_430 : (Cond.methodLink "QuietSweep$Collector" 45 ⟨"QuietSweep$Collector", "asked", "()I"⟩) ∈ qG := List.mem_filter.mpr ⟨List.mem_append_right _ (List.mem_of_getElem? (i := 430) (by decide +kernel)), rfl⟩
theorem qw_431 : (Cond.methodLink "QuietSweepLaw" 36 ⟨"QuietSweep", "repeat", "(II)I"⟩) ∈ qG := List.mem_filter.mpr ⟨List.mem_append_right _ (List.mem_of_getElem? (i := 431) (by decide +kernel)), rfl⟩
theorem qw_432 : (Cond.instanceMethod ⟨"QuietSweep", "repeat", "(II)I"⟩) ∈ qG := List.mem_filter.mpr ⟨List.mem_append_right _ (List.mem_of_getElem? (i := 432) (by decide +kernel)), rfl⟩
theorem qw_433 : (Cond.selects "QuietSweep" ⟨"QuietSweep", "repeat", "(II)I"⟩ ⟨"QuietSweep", "repeat", "(II)I"⟩) ∈ qG := List.mem_filter.mpr ⟨List.mem_append_right _ (List.mem_of_getElem? (i := 433) (by decide +kernel)), rfl⟩
theorem qw_434 : (Cond.code ⟨"QuietSweep", "repeat", "(II)I"⟩ prog_1_method_5_code 5 (Option.some Jvm.ClassFile.FieldType.int)) ∈ qG := List.mem_filter.mpr ⟨List.mem_append_right _ (List.mem_of_getElem? (i := 434) (by decide +kernel)), rfl⟩
theorem qw_435 : (Cond.methodLink "QuietSweepLaw" 40 ⟨"QuietSweep", "code", "(II)I"⟩) ∈ qG := List.mem_filter.mpr ⟨List.mem_append_right _ (List.mem_of_getElem? (i := 435) (by decide +kernel)), rfl⟩
theorem qw_436 : (Cond.instanceMethod ⟨"QuietSweep", "code", "(II)I"⟩) ∈ qG := List.mem_filter.mpr ⟨List.mem_append_right _ (List.mem_of_getElem? (i := 436) (by decide +kernel)), rfl⟩
theorem qw_437 : (Cond.selects "QuietSweep" ⟨"QuietSweep", "code", "(II)I"⟩ ⟨"QuietSweep", "code", "(II)I"⟩) ∈ qG := List.mem_filter.mpr ⟨List.mem_append_right _ (List.mem_of_getElem? (i := 437) (by decide +kernel)), rfl⟩
theorem qw_438 : (Cond.code ⟨"QuietSweep", "code", "(II)I"⟩ prog_1_method_6_code 3 (Option.some Jvm.ClassFile.FieldType.int)) ∈ qG := List.mem_filter.mpr ⟨List.mem_append_right _ (List.mem_of_getElem? (i := 438) (by decide +kernel)), rfl⟩
theorem qw_439 : (Cond.methodLink "QuietSweep" 69 ⟨"QuietSweep$Mutator", "instructionAt", "(I)I"⟩) ∈ qG := List.mem_filter.mpr ⟨List.mem_append_right _ (List.mem_of_getElem? (i := 439) (by decide +kernel)), rfl⟩
theorem qw_440 : (Cond.instanceMethod ⟨"QuietSweep$Mutator", "instructionAt", "(I)I"⟩) ∈ qG := List.mem_filter.mpr ⟨List.mem_append_right _ (List.mem_of_getElem? (i := 440) (by decide +kernel)), rfl⟩
theorem qw_441 : (Cond.selects "QuietSweep$Mutator" ⟨"QuietSweep$Mutator", "instructionAt", "(I)I"⟩ ⟨"QuietSweep$Mutator", "instructionAt", "(I)I"⟩) ∈ qG := List.mem_filter.mpr ⟨List.mem_append_right _ (List.mem_of_getElem? (i := 441) (by decide +kernel)), rfl⟩
theorem qw_442 : (Cond.code ⟨"QuietSweep$Mutator", "instructionAt", "(I)I"⟩ prog_5_method_3_code 2 (Option.some Jvm.ClassFile.FieldType.int)) ∈ qG := List.mem_filter.mpr ⟨List.mem_append_right _ (List.mem_of_getElem? (i := 442) (by decide +kernel)), rfl⟩
theorem qw_443 : (Cond.methodLink "QuietSweepLaw" 44 ⟨"QuietSweep", "position", "(I)I"⟩) ∈ qG := List.mem_filter.mpr ⟨List.mem_append_right _ (List.mem_of_getElem? (i := 443) (by decide +kernel)), rfl⟩
theorem qw_444 : (Cond.instanceMethod ⟨"QuietSweep", "position", "(I)I"⟩) ∈ qG := List.mem_filter.mpr ⟨List.mem_append_right _ (List.mem_of_getElem? (i := 444) (by decide +kernel)), rfl⟩
theorem qw_445 : (Cond.selects "QuietSweep" ⟨"QuietSweep", "position", "(I)I"⟩ ⟨"QuietSweep", "position", "(I)I"⟩) ∈ qG := List.mem_filter.mpr ⟨List.mem_append_right _ (List.mem_of_getElem? (i := 445) (by decide +kernel)), rfl⟩
theorem qw_446 : (Cond.code ⟨"QuietSweep", "position", "(I)I"⟩ prog_1_method_7_code 2 (Option.some Jvm.ClassFile.FieldType.int)) ∈ qG := List.mem_filter.mpr ⟨List.mem_append_right _ (List.mem_of_getElem? (i := 446) (by decide +kernel)), rfl⟩
theorem qw_447 : (Cond.methodLink "QuietSweepLaw" 48 ⟨"QuietSweep", "variable", "(II)I"⟩) ∈ qG := List.mem_filter.mpr ⟨List.mem_append_right _ (List.mem_of_getElem? (i := 447) (by decide +kernel)), rfl⟩
theorem qw_448 : (Cond.instanceMethod ⟨"QuietSweep", "variable", "(II)I"⟩) ∈ qG := List.mem_filter.mpr ⟨List.mem_append_right _ (List.mem_of_getElem? (i := 448) (by decide +kernel)), rfl⟩
theorem qw_449 : (Cond.selects "QuietSweep" ⟨"QuietSweep", "variable", "(II)I"⟩ ⟨"QuietSweep", "variable", "(II)I"⟩) ∈ qG := List.mem_filter.mpr ⟨List.mem_append_right _ (List.mem_of_getElem? (i := 449) (by decide +kernel)), rfl⟩
theorem qw_450 : (Cond.code ⟨"QuietSweep", "variable", "(II)I"⟩ prog_1_method_8_code 3 (Option.some Jvm.ClassFile.FieldType.int)) ∈ qG := List.mem_filter.mpr ⟨List.mem_append_right _ (List.mem_of_getElem? (i := 450) (by decide +kernel)), rfl⟩
theorem qw_451 : (Cond.methodLink "QuietSweep" 76 ⟨"QuietSweep$Mutator", "variableAt", "(I)I"⟩) ∈ qG := List.mem_filter.mpr ⟨List.mem_append_right _ (List.mem_of_getElem? (i := 451) (by decide +kernel)), rfl⟩
theorem qw_452 : (Cond.instanceMethod ⟨"QuietSweep$Mutator", "variableAt", "(I)I"⟩) ∈ qG := List.mem_filter.mpr ⟨List.mem_append_right _ (List.mem_of_getElem? (i := 452) (by decide +kernel)), rfl⟩
theorem qw_453 : (Cond.selects "QuietSweep$Mutator" ⟨"QuietSweep$Mutator", "variableAt", "(I)I"⟩ ⟨"QuietSweep$Mutator", "variableAt", "(I)I"⟩) ∈ qG := List.mem_filter.mpr ⟨List.mem_append_right _ (List.mem_of_getElem? (i := 453) (by decide +kernel)), rfl⟩
theorem qw_454 : (Cond.code ⟨"QuietSweep$Mutator", "variableAt", "(I)I"⟩ prog_5_method_4_code 2 (Option.some Jvm.ClassFile.FieldType.int)) ∈ qG := List.mem_filter.mpr ⟨List.mem_append_right _ (List.mem_of_getElem? (i := 454) (by decide +kernel)), rfl⟩
theorem qw_455 : (Cond.methodLink "QuietSweepLaw" 52 ⟨"QuietSweep", "status", "(I)I"⟩) ∈ qG := List.mem_filter.mpr ⟨List.mem_append_right _ (List.mem_of_getElem? (i := 455) (by decide +kernel)), rfl⟩
theorem qw_456 : (Cond.instanceMethod ⟨"QuietSweep", "status", "(I)I"⟩) ∈ qG := List.mem_filter.mpr ⟨List.mem_append_right _ (List.mem_of_getElem? (i := 456) (by decide +kernel)), rfl⟩
theorem qw_457 : (Cond.selects "QuietSweep" ⟨"QuietSweep", "status", "(I)I"⟩ ⟨"QuietSweep", "status", "(I)I"⟩) ∈ qG := List.mem_filter.mpr ⟨List.mem_append_right _ (List.mem_of_getElem? (i := 457) (by decide +kernel)), rfl⟩
theorem qw_458 : (Cond.code ⟨"QuietSweep", "status", "(I)I"⟩ prog_1_method_9_code 2 (Option.some Jvm.ClassFile.FieldType.int)) ∈ qG := List.mem_filter.mpr ⟨List.mem_append_right _ (List.mem_of_getElem? (i := 458) (by decide +kernel)), rfl⟩
theorem qw_459 : (Cond.methodLink "QuietSweepLaw" 56 ⟨"QuietSweep", "buffered", "(I)I"⟩) ∈ qG := List.mem_filter.mpr ⟨List.mem_append_right _ (List.mem_of_getElem? (i := 459) (by decide +kernel)), rfl⟩
theorem qw_460 : (Cond.instanceMethod ⟨"QuietSweep", "buffered", "(I)I"⟩) ∈ qG := List.mem_filter.mpr ⟨List.mem_append_right _ (List.mem_of_getElem? (i := 460) (by decide +kernel)), rfl⟩
theorem qw_461 : (Cond.selects "QuietSweep" ⟨"QuietSweep", "buffered", "(I)I"⟩ ⟨"QuietSweep", "buffered", "(I)I"⟩) ∈ qG := List.mem_filter.mpr ⟨List.mem_append_right _ (List.mem_of_getElem? (i := 461) (by decide +kernel)), rfl⟩
theorem qw_462 : (Cond.code ⟨"QuietSweep", "buffered", "(I)I"⟩ prog_1_method_10_code 2 (Option.some Jvm.ClassFile.FieldType.int)) ∈ qG := List.mem_filter.mpr ⟨List.mem_append_right _ (List.mem_of_getElem? (i := 462) (by decide +kernel)), rfl⟩
theorem qw_463 : (Cond.methodLink "QuietSweepLaw" 60 ⟨"QuietSweep", "stalls", "(I)I"⟩) ∈ qG := List.mem_filter.mpr ⟨List.mem_append_right _ (List.mem_of_getElem? (i := 463) (by decide +kernel)), rfl⟩
theorem qw_464 : (Cond.instanceMethod ⟨"QuietSweep", "stalls", "(I)I"⟩) ∈ qG := List.mem_filter.mpr ⟨List.mem_append_right _ (List.mem_of_getElem? (i := 464) (by decide +kernel)), rfl⟩
theorem qw_465 : (Cond.selects "QuietSweep" ⟨"QuietSweep", "stalls", "(I)I"⟩ ⟨"QuietSweep", "stalls", "(I)I"⟩) ∈ qG := List.mem_filter.mpr ⟨List.mem_append_right _ (List.mem_of_getElem? (i := 465) (by decide +kernel)), rfl⟩
theorem qw_466 : (Cond.code ⟨"QuietSweep", "stalls", "(I)I"⟩ prog_1_method_11_code 2 (Option.some Jvm.ClassFile.FieldType.int)) ∈ qG := List.mem_filter.mpr ⟨List.mem_append_right _ (List.mem_of_getElem? (i := 466) (by decide +kernel)), rfl⟩
theorem qw_467 : (Cond.methodLink "QuietSweepLaw" 64 ⟨"QuietSweep", "outputs", "(I)I"⟩) ∈ qG := List.mem_filter.mpr ⟨List.mem_append_right _ (List.mem_of_getElem? (i := 467) (by decide +kernel)), rfl⟩
theorem qw_468 : (Cond.instanceMethod ⟨"QuietSweep", "outputs", "(I)I"⟩) ∈ qG := List.mem_filter.mpr ⟨List.mem_append_right _ (List.mem_of_getElem? (i := 468) (by decide +kernel)), rfl⟩
theorem qw_469 : (Cond.selects "QuietSweep" ⟨"QuietSweep", "outputs", "(I)I"⟩ ⟨"QuietSweep", "outputs", "(I)I"⟩) ∈ qG := List.mem_filter.mpr ⟨List.mem_append_right _ (List.mem_of_getElem? (i := 469) (by decide +kernel)), rfl⟩
theorem qw_470 : (Cond.code ⟨"QuietSweep", "outputs", "(I)I"⟩ prog_1_method_12_code 2 (Option.some Jvm.ClassFile.FieldType.int)) ∈ qG := List.mem_filter.mpr ⟨List.mem_append_right _ (List.mem_of_getElem? (i := 470) (by decide +kernel)), rfl⟩
theorem qw_471 : (Cond.methodLink "QuietSweepLaw" 68 ⟨"QuietSweep", "output", "(II)I"⟩) ∈ qG := List.mem_filter.mpr ⟨List.mem_append_right _ (List.mem_of_getElem? (i := 471) (by decide +kernel)), rfl⟩
theorem qw_472 : (Cond.instanceMethod ⟨"QuietSweep", "output", "(II)I"⟩) ∈ qG := List.mem_filter.mpr ⟨List.mem_append_right _ (List.mem_of_getElem? (i := 472) (by decide +kernel)), rfl⟩
theorem qw_473 : (Cond.selects "QuietSweep" ⟨"QuietSweep", "output", "(II)I"⟩ ⟨"QuietSweep", "output", "(II)I"⟩) ∈ qG := List.mem_filter.mpr ⟨List.mem_append_right _ (List.mem_of_getElem? (i := 473) (by decide +kernel)), rfl⟩
theorem qw_474 : (Cond.code ⟨"QuietSweep", "output", "(II)I"⟩ prog_1_method_13_code 3 (Option.some Jvm.ClassFile.FieldType.int)) ∈ qG := List.mem_filter.mpr ⟨List.mem_append_right _ (List.mem_of_getElem? (i := 474) (by decide +kernel)), rfl⟩
theorem qw_475 : (Cond.methodLink "QuietSweep" 101 ⟨"QuietSweep$Outs", "latest", "(I)I"⟩) ∈ qG := List.mem_filter.mpr ⟨List.mem_append_right _ (List.mem_of_getElem? (i := 475) (by decide +kernel)), rfl⟩
theorem qw_476 : (Cond.instanceMethod ⟨"QuietSweep$Outs", "latest", "(I)I"⟩) ∈ qG := List.mem_filter.mpr ⟨List.mem_append_right _ (List.mem_of_getElem? (i := 476) (by decide +kernel)), rfl⟩
theorem qw_477 : (Cond.selects "QuietSweep$Outs" ⟨"QuietSweep$Outs", "latest", "(I)I"⟩ ⟨"QuietSweep$Outs", "latest", "(I)I"⟩) ∈ qG := List.mem_filter.mpr ⟨List.mem_append_right _ (List.mem_of_getElem? (i := 477) (by decide +kernel)), rfl⟩
theorem qw_478 : (Cond.code ⟨"QuietSweep$Outs", "latest", "(I)I"⟩ prog_6_method_3_code 2 (Option.some Jvm.ClassFile.FieldType.int)) ∈ qG := List.mem_filter.mpr ⟨List.mem_append_right _ (List.mem_of_getElem? (i := 478) (by decide +kernel)), rfl⟩
theorem qw_479 : (Cond.methodLink "QuietSweepLaw" 72 ⟨"QuietSweep", "colour", "(I)I"⟩) ∈ qG := List.mem_filter.mpr ⟨List.mem_append_right _ (List.mem_of_getElem? (i := 479) (by decide +kernel)), rfl⟩
theorem qw_480 : (Cond.instanceMethod ⟨"QuietSweep", "colour", "(I)I"⟩) ∈ qG := List.mem_filter.mpr ⟨List.mem_append_right _ (List.mem_of_getElem? (i := 480) (by decide +kernel)), rfl⟩
theorem qw_481 : (Cond.selects "QuietSweep" ⟨"QuietSweep", "colour", "(I)I"⟩ ⟨"QuietSweep", "colour", "(I)I"⟩) ∈ qG := List.mem_filter.mpr ⟨List.mem_append_right _ (List.mem_of_getElem? (i := 481) (by decide +kernel)), rfl⟩
theorem qw_482 : (Cond.code ⟨"QuietSweep", "colour", "(I)I"⟩ prog_1_method_14_code 2 (Option.some Jvm.ClassFile.FieldType.int)) ∈ qG := List.mem_filter.mpr ⟨List.mem_append_right _ (List.mem_of_getElem? (i := 482) (by decide +kernel)), rfl⟩
theorem qw_483 : (Cond.methodLink "QuietSweep" 104 ⟨"QuietSweep$Memory", "isCell", "(I)Z"⟩) ∈ qG := List.mem_filter.mpr ⟨List.mem_append_right _ (List.mem_of_getElem? (i := 483) (by decide +kernel)), rfl⟩
theorem qw_484 : (Cond.instanceMethod ⟨"QuietSweep$Memory", "isCell", "(I)Z"⟩) ∈ qG := List.mem_filter.mpr ⟨List.mem_append_right _ (List.mem_of_getElem? (i := 484) (by decide +kernel)), rfl⟩
theorem qw_485 : (Cond.selects "QuietSweep$Memory" ⟨"QuietSweep$Memory", "isCell", "(I)Z"⟩ ⟨"QuietSweep$Memory", "isCell", "(I)Z"⟩) ∈ qG := List.mem_filter.mpr ⟨List.mem_append_right _ (List.mem_of_getElem? (i := 485) (by decide +kernel)), rfl⟩
theorem qw_486 : (Cond.code ⟨"QuietSweep$Memory", "isCell", "(I)Z"⟩ prog_4_method_2_code 2 (Option.some Jvm.ClassFile.FieldType.boolean)) ∈ qG := List.mem_filter.mpr ⟨List.mem_append_right _ (List.mem_of_getElem? (i := 486) (by decide +kernel)), rfl⟩
theorem qw_487 : (Cond.methodLink "QuietSweepLaw" 76 ⟨"QuietSweep", "field", "(II)I"⟩) ∈ qG := List.mem_filter.mpr ⟨List.mem_append_right _ (List.mem_of_getElem? (i := 487) (by decide +kernel)), rfl⟩
theorem qw_488 : (Cond.instanceMethod ⟨"QuietSweep", "field", "(II)I"⟩) ∈ qG := List.mem_filter.mpr ⟨List.mem_append_right _ (List.mem_of_getElem? (i := 488) (by decide +kernel)), rfl⟩
theorem qw_489 : (Cond.selects "QuietSweep" ⟨"QuietSweep", "field", "(II)I"⟩ ⟨"QuietSweep", "field", "(II)I"⟩) ∈ qG := List.mem_filter.mpr ⟨List.mem_append_right _ (List.mem_of_getElem? (i := 489) (by decide +kernel)), rfl⟩
theorem qw_490 : (Cond.code ⟨"QuietSweep", "field", "(II)I"⟩ prog_1_method_15_code 3 (Option.some Jvm.ClassFile.FieldType.int)) ∈ qG := List.mem_filter.mpr ⟨List.mem_append_right _ (List.mem_of_getElem? (i := 490) (by decide +kernel)), rfl⟩
theorem qw_491 : (Cond.methodLink "QuietSweep" 110 ⟨"QuietSweep", "isField", "(I)Z"⟩) ∈ qG := List.mem_filter.mpr ⟨List.mem_append_right _ (List.mem_of_getElem? (i := 491) (by decide +kernel)), rfl⟩
theorem qw_492 : (Cond.static ⟨"QuietSweep", "isField", "(I)Z"⟩) ∈ qG := List.mem_filter.mpr ⟨List.mem_append_right _ (List.mem_of_getElem? (i := 492) (by decide +kernel)), rfl⟩
theorem qw_493 : (Cond.code ⟨"QuietSweep", "isField", "(I)Z"⟩ prog_1_method_25_code 1 (Option.some Jvm.ClassFile.FieldType.boolean)) ∈ qG := List.mem_filter.mpr ⟨List.mem_append_right _ (List.mem_of_getElem? (i := 493) (by decide +kernel)), rfl⟩
theorem qw_494 : (Cond.methodLink "QuietSweep" 113 ⟨"QuietSweep$Memory", "read", "(II)I"⟩) ∈ qG := List.mem_filter.mpr ⟨List.mem_append_right _ (List.mem_of_getElem? (i := 494) (by decide +kernel)), rfl⟩
theorem qw_495 : (Cond.methodLink "QuietSweepLaw" 80 ⟨"QuietSweep", "seen", "(III)I"⟩) ∈ qG := List.mem_filter.mpr ⟨List.mem_append_right _ (List.mem_of_getElem? (i := 495) (by decide +kernel)), rfl⟩
theorem qw_496 : (Cond.instanceMethod ⟨"QuietSweep", "seen", "(III)I"⟩) ∈ qG := List.mem_filter.mpr ⟨List.mem_append_right _ (List.mem_of_getElem? (i := 496) (by decide +kernel)), rfl⟩
theorem qw_497 : (Cond.selects "QuietSweep" ⟨"QuietSweep", "seen", "(III)I"⟩ ⟨"QuietSweep", "seen", "(III)I"⟩) ∈ qG := List.mem_filter.mpr ⟨List.mem_append_right _ (List.mem_of_getElem? (i := 497) (by decide +kernel)), rfl⟩
theorem qw_498 : (Cond.code ⟨"QuietSweep", "seen", "(III)I"⟩ prog_1_method_16_code 4 (Option.some Jvm.ClassFile.FieldType.int)) ∈ qG := List.mem_filter.mpr ⟨List.mem_append_right _ (List.mem_of_getElem? (i := 498) (by decide +kernel)), rfl⟩
theorem qw_499 : (Cond.methodLink "QuietSweep" 117 ⟨"QuietSweep$Buffer", "look", "(LQuietSweep$Memory;II)I"⟩) ∈ qG := List.mem_filter.mpr ⟨List.mem_append_right _ (List.mem_of_getElem? (i := 499) (by decide +kernel)), rfl⟩
theorem qw_500 : (Cond.methodLink "QuietSweepLaw" 85 ⟨"QuietSweep", "phase", "()I"⟩) ∈ qG := List.mem_filter.mpr ⟨List.mem_append_right _ (List.mem_of_getElem? (i := 500) (by decide +kernel)), rfl⟩
theorem qw_501 : (Cond.instanceMethod ⟨"QuietSweep", "phase", "()I"⟩) ∈ qG := List.mem_filter.mpr ⟨List.mem_append_right _ (List.mem_of_getElem? (i := 501) (by decide +kernel)), rfl⟩
theorem qw_502 : (Cond.selects "QuietSweep" ⟨"QuietSweep", "phase", "()I"⟩ ⟨"QuietSweep", "phase", "()I"⟩) ∈ qG := List.mem_filter.mpr ⟨List.mem_append_right _ (List.mem_of_getElem? (i := 502) (by decide +kernel)), rfl⟩
theorem qw_503 : (Cond.code ⟨"QuietSweep", "phase", "()I"⟩ prog_1_method_17_code 1 (Option.some Jvm.ClassFile.FieldType.int)) ∈ qG := List.mem_filter.mpr ⟨List.mem_append_right _ (List.mem_of_getElem? (i := 503) (by decide +kernel)), rfl⟩
theorem qw_504 : (Cond.methodLink "QuietSweepLaw" 90 ⟨"QuietSweep", "cycles", "()I"⟩) ∈ qG := List.mem_filter.mpr ⟨List.mem_append_right _ (List.mem_of_getElem? (i := 504) (by decide +kernel)), rfl⟩
theorem qw_505 : (Cond.instanceMethod ⟨"QuietSweep", "cycles", "()I"⟩) ∈ qG := List.mem_filter.mpr ⟨List.mem_append_right _ (List.mem_of_getElem? (i := 505) (by decide +kernel)), rfl⟩
theorem qw_506 : (Cond.selects "QuietSweep" ⟨"QuietSweep", "cycles", "()I"⟩ ⟨"QuietSweep", "cycles", "()I"⟩) ∈ qG := List.mem_filter.mpr ⟨List.mem_append_right _ (List.mem_of_getElem? (i := 506) (by decide +kernel)), rfl⟩
theorem qw_507 : (Cond.code ⟨"QuietSweep", "cycles", "()I"⟩ prog_1_method_18_code 1 (Option.some Jvm.ClassFile.FieldType.int)) ∈ qG := List.mem_filter.mpr ⟨List.mem_append_right _ (List.mem_of_getElem? (i := 507) (by decide +kernel)), rfl⟩
theorem qw_508 : (Cond.methodLink "QuietSweepLaw" 94 ⟨"QuietSweep", "free", "()I"⟩) ∈ qG := List.mem_filter.mpr ⟨List.mem_append_right _ (List.mem_of_getElem? (i := 508) (by decide +kernel)), rfl⟩
theorem qw_509 : (Cond.instanceMethod ⟨"QuietSweep", "free", "()I"⟩) ∈ qG := List.mem_filter.mpr ⟨List.mem_append_right _ (List.mem_of_getElem? (i := 509) (by decide +kernel)), rfl⟩
theorem qw_510 : (Cond.selects "QuietSweep" ⟨"QuietSweep", "free", "()I"⟩ ⟨"QuietSweep", "free", "()I"⟩) ∈ qG := List.mem_filter.mpr ⟨List.mem_append_right _ (List.mem_of_getElem? (i := 510) (by decide +kernel)), rfl⟩
theorem qw_511 : (Cond.code ⟨"QuietSweep", "free", "()I"⟩ prog_1_method_19_code 1 (Option.some Jvm.ClassFile.FieldType.int)) ∈ qG := List.mem_filter.mpr ⟨List.mem_append_right _ (List.mem_of_getElem? (i := 511) (by decide +kernel)), rfl⟩
theorem qw_512 : (Cond.methodLink "QuietSweep" 127 ⟨"QuietSweep$Memory", "countOf", "(I)I"⟩) ∈ qG := List.mem_filter.mpr ⟨List.mem_append_right _ (List.mem_of_getElem? (i := 512) (by decide +kernel)), rfl⟩
theorem qw_513 : (Cond.instanceMethod ⟨"QuietSweep$Memory", "countOf", "(I)I"⟩) ∈ qG := List.mem_filter.mpr ⟨List.mem_append_right _ (List.mem_of_getElem? (i := 513) (by decide +kernel)), rfl⟩
theorem qw_514 : (Cond.selects "QuietSweep$Memory" ⟨"QuietSweep$Memory", "countOf", "(I)I"⟩ ⟨"QuietSweep$Memory", "countOf", "(I)I"⟩) ∈ qG := List.mem_filter.mpr ⟨List.mem_append_right _ (List.mem_of_getElem? (i := 514) (by decide +kernel)), rfl⟩
theorem qw_515 : (Cond.code ⟨"QuietSweep$Memory", "countOf", "(I)I"⟩ prog_4_method_8_code 4 (Option.some Jvm.ClassFile.FieldType.int)) ∈ qG := List.mem_filter.mpr ⟨List.mem_append_right _ (List.mem_of_getElem? (i := 515) (by decide +kernel)), rfl⟩
theorem qw_516 : (Cond.methodLink "QuietSweepLaw" 98 ⟨"QuietSweep", "reached", "()I"⟩) ∈ qG := List.mem_filter.mpr ⟨List.mem_append_right _ (List.mem_of_getElem? (i := 516) (by decide +kernel)), rfl⟩
theorem qw_517 : (Cond.instanceMethod ⟨"QuietSweep", "reached", "()I"⟩) ∈ qG := List.mem_filter.mpr ⟨List.mem_append_right _ (List.mem_of_getElem? (i := 517) (by decide +kernel)), rfl⟩
theorem qw_518 : (Cond.selects "QuietSweep" ⟨"QuietSweep", "reached", "()I"⟩ ⟨"QuietSweep", "reached", "()I"⟩) ∈ qG := List.mem_filter.mpr ⟨List.mem_append_right _ (List.mem_of_getElem? (i := 518) (by decide +kernel)), rfl⟩
theorem qw_519 : (Cond.code ⟨"QuietSweep", "reached", "()I"⟩ prog_1_method_20_code 1 (Option.some Jvm.ClassFile.FieldType.int)) ∈ qG := List.mem_filter.mpr ⟨List.mem_append_right _ (List.mem_of_getElem? (i := 519) (by decide +kernel)), rfl⟩
theorem qw_520 : (Cond.methodLink "QuietSweep" 130 ⟨"QuietSweep", "reachedSet", "()I"⟩) ∈ qG := List.mem_filter.mpr ⟨List.mem_append_right _ (List.mem_of_getElem? (i := 520) (by decide +kernel)), rfl⟩
theorem qw_522 : (Cond.instanceMethod ⟨"QuietSweep", "reachedSet", "()I"⟩) ∈ qG := List.mem_filter.mpr ⟨List.mem_append_right _ (List.mem_of_getElem? (i := 522) (by decide +kernel)), rfl⟩
theorem qw_523 : (Cond.code ⟨"QuietSweep", "reachedSet", "()I"⟩ prog_1_method_23_code 3 (Option.some Jvm.ClassFile.FieldType.int)) ∈ qG := List.mem_filter.mpr ⟨List.mem_append_right _ (List.mem_of_getElem? (i := 523) (by decide +kernel)), rfl⟩
theorem qw_524 : (Cond.methodLink "QuietSweep" 157 ⟨"QuietSweep$Mutator", "rootSet", "()I"⟩) ∈ qG := List.mem_filter.mpr ⟨List.mem_append_right _ (List.mem_of_getElem? (i := 524) (by decide +kernel)), rfl⟩
theorem qw_525 : (Cond.instanceMethod ⟨"QuietSweep$Mutator", "rootSet", "()I"⟩) ∈ qG := List.mem_filter.mpr ⟨List.mem_append_right _ (List.mem_of_getElem? (i := 525) (by decide +kernel)), rfl⟩
theorem qw_526 : (Cond.selects "QuietSweep$Mutator" ⟨"QuietSweep$Mutator", "rootSet", "()I"⟩ ⟨"QuietSweep$Mutator", "rootSet", "()I"⟩) ∈ qG := List.mem_filter.mpr ⟨List.mem_append_right _ (List.mem_of_getElem? (i := 526) (by decide +kernel)), rfl⟩
theorem qw_527 : (Cond.code ⟨"QuietSweep$Mutator", "rootSet", "()I"⟩ prog_5_method_13_code 3 (Option.some Jvm.ClassFile.FieldType.int)) ∈ qG := List.mem_filter.mpr ⟨List.mem_append_right _ (List.mem_of_getElem? (i := 527) (by decide +kernel)), rfl⟩
theorem qw_528 : (Cond.methodLink "QuietSweep$Mutator" 107 ⟨"QuietSweep$Buffer", "rootSet", "()I"⟩) ∈ qG := List.mem_filter.mpr ⟨List.mem_append_right _ (List.mem_of_getElem? (i := 528) (by decide +kernel)), rfl⟩
theorem qw_529 : (Cond.instanceMethod ⟨"QuietSweep$Buffer", "rootSet", "()I"⟩) ∈ qG := List.mem_filter.mpr ⟨List.mem_append_right _ (List.mem_of_getElem? (i := 529) (by decide +kernel)), rfl⟩
theorem qw_530 : (Cond.selects "QuietSweep$Buffer" ⟨"QuietSweep$Buffer", "rootSet", "()I"⟩ ⟨"QuietSweep$Buffer", "rootSet", "()I"⟩) ∈ qG := List.mem_filter.mpr ⟨List.mem_append_right _ (List.mem_of_getElem? (i := 530) (by decide +kernel)), rfl⟩
theorem qw_531 : (Cond.code ⟨"QuietSweep$Buffer", "rootSet", "()I"⟩ prog_2_method_7_code 3 (Option.some Jvm.ClassFile.FieldType.int)) ∈ qG := List.mem_filter.mpr ⟨List.mem_append_right _ (List.mem_of_getElem? (i := 531) (by decide +kernel)), rfl⟩
theorem qx_532 : (Cond.methodLinkNest "QuietSweep$Buffer" 35 ⟨"QuietSweep", "setOf", "(I)I"⟩ "QuietSweep") ∈ lw_tbl := List.mem_append_right _ (List.mem_of_getElem? (i := 532) (by decide +kernel))
theorem qw_533 : (Cond.static ⟨"QuietSweep", "setOf", "(I)I"⟩) ∈ qG := List.mem_filter.mpr ⟨List.mem_append_right _ (List.mem_of_getElem? (i := 533) (by decide +kernel)), rfl⟩
theorem qw_534 : (Cond.code ⟨"QuietSweep", "setOf", "(I)I"⟩ prog_1_method_26_code 1 (Option.some Jvm.ClassFile.FieldType.int)) ∈ qG := List.mem_filter.mpr ⟨List.mem_append_right _ (List.mem_of_getElem? (i := 534) (by decide +kernel)), rfl⟩
theorem qx_535 : (Cond.methodLinkNest "QuietSweep$Mutator" 111 ⟨"QuietSweep", "setOf", "(I)I"⟩ "QuietSweep") ∈ lw_tbl := List.mem_append_right _ (List.mem_of_getElem? (i := 535) (by decide +kernel))
theorem qw_536 : (Cond.methodLink "QuietSweep" 160 ⟨"QuietSweep$Memory", "closure", "(I)I"⟩) ∈ qG := List.mem_filter.mpr ⟨List.mem_append_right _ (List.mem_of_getElem? (i := 536) (by decide +kernel)), rfl⟩
theorem qw_537 : (Cond.instanceMethod ⟨"QuietSweep$Memory", "closure", "(I)I"⟩) ∈ qG := List.mem_filter.mpr ⟨List.mem_append_right _ (List.mem_of_getElem? (i := 537) (by decide +kernel)), rfl⟩
theorem qw_538 : (Cond.selects "QuietSweep$Memory" ⟨"QuietSweep$Memory", "closure", "(I)I"⟩ ⟨"QuietSweep$Memory", "closure", "(I)I"⟩) ∈ qG := List.mem_filter.mpr ⟨List.mem_append_right _ (List.mem_of_getElem? (i := 538) (by decide +kernel)), rfl⟩
theorem qw_539 : (Cond.code ⟨"QuietSweep$Memory", "closure", "(I)I"⟩ prog_4_method_10_code 5 (Option.some Jvm.ClassFile.FieldType.int)) ∈ qG := List.mem_filter.mpr ⟨List.mem_append_right _ (List.mem_of_getElem? (i := 539) (by decide +kernel)), rfl⟩
theorem qw_540 : (Cond.methodLink "QuietSweep$Memory" 30 ⟨"QuietSweep$Memory", "read", "(II)I"⟩) ∈ qG := List.mem_filter.mpr ⟨List.mem_append_right _ (List.mem_of_getElem? (i := 540) (by decide +kernel)), rfl⟩
theorem qx_541 : (Cond.methodLinkNest "QuietSweep$Memory" 34 ⟨"QuietSweep", "setOf", "(I)I"⟩ "QuietSweep") ∈ lw_tbl := List.mem_append_right _ (List.mem_of_getElem? (i := 541) (by decide +kernel))
theorem qw_542 : (Cond.methodLink "QuietSweep" 134 ⟨"java/lang/Integer", "bitCount", "(I)I"⟩) ∈ qG := List.mem_filter.mpr ⟨List.mem_append_right _ (List.mem_of_getElem? (i := 542) (by decide +kernel)), rfl⟩
theorem qw_543 : (Cond.static ⟨"java/lang/Integer", "bitCount", "(I)I"⟩) ∈ qG := List.mem_filter.mpr ⟨List.mem_append_right _ (List.mem_of_getElem? (i := 543) (by decide +kernel)), rfl⟩
theorem qw_544 : (Cond.code ⟨"java/lang/Integer", "bitCount", "(I)I"⟩ prog_10_method_49_code 1 (Option.some Jvm.ClassFile.FieldType.int)) ∈ qG := List.mem_filter.mpr ⟨List.mem_append_right _ (List.mem_of_getElem? (i := 544) (by decide +kernel)), rfl⟩
theorem qw_545 : (Cond.constant "java/lang/Integer" 265 1431655765) ∈ qG := List.mem_filter.mpr ⟨List.mem_append_right _ (List.mem_of_getElem? (i := 545) (by decide +kernel)), rfl⟩
theorem qw_546 : (Cond.constant "java/lang/Integer" 266 858993459) ∈ qG := List.mem_filter.mpr ⟨List.mem_append_right _ (List.mem_of_getElem? (i := 546) (by decide +kernel)), rfl⟩
theorem qw_547 : (Cond.constant "java/lang/Integer" 267 252645135) ∈ qG := List.mem_filter.mpr ⟨List.mem_append_right _ (List.mem_of_getElem? (i := 547) (by decide +kernel)), rfl⟩
theorem qw_548 : (Cond.methodLink "QuietSweepLaw" 102 ⟨"QuietSweep", "reaches", "(I)Z"⟩) ∈ qG := List.mem_filter.mpr ⟨List.mem_append_right _ (List.mem_of_getElem? (i := 548) (by decide +kernel)), rfl⟩
theorem qw_549 : (Cond.instanceMethod ⟨"QuietSweep", "reaches", "(I)Z"⟩) ∈ qG := List.mem_filter.mpr ⟨List.mem_append_right _ (List.mem_of_getElem? (i := 549) (by decide +kernel)), rfl⟩
theorem qw_550 : (Cond.selects "QuietSweep" ⟨"QuietSweep", "reaches", "(I)Z"⟩ ⟨"QuietSweep", "reaches", "(I)Z"⟩) ∈ qG := List.mem_filter.mpr ⟨List.mem_append_right _ (List.mem_of_getElem? (i := 550) (by decide +kernel)), rfl⟩
theorem qw_551 : (Cond.code ⟨"QuietSweep", "reaches", "(I)Z"⟩ prog_1_method_21_code 2 (Option.some Jvm.ClassFile.FieldType.boolean)) ∈ qG := List.mem_filter.mpr ⟨List.mem_append_right _ (List.mem_of_getElem? (i := 551) (by decide +kernel)), rfl⟩
theorem qw_552 : (Cond.methodLink "QuietSweepLaw" 9 ⟨"QuietSweepLaw", "cell", "([II)I"⟩) ∈ qG := List.mem_filter.mpr ⟨List.mem_append_right _ (List.mem_of_getElem? (i := 552) (by decide +kernel)), rfl⟩
theorem qw_553 : (Cond.static ⟨"QuietSweepLaw", "cell", "([II)I"⟩) ∈ qG := List.mem_filter.mpr ⟨List.mem_append_right _ (List.mem_of_getElem? (i := 553) (by decide +kernel)), rfl⟩
theorem qw_554 : (Cond.code ⟨"QuietSweepLaw", "cell", "([II)I"⟩ method_2_code 2 (Option.some Jvm.ClassFile.FieldType.int)) ∈ qG := List.mem_filter.mpr ⟨List.mem_append_right _ (List.mem_of_getElem? (i := 554) (by decide +kernel)), rfl⟩
theorem qw_555 : (Cond.classLink "QuietSweepLaw" 18 "QuietSweepModel") ∈ qG := List.mem_filter.mpr ⟨List.mem_append_right _ (List.mem_of_getElem? (i := 555) (by decide +kernel)), rfl⟩
theorem qw_556 : (Cond.instantiable "QuietSweepModel" 32) ∈ qG := List.mem_filter.mpr ⟨List.mem_append_right _ (List.mem_of_getElem? (i := 556) (by decide +kernel)), rfl⟩
theorem qw_557 : (Cond.methodLink "QuietSweepLaw" 20 ⟨"QuietSweepModel", "<init>", "(I)V"⟩) ∈ qG := List.mem_filter.mpr ⟨List.mem_append_right _ (List.mem_of_getElem? (i := 557) (by decide +kernel)), rfl⟩
theorem qw_558 : (Cond.instanceMethod ⟨"QuietSweepModel", "<init>", "(I)V"⟩) ∈ qG := List.mem_filter.mpr ⟨List.mem_append_right _ (List.mem_of_getElem? (i := 558) (by decide +kernel)), rfl⟩
theorem qw_559 : (Cond.code ⟨"QuietSweepModel", "<init>", "(I)V"⟩ prog_9_method_1_code 4 (Option.none : Option Jvm.ClassFile.FieldType)) ∈ qG := List.mem_filter.mpr ⟨List.mem_append_right _ (List.mem_of_getElem? (i := 559) (by decide +kernel)), rfl⟩
theorem qw_560 : (Cond.methodLink "QuietSweepModel" 1 ⟨"java/lang/Object", "<init>", "()V"⟩) ∈ qG := List.mem_filter.mpr ⟨List.mem_append_right _ (List.mem_of_getElem? (i := 560) (by decide +kernel)), rfl⟩
theorem qw_561 : (Cond.fieldLink "QuietSweepModel" 88 "QuietSweepModel" "cells" "I") ∈ qG := List.mem_filter.mpr ⟨List.mem_append_right _ (List.mem_of_getElem? (i := 561) (by decide +kernel)), rfl⟩
theorem qw_562 : (Cond.fieldLink "QuietSweepModel" 7 "QuietSweepModel" "text" "[C") ∈ qG := List.mem_filter.mpr ⟨List.mem_append_right _ (List.mem_of_getElem? (i := 562) (by decide +kernel)), rfl⟩
theorem qw_563 : (Cond.fieldLink "QuietSweepModel" 91 "QuietSweepModel" "size" "I") ∈ qG := List.mem_filter.mpr ⟨List.mem_append_right _ (List.mem_of_getElem? (i := 563) (by decide +kernel)), rfl⟩
theorem qw_564 : (Cond.fieldLink "QuietSweepModel" 13 "QuietSweepModel" "newKind" "[I") ∈ qG := List.mem_filter.mpr ⟨List.mem_append_right _ (List.mem_of_getElem? (i := 564) (by decide +kernel)), rfl⟩
theorem qw_565 : (Cond.fieldLink "QuietSweepModel" 17 "QuietSweepModel" "newP" "[I") ∈ qG := List.mem_filter.mpr ⟨List.mem_append_right _ (List.mem_of_getElem? (i := 565) (by decide +kernel)), rfl⟩
theorem qw_566 : (Cond.fieldLink "QuietSweepModel" 20 "QuietSweepModel" "newQ" "[I") ∈ qG := List.mem_filter.mpr ⟨List.mem_append_right _ (List.mem_of_getElem? (i := 566) (by decide +kernel)), rfl⟩
theorem qw_567 : (Cond.fieldLink "QuietSweepModel" 23 "QuietSweepModel" "newT" "[I") ∈ qG := List.mem_filter.mpr ⟨List.mem_append_right _ (List.mem_of_getElem? (i := 567) (by decide +kernel)), rfl⟩
theorem qw_568 : (Cond.fieldLink "QuietSweepModel" 98 "QuietSweepModel" "length" "I") ∈ qG := List.mem_filter.mpr ⟨List.mem_append_right _ (List.mem_of_getElem? (i := 568) (by decide +kernel)), rfl⟩
theorem qw_569 : (Cond.fieldLink "QuietSweepModel" 26 "QuietSweepModel" "open" "[I") ∈ qG := List.mem_filter.mpr ⟨List.mem_append_right _ (List.mem_of_getElem? (i := 569) (by decide +kernel)), rfl⟩
theorem qw_570 : (Cond.fieldLink "QuietSweepModel" 101 "QuietSweepModel" "depth" "I") ∈ qG := List.mem_filter.mpr ⟨List.mem_append_right _ (List.mem_of_getElem? (i := 570) (by decide +kernel)), rfl⟩
theorem qw_571 : (Cond.fieldLink "QuietSweepModel" 29 "QuietSweepModel" "count" "[I") ∈ qG := List.mem_filter.mpr ⟨List.mem_append_right _ (List.mem_of_getElem? (i := 571) (by decide +kernel)), rfl⟩
theorem qw_572 : (Cond.fieldLink "QuietSweepModel" 32 "QuietSweepModel" "kind" "[I") ∈ qG := List.mem_filter.mpr ⟨List.mem_append_right _ (List.mem_of_getElem? (i := 572) (by decide +kernel)), rfl⟩
theorem qw_573 : (Cond.fieldLink "QuietSweepModel" 35 "QuietSweepModel" "argP" "[I") ∈ qG := List.mem_filter.mpr ⟨List.mem_append_right _ (List.mem_of_getElem? (i := 573) (by decide +kernel)), rfl⟩
theorem qw_574 : (Cond.fieldLink "QuietSweepModel" 38 "QuietSweepModel" "argQ" "[I") ∈ qG := List.mem_filter.mpr ⟨List.mem_append_right _ (List.mem_of_getElem? (i := 574) (by decide +kernel)), rfl⟩
theorem qw_575 : (Cond.fieldLink "QuietSweepModel" 41 "QuietSweepModel" "argT" "[I") ∈ qG := List.mem_filter.mpr ⟨List.mem_append_right _ (List.mem_of_getElem? (i := 575) (by decide +kernel)), rfl⟩
theorem qw_576 : (Cond.fieldLink "QuietSweepModel" 44 "QuietSweepModel" "position" "[I") ∈ qG := List.mem_filter.mpr ⟨List.mem_append_right _ (List.mem_of_getElem? (i := 576) (by decide +kernel)), rfl⟩
theorem qw_577 : (Cond.fieldLink "QuietSweepModel" 47 "QuietSweepModel" "variable" "[I") ∈ qG := List.mem_filter.mpr ⟨List.mem_append_right _ (List.mem_of_getElem? (i := 577) (by decide +kernel)), rfl⟩
theorem qw_578 : (Cond.fieldLink "QuietSweepModel" 50 "QuietSweepModel" "status" "[I") ∈ qG := List.mem_filter.mpr ⟨List.mem_append_right _ (List.mem_of_getElem? (i := 578) (by decide +kernel)), rfl⟩
theorem qw_579 : (Cond.fieldLink "QuietSweepModel" 53 "QuietSweepModel" "stalls" "[I") ∈ qG := List.mem_filter.mpr ⟨List.mem_append_right _ (List.mem_of_getElem? (i := 579) (by decide +kernel)), rfl⟩
theorem qw_580 : (Cond.fieldLink "QuietSweepModel" 56 "QuietSweepModel" "stores" "[I") ∈ qG := List.mem_filter.mpr ⟨List.mem_append_right _ (List.mem_of_getElem? (i := 580) (by decide +kernel)), rfl⟩
theorem qw_581 : (Cond.fieldLink "QuietSweepModel" 59 "QuietSweepModel" "storeCell" "[I") ∈ qG := List.mem_filter.mpr ⟨List.mem_append_right _ (List.mem_of_getElem? (i := 581) (by decide +kernel)), rfl⟩
theorem qw_582 : (Cond.fieldLink "QuietSweepModel" 62 "QuietSweepModel" "storeField" "[I") ∈ qG := List.mem_filter.mpr ⟨List.mem_append_right _ (List.mem_of_getElem? (i := 582) (by decide +kernel)), rfl⟩
theorem qw_583 : (Cond.fieldLink "QuietSweepModel" 65 "QuietSweepModel" "storeValue" "[I") ∈ qG := List.mem_filter.mpr ⟨List.mem_append_right _ (List.mem_of_getElem? (i := 583) (by decide +kernel)), rfl⟩
theorem qw_584 : (Cond.fieldLink "QuietSweepModel" 68 "QuietSweepModel" "outs" "[I") ∈ qG := List.mem_filter.mpr ⟨List.mem_append_right _ (List.mem_of_getElem? (i := 584) (by decide +kernel)), rfl⟩
theorem qw_585 : (Cond.fieldLink "QuietSweepModel" 71 "QuietSweepModel" "out" "[I") ∈ qG := List.mem_filter.mpr ⟨List.mem_append_right _ (List.mem_of_getElem? (i := 585) (by decide +kernel)), rfl⟩
theorem qw_586 : (Cond.fieldLink "QuietSweepModel" 74 "QuietSweepModel" "colour" "[I") ∈ qG := List.mem_filter.mpr ⟨List.mem_append_right _ (List.mem_of_getElem? (i := 586) (by decide +kernel)), rfl⟩
theorem qw_587 : (Cond.fieldLink "QuietSweepModel" 77 "QuietSweepModel" "memory" "[I") ∈ qG := List.mem_filter.mpr ⟨List.mem_append_right _ (List.mem_of_getElem? (i := 587) (by decide +kernel)), rfl⟩
theorem qw_588 : (Cond.fieldLink "QuietSweepModel" 158 "QuietSweepModel" "phase" "I") ∈ qG := List.mem_filter.mpr ⟨List.mem_append_right _ (List.mem_of_getElem? (i := 588) (by decide +kernel)), rfl⟩
theorem qw_589 : (Cond.fieldLink "QuietSweepModel" 80 "QuietSweepModel" "half" "I") ∈ qG := List.mem_filter.mpr ⟨List.mem_append_right _ (List.mem_of_getElem? (i := 589) (by decide +kernel)), rfl⟩
theorem qw_590 : (Cond.fieldLink "QuietSweepModel" 174 "QuietSweepModel" "sweep" "I") ∈ qG := List.mem_filter.mpr ⟨List.mem_append_right _ (List.mem_of_getElem? (i := 590) (by decide +kernel)), rfl⟩
theorem qw_591 : (Cond.fieldLink "QuietSweepModel" 168 "QuietSweepModel" "cycles" "I") ∈ qG := List.mem_filter.mpr ⟨List.mem_append_right _ (List.mem_of_getElem? (i := 591) (by decide +kernel)), rfl⟩
theorem qw_592 : (Cond.fieldLink "QuietSweepModel" 84 "QuietSweepModel" "held" "[Z") ∈ qG := List.mem_filter.mpr ⟨List.mem_append_right _ (List.mem_of_getElem? (i := 592) (by decide +kernel)), rfl⟩
theorem qw_593 : (Cond.laysFinal "QuietSweepModel" "QuietSweepModel" "cells" "I") ∈ qG := List.mem_filter.mpr ⟨List.mem_append_right _ (List.mem_of_getElem? (i := 593) (by decide +kernel)), rfl⟩
theorem qw_595 : (Cond.laysFinal "QuietSweepModel" "QuietSweepModel" "text" "[C") ∈ qG := List.mem_filter.mpr ⟨List.mem_append_right _ (List.mem_of_getElem? (i := 595) (by decide +kernel)), rfl⟩
theorem qw_597 : (Cond.lays "QuietSweepModel" "QuietSweepModel" "size" "I") ∈ qG := List.mem_filter.mpr ⟨List.mem_append_right _ (List.mem_of_getElem? (i := 597) (by decide +kernel)), rfl⟩
theorem qw_599 : (Cond.laysFinal "QuietSweepModel" "QuietSweepModel" "newKind" "[I") ∈ qG := List.mem_filter.mpr ⟨List.mem_append_right _ (List.mem_of_getElem? (i := 599) (by decide +kernel)), rfl⟩
theorem qw_601 : (Cond.laysFinal "QuietSweepModel" "QuietSweepModel" "newP" "[I") ∈ qG := List.mem_filter.mpr ⟨List.mem_append_right _ (List.mem_of_getElem? (i := 601) (by decide +kernel)), rfl⟩
theorem qw_603 : (Cond.laysFinal "QuietSweepModel" "QuietSweepModel" "newQ" "[I") ∈ qG := List.mem_filter.mpr ⟨List.mem_append_right _ (List.mem_of_getElem? (i := 603) (by decide +kernel)), rfl⟩
theorem qw_605 : (Cond.laysFinal "QuietSweepModel" "QuietSweepModel" "newT" "[I") ∈ qG := List.mem_filter.mpr ⟨List.mem_append_right _ (List.mem_of_getElem? (i := 605) (by decide +kernel)), rfl⟩
theorem qw_607 : (Cond.lays "QuietSweepModel" "QuietSweepModel" "length" "I") ∈ qG := List.mem_filter.mpr ⟨List.mem_append_right _ (List.mem_of_getElem? (i := 607) (by decide +kernel)), rfl⟩
theorem qw_609 : (Cond.laysFinal "QuietSweepModel" "QuietSweepModel" "open" "[I") ∈ qG := List.mem_filter.mpr ⟨List.mem_append_right _ (List.mem_of_getElem? (i := 609) (by decide +kernel)), rfl⟩
theorem qw_611 : (Cond.lays "QuietSweepModel" "QuietSweepModel" "depth" "I") ∈ qG := List.mem_filter.mpr ⟨List.mem_append_right _ (List.mem_of_getElem? (i := 611) (by decide +kernel)), rfl⟩
theorem qw_613 : (Cond.laysFinal "QuietSweepModel" "QuietSweepModel" "count" "[I") ∈ qG := List.mem_filter.mpr ⟨List.mem_append_right _ (List.mem_of_getElem? (i := 613) (by decide +kernel)), rfl⟩
theorem qw_615 : (Cond.laysFinal "QuietSweepModel" "QuietSweepModel" "kind" "[I") ∈ qG := List.mem_filter.mpr ⟨List.mem_append_right _ (List.mem_of_getElem? (i := 615) (by decide +kernel)), rfl⟩
theorem qw_617 : (Cond.laysFinal "QuietSweepModel" "QuietSweepModel" "argP" "[I") ∈ qG := List.mem_filter.mpr ⟨List.mem_append_right _ (List.mem_of_getElem? (i := 617) (by decide +kernel)), rfl⟩
theorem qw_619 : (Cond.laysFinal "QuietSweepModel" "QuietSweepModel" "argQ" "[I") ∈ qG := List.mem_filter.mpr ⟨List.mem_append_right _ (List.mem_of_getElem? (i := 619) (by decide +kernel)), rfl⟩
theorem qw_621 : (Cond.laysFinal "QuietSweepModel" "QuietSweepModel" "argT" "[I") ∈ qG := List.mem_filter.mpr ⟨List.mem_append_right _ (List.mem_of_getElem? (i := 621) (by decide +kernel)), rfl⟩
theorem qw_623 : (Cond.laysFinal "QuietSweepModel" "QuietSweepModel" "position" "[I") ∈ qG := List.mem_filter.mpr ⟨List.mem_append_right _ (List.mem_of_getElem? (i := 623) (by decide +kernel)), rfl⟩
theorem qw_625 : (Cond.laysFinal "QuietSweepModel" "QuietSweepModel" "variable" "[I") ∈ qG := List.mem_filter.mpr ⟨List.mem_append_right _ (List.mem_of_getElem? (i := 625) (by decide +kernel)), rfl⟩
theorem qw_627 : (Cond.laysFinal "QuietSweepModel" "QuietSweepModel" "status" "[I") ∈ qG := List.mem_filter.mpr ⟨List.mem_append_right _ (List.mem_of_getElem? (i := 627) (by decide +kernel)), rfl⟩
theorem qw_629 : (Cond.laysFinal "QuietSweepModel" "QuietSweepModel" "stalls" "[I") ∈ qG := List.mem_filter.mpr ⟨List.mem_append_right _ (List.mem_of_getElem? (i := 629) (by decide +kernel)), rfl⟩
theorem qw_631 : (Cond.laysFinal "QuietSweepModel" "QuietSweepModel" "stores" "[I") ∈ qG := List.mem_filter.mpr ⟨List.mem_append_right _ (List.mem_of_getElem? (i := 631) (by decide +kernel)), rfl⟩
theorem qw_633 : (Cond.laysFinal "QuietSweepModel" "QuietSweepModel" "storeCell" "[I") ∈ qG := List.mem_filter.mpr ⟨List.mem_append_right _ (List.mem_of_getElem? (i := 633) (by decide +kernel)), rfl⟩
theorem qw_635 : (Cond.laysFinal "QuietSweepModel" "QuietSweepModel" "storeField" "[I") ∈ qG := List.mem_filter.mpr ⟨List.mem_append_right _ (List.mem_of_getElem? (i := 635) (by decide +kernel)), rfl⟩
theorem qw_637 : (Cond.laysFinal "QuietSweepModel" "QuietSweepModel" "storeValue" "[I") ∈ qG := List.mem_filter.mpr ⟨List.mem_append_right _ (List.mem_of_getElem? (i := 637) (by decide +kernel)), rfl⟩
theorem qw_639 : (Cond.laysFinal "QuietSweepModel" "QuietSweepModel" "outs" "[I") ∈ qG := List.mem_filter.mpr ⟨List.mem_append_right _ (List.mem_of_getElem? (i := 639) (by decide +kernel)), rfl⟩
theorem qw_641 : (Cond.laysFinal "QuietSweepModel" "QuietSweepModel" "out" "[I") ∈ qG := List.mem_filter.mpr ⟨List.mem_append_right _ (List.mem_of_getElem? (i := 641) (by decide +kernel)), rfl⟩
theorem qw_643 : (Cond.laysFinal "QuietSweepModel" "QuietSweepModel" "colour" "[I") ∈ qG := List.mem_filter.mpr ⟨List.mem_append_right _ (List.mem_of_getElem? (i := 643) (by decide +kernel)), rfl⟩
theorem qw_645 : (Cond.laysFinal "QuietSweepModel" "QuietSweepModel" "memory" "[I") ∈ qG := List.mem_filter.mpr ⟨List.mem_append_right _ (List.mem_of_getElem? (i := 645) (by decide +kernel)), rfl⟩
theorem qw_647 : (Cond.lays "QuietSweepModel" "QuietSweepModel" "phase" "I") ∈ qG := List.mem_filter.mpr ⟨List.mem_append_right _ (List.mem_of_getElem? (i := 647) (by decide +kernel)), rfl⟩
theorem qw_649 : (Cond.lays "QuietSweepModel" "QuietSweepModel" "half" "I") ∈ qG := List.mem_filter.mpr ⟨List.mem_append_right _ (List.mem_of_getElem? (i := 649) (by decide +kernel)), rfl⟩
theorem qw_651 : (Cond.lays "QuietSweepModel" "QuietSweepModel" "sweep" "I") ∈ qG := List.mem_filter.mpr ⟨List.mem_append_right _ (List.mem_of_getElem? (i := 651) (by decide +kernel)), rfl⟩
theorem qw_653 : (Cond.lays "QuietSweepModel" "QuietSweepModel" "cycles" "I") ∈ qG := List.mem_filter.mpr ⟨List.mem_append_right _ (List.mem_of_getElem? (i := 653) (by decide +kernel)), rfl⟩
theorem qw_655 : (Cond.laysFinal "QuietSweepModel" "QuietSweepModel" "held" "[Z") ∈ qG := List.mem_filter.mpr ⟨List.mem_append_right _ (List.mem_of_getElem? (i := 655) (by decide +kernel)), rfl⟩
theorem qw_658 : (Cond.arrayClass Jvm.ClassFile.FieldType.boolean) ∈ qG := List.mem_filter.mpr ⟨List.mem_append_right _ (List.mem_of_getElem? (i := 658) (by decide +kernel)), rfl⟩
theorem qw_659 : (Cond.methodLink "QuietSweepLaw" 25 ⟨"QuietSweepModel", "write", "(C)Z"⟩) ∈ qG := List.mem_filter.mpr ⟨List.mem_append_right _ (List.mem_of_getElem? (i := 659) (by decide +kernel)), rfl⟩
theorem qw_660 : (Cond.instanceMethod ⟨"QuietSweepModel", "write", "(C)Z"⟩) ∈ qG := List.mem_filter.mpr ⟨List.mem_append_right _ (List.mem_of_getElem? (i := 660) (by decide +kernel)), rfl⟩
theorem qw_661 : (Cond.selects "QuietSweepModel" ⟨"QuietSweepModel", "write", "(C)Z"⟩ ⟨"QuietSweepModel", "write", "(C)Z"⟩) ∈ qG := List.mem_filter.mpr ⟨List.mem_append_right _ (List.mem_of_getElem? (i := 661) (by decide +kernel)), rfl⟩
theorem qw_662 : (Cond.code ⟨"QuietSweepModel", "write", "(C)Z"⟩ prog_9_method_2_code 2 (Option.some Jvm.ClassFile.FieldType.boolean)) ∈ qG := List.mem_filter.mpr ⟨List.mem_append_right _ (List.mem_of_getElem? (i := 662) (by decide +kernel)), rfl⟩
theorem qw_663 : (Cond.methodLink "QuietSweepLaw" 30 ⟨"QuietSweepModel", "load", "(I)I"⟩) ∈ qG := List.mem_filter.mpr ⟨List.mem_append_right _ (List.mem_of_getElem? (i := 663) (by decide +kernel)), rfl⟩
theorem qw_664 : (Cond.instanceMethod ⟨"QuietSweepModel", "load", "(I)I"⟩) ∈ qG := List.mem_filter.mpr ⟨List.mem_append_right _ (List.mem_of_getElem? (i := 664) (by decide +kernel)), rfl⟩
theorem qw_665 : (Cond.selects "QuietSweepModel" ⟨"QuietSweepModel", "load", "(I)I"⟩ ⟨"QuietSweepModel", "load", "(I)I"⟩) ∈ qG := List.mem_filter.mpr ⟨List.mem_append_right _ (List.mem_of_getElem? (i := 665) (by decide +kernel)), rfl⟩
theorem qw_666 : (Cond.code ⟨"QuietSweepModel", "load", "(I)I"⟩ prog_9_method_13_code 4 (Option.some Jvm.ClassFile.FieldType.int)) ∈ qG := List.mem_filter.mpr ⟨List.mem_append_right _ (List.mem_of_getElem? (i := 666) (by decide +kernel)), rfl⟩
theorem qw_667 : (Cond.methodLink "QuietSweepModel" 128 ⟨"QuietSweepModel", "isMutator", "(I)Z"⟩) ∈ qG := List.mem_filter.mpr ⟨List.mem_append_right _ (List.mem_of_getElem? (i := 667) (by decide +kernel)), rfl⟩
theorem qw_668 : (Cond.static ⟨"QuietSweepModel", "isMutator", "(I)Z"⟩) ∈ qG := List.mem_filter.mpr ⟨List.mem_append_right _ (List.mem_of_getElem? (i := 668) (by decide +kernel)), rfl⟩
theorem qw_669 : (Cond.code ⟨"QuietSweepModel", "isMutator", "(I)Z"⟩ prog_9_method_12_code 1 (Option.some Jvm.ClassFile.FieldType.boolean)) ∈ qG := List.mem_filter.mpr ⟨List.mem_append_right _ (List.mem_of_getElem? (i := 669) (by decide +kernel)), rfl⟩
theorem qw_670 : (Cond.methodLink "QuietSweepModel" 132 ⟨"QuietSweepModel", "read", "()Z"⟩) ∈ qG := List.mem_filter.mpr ⟨List.mem_append_right _ (List.mem_of_getElem? (i := 670) (by decide +kernel)), rfl⟩
theorem qw_672 : (Cond.instanceMethod ⟨"QuietSweepModel", "read", "()Z"⟩) ∈ qG := List.mem_filter.mpr ⟨List.mem_append_right _ (List.mem_of_getElem? (i := 672) (by decide +kernel)), rfl⟩
theorem qw_673 : (Cond.code ⟨"QuietSweepModel", "read", "()Z"⟩ prog_9_method_7_code 3 (Option.some Jvm.ClassFile.FieldType.boolean)) ∈ qG := List.mem_filter.mpr ⟨List.mem_append_right _ (List.mem_of_getElem? (i := 673) (by decide +kernel)), rfl⟩
theorem qw_674 : (Cond.methodLink "QuietSweepModel" 104 ⟨"QuietSweepModel", "loop", "(I)I"⟩) ∈ qG := List.mem_filter.mpr ⟨List.mem_append_right _ (List.mem_of_getElem? (i := 674) (by decide +kernel)), rfl⟩
theorem qw_676 : (Cond.instanceMethod ⟨"QuietSweepModel", "loop", "(I)I"⟩) ∈ qG := List.mem_filter.mpr ⟨List.mem_append_right _ (List.mem_of_getElem? (i := 676) (by decide +kernel)), rfl⟩
theorem qw_677 : (Cond.code ⟨"QuietSweepModel", "loop", "(I)I"⟩ prog_9_method_8_code 3 (Option.some Jvm.ClassFile.FieldType.int)) ∈ qG := List.mem_filter.mpr ⟨List.mem_append_right _ (List.mem_of_getElem? (i := 677) (by decide +kernel)), rfl⟩
theorem qw_678 : (Cond.methodLink "QuietSweepModel" 94 ⟨"QuietSweepModel", "at", "(I)C"⟩) ∈ qG := List.mem_filter.mpr ⟨List.mem_append_right _ (List.mem_of_getElem? (i := 678) (by decide +kernel)), rfl⟩
theorem qw_680 : (Cond.instanceMethod ⟨"QuietSweepModel", "at", "(I)C"⟩) ∈ qG := List.mem_filter.mpr ⟨List.mem_append_right _ (List.mem_of_getElem? (i := 680) (by decide +kernel)), rfl⟩
theorem qw_681 : (Cond.code ⟨"QuietSweepModel", "at", "(I)C"⟩ prog_9_method_3_code 2 (Option.some Jvm.ClassFile.FieldType.char)) ∈ qG := List.mem_filter.mpr ⟨List.mem_append_right _ (List.mem_of_getElem? (i := 681) (by decide +kernel)), rfl⟩
theorem qw_682 : (Cond.methodLink "QuietSweepModel" 114 ⟨"QuietSweepModel", "intVariable", "(I)I"⟩) ∈ qG := List.mem_filter.mpr ⟨List.mem_append_right _ (List.mem_of_getElem? (i := 682) (by decide +kernel)), rfl⟩
theorem qw_684 : (Cond.instanceMethod ⟨"QuietSweepModel", "intVariable", "(I)I"⟩) ∈ qG := List.mem_filter.mpr ⟨List.mem_append_right _ (List.mem_of_getElem? (i := 684) (by decide +kernel)), rfl⟩
theorem qw_685 : (Cond.code ⟨"QuietSweepModel", "intVariable", "(I)I"⟩ prog_9_method_5_code 3 (Option.some Jvm.ClassFile.FieldType.int)) ∈ qG := List.mem_filter.mpr ⟨List.mem_append_right _ (List.mem_of_getElem? (i := 685) (by decide +kernel)), rfl⟩
theorem qw_686 : (Cond.methodLink "QuietSweepModel" 117 ⟨"QuietSweepModel", "add", "(IIII)V"⟩) ∈ qG := List.mem_filter.mpr ⟨List.mem_append_right _ (List.mem_of_getElem? (i := 686) (by decide +kernel)), rfl⟩
theorem qw_688 : (Cond.instanceMethod ⟨"QuietSweepModel", "add", "(IIII)V"⟩) ∈ qG := List.mem_filter.mpr ⟨List.mem_append_right _ (List.mem_of_getElem? (i := 688) (by decide +kernel)), rfl⟩
theorem qw_689 : (Cond.code ⟨"QuietSweepModel", "add", "(IIII)V"⟩ prog_9_method_6_code 5 (Option.none : Option Jvm.ClassFile.FieldType)) ∈ qG := List.mem_filter.mpr ⟨List.mem_append_right _ (List.mem_of_getElem? (i := 689) (by decide +kernel)), rfl⟩
theorem qw_690 : (Cond.methodLink "QuietSweepModel" 121 ⟨"QuietSweepModel", "cellVariable", "(I)I"⟩) ∈ qG := List.mem_filter.mpr ⟨List.mem_append_right _ (List.mem_of_getElem? (i := 690) (by decide +kernel)), rfl⟩
theorem qw_692 : (Cond.instanceMethod ⟨"QuietSweepModel", "cellVariable", "(I)I"⟩) ∈ qG := List.mem_filter.mpr ⟨List.mem_append_right _ (List.mem_of_getElem? (i := 692) (by decide +kernel)), rfl⟩
theorem qw_693 : (Cond.code ⟨"QuietSweepModel", "cellVariable", "(I)I"⟩ prog_9_method_4_code 3 (Option.some Jvm.ClassFile.FieldType.int)) ∈ qG := List.mem_filter.mpr ⟨List.mem_append_right _ (List.mem_of_getElem? (i := 693) (by decide +kernel)), rfl⟩
theorem qw_694 : (Cond.methodLink "QuietSweepModel" 108 ⟨"QuietSweepModel", "cellStatement", "(I)I"⟩) ∈ qG := List.mem_filter.mpr ⟨List.mem_append_right _ (List.mem_of_getElem? (i := 694) (by decide +kernel)), rfl⟩
theorem qw_696 : (Cond.instanceMethod ⟨"QuietSweepModel", "cellStatement", "(I)I"⟩) ∈ qG := List.mem_filter.mpr ⟨List.mem_append_right _ (List.mem_of_getElem? (i := 696) (by decide +kernel)), rfl⟩
theorem qw_697 : (Cond.code ⟨"QuietSweepModel", "cellStatement", "(I)I"⟩ prog_9_method_9_code 5 (Option.some Jvm.ClassFile.FieldType.int)) ∈ qG := List.mem_filter.mpr ⟨List.mem_append_right _ (List.mem_of_getElem? (i := 697) (by decide +kernel)), rfl⟩
theorem qw_698 : (Cond.methodLink "QuietSweepModel" 124 ⟨"QuietSweepModel", "storing", "(II)I"⟩) ∈ qG := List.mem_filter.mpr ⟨List.mem_append_right _ (List.mem_of_getElem? (i := 698) (by decide +kernel)), rfl⟩
theorem qw_700 : (Cond.instanceMethod ⟨"QuietSweepModel", "storing", "(II)I"⟩) ∈ qG := List.mem_filter.mpr ⟨List.mem_append_right _ (List.mem_of_getElem? (i := 700) (by decide +kernel)), rfl⟩
theorem qw_701 : (Cond.code ⟨"QuietSweepModel", "storing", "(II)I"⟩ prog_9_method_10_code 5 (Option.some Jvm.ClassFile.FieldType.int)) ∈ qG := List.mem_filter.mpr ⟨List.mem_append_right _ (List.mem_of_getElem? (i := 701) (by decide +kernel)), rfl⟩
theorem qw_702 : (Cond.methodLink "QuietSweepModel" 111 ⟨"QuietSweepModel", "intStatement", "(I)I"⟩) ∈ qG := List.mem_filter.mpr ⟨List.mem_append_right _ (List.mem_of_getElem? (i := 702) (by decide +kernel)), rfl⟩
theorem qw_704 : (Cond.instanceMethod ⟨"QuietSweepModel", "intStatement", "(I)I"⟩) ∈ qG := List.mem_filter.mpr ⟨List.mem_append_right _ (List.mem_of_getElem? (i := 704) (by decide +kernel)), rfl⟩
theorem qw_705 : (Cond.code ⟨"QuietSweepModel", "intStatement", "(I)I"⟩ prog_9_method_11_code 5 (Option.some Jvm.ClassFile.FieldType.int)) ∈ qG := List.mem_filter.mpr ⟨List.mem_append_right _ (List.mem_of_getElem? (i := 705) (by decide +kernel)), rfl⟩
theorem qw_706 : (Cond.methodLink "QuietSweepLaw" 43 ⟨"QuietSweepModel", "code", "(II)I"⟩) ∈ qG := List.mem_filter.mpr ⟨List.mem_append_right _ (List.mem_of_getElem? (i := 706) (by decide +kernel)), rfl⟩
theorem qw_707 : (Cond.instanceMethod ⟨"QuietSweepModel", "code", "(II)I"⟩) ∈ qG := List.mem_filter.mpr ⟨List.mem_append_right _ (List.mem_of_getElem? (i := 707) (by decide +kernel)), rfl⟩
theorem qw_708 : (Cond.selects "QuietSweepModel" ⟨"QuietSweepModel", "code", "(II)I"⟩ ⟨"QuietSweepModel", "code", "(II)I"⟩) ∈ qG := List.mem_filter.mpr ⟨List.mem_append_right _ (List.mem_of_getElem? (i := 708) (by decide +kernel)), rfl⟩
theorem qw_709 : (Cond.code ⟨"QuietSweepModel", "code", "(II)I"⟩ prog_9_method_14_code 4 (Option.some Jvm.ClassFile.FieldType.int)) ∈ qG := List.mem_filter.mpr ⟨List.mem_append_right _ (List.mem_of_getElem? (i := 709) (by decide +kernel)), rfl⟩
theorem qw_710 : (Cond.methodLink "QuietSweepLaw" 35 ⟨"QuietSweepModel", "go", "(II)I"⟩) ∈ qG := List.mem_filter.mpr ⟨List.mem_append_right _ (List.mem_of_getElem? (i := 710) (by decide +kernel)), rfl⟩
theorem qw_711 : (Cond.instanceMethod ⟨"QuietSweepModel", "go", "(II)I"⟩) ∈ qG := List.mem_filter.mpr ⟨List.mem_append_right _ (List.mem_of_getElem? (i := 711) (by decide +kernel)), rfl⟩
theorem qw_712 : (Cond.selects "QuietSweepModel" ⟨"QuietSweepModel", "go", "(II)I"⟩ ⟨"QuietSweepModel", "go", "(II)I"⟩) ∈ qG := List.mem_filter.mpr ⟨List.mem_append_right _ (List.mem_of_getElem? (i := 712) (by decide +kernel)), rfl⟩
theorem qw_713 : (Cond.code ⟨"QuietSweepModel", "go", "(II)I"⟩ prog_9_method_28_code 5 (Option.some Jvm.ClassFile.FieldType.int)) ∈ qG := List.mem_filter.mpr ⟨List.mem_append_right _ (List.mem_of_getElem? (i := 713) (by decide +kernel)), rfl⟩
theorem qw_714 : (Cond.methodLink "QuietSweepModel" 186 ⟨"QuietSweepModel", "entry", "(I)Z"⟩) ∈ qG := List.mem_filter.mpr ⟨List.mem_append_right _ (List.mem_of_getElem? (i := 714) (by decide +kernel)), rfl⟩
theorem qw_716 : (Cond.instanceMethod ⟨"QuietSweepModel", "entry", "(I)Z"⟩) ∈ qG := List.mem_filter.mpr ⟨List.mem_append_right _ (List.mem_of_getElem? (i := 716) (by decide +kernel)), rfl⟩
theorem qw_717 : (Cond.code ⟨"QuietSweepModel", "entry", "(I)Z"⟩ prog_9_method_27_code 3 (Option.some Jvm.ClassFile.FieldType.boolean)) ∈ qG := List.mem_filter.mpr ⟨List.mem_append_right _ (List.mem_of_getElem? (i := 717) (by decide +kernel)), rfl⟩
theorem qw_718 : (Cond.methodLink "QuietSweepModel" 177 ⟨"QuietSweepModel", "step", "(I)Z"⟩) ∈ qG := List.mem_filter.mpr ⟨List.mem_append_right _ (List.mem_of_getElem? (i := 718) (by decide +kernel)), rfl⟩
theorem qw_720 : (Cond.instanceMethod ⟨"QuietSweepModel", "step", "(I)Z"⟩) ∈ qG := List.mem_filter.mpr ⟨List.mem_append_right _ (List.mem_of_getElem? (i := 720) (by decide +kernel)), rfl⟩
theorem qw_721 : (Cond.code ⟨"QuietSweepModel", "step", "(I)Z"⟩ prog_9_method_19_code 7 (Option.some Jvm.ClassFile.FieldType.boolean)) ∈ qG := List.mem_filter.mpr ⟨List.mem_append_right _ (List.mem_of_getElem? (i := 721) (by decide +kernel)), rfl⟩
theorem qw_722 : (Cond.methodLink "QuietSweepModel" 136 ⟨"QuietSweepModel", "fresh", "(II)Z"⟩) ∈ qG := List.mem_filter.mpr ⟨List.mem_append_right _ (List.mem_of_getElem? (i := 722) (by decide +kernel)), rfl⟩
theorem qw_724 : (Cond.instanceMethod ⟨"QuietSweepModel", "fresh", "(II)Z"⟩) ∈ qG := List.mem_filter.mpr ⟨List.mem_append_right _ (List.mem_of_getElem? (i := 724) (by decide +kernel)), rfl⟩
theorem qw_725 : (Cond.code ⟨"QuietSweepModel", "fresh", "(II)Z"⟩ prog_9_method_21_code 4 (Option.some Jvm.ClassFile.FieldType.boolean)) ∈ qG := List.mem_filter.mpr ⟨List.mem_append_right _ (List.mem_of_getElem? (i := 725) (by decide +kernel)), rfl⟩
theorem qw_726 : (Cond.methodLink "QuietSweepModel" 151 ⟨"QuietSweepModel", "stall", "(I)Z"⟩) ∈ qG := List.mem_filter.mpr ⟨List.mem_append_right _ (List.mem_of_getElem? (i := 726) (by decide +kernel)), rfl⟩
theorem qw_728 : (Cond.instanceMethod ⟨"QuietSweepModel", "stall", "(I)Z"⟩) ∈ qG := List.mem_filter.mpr ⟨List.mem_append_right _ (List.mem_of_getElem? (i := 728) (by decide +kernel)), rfl⟩
theorem qw_729 : (Cond.code ⟨"QuietSweepModel", "stall", "(I)Z"⟩ prog_9_method_18_code 2 (Option.some Jvm.ClassFile.FieldType.boolean)) ∈ qG := List.mem_filter.mpr ⟨List.mem_append_right _ (List.mem_of_getElem? (i := 729) (by decide +kernel)), rfl⟩
theorem qw_730 : (Cond.methodLink "QuietSweepModel" 140 ⟨"QuietSweepModel", "store", "(IIII)Z"⟩) ∈ qG := List.mem_filter.mpr ⟨List.mem_append_right _ (List.mem_of_getElem? (i := 730) (by decide +kernel)), rfl⟩
theorem qw_732 : (Cond.instanceMethod ⟨"QuietSweepModel", "store", "(IIII)Z"⟩) ∈ qG := List.mem_filter.mpr ⟨List.mem_append_right _ (List.mem_of_getElem? (i := 732) (by decide +kernel)), rfl⟩
theorem qw_733 : (Cond.code ⟨"QuietSweepModel", "store", "(IIII)Z"⟩ prog_9_method_22_code 6 (Option.some Jvm.ClassFile.FieldType.boolean)) ∈ qG := List.mem_filter.mpr ⟨List.mem_append_right _ (List.mem_of_getElem? (i := 733) (by decide +kernel)), rfl⟩
theorem qw_734 : (Cond.methodLink "QuietSweepModel" 144 ⟨"QuietSweepModel", "sees", "(III)I"⟩) ∈ qG := List.mem_filter.mpr ⟨List.mem_append_right _ (List.mem_of_getElem? (i := 734) (by decide +kernel)), rfl⟩
theorem qw_736 : (Cond.instanceMethod ⟨"QuietSweepModel", "sees", "(III)I"⟩) ∈ qG := List.mem_filter.mpr ⟨List.mem_append_right _ (List.mem_of_getElem? (i := 736) (by decide +kernel)), rfl⟩
theorem qw_737 : (Cond.code ⟨"QuietSweepModel", "sees", "(III)I"⟩ prog_9_method_16_code 6 (Option.some Jvm.ClassFile.FieldType.int)) ∈ qG := List.mem_filter.mpr ⟨List.mem_append_right _ (List.mem_of_getElem? (i := 737) (by decide +kernel)), rfl⟩
theorem qw_738 : (Cond.methodLink "QuietSweepModel" 154 ⟨"QuietSweepModel", "mark", "(I)V"⟩) ∈ qG := List.mem_filter.mpr ⟨List.mem_append_right _ (List.mem_of_getElem? (i := 738) (by decide +kernel)), rfl⟩
theorem qw_740 : (Cond.instanceMethod ⟨"QuietSweepModel", "mark", "(I)V"⟩) ∈ qG := List.mem_filter.mpr ⟨List.mem_append_right _ (List.mem_of_getElem? (i := 740) (by decide +kernel)), rfl⟩
theorem qw_741 : (Cond.code ⟨"QuietSweepModel", "mark", "(I)V"⟩ prog_9_method_15_code 2 (Option.none : Option Jvm.ClassFile.FieldType)) ∈ qG := List.mem_filter.mpr ⟨List.mem_append_right _ (List.mem_of_getElem? (i := 741) (by decide +kernel)), rfl⟩
theorem qw_742 : (Cond.methodLink "QuietSweepModel" 148 ⟨"QuietSweepModel", "number", "(IIII)V"⟩) ∈ qG := List.mem_filter.mpr ⟨List.mem_append_right _ (List.mem_of_getElem? (i := 742) (by decide +kernel)), rfl⟩
theorem qw_744 : (Cond.instanceMethod ⟨"QuietSweepModel", "number", "(IIII)V"⟩) ∈ qG := List.mem_filter.mpr ⟨List.mem_append_right _ (List.mem_of_getElem? (i := 744) (by decide +kernel)), rfl⟩
theorem qw_745 : (Cond.code ⟨"QuietSweepModel", "number", "(IIII)V"⟩ prog_9_method_20_code 6 (Option.none : Option Jvm.ClassFile.FieldType)) ∈ qG := List.mem_filter.mpr ⟨List.mem_append_right _ (List.mem_of_getElem? (i := 745) (by decide +kernel)), rfl⟩
theorem qw_746 : (Cond.methodLink "QuietSweepModel" 165 ⟨"QuietSweepModel", "flush", "(I)Z"⟩) ∈ qG := List.mem_filter.mpr ⟨List.mem_append_right _ (List.mem_of_getElem? (i := 746) (by decide +kernel)), rfl⟩
theorem qw_748 : (Cond.instanceMethod ⟨"QuietSweepModel", "flush", "(I)Z"⟩) ∈ qG := List.mem_filter.mpr ⟨List.mem_append_right _ (List.mem_of_getElem? (i := 748) (by decide +kernel)), rfl⟩
theorem qw_749 : (Cond.code ⟨"QuietSweepModel", "flush", "(I)Z"⟩ prog_9_method_17_code 3 (Option.some Jvm.ClassFile.FieldType.boolean)) ∈ qG := List.mem_filter.mpr ⟨List.mem_append_right _ (List.mem_of_getElem? (i := 749) (by decide +kernel)), rfl⟩
theorem qw_750 : (Cond.methodLink "QuietSweepModel" 180 ⟨"QuietSweepModel", "answer", "(I)Z"⟩) ∈ qG := List.mem_filter.mpr ⟨List.mem_append_right _ (List.mem_of_getElem? (i := 750) (by decide +kernel)), rfl⟩
theorem qw_752 : (Cond.instanceMethod ⟨"QuietSweepModel", "answer", "(I)Z"⟩) ∈ qG := List.mem_filter.mpr ⟨List.mem_append_right _ (List.mem_of_getElem? (i := 752) (by decide +kernel)), rfl⟩
theorem qw_753 : (Cond.code ⟨"QuietSweepModel", "answer", "(I)Z"⟩ prog_9_method_24_code 5 (Option.some Jvm.ClassFile.FieldType.boolean)) ∈ qG := List.mem_filter.mpr ⟨List.mem_append_right _ (List.mem_of_getElem? (i := 753) (by decide +kernel)), rfl⟩
theorem qw_754 : (Cond.methodLink "QuietSweepModel" 161 ⟨"QuietSweepModel", "asked", "()I"⟩) ∈ qG := List.mem_filter.mpr ⟨List.mem_append_right _ (List.mem_of_getElem? (i := 754) (by decide +kernel)), rfl⟩
theorem qw_756 : (Cond.instanceMethod ⟨"QuietSweepModel", "asked", "()I"⟩) ∈ qG := List.mem_filter.mpr ⟨List.mem_append_right _ (List.mem_of_getElem? (i := 756) (by decide +kernel)), rfl⟩
theorem qw_757 : (Cond.code ⟨"QuietSweepModel", "asked", "()I"⟩ prog_9_method_23_code 1 (Option.some Jvm.ClassFile.FieldType.int)) ∈ qG := List.mem_filter.mpr ⟨List.mem_append_right _ (List.mem_of_getElem? (i := 757) (by decide +kernel)), rfl⟩
theorem qw_758 : (Cond.methodLink "QuietSweepModel" 183 ⟨"QuietSweepModel", "collect", "()Z"⟩) ∈ qG := List.mem_filter.mpr ⟨List.mem_append_right _ (List.mem_of_getElem? (i := 758) (by decide +kernel)), rfl⟩
theorem qw_760 : (Cond.instanceMethod ⟨"QuietSweepModel", "collect", "()Z"⟩) ∈ qG := List.mem_filter.mpr ⟨List.mem_append_right _ (List.mem_of_getElem? (i := 760) (by decide +kernel)), rfl⟩
theorem qw_761 : (Cond.code ⟨"QuietSweepModel", "collect", "()Z"⟩ prog_9_method_25_code 3 (Option.some Jvm.ClassFile.FieldType.boolean)) ∈ qG := List.mem_filter.mpr ⟨List.mem_append_right _ (List.mem_of_getElem? (i := 761) (by decide +kernel)), rfl⟩
theorem qw_762 : (Cond.methodLink "QuietSweepModel" 171 ⟨"QuietSweepModel", "trace", "()V"⟩) ∈ qG := List.mem_filter.mpr ⟨List.mem_append_right _ (List.mem_of_getElem? (i := 762) (by decide +kernel)), rfl⟩
theorem qw_764 : (Cond.instanceMethod ⟨"QuietSweepModel", "trace", "()V"⟩) ∈ qG := List.mem_filter.mpr ⟨List.mem_append_right _ (List.mem_of_getElem? (i := 764) (by decide +kernel)), rfl⟩
theorem qw_765 : (Cond.code ⟨"QuietSweepModel", "trace", "()V"⟩ prog_9_method_26_code 2 (Option.none : Option Jvm.ClassFile.FieldType)) ∈ qG := List.mem_filter.mpr ⟨List.mem_append_right _ (List.mem_of_getElem? (i := 765) (by decide +kernel)), rfl⟩
theorem qw_766 : (Cond.methodLink "QuietSweepLaw" 39 ⟨"QuietSweepModel", "repeat", "(II)I"⟩) ∈ qG := List.mem_filter.mpr ⟨List.mem_append_right _ (List.mem_of_getElem? (i := 766) (by decide +kernel)), rfl⟩
theorem qw_767 : (Cond.instanceMethod ⟨"QuietSweepModel", "repeat", "(II)I"⟩) ∈ qG := List.mem_filter.mpr ⟨List.mem_append_right _ (List.mem_of_getElem? (i := 767) (by decide +kernel)), rfl⟩
theorem qw_768 : (Cond.selects "QuietSweepModel" ⟨"QuietSweepModel", "repeat", "(II)I"⟩ ⟨"QuietSweepModel", "repeat", "(II)I"⟩) ∈ qG := List.mem_filter.mpr ⟨List.mem_append_right _ (List.mem_of_getElem? (i := 768) (by decide +kernel)), rfl⟩
theorem qw_769 : (Cond.code ⟨"QuietSweepModel", "repeat", "(II)I"⟩ prog_9_method_29_code 5 (Option.some Jvm.ClassFile.FieldType.int)) ∈ qG := List.mem_filter.mpr ⟨List.mem_append_right _ (List.mem_of_getElem? (i := 769) (by decide +kernel)), rfl⟩
theorem qw_770 : (Cond.methodLink "QuietSweepLaw" 47 ⟨"QuietSweepModel", "position", "(I)I"⟩) ∈ qG := List.mem_filter.mpr ⟨List.mem_append_right _ (List.mem_of_getElem? (i := 770) (by decide +kernel)), rfl⟩
theorem qw_771 : (Cond.instanceMethod ⟨"QuietSweepModel", "position", "(I)I"⟩) ∈ qG := List.mem_filter.mpr ⟨List.mem_append_right _ (List.mem_of_getElem? (i := 771) (by decide +kernel)), rfl⟩
theorem qw_772 : (Cond.selects "QuietSweepModel" ⟨"QuietSweepModel", "position", "(I)I"⟩ ⟨"QuietSweepModel", "position", "(I)I"⟩) ∈ qG := List.mem_filter.mpr ⟨List.mem_append_right _ (List.mem_of_getElem? (i := 772) (by decide +kernel)), rfl⟩
theorem qw_773 : (Cond.code ⟨"QuietSweepModel", "position", "(I)I"⟩ prog_9_method_32_code 2 (Option.some Jvm.ClassFile.FieldType.int)) ∈ qG := List.mem_filter.mpr ⟨List.mem_append_right _ (List.mem_of_getElem? (i := 773) (by decide +kernel)), rfl⟩
theorem qw_774 : (Cond.methodLink "QuietSweepLaw" 51 ⟨"QuietSweepModel", "variable", "(II)I"⟩) ∈ qG := List.mem_filter.mpr ⟨List.mem_append_right _ (List.mem_of_getElem? (i := 774) (by decide +kernel)), rfl⟩
theorem qw_775 : (Cond.instanceMethod ⟨"QuietSweepModel", "variable", "(II)I"⟩) ∈ qG := List.mem_filter.mpr ⟨List.mem_append_right _ (List.mem_of_getElem? (i := 775) (by decide +kernel)), rfl⟩
theorem qw_776 : (Cond.selects "QuietSweepModel" ⟨"QuietSweepModel", "variable", "(II)I"⟩ ⟨"QuietSweepModel", "variable", "(II)I"⟩) ∈ qG := List.mem_filter.mpr ⟨List.mem_append_right _ (List.mem_of_getElem? (i := 776) (by decide +kernel)), rfl⟩
theorem qw_777 : (Cond.code ⟨"QuietSweepModel", "variable", "(II)I"⟩ prog_9_method_33_code 3 (Option.some Jvm.ClassFile.FieldType.int)) ∈ qG := List.mem_filter.mpr ⟨List.mem_append_right _ (List.mem_of_getElem? (i := 777) (by decide +kernel)), rfl⟩
theorem qw_778 : (Cond.methodLink "QuietSweepLaw" 55 ⟨"QuietSweepModel", "status", "(I)I"⟩) ∈ qG := List.mem_filter.mpr ⟨List.mem_append_right _ (List.mem_of_getElem? (i := 778) (by decide +kernel)), rfl⟩
theorem qw_779 : (Cond.instanceMethod ⟨"QuietSweepModel", "status", "(I)I"⟩) ∈ qG := List.mem_filter.mpr ⟨List.mem_append_right _ (List.mem_of_getElem? (i := 779) (by decide +kernel)), rfl⟩
theorem qw_780 : (Cond.selects "QuietSweepModel" ⟨"QuietSweepModel", "status", "(I)I"⟩ ⟨"QuietSweepModel", "status", "(I)I"⟩) ∈ qG := List.mem_filter.mpr ⟨List.mem_append_right _ (List.mem_of_getElem? (i := 780) (by decide +kernel)), rfl⟩
theorem qw_781 : (Cond.code ⟨"QuietSweepModel", "status", "(I)I"⟩ prog_9_method_34_code 2 (Option.some Jvm.ClassFile.FieldType.int)) ∈ qG := List.mem_filter.mpr ⟨List.mem_append_right _ (List.mem_of_getElem? (i := 781) (by decide +kernel)), rfl⟩
theorem qw_782 : (Cond.methodLink "QuietSweepLaw" 59 ⟨"QuietSweepModel", "buffered", "(I)I"⟩) ∈ qG := List.mem_filter.mpr ⟨List.mem_append_right _ (List.mem_of_getElem? (i := 782) (by decide +kernel)), rfl⟩
theorem qw_783 : (Cond.instanceMethod ⟨"QuietSweepModel", "buffered", "(I)I"⟩) ∈ qG := List.mem_filter.mpr ⟨List.mem_append_right _ (List.mem_of_getElem? (i := 783) (by decide +kernel)), rfl⟩
theorem qw_784 : (Cond.selects "QuietSweepModel" ⟨"QuietSweepModel", "buffered", "(I)I"⟩ ⟨"QuietSweepModel", "buffered", "(I)I"⟩) ∈ qG := List.mem_filter.mpr ⟨List.mem_append_right _ (List.mem_of_getElem? (i := 784) (by decide +kernel)), rfl⟩
theorem qw_785 : (Cond.code ⟨"QuietSweepModel", "buffered", "(I)I"⟩ prog_9_method_35_code 2 (Option.some Jvm.ClassFile.FieldType.int)) ∈ qG := List.mem_filter.mpr ⟨List.mem_append_right _ (List.mem_of_getElem? (i := 785) (by decide +kernel)), rfl⟩
theorem qw_786 : (Cond.methodLink "QuietSweepLaw" 63 ⟨"QuietSweepModel", "stalls", "(I)I"⟩) ∈ qG := List.mem_filter.mpr ⟨List.mem_append_right _ (List.mem_of_getElem? (i := 786) (by decide +kernel)), rfl⟩
theorem qw_787 : (Cond.instanceMethod ⟨"QuietSweepModel", "stalls", "(I)I"⟩) ∈ qG := List.mem_filter.mpr ⟨List.mem_append_right _ (List.mem_of_getElem? (i := 787) (by decide +kernel)), rfl⟩
theorem qw_788 : (Cond.selects "QuietSweepModel" ⟨"QuietSweepModel", "stalls", "(I)I"⟩ ⟨"QuietSweepModel", "stalls", "(I)I"⟩) ∈ qG := List.mem_filter.mpr ⟨List.mem_append_right _ (List.mem_of_getElem? (i := 788) (by decide +kernel)), rfl⟩
theorem qw_789 : (Cond.code ⟨"QuietSweepModel", "stalls", "(I)I"⟩ prog_9_method_36_code 2 (Option.some Jvm.ClassFile.FieldType.int)) ∈ qG := List.mem_filter.mpr ⟨List.mem_append_right _ (List.mem_of_getElem? (i := 789) (by decide +kernel)), rfl⟩
theorem qw_790 : (Cond.methodLink "QuietSweepLaw" 67 ⟨"QuietSweepModel", "outputs", "(I)I"⟩) ∈ qG := List.mem_filter.mpr ⟨List.mem_append_right _ (List.mem_of_getElem? (i := 790) (by decide +kernel)), rfl⟩
theorem qw_791 : (Cond.instanceMethod ⟨"QuietSweepModel", "outputs", "(I)I"⟩) ∈ qG := List.mem_filter.mpr ⟨List.mem_append_right _ (List.mem_of_getElem? (i := 791) (by decide +kernel)), rfl⟩
theorem qw_792 : (Cond.selects "QuietSweepModel" ⟨"QuietSweepModel", "outputs", "(I)I"⟩ ⟨"QuietSweepModel", "outputs", "(I)I"⟩) ∈ qG := List.mem_filter.mpr ⟨List.mem_append_right _ (List.mem_of_getElem? (i := 792) (by decide +kernel)), rfl⟩
theorem qw_793 : (Cond.code ⟨"QuietSweepModel", "outputs", "(I)I"⟩ prog_9_method_37_code 2 (Option.some Jvm.ClassFile.FieldType.int)) ∈ qG := List.mem_filter.mpr ⟨List.mem_append_right _ (List.mem_of_getElem? (i := 793) (by decide +kernel)), rfl⟩
theorem qw_794 : (Cond.methodLink "QuietSweepLaw" 71 ⟨"QuietSweepModel", "output", "(II)I"⟩) ∈ qG := List.mem_filter.mpr ⟨List.mem_append_right _ (List.mem_of_getElem? (i := 794) (by decide +kernel)), rfl⟩
theorem qw_795 : (Cond.instanceMethod ⟨"QuietSweepModel", "output", "(II)I"⟩) ∈ qG := List.mem_filter.mpr ⟨List.mem_append_right _ (List.mem_of_getElem? (i := 795) (by decide +kernel)), rfl⟩
theorem qw_796 : (Cond.selects "QuietSweepModel" ⟨"QuietSweepModel", "output", "(II)I"⟩ ⟨"QuietSweepModel", "output", "(II)I"⟩) ∈ qG := List.mem_filter.mpr ⟨List.mem_append_right _ (List.mem_of_getElem? (i := 796) (by decide +kernel)), rfl⟩
theorem qw_797 : (Cond.code ⟨"QuietSweepModel", "output", "(II)I"⟩ prog_9_method_38_code 3 (Option.some Jvm.ClassFile.FieldType.int)) ∈ qG := List.mem_filter.mpr ⟨List.mem_append_right _ (List.mem_of_getElem? (i := 797) (by decide +kernel)), rfl⟩
theorem qw_798 : (Cond.methodLink "QuietSweepLaw" 75 ⟨"QuietSweepModel", "colour", "(I)I"⟩) ∈ qG := List.mem_filter.mpr ⟨List.mem_append_right _ (List.mem_of_getElem? (i := 798) (by decide +kernel)), rfl⟩
theorem qw_799 : (Cond.instanceMethod ⟨"QuietSweepModel", "colour", "(I)I"⟩) ∈ qG := List.mem_filter.mpr ⟨List.mem_append_right _ (List.mem_of_getElem? (i := 799) (by decide +kernel)), rfl⟩
theorem qw_800 : (Cond.selects "QuietSweepModel" ⟨"QuietSweepModel", "colour", "(I)I"⟩ ⟨"QuietSweepModel", "colour", "(I)I"⟩) ∈ qG := List.mem_filter.mpr ⟨List.mem_append_right _ (List.mem_of_getElem? (i := 800) (by decide +kernel)), rfl⟩
theorem qw_801 : (Cond.code ⟨"QuietSweepModel", "colour", "(I)I"⟩ prog_9_method_40_code 2 (Option.some Jvm.ClassFile.FieldType.int)) ∈ qG := List.mem_filter.mpr ⟨List.mem_append_right _ (List.mem_of_getElem? (i := 801) (by decide +kernel)), rfl⟩
theorem qw_802 : (Cond.methodLink "QuietSweepModel" 192 ⟨"QuietSweepModel", "isCell", "(I)Z"⟩) ∈ qG := List.mem_filter.mpr ⟨List.mem_append_right _ (List.mem_of_getElem? (i := 802) (by decide +kernel)), rfl⟩
theorem qw_804 : (Cond.instanceMethod ⟨"QuietSweepModel", "isCell", "(I)Z"⟩) ∈ qG := List.mem_filter.mpr ⟨List.mem_append_right _ (List.mem_of_getElem? (i := 804) (by decide +kernel)), rfl⟩
theorem qw_805 : (Cond.code ⟨"QuietSweepModel", "isCell", "(I)Z"⟩ prog_9_method_39_code 2 (Option.some Jvm.ClassFile.FieldType.boolean)) ∈ qG := List.mem_filter.mpr ⟨List.mem_append_right _ (List.mem_of_getElem? (i := 805) (by decide +kernel)), rfl⟩
theorem qw_806 : (Cond.methodLink "QuietSweepLaw" 79 ⟨"QuietSweepModel", "field", "(II)I"⟩) ∈ qG := List.mem_filter.mpr ⟨List.mem_append_right _ (List.mem_of_getElem? (i := 806) (by decide +kernel)), rfl⟩
theorem qw_807 : (Cond.instanceMethod ⟨"QuietSweepModel", "field", "(II)I"⟩) ∈ qG := List.mem_filter.mpr ⟨List.mem_append_right _ (List.mem_of_getElem? (i := 807) (by decide +kernel)), rfl⟩
theorem qw_808 : (Cond.selects "QuietSweepModel" ⟨"QuietSweepModel", "field", "(II)I"⟩ ⟨"QuietSweepModel", "field", "(II)I"⟩) ∈ qG := List.mem_filter.mpr ⟨List.mem_append_right _ (List.mem_of_getElem? (i := 808) (by decide +kernel)), rfl⟩
theorem qw_809 : (Cond.code ⟨"QuietSweepModel", "field", "(II)I"⟩ prog_9_method_41_code 3 (Option.some Jvm.ClassFile.FieldType.int)) ∈ qG := List.mem_filter.mpr ⟨List.mem_append_right _ (List.mem_of_getElem? (i := 809) (by decide +kernel)), rfl⟩
theorem qw_810 : (Cond.methodLink "QuietSweepLaw" 84 ⟨"QuietSweepModel", "seen", "(III)I"⟩) ∈ qG := List.mem_filter.mpr ⟨List.mem_append_right _ (List.mem_of_getElem? (i := 810) (by decide +kernel)), rfl⟩
theorem qw_811 : (Cond.instanceMethod ⟨"QuietSweepModel", "seen", "(III)I"⟩) ∈ qG := List.mem_filter.mpr ⟨List.mem_append_right _ (List.mem_of_getElem? (i := 811) (by decide +kernel)), rfl⟩
theorem qw_812 : (Cond.selects "QuietSweepModel" ⟨"QuietSweepModel", "seen", "(III)I"⟩ ⟨"QuietSweepModel", "seen", "(III)I"⟩) ∈ qG := List.mem_filter.mpr ⟨List.mem_append_right _ (List.mem_of_getElem? (i := 812) (by decide +kernel)), rfl⟩
theorem qw_813 : (Cond.code ⟨"QuietSweepModel", "seen", "(III)I"⟩ prog_9_method_42_code 4 (Option.some Jvm.ClassFile.FieldType.int)) ∈ qG := List.mem_filter.mpr ⟨List.mem_append_right _ (List.mem_of_getElem? (i := 813) (by decide +kernel)), rfl⟩
theorem qw_814 : (Cond.methodLink "QuietSweepLaw" 89 ⟨"QuietSweepModel", "phase", "()I"⟩) ∈ qG := List.mem_filter.mpr ⟨List.mem_append_right _ (List.mem_of_getElem? (i := 814) (by decide +kernel)), rfl⟩
theorem qw_815 : (Cond.instanceMethod ⟨"QuietSweepModel", "phase", "()I"⟩) ∈ qG := List.mem_filter.mpr ⟨List.mem_append_right _ (List.mem_of_getElem? (i := 815) (by decide +kernel)), rfl⟩
theorem qw_816 : (Cond.selects "QuietSweepModel" ⟨"QuietSweepModel", "phase", "()I"⟩ ⟨"QuietSweepModel", "phase", "()I"⟩) ∈ qG := List.mem_filter.mpr ⟨List.mem_append_right _ (List.mem_of_getElem? (i := 816) (by decide +kernel)), rfl⟩
theorem qw_817 : (Cond.code ⟨"QuietSweepModel", "phase", "()I"⟩ prog_9_method_43_code 1 (Option.some Jvm.ClassFile.FieldType.int)) ∈ qG := List.mem_filter.mpr ⟨List.mem_append_right _ (List.mem_of_getElem? (i := 817) (by decide +kernel)), rfl⟩
theorem qw_818 : (Cond.methodLink "QuietSweepLaw" 93 ⟨"QuietSweepModel", "cycles", "()I"⟩) ∈ qG := List.mem_filter.mpr ⟨List.mem_append_right _ (List.mem_of_getElem? (i := 818) (by decide +kernel)), rfl⟩
theorem qw_819 : (Cond.instanceMethod ⟨"QuietSweepModel", "cycles", "()I"⟩) ∈ qG := List.mem_filter.mpr ⟨List.mem_append_right _ (List.mem_of_getElem? (i := 819) (by decide +kernel)), rfl⟩
theorem qw_820 : (Cond.selects "QuietSweepModel" ⟨"QuietSweepModel", "cycles", "()I"⟩ ⟨"QuietSweepModel", "cycles", "()I"⟩) ∈ qG := List.mem_filter.mpr ⟨List.mem_append_right _ (List.mem_of_getElem? (i := 820) (by decide +kernel)), rfl⟩
theorem qw_821 : (Cond.code ⟨"QuietSweepModel", "cycles", "()I"⟩ prog_9_method_44_code 1 (Option.some Jvm.ClassFile.FieldType.int)) ∈ qG := List.mem_filter.mpr ⟨List.mem_append_right _ (List.mem_of_getElem? (i := 821) (by decide +kernel)), rfl⟩
theorem qw_822 : (Cond.methodLink "QuietSweepLaw" 97 ⟨"QuietSweepModel", "free", "()I"⟩) ∈ qG := List.mem_filter.mpr ⟨List.mem_append_right _ (List.mem_of_getElem? (i := 822) (by decide +kernel)), rfl⟩
theorem qw_823 : (Cond.instanceMethod ⟨"QuietSweepModel", "free", "()I"⟩) ∈ qG := List.mem_filter.mpr ⟨List.mem_append_right _ (List.mem_of_getElem? (i := 823) (by decide +kernel)), rfl⟩
theorem qw_824 : (Cond.selects "QuietSweepModel" ⟨"QuietSweepModel", "free", "()I"⟩ ⟨"QuietSweepModel", "free", "()I"⟩) ∈ qG := List.mem_filter.mpr ⟨List.mem_append_right _ (List.mem_of_getElem? (i := 824) (by decide +kernel)), rfl⟩
theorem qw_825 : (Cond.code ⟨"QuietSweepModel", "free", "()I"⟩ prog_9_method_45_code 3 (Option.some Jvm.ClassFile.FieldType.int)) ∈ qG := List.mem_filter.mpr ⟨List.mem_append_right _ (List.mem_of_getElem? (i := 825) (by decide +kernel)), rfl⟩
theorem qw_826 : (Cond.methodLink "QuietSweepLaw" 101 ⟨"QuietSweepModel", "reached", "()I"⟩) ∈ qG := List.mem_filter.mpr ⟨List.mem_append_right _ (List.mem_of_getElem? (i := 826) (by decide +kernel)), rfl⟩
theorem qw_827 : (Cond.instanceMethod ⟨"QuietSweepModel", "reached", "()I"⟩) ∈ qG := List.mem_filter.mpr ⟨List.mem_append_right _ (List.mem_of_getElem? (i := 827) (by decide +kernel)), rfl⟩
theorem qw_828 : (Cond.selects "QuietSweepModel" ⟨"QuietSweepModel", "reached", "()I"⟩ ⟨"QuietSweepModel", "reached", "()I"⟩) ∈ qG := List.mem_filter.mpr ⟨List.mem_append_right _ (List.mem_of_getElem? (i := 828) (by decide +kernel)), rfl⟩
theorem qw_829 : (Cond.code ⟨"QuietSweepModel", "reached", "()I"⟩ prog_9_method_46_code 3 (Option.some Jvm.ClassFile.FieldType.int)) ∈ qG := List.mem_filter.mpr ⟨List.mem_append_right _ (List.mem_of_getElem? (i := 829) (by decide +kernel)), rfl⟩
theorem qw_830 : (Cond.methodLink "QuietSweepModel" 195 ⟨"QuietSweepModel", "reach", "()V"⟩) ∈ qG := List.mem_filter.mpr ⟨List.mem_append_right _ (List.mem_of_getElem? (i := 830) (by decide +kernel)), rfl⟩
theorem qw_832 : (Cond.instanceMethod ⟨"QuietSweepModel", "reach", "()V"⟩) ∈ qG := List.mem_filter.mpr ⟨List.mem_append_right _ (List.mem_of_getElem? (i := 832) (by decide +kernel)), rfl⟩
theorem qw_833 : (Cond.code ⟨"QuietSweepModel", "reach", "()V"⟩ prog_9_method_31_code 3 (Option.none : Option Jvm.ClassFile.FieldType)) ∈ qG := List.mem_filter.mpr ⟨List.mem_append_right _ (List.mem_of_getElem? (i := 833) (by decide +kernel)), rfl⟩
theorem qw_834 : (Cond.methodLink "QuietSweepModel" 189 ⟨"QuietSweepModel", "hold", "(I)V"⟩) ∈ qG := List.mem_filter.mpr ⟨List.mem_append_right _ (List.mem_of_getElem? (i := 834) (by decide +kernel)), rfl⟩
theorem qw_836 : (Cond.instanceMethod ⟨"QuietSweepModel", "hold", "(I)V"⟩) ∈ qG := List.mem_filter.mpr ⟨List.mem_append_right _ (List.mem_of_getElem? (i := 836) (by decide +kernel)), rfl⟩
theorem qw_837 : (Cond.code ⟨"QuietSweepModel", "hold", "(I)V"⟩ prog_9_method_30_code 2 (Option.none : Option Jvm.ClassFile.FieldType)) ∈ qG := List.mem_filter.mpr ⟨List.mem_append_right _ (List.mem_of_getElem? (i := 837) (by decide +kernel)), rfl⟩
theorem qw_838 : (Cond.methodLink "QuietSweepLaw" 106 ⟨"QuietSweepModel", "reaches", "(I)Z"⟩) ∈ qG := List.mem_filter.mpr ⟨List.mem_append_right _ (List.mem_of_getElem? (i := 838) (by decide +kernel)), rfl⟩
theorem qw_839 : (Cond.instanceMethod ⟨"QuietSweepModel", "reaches", "(I)Z"⟩) ∈ qG := List.mem_filter.mpr ⟨List.mem_append_right _ (List.mem_of_getElem? (i := 839) (by decide +kernel)), rfl⟩
theorem qw_840 : (Cond.selects "QuietSweepModel" ⟨"QuietSweepModel", "reaches", "(I)Z"⟩ ⟨"QuietSweepModel", "reaches", "(I)Z"⟩) ∈ qG := List.mem_filter.mpr ⟨List.mem_append_right _ (List.mem_of_getElem? (i := 840) (by decide +kernel)), rfl⟩
theorem qw_841 : (Cond.code ⟨"QuietSweepModel", "reaches", "(I)Z"⟩ prog_9_method_47_code 2 (Option.some Jvm.ClassFile.FieldType.boolean)) ∈ qG := List.mem_filter.mpr ⟨List.mem_append_right _ (List.mem_of_getElem? (i := 841) (by decide +kernel)), rfl⟩
theorem qw_842 : (Cond.fieldLink "java/lang/String" 9 "java/lang/String" "value" "[B") ∈ qG := List.mem_filter.mpr ⟨List.mem_append_right _ (List.mem_of_getElem? (i := 842) (by decide +kernel)), rfl⟩
theorem qw_843 : (Cond.fieldLink "java/lang/String" 15 "java/lang/String" "coder" "B") ∈ qG := List.mem_filter.mpr ⟨List.mem_append_right _ (List.mem_of_getElem? (i := 843) (by decide +kernel)), rfl⟩
theorem qv_0 : (Cond.selects "QuietSweep$Memory" ⟨"QuietSweep$Memory", "blank", "(I)V"⟩ ⟨"QuietSweep$Memory", "blank", "(I)V"⟩) ∈ qG := List.mem_filter.mpr ⟨List.mem_append_left _ (List.mem_of_getElem? (i := 0) (by decide +kernel)), rfl⟩
theorem qv_1 : (Cond.selects "QuietSweep$Source" ⟨"QuietSweep$Source", "translateAt", "(I)I"⟩ ⟨"QuietSweep$Source", "translateAt", "(I)I"⟩) ∈ qG := List.mem_filter.mpr ⟨List.mem_append_left _ (List.mem_of_getElem? (i := 1) (by decide +kernel)), rfl⟩
theorem qv_2 : (Cond.selects "QuietSweep$Source" ⟨"QuietSweep$Source", "openLoop", "(I)I"⟩ ⟨"QuietSweep$Source", "openLoop", "(I)I"⟩) ∈ qG := List.mem_filter.mpr ⟨List.mem_append_left _ (List.mem_of_getElem? (i := 2) (by decide +kernel)), rfl⟩
theorem qv_3 : (Cond.selects "QuietSweep$Source" ⟨"QuietSweep$Source", "emit", "(I)V"⟩ ⟨"QuietSweep$Source", "emit", "(I)V"⟩) ∈ qG := List.mem_filter.mpr ⟨List.mem_append_left _ (List.mem_of_getElem? (i := 3) (by decide +kernel)), rfl⟩
theorem qv_4 : (Cond.selects "QuietSweep$Source" ⟨"QuietSweep$Source", "closeLoop", "()I"⟩ ⟨"QuietSweep$Source", "closeLoop", "()I"⟩) ∈ qG := List.mem_filter.mpr ⟨List.mem_append_left _ (List.mem_of_getElem? (i := 4) (by decide +kernel)), rfl⟩
theorem qv_5 : (Cond.selects "QuietSweep$Source" ⟨"QuietSweep$Source", "hasShape", "(ILjava/lang/String;)Z"⟩ ⟨"QuietSweep$Source", "hasShape", "(ILjava/lang/String;)Z"⟩) ∈ qG := List.mem_filter.mpr ⟨List.mem_append_left _ (List.mem_of_getElem? (i := 5) (by decide +kernel)), rfl⟩
theorem qv_6 : (Cond.selects "QuietSweep$Source" ⟨"QuietSweep$Source", "operandsAt", "(ILjava/lang/String;)I"⟩ ⟨"QuietSweep$Source", "operandsAt", "(ILjava/lang/String;)I"⟩) ∈ qG := List.mem_filter.mpr ⟨List.mem_append_left _ (List.mem_of_getElem? (i := 6) (by decide +kernel)), rfl⟩
theorem qv_7 : (Cond.selects "QuietSweep" ⟨"QuietSweep", "doEntry", "(I)Z"⟩ ⟨"QuietSweep", "doEntry", "(I)Z"⟩) ∈ qG := List.mem_filter.mpr ⟨List.mem_append_left _ (List.mem_of_getElem? (i := 7) (by decide +kernel)), rfl⟩
theorem qv_8 : (Cond.selects "QuietSweep$Mutator" ⟨"QuietSweep$Mutator", "behindLoopPart", "(IZI)I"⟩ ⟨"QuietSweep$Mutator", "behindLoopPart", "(IZI)I"⟩) ∈ qG := List.mem_filter.mpr ⟨List.mem_append_left _ (List.mem_of_getElem? (i := 8) (by decide +kernel)), rfl⟩
theorem qv_9 : (Cond.selects "QuietSweep$Mutator" ⟨"QuietSweep$Mutator", "doWithInts", "(LQuietSweep$Memory;IIII)V"⟩ ⟨"QuietSweep$Mutator", "doWithInts", "(LQuietSweep$Memory;IIII)V"⟩) ∈ qG := List.mem_filter.mpr ⟨List.mem_append_left _ (List.mem_of_getElem? (i := 9) (by decide +kernel)), rfl⟩
theorem qv_10 : (Cond.selects "QuietSweep$Mutator" ⟨"QuietSweep$Mutator", "get", "(LQuietSweep$Memory;III)I"⟩ ⟨"QuietSweep$Mutator", "get", "(LQuietSweep$Memory;III)I"⟩) ∈ qG := List.mem_filter.mpr ⟨List.mem_append_left _ (List.mem_of_getElem? (i := 10) (by decide +kernel)), rfl⟩
theorem qv_11 : (Cond.selects "QuietSweep$Mutator" ⟨"QuietSweep$Mutator", "doWithCells", "(LQuietSweep$Memory;III)Z"⟩ ⟨"QuietSweep$Mutator", "doWithCells", "(LQuietSweep$Memory;III)Z"⟩) ∈ qG := List.mem_filter.mpr ⟨List.mem_append_left _ (List.mem_of_getElem? (i := 11) (by decide +kernel)), rfl⟩
theorem qv_12 : (Cond.selects "QuietSweep$Mutator" ⟨"QuietSweep$Mutator", "takeCell", "(LQuietSweep$Memory;I)Z"⟩ ⟨"QuietSweep$Mutator", "takeCell", "(LQuietSweep$Memory;I)Z"⟩) ∈ qG := List.mem_filter.mpr ⟨List.mem_append_left _ (List.mem_of_getElem? (i := 12) (by decide +kernel)), rfl⟩
theorem qv_13 : (Cond.selects "QuietSweep$Mutator" ⟨"QuietSweep$Mutator", "store", "(LQuietSweep$Memory;III)Z"⟩ ⟨"QuietSweep$Mutator", "store", "(LQuietSweep$Memory;III)Z"⟩) ∈ qG := List.mem_filter.mpr ⟨List.mem_append_left _ (List.mem_of_getElem? (i := 13) (by decide +kernel)), rfl⟩
theorem qv_14 : (Cond.selects "QuietSweep$Collector" ⟨"QuietSweep$Collector", "trace", "(LQuietSweep$Memory;)V"⟩ ⟨"QuietSweep$Collector", "trace", "(LQuietSweep$Memory;)V"⟩) ∈ qG := List.mem_filter.mpr ⟨List.mem_append_left _ (List.mem_of_getElem? (i := 14) (by decide +kernel)), rfl⟩
theorem qv_15 : (Cond.selects "QuietSweep$Collector" ⟨"QuietSweep$Collector", "sweep", "(LQuietSweep$Memory;)V"⟩ ⟨"QuietSweep$Collector", "sweep", "(LQuietSweep$Memory;)V"⟩) ∈ qG := List.mem_filter.mpr ⟨List.mem_append_left _ (List.mem_of_getElem? (i := 15) (by decide +kernel)), rfl⟩
theorem qv_16 : (Cond.selects "QuietSweep$Collector" ⟨"QuietSweep$Collector", "passIfAnswered", "([LQuietSweep$Mutator;)Z"⟩ ⟨"QuietSweep$Collector", "passIfAnswered", "([LQuietSweep$Mutator;)Z"⟩) ∈ qG := List.mem_filter.mpr ⟨List.mem_append_left _ (List.mem_of_getElem? (i := 16) (by decide +kernel)), rfl⟩
theorem qv_17 : (Cond.selects "QuietSweep" ⟨"QuietSweep", "reachedSet", "()I"⟩ ⟨"QuietSweep", "reachedSet", "()I"⟩) ∈ qG := List.mem_filter.mpr ⟨List.mem_append_left _ (List.mem_of_getElem? (i := 17) (by decide +kernel)), rfl⟩
theorem qv_18 : (Cond.selects "QuietSweepModel" ⟨"QuietSweepModel", "read", "()Z"⟩ ⟨"QuietSweepModel", "read", "()Z"⟩) ∈ qG := List.mem_filter.mpr ⟨List.mem_append_left _ (List.mem_of_getElem? (i := 18) (by decide +kernel)), rfl⟩
theorem qv_19 : (Cond.selects "QuietSweepModel" ⟨"QuietSweepModel", "loop", "(I)I"⟩ ⟨"QuietSweepModel", "loop", "(I)I"⟩) ∈ qG := List.mem_filter.mpr ⟨List.mem_append_left _ (List.mem_of_getElem? (i := 19) (by decide +kernel)), rfl⟩
theorem qv_20 : (Cond.selects "QuietSweepModel" ⟨"QuietSweepModel", "at", "(I)C"⟩ ⟨"QuietSweepModel", "at", "(I)C"⟩) ∈ qG := List.mem_filter.mpr ⟨List.mem_append_left _ (List.mem_of_getElem? (i := 20) (by decide +kernel)), rfl⟩
theorem qv_21 : (Cond.selects "QuietSweepModel" ⟨"QuietSweepModel", "intVariable", "(I)I"⟩ ⟨"QuietSweepModel", "intVariable", "(I)I"⟩) ∈ qG := List.mem_filter.mpr ⟨List.mem_append_left _ (List.mem_of_getElem? (i := 21) (by decide +kernel)), rfl⟩
theorem qv_22 : (Cond.selects "QuietSweepModel" ⟨"QuietSweepModel", "add", "(IIII)V"⟩ ⟨"QuietSweepModel", "add", "(IIII)V"⟩) ∈ qG := List.mem_filter.mpr ⟨List.mem_append_left _ (List.mem_of_getElem? (i := 22) (by decide +kernel)), rfl⟩
theorem qv_23 : (Cond.selects "QuietSweepModel" ⟨"QuietSweepModel", "cellVariable", "(I)I"⟩ ⟨"QuietSweepModel", "cellVariable", "(I)I"⟩) ∈ qG := List.mem_filter.mpr ⟨List.mem_append_left _ (List.mem_of_getElem? (i := 23) (by decide +kernel)), rfl⟩
theorem qv_24 : (Cond.selects "QuietSweepModel" ⟨"QuietSweepModel", "cellStatement", "(I)I"⟩ ⟨"QuietSweepModel", "cellStatement", "(I)I"⟩) ∈ qG := List.mem_filter.mpr ⟨List.mem_append_left _ (List.mem_of_getElem? (i := 24) (by decide +kernel)), rfl⟩
theorem qv_25 : (Cond.selects "QuietSweepModel" ⟨"QuietSweepModel", "storing", "(II)I"⟩ ⟨"QuietSweepModel", "storing", "(II)I"⟩) ∈ qG := List.mem_filter.mpr ⟨List.mem_append_left _ (List.mem_of_getElem? (i := 25) (by decide +kernel)), rfl⟩
theorem qv_26 : (Cond.selects "QuietSweepModel" ⟨"QuietSweepModel", "intStatement", "(I)I"⟩ ⟨"QuietSweepModel", "intStatement", "(I)I"⟩) ∈ qG := List.mem_filter.mpr ⟨List.mem_append_left _ (List.mem_of_getElem? (i := 26) (by decide +kernel)), rfl⟩
theorem qv_27 : (Cond.selects "QuietSweepModel" ⟨"QuietSweepModel", "entry", "(I)Z"⟩ ⟨"QuietSweepModel", "entry", "(I)Z"⟩) ∈ qG := List.mem_filter.mpr ⟨List.mem_append_left _ (List.mem_of_getElem? (i := 27) (by decide +kernel)), rfl⟩
theorem qv_28 : (Cond.selects "QuietSweepModel" ⟨"QuietSweepModel", "step", "(I)Z"⟩ ⟨"QuietSweepModel", "step", "(I)Z"⟩) ∈ qG := List.mem_filter.mpr ⟨List.mem_append_left _ (List.mem_of_getElem? (i := 28) (by decide +kernel)), rfl⟩
theorem qv_29 : (Cond.selects "QuietSweepModel" ⟨"QuietSweepModel", "fresh", "(II)Z"⟩ ⟨"QuietSweepModel", "fresh", "(II)Z"⟩) ∈ qG := List.mem_filter.mpr ⟨List.mem_append_left _ (List.mem_of_getElem? (i := 29) (by decide +kernel)), rfl⟩
theorem qv_30 : (Cond.selects "QuietSweepModel" ⟨"QuietSweepModel", "stall", "(I)Z"⟩ ⟨"QuietSweepModel", "stall", "(I)Z"⟩) ∈ qG := List.mem_filter.mpr ⟨List.mem_append_left _ (List.mem_of_getElem? (i := 30) (by decide +kernel)), rfl⟩
theorem qv_31 : (Cond.selects "QuietSweepModel" ⟨"QuietSweepModel", "store", "(IIII)Z"⟩ ⟨"QuietSweepModel", "store", "(IIII)Z"⟩) ∈ qG := List.mem_filter.mpr ⟨List.mem_append_left _ (List.mem_of_getElem? (i := 31) (by decide +kernel)), rfl⟩
theorem qv_32 : (Cond.selects "QuietSweepModel" ⟨"QuietSweepModel", "sees", "(III)I"⟩ ⟨"QuietSweepModel", "sees", "(III)I"⟩) ∈ qG := List.mem_filter.mpr ⟨List.mem_append_left _ (List.mem_of_getElem? (i := 32) (by decide +kernel)), rfl⟩
theorem qv_33 : (Cond.selects "QuietSweepModel" ⟨"QuietSweepModel", "mark", "(I)V"⟩ ⟨"QuietSweepModel", "mark", "(I)V"⟩) ∈ qG := List.mem_filter.mpr ⟨List.mem_append_left _ (List.mem_of_getElem? (i := 33) (by decide +kernel)), rfl⟩
theorem qv_34 : (Cond.selects "QuietSweepModel" ⟨"QuietSweepModel", "number", "(IIII)V"⟩ ⟨"QuietSweepModel", "number", "(IIII)V"⟩) ∈ qG := List.mem_filter.mpr ⟨List.mem_append_left _ (List.mem_of_getElem? (i := 34) (by decide +kernel)), rfl⟩
theorem qv_35 : (Cond.selects "QuietSweepModel" ⟨"QuietSweepModel", "flush", "(I)Z"⟩ ⟨"QuietSweepModel", "flush", "(I)Z"⟩) ∈ qG := List.mem_filter.mpr ⟨List.mem_append_left _ (List.mem_of_getElem? (i := 35) (by decide +kernel)), rfl⟩
theorem qv_36 : (Cond.selects "QuietSweepModel" ⟨"QuietSweepModel", "answer", "(I)Z"⟩ ⟨"QuietSweepModel", "answer", "(I)Z"⟩) ∈ qG := List.mem_filter.mpr ⟨List.mem_append_left _ (List.mem_of_getElem? (i := 36) (by decide +kernel)), rfl⟩
theorem qv_37 : (Cond.selects "QuietSweepModel" ⟨"QuietSweepModel", "asked", "()I"⟩ ⟨"QuietSweepModel", "asked", "()I"⟩) ∈ qG := List.mem_filter.mpr ⟨List.mem_append_left _ (List.mem_of_getElem? (i := 37) (by decide +kernel)), rfl⟩
theorem qv_38 : (Cond.selects "QuietSweepModel" ⟨"QuietSweepModel", "collect", "()Z"⟩ ⟨"QuietSweepModel", "collect", "()Z"⟩) ∈ qG := List.mem_filter.mpr ⟨List.mem_append_left _ (List.mem_of_getElem? (i := 38) (by decide +kernel)), rfl⟩
theorem qv_39 : (Cond.selects "QuietSweepModel" ⟨"QuietSweepModel", "trace", "()V"⟩ ⟨"QuietSweepModel", "trace", "()V"⟩) ∈ qG := List.mem_filter.mpr ⟨List.mem_append_left _ (List.mem_of_getElem? (i := 39) (by decide +kernel)), rfl⟩
theorem qv_40 : (Cond.selects "QuietSweepModel" ⟨"QuietSweepModel", "isCell", "(I)Z"⟩ ⟨"QuietSweepModel", "isCell", "(I)Z"⟩) ∈ qG := List.mem_filter.mpr ⟨List.mem_append_left _ (List.mem_of_getElem? (i := 40) (by decide +kernel)), rfl⟩
theorem qv_41 : (Cond.selects "QuietSweepModel" ⟨"QuietSweepModel", "reach", "()V"⟩ ⟨"QuietSweepModel", "reach", "()V"⟩) ∈ qG := List.mem_filter.mpr ⟨List.mem_append_left _ (List.mem_of_getElem? (i := 41) (by decide +kernel)), rfl⟩
theorem qv_42 : (Cond.selects "QuietSweepModel" ⟨"QuietSweepModel", "hold", "(I)V"⟩ ⟨"QuietSweepModel", "hold", "(I)V"⟩) ∈ qG := List.mem_filter.mpr ⟨List.mem_append_left _ (List.mem_of_getElem? (i := 42) (by decide +kernel)), rfl⟩
def qT_Buf : u_T := fun k => match k with
  | 0 => ("QuietSweep$Buffer", "cells", "[I", true)
  | 1 => ("QuietSweep$Buffer", "fields", "[I", true)
  | 2 => ("QuietSweep$Buffer", "values", "[I", true)
  | _ => ("QuietSweep$Buffer", "count", "I", false)
def qt_Buf : Nat → FieldType := fun k => match k with
  | 0 => .array .int
  | 1 => .array .int
  | 2 => .array .int
  | _ => .int
theorem qn_Buf : ∀ a, a < 4 → ∀ b, b < 4 → a ≠ b → (qT_Buf a).2.1 ≠ (qT_Buf b).2.1 := by decide +kernel
theorem qo_Buf : ∀ k, k < 4 → parseFieldDescriptor (qT_Buf k).2.2.1 = some (qt_Buf k) := by decide +kernel
theorem qi_Buf : ∀ w ∈ u_ws "QuietSweep$Buffer" qT_Buf 4, w ∈ qG := by
  show ∀ w ∈ [Cond.laysFinal "QuietSweep$Buffer" "QuietSweep$Buffer" "cells" "[I", Cond.laysFinal "QuietSweep$Buffer" "QuietSweep$Buffer" "fields" "[I", Cond.laysFinal "QuietSweep$Buffer" "QuietSweep$Buffer" "values" "[I", Cond.lays "QuietSweep$Buffer" "QuietSweep$Buffer" "count" "I"], w ∈ qG
  exact List.forall_mem_cons.mpr ⟨qw_98, List.forall_mem_cons.mpr ⟨qw_100, List.forall_mem_cons.mpr ⟨qw_102, List.forall_mem_cons.mpr ⟨qw_104, fun _ h => absurd h List.not_mem_nil⟩⟩⟩⟩
def qT_Col : u_T := fun k => match k with
  | 0 => ("QuietSweep$Collector", "stage", "I", false)
  | 1 => ("QuietSweep$Collector", "cycleCount", "I", false)
  | 2 => ("QuietSweep$Collector", "halfScanned", "I", false)
  | _ => ("QuietSweep$Collector", "sweepAt", "I", false)
def qt_Col : Nat → FieldType := fun k => match k with
  | 0 => .int
  | 1 => .int
  | 2 => .int
  | _ => .int
theorem qn_Col : ∀ a, a < 4 → ∀ b, b < 4 → a ≠ b → (qT_Col a).2.1 ≠ (qT_Col b).2.1 := by decide +kernel
theorem qo_Col : ∀ k, k < 4 → parseFieldDescriptor (qT_Col k).2.2.1 = some (qt_Col k) := by decide +kernel
theorem qi_Col : ∀ w ∈ u_ws "QuietSweep$Collector" qT_Col 4, w ∈ qG := by
  show ∀ w ∈ [Cond.lays "QuietSweep$Collector" "QuietSweep$Collector" "stage" "I", Cond.lays "QuietSweep$Collector" "QuietSweep$Collector" "cycleCount" "I", Cond.lays "QuietSweep$Collector" "QuietSweep$Collector" "halfScanned" "I", Cond.lays "QuietSweep$Collector" "QuietSweep$Collector" "sweepAt" "I"], w ∈ qG
  exact List.forall_mem_cons.mpr ⟨qw_167, List.forall_mem_cons.mpr ⟨qw_169, List.forall_mem_cons.mpr ⟨qw_171, List.forall_mem_cons.mpr ⟨qw_173, fun _ h => absurd h List.not_mem_nil⟩⟩⟩⟩
def qT_Mem : u_T := fun k => match k with
  | 0 => ("QuietSweep$Memory", "size", "I", true)
  | 1 => ("QuietSweep$Memory", "colours", "[I", true)
  | _ => ("QuietSweep$Memory", "fields", "[I", true)
def qt_Mem : Nat → FieldType := fun k => match k with
  | 0 => .int
  | 1 => .array .int
  | _ => .array .int
theorem qn_Mem : ∀ a, a < 3 → ∀ b, b < 3 → a ≠ b → (qT_Mem a).2.1 ≠ (qT_Mem b).2.1 := by decide +kernel
theorem qo_Mem : ∀ k, k < 3 → parseFieldDescriptor (qT_Mem k).2.2.1 = some (qt_Mem k) := by decide +kernel
theorem qi_Mem : ∀ w ∈ u_ws "QuietSweep$Memory" qT_Mem 3, w ∈ qG := by
  show ∀ w ∈ [Cond.laysFinal "QuietSweep$Memory" "QuietSweep$Memory" "size" "I", Cond.laysFinal "QuietSweep$Memory" "QuietSweep$Memory" "colours" "[I", Cond.laysFinal "QuietSweep$Memory" "QuietSweep$Memory" "fields" "[I"], w ∈ qG
  exact List.forall_mem_cons.mpr ⟨qw_73, List.forall_mem_cons.mpr ⟨qw_75, List.forall_mem_cons.mpr ⟨qw_77, fun _ h => absurd h List.not_mem_nil⟩⟩⟩
def qT_Mut : u_T := fun k => match k with
  | 0 => ("QuietSweep$Mutator", "program", "[I", true)
  | 1 => ("QuietSweep$Mutator", "programSize", "I", false)
  | 2 => ("QuietSweep$Mutator", "at", "I", false)
  | 3 => ("QuietSweep$Mutator", "cellVariables", "[I", true)
  | 4 => ("QuietSweep$Mutator", "intVariables", "[I", true)
  | 5 => ("QuietSweep$Mutator", "standing", "I", false)
  | 6 => ("QuietSweep$Mutator", "stallCount", "I", false)
  | 7 => ("QuietSweep$Mutator", "buffer", "LQuietSweep$Buffer;", true)
  | _ => ("QuietSweep$Mutator", "outs", "LQuietSweep$Outs;", true)
def qt_Mut : Nat → FieldType := fun k => match k with
  | 0 => .array .int
  | 1 => .int
  | 2 => .int
  | 3 => .array .int
  | 4 => .array .int
  | 5 => .int
  | 6 => .int
  | 7 => .object "QuietSweep$Buffer"
  | _ => .object "QuietSweep$Outs"
theorem qn_Mut : ∀ a, a < 9 → ∀ b, b < 9 → a ≠ b → (qT_Mut a).2.1 ≠ (qT_Mut b).2.1 := by decide +kernel
theorem qo_Mut : ∀ k, k < 9 → parseFieldDescriptor (qT_Mut k).2.2.1 = some (qt_Mut k) := by decide +kernel
theorem qi_Mut : ∀ w ∈ u_ws "QuietSweep$Mutator" qT_Mut 9, w ∈ qG := by
  show ∀ w ∈ [Cond.laysFinal "QuietSweep$Mutator" "QuietSweep$Mutator" "program" "[I", Cond.lays "QuietSweep$Mutator" "QuietSweep$Mutator" "programSize" "I", Cond.lays "QuietSweep$Mutator" "QuietSweep$Mutator" "at" "I", Cond.laysFinal "QuietSweep$Mutator" "QuietSweep$Mutator" "cellVariables" "[I", Cond.laysFinal "QuietSweep$Mutator" "QuietSweep$Mutator" "intVariables" "[I", Cond.lays "QuietSweep$Mutator" "QuietSweep$Mutator" "standing" "I", Cond.lays "QuietSweep$Mutator" "QuietSweep$Mutator" "stallCount" "I", Cond.laysFinal "QuietSweep$Mutator" "QuietSweep$Mutator" "buffer" "LQuietSweep$Buffer;", Cond.laysFinal "QuietSweep$Mutator" "QuietSweep$Mutator" "outs" "LQuietSweep$Outs;"], w ∈ qG
  exact List.forall_mem_cons.mpr ⟨qw_136, List.forall_mem_cons.mpr ⟨qw_138, List.forall_mem_cons.mpr ⟨qw_140, List.forall_mem_cons.mpr ⟨qw_142, List.forall_mem_cons.mpr ⟨qw_144, List.forall_mem_cons.mpr ⟨qw_146, List.forall_mem_cons.mpr ⟨qw_148, List.forall_mem_cons.mpr ⟨qw_150, List.forall_mem_cons.mpr ⟨qw_152, fun _ h => absurd h List.not_mem_nil⟩⟩⟩⟩⟩⟩⟩⟩⟩
def qT_Out : u_T := fun k => match k with
  | 0 => ("QuietSweep$Outs", "ring", "[I", true)
  | _ => ("QuietSweep$Outs", "count", "I", false)
def qt_Out : Nat → FieldType := fun k => match k with
  | 0 => .array .int
  | _ => .int
theorem qn_Out : ∀ a, a < 2 → ∀ b, b < 2 → a ≠ b → (qT_Out a).2.1 ≠ (qT_Out b).2.1 := by decide +kernel
theorem qo_Out : ∀ k, k < 2 → parseFieldDescriptor (qT_Out k).2.2.1 = some (qt_Out k) := by decide +kernel
theorem qi_Out : ∀ w ∈ u_ws "QuietSweep$Outs" qT_Out 2, w ∈ qG := by
  show ∀ w ∈ [Cond.laysFinal "QuietSweep$Outs" "QuietSweep$Outs" "ring" "[I", Cond.lays "QuietSweep$Outs" "QuietSweep$Outs" "count" "I"], w ∈ qG
  exact List.forall_mem_cons.mpr ⟨qw_116, List.forall_mem_cons.mpr ⟨qw_118, fun _ h => absurd h List.not_mem_nil⟩⟩
def qT_Src : u_T := fun k => match k with
  | 0 => ("QuietSweep$Source", "text", "[C", true)
  | 1 => ("QuietSweep$Source", "length", "I", false)
  | 2 => ("QuietSweep$Source", "made", "[I", true)
  | 3 => ("QuietSweep$Source", "madeCount", "I", false)
  | 4 => ("QuietSweep$Source", "openTests", "[I", true)
  | _ => ("QuietSweep$Source", "depth", "I", false)
def qt_Src : Nat → FieldType := fun k => match k with
  | 0 => .array .char
  | 1 => .int
  | 2 => .array .int
  | 3 => .int
  | 4 => .array .int
  | _ => .int
theorem qn_Src : ∀ a, a < 6 → ∀ b, b < 6 → a ≠ b → (qT_Src a).2.1 ≠ (qT_Src b).2.1 := by decide +kernel
theorem qo_Src : ∀ k, k < 6 → parseFieldDescriptor (qT_Src k).2.2.1 = some (qt_Src k) := by decide +kernel
theorem qi_Src : ∀ w ∈ u_ws "QuietSweep$Source" qT_Src 6, w ∈ qG := by
  show ∀ w ∈ [Cond.laysFinal "QuietSweep$Source" "QuietSweep$Source" "text" "[C", Cond.lays "QuietSweep$Source" "QuietSweep$Source" "length" "I", Cond.laysFinal "QuietSweep$Source" "QuietSweep$Source" "made" "[I", Cond.lays "QuietSweep$Source" "QuietSweep$Source" "madeCount" "I", Cond.laysFinal "QuietSweep$Source" "QuietSweep$Source" "openTests" "[I", Cond.lays "QuietSweep$Source" "QuietSweep$Source" "depth" "I"], w ∈ qG
  exact List.forall_mem_cons.mpr ⟨qw_38, List.forall_mem_cons.mpr ⟨qw_40, List.forall_mem_cons.mpr ⟨qw_42, List.forall_mem_cons.mpr ⟨qw_44, List.forall_mem_cons.mpr ⟨qw_46, List.forall_mem_cons.mpr ⟨qw_48, fun _ h => absurd h List.not_mem_nil⟩⟩⟩⟩⟩⟩
def qT_Qs : u_T := fun k => match k with
  | 0 => ("QuietSweep", "source", "LQuietSweep$Source;", true)
  | 1 => ("QuietSweep", "memory", "LQuietSweep$Memory;", true)
  | 2 => ("QuietSweep", "mutators", "[LQuietSweep$Mutator;", true)
  | _ => ("QuietSweep", "collector", "LQuietSweep$Collector;", true)
def qt_Qs : Nat → FieldType := fun k => match k with
  | 0 => .object "QuietSweep$Source"
  | 1 => .object "QuietSweep$Memory"
  | 2 => .array (.object "QuietSweep$Mutator")
  | _ => .object "QuietSweep$Collector"
theorem qn_Qs : ∀ a, a < 4 → ∀ b, b < 4 → a ≠ b → (qT_Qs a).2.1 ≠ (qT_Qs b).2.1 := by decide +kernel
theorem qo_Qs : ∀ k, k < 4 → parseFieldDescriptor (qT_Qs k).2.2.1 = some (qt_Qs k) := by decide +kernel
theorem qi_Qs : ∀ w ∈ u_ws "QuietSweep" qT_Qs 4, w ∈ qG := by
  show ∀ w ∈ [Cond.laysFinal "QuietSweep" "QuietSweep" "source" "LQuietSweep$Source;", Cond.laysFinal "QuietSweep" "QuietSweep" "memory" "LQuietSweep$Memory;", Cond.laysFinal "QuietSweep" "QuietSweep" "mutators" "[LQuietSweep$Mutator;", Cond.laysFinal "QuietSweep" "QuietSweep" "collector" "LQuietSweep$Collector;"], w ∈ qG
  exact List.forall_mem_cons.mpr ⟨qw_180, List.forall_mem_cons.mpr ⟨qw_182, List.forall_mem_cons.mpr ⟨qw_184, List.forall_mem_cons.mpr ⟨qw_186, fun _ h => absurd h List.not_mem_nil⟩⟩⟩⟩
def qT_Ref : u_T := fun k => match k with
  | 0 => ("QuietSweepModel", "cells", "I", true)
  | 1 => ("QuietSweepModel", "text", "[C", true)
  | 2 => ("QuietSweepModel", "size", "I", false)
  | 3 => ("QuietSweepModel", "newKind", "[I", true)
  | 4 => ("QuietSweepModel", "newP", "[I", true)
  | 5 => ("QuietSweepModel", "newQ", "[I", true)
  | 6 => ("QuietSweepModel", "newT", "[I", true)
  | 7 => ("QuietSweepModel", "length", "I", false)
  | 8 => ("QuietSweepModel", "open", "[I", true)
  | 9 => ("QuietSweepModel", "depth", "I", false)
  | 10 => ("QuietSweepModel", "count", "[I", true)
  | 11 => ("QuietSweepModel", "kind", "[I", true)
  | 12 => ("QuietSweepModel", "argP", "[I", true)
  | 13 => ("QuietSweepModel", "argQ", "[I", true)
  | 14 => ("QuietSweepModel", "argT", "[I", true)
  | 15 => ("QuietSweepModel", "position", "[I", true)
  | 16 => ("QuietSweepModel", "variable", "[I", true)
  | 17 => ("QuietSweepModel", "status", "[I", true)
  | 18 => ("QuietSweepModel", "stalls", "[I", true)
  | 19 => ("QuietSweepModel", "stores", "[I", true)
  | 20 => ("QuietSweepModel", "storeCell", "[I", true)
  | 21 => ("QuietSweepModel", "storeField", "[I", true)
  | 22 => ("QuietSweepModel", "storeValue", "[I", true)
  | 23 => ("QuietSweepModel", "outs", "[I", true)
  | 24 => ("QuietSweepModel", "out", "[I", true)
  | 25 => ("QuietSweepModel", "colour", "[I", true)
  | 26 => ("QuietSweepModel", "memory", "[I", true)
  | 27 => ("QuietSweepModel", "phase", "I", false)
  | 28 => ("QuietSweepModel", "half", "I", false)
  | 29 => ("QuietSweepModel", "sweep", "I", false)
  | 30 => ("QuietSweepModel", "cycles", "I", false)
  | _ => ("QuietSweepModel", "held", "[Z", true)
def qt_Ref : Nat → FieldType := fun k => match k with
  | 0 => .int
  | 1 => .array .char
  | 2 => .int
  | 3 => .array .int
  | 4 => .array .int
  | 5 => .array .int
  | 6 => .array .int
  | 7 => .int
  | 8 => .array .int
  | 9 => .int
  | 10 => .array .int
  | 11 => .array .int
  | 12 => .array .int
  | 13 => .array .int
  | 14 => .array .int
  | 15 => .array .int
  | 16 => .array .int
  | 17 => .array .int
  | 18 => .array .int
  | 19 => .array .int
  | 20 => .array .int
  | 21 => .array .int
  | 22 => .array .int
  | 23 => .array .int
  | 24 => .array .int
  | 25 => .array .int
  | 26 => .array .int
  | 27 => .int
  | 28 => .int
  | 29 => .int
  | 30 => .int
  | _ => .array .boolean
theorem qn_Ref : ∀ a, a < 32 → ∀ b, b < 32 → a ≠ b → (qT_Ref a).2.1 ≠ (qT_Ref b).2.1 := by decide +kernel
theorem qo_Ref : ∀ k, k < 32 → parseFieldDescriptor (qT_Ref k).2.2.1 = some (qt_Ref k) := by decide +kernel
theorem qi_Ref : ∀ w ∈ u_ws "QuietSweepModel" qT_Ref 32, w ∈ qG := by
  show ∀ w ∈ [Cond.laysFinal "QuietSweepModel" "QuietSweepModel" "cells" "I", Cond.laysFinal "QuietSweepModel" "QuietSweepModel" "text" "[C", Cond.lays "QuietSweepModel" "QuietSweepModel" "size" "I", Cond.laysFinal "QuietSweepModel" "QuietSweepModel" "newKind" "[I", Cond.laysFinal "QuietSweepModel" "QuietSweepModel" "newP" "[I", Cond.laysFinal "QuietSweepModel" "QuietSweepModel" "newQ" "[I", Cond.laysFinal "QuietSweepModel" "QuietSweepModel" "newT" "[I", Cond.lays "QuietSweepModel" "QuietSweepModel" "length" "I", Cond.laysFinal "QuietSweepModel" "QuietSweepModel" "open" "[I", Cond.lays "QuietSweepModel" "QuietSweepModel" "depth" "I", Cond.laysFinal "QuietSweepModel" "QuietSweepModel" "count" "[I", Cond.laysFinal "QuietSweepModel" "QuietSweepModel" "kind" "[I", Cond.laysFinal "QuietSweepModel" "QuietSweepModel" "argP" "[I", Cond.laysFinal "QuietSweepModel" "QuietSweepModel" "argQ" "[I", Cond.laysFinal "QuietSweepModel" "QuietSweepModel" "argT" "[I", Cond.laysFinal "QuietSweepModel" "QuietSweepModel" "position" "[I", Cond.laysFinal "QuietSweepModel" "QuietSweepModel" "variable" "[I", Cond.laysFinal "QuietSweepModel" "QuietSweepModel" "status" "[I", Cond.laysFinal "QuietSweepModel" "QuietSweepModel" "stalls" "[I", Cond.laysFinal "QuietSweepModel" "QuietSweepModel" "stores" "[I", Cond.laysFinal "QuietSweepModel" "QuietSweepModel" "storeCell" "[I", Cond.laysFinal "QuietSweepModel" "QuietSweepModel" "storeField" "[I", Cond.laysFinal "QuietSweepModel" "QuietSweepModel" "storeValue" "[I", Cond.laysFinal "QuietSweepModel" "QuietSweepModel" "outs" "[I", Cond.laysFinal "QuietSweepModel" "QuietSweepModel" "out" "[I", Cond.laysFinal "QuietSweepModel" "QuietSweepModel" "colour" "[I", Cond.laysFinal "QuietSweepModel" "QuietSweepModel" "memory" "[I", Cond.lays "QuietSweepModel" "QuietSweepModel" "phase" "I", Cond.lays "QuietSweepModel" "QuietSweepModel" "half" "I", Cond.lays "QuietSweepModel" "QuietSweepModel" "sweep" "I", Cond.lays "QuietSweepModel" "QuietSweepModel" "cycles" "I", Cond.laysFinal "QuietSweepModel" "QuietSweepModel" "held" "[Z"], w ∈ qG
  exact List.forall_mem_cons.mpr ⟨qw_593, List.forall_mem_cons.mpr ⟨qw_595, List.forall_mem_cons.mpr ⟨qw_597, List.forall_mem_cons.mpr ⟨qw_599, List.forall_mem_cons.mpr ⟨qw_601, List.forall_mem_cons.mpr ⟨qw_603, List.forall_mem_cons.mpr ⟨qw_605, List.forall_mem_cons.mpr ⟨qw_607, List.forall_mem_cons.mpr ⟨qw_609, List.forall_mem_cons.mpr ⟨qw_611, List.forall_mem_cons.mpr ⟨qw_613, List.forall_mem_cons.mpr ⟨qw_615, List.forall_mem_cons.mpr ⟨qw_617, List.forall_mem_cons.mpr ⟨qw_619, List.forall_mem_cons.mpr ⟨qw_621, List.forall_mem_cons.mpr ⟨qw_623, List.forall_mem_cons.mpr ⟨qw_625, List.forall_mem_cons.mpr ⟨qw_627, List.forall_mem_cons.mpr ⟨qw_629, List.forall_mem_cons.mpr ⟨qw_631, List.forall_mem_cons.mpr ⟨qw_633, List.forall_mem_cons.mpr ⟨qw_635, List.forall_mem_cons.mpr ⟨qw_637, List.forall_mem_cons.mpr ⟨qw_639, List.forall_mem_cons.mpr ⟨qw_641, List.forall_mem_cons.mpr ⟨qw_643, List.forall_mem_cons.mpr ⟨qw_645, List.forall_mem_cons.mpr ⟨qw_647, List.forall_mem_cons.mpr ⟨qw_649, List.forall_mem_cons.mpr ⟨qw_651, List.forall_mem_cons.mpr ⟨qw_653, List.forall_mem_cons.mpr ⟨qw_655, fun _ h => absurd h List.not_mem_nil⟩⟩⟩⟩⟩⟩⟩⟩⟩⟩⟩⟩⟩⟩⟩⟩⟩⟩⟩⟩⟩⟩⟩⟩⟩⟩⟩⟩⟩⟩⟩⟩
abbrev qCl : List vw_C := [("QuietSweep$Buffer", qT_Buf, 4), ("QuietSweep$Collector", qT_Col, 4), ("QuietSweep$Memory", qT_Mem, 3), ("QuietSweep$Mutator", qT_Mut, 9), ("QuietSweep$Outs", qT_Out, 2), ("QuietSweep$Source", qT_Src, 6), ("QuietSweep", qT_Qs, 4), ("QuietSweepModel", qT_Ref, 32)]
