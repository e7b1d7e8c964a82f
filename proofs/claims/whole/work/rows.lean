section
-- ===== PART A: goes FIRST, ahead of the names: the tables' words, and 'selects' of the private methods out of them =====
/-- a private method of a class that the tables say can be made, by its rows of tables_1 -/
def lw_okq (q : MethodName × Nat) : Prop := (q.1.cls ≠ "java/lang/invoke/MethodHandle" ∧ q.1.cls ≠ "java/lang/invoke/VarHandle") ∧ Cond.instantiable q.1.cls q.2 ∈ tables_1 ∧ Cond.privateMethod q.1 ∈ tables_1 ∧ Cond.instanceMethod q.1 ∈ tables_1
theorem lw_p0 : lw_okq (⟨"LeanedBars$Reader", "next", "()V"⟩, 6) := ⟨⟨by decide +kernel, by decide +kernel⟩, List.mem_of_getElem? (i := 25) (by decide +kernel), List.mem_of_getElem? (i := 262) (by decide +kernel), List.mem_of_getElem? (i := 263) (by decide +kernel)⟩
theorem lw_p1 : lw_okq (⟨"LeanedBars$Reader", "readItem", "()Z"⟩, 6) := ⟨⟨by decide +kernel, by decide +kernel⟩, List.mem_of_getElem? (i := 25) (by decide +kernel), List.mem_of_getElem? (i := 280) (by decide +kernel), List.mem_of_getElem? (i := 281) (by decide +kernel)⟩
theorem lw_p2 : lw_okq (⟨"LeanedBars$Reader", "readBar", "()Z"⟩, 6) := ⟨⟨by decide +kernel, by decide +kernel⟩, List.mem_of_getElem? (i := 25) (by decide +kernel), List.mem_of_getElem? (i := 337) (by decide +kernel), List.mem_of_getElem? (i := 338) (by decide +kernel)⟩
theorem lw_p3 : lw_okq (⟨"LeanedBars$Reader", "take", "(II)I"⟩, 6) := ⟨⟨by decide +kernel, by decide +kernel⟩, List.mem_of_getElem? (i := 25) (by decide +kernel), List.mem_of_getElem? (i := 341) (by decide +kernel), List.mem_of_getElem? (i := 342) (by decide +kernel)⟩
theorem lw_p4 : lw_okq (⟨"LeanedBars$Reader", "takeStop", "()Z"⟩, 6) := ⟨⟨by decide +kernel, by decide +kernel⟩, List.mem_of_getElem? (i := 25) (by decide +kernel), List.mem_of_getElem? (i := 346) (by decide +kernel), List.mem_of_getElem? (i := 347) (by decide +kernel)⟩
theorem lw_p5 : lw_okq (⟨"LeanedBars$Reader", "readPerson", "()Z"⟩, 6) := ⟨⟨by decide +kernel, by decide +kernel⟩, List.mem_of_getElem? (i := 25) (by decide +kernel), List.mem_of_getElem? (i := 355) (by decide +kernel), List.mem_of_getElem? (i := 356) (by decide +kernel)⟩
theorem lw_p6 : lw_okq (⟨"LeanedBars$Reader", "readRain", "()Z"⟩, 6) := ⟨⟨by decide +kernel, by decide +kernel⟩, List.mem_of_getElem? (i := 25) (by decide +kernel), List.mem_of_getElem? (i := 364) (by decide +kernel), List.mem_of_getElem? (i := 365) (by decide +kernel)⟩
theorem lw_p7 : lw_okq (⟨"LeanedBars$Reader", "readPaint", "()Z"⟩, 6) := ⟨⟨by decide +kernel, by decide +kernel⟩, List.mem_of_getElem? (i := 25) (by decide +kernel), List.mem_of_getElem? (i := 369) (by decide +kernel), List.mem_of_getElem? (i := 370) (by decide +kernel)⟩
theorem lw_p8 : lw_okq (⟨"LeanedBars", "rustByHolds", "(II)I"⟩, 9) := ⟨⟨by decide +kernel, by decide +kernel⟩, List.mem_of_getElem? (i := 17) (by decide +kernel), List.mem_of_getElem? (i := 444) (by decide +kernel), List.mem_of_getElem? (i := 445) (by decide +kernel)⟩
theorem lw_p9 : lw_okq (⟨"LeanedBars$Ways", "winters", "(III)I"⟩, 9) := ⟨⟨by decide +kernel, by decide +kernel⟩, List.mem_of_getElem? (i := 155) (by decide +kernel), List.mem_of_getElem? (i := 484) (by decide +kernel), List.mem_of_getElem? (i := 485) (by decide +kernel)⟩
theorem lw_p10 : lw_okq (⟨"LeanedBars$Ways", "wintersFrom", "(IIII)I"⟩, 9) := ⟨⟨by decide +kernel, by decide +kernel⟩, List.mem_of_getElem? (i := 155) (by decide +kernel), List.mem_of_getElem? (i := 488) (by decide +kernel), List.mem_of_getElem? (i := 489) (by decide +kernel)⟩
theorem lw_p11 : lw_okq (⟨"LeanedBars$Ways", "leaves", "(III)I"⟩, 9) := ⟨⟨by decide +kernel, by decide +kernel⟩, List.mem_of_getElem? (i := 155) (by decide +kernel), List.mem_of_getElem? (i := 495) (by decide +kernel), List.mem_of_getElem? (i := 496) (by decide +kernel)⟩
theorem lw_p12 : lw_okq (⟨"LeanedBars$Ways", "gather", "(I)V"⟩, 9) := ⟨⟨by decide +kernel, by decide +kernel⟩, List.mem_of_getElem? (i := 155) (by decide +kernel), List.mem_of_getElem? (i := 503) (by decide +kernel), List.mem_of_getElem? (i := 504) (by decide +kernel)⟩
theorem lw_p13 : lw_okq (⟨"LeanedBars$Ways", "gatherBar", "(I)V"⟩, 9) := ⟨⟨by decide +kernel, by decide +kernel⟩, List.mem_of_getElem? (i := 155) (by decide +kernel), List.mem_of_getElem? (i := 508) (by decide +kernel), List.mem_of_getElem? (i := 509) (by decide +kernel)⟩
theorem lw_p14 : lw_okq (⟨"LeanedBars$Ways", "waysBeside", "(I)I"⟩, 9) := ⟨⟨by decide +kernel, by decide +kernel⟩, List.mem_of_getElem? (i := 155) (by decide +kernel), List.mem_of_getElem? (i := 512) (by decide +kernel), List.mem_of_getElem? (i := 513) (by decide +kernel)⟩
theorem lw_p15 : lw_okq (⟨"LeanedBars", "isClaim", "(III)Z"⟩, 9) := ⟨⟨by decide +kernel, by decide +kernel⟩, List.mem_of_getElem? (i := 17) (by decide +kernel), List.mem_of_getElem? (i := 539) (by decide +kernel), List.mem_of_getElem? (i := 540) (by decide +kernel)⟩
def lw_privs_1 : List (MethodName × Nat) := [(⟨"LeanedBars$Reader", "next", "()V"⟩, 6), (⟨"LeanedBars$Reader", "readItem", "()Z"⟩, 6), (⟨"LeanedBars$Reader", "readBar", "()Z"⟩, 6), (⟨"LeanedBars$Reader", "take", "(II)I"⟩, 6), (⟨"LeanedBars$Reader", "takeStop", "()Z"⟩, 6), (⟨"LeanedBars$Reader", "readPerson", "()Z"⟩, 6), (⟨"LeanedBars$Reader", "readRain", "()Z"⟩, 6), (⟨"LeanedBars$Reader", "readPaint", "()Z"⟩, 6), (⟨"LeanedBars", "rustByHolds", "(II)I"⟩, 9), (⟨"LeanedBars$Ways", "winters", "(III)I"⟩, 9), (⟨"LeanedBars$Ways", "wintersFrom", "(IIII)I"⟩, 9), (⟨"LeanedBars$Ways", "leaves", "(III)I"⟩, 9), (⟨"LeanedBars$Ways", "gather", "(I)V"⟩, 9), (⟨"LeanedBars$Ways", "gatherBar", "(I)V"⟩, 9), (⟨"LeanedBars$Ways", "waysBeside", "(I)I"⟩, 9), (⟨"LeanedBars", "isClaim", "(III)Z"⟩, 9)]
theorem lw_r1 : ∀ q ∈ lw_privs_1, lw_okq q := List.forall_mem_cons.mpr ⟨lw_p0, List.forall_mem_cons.mpr ⟨lw_p1, List.forall_mem_cons.mpr ⟨lw_p2, List.forall_mem_cons.mpr ⟨lw_p3, List.forall_mem_cons.mpr ⟨lw_p4, List.forall_mem_cons.mpr ⟨lw_p5, List.forall_mem_cons.mpr ⟨lw_p6, List.forall_mem_cons.mpr ⟨lw_p7, List.forall_mem_cons.mpr ⟨lw_p8, List.forall_mem_cons.mpr ⟨lw_p9, List.forall_mem_cons.mpr ⟨lw_p10, List.forall_mem_cons.mpr ⟨lw_p11, List.forall_mem_cons.mpr ⟨lw_p12, List.forall_mem_cons.mpr ⟨lw_p13, List.forall_mem_cons.mpr ⟨lw_p14, List.forall_mem_cons.mpr ⟨lw_p15, fun _ h => absurd h List.not_mem_nil⟩⟩⟩⟩⟩⟩⟩⟩⟩⟩⟩⟩⟩⟩⟩⟩
theorem lw_p16 : lw_okq (⟨"LeanedBars$Ways", "spread", "(IIIII)V"⟩, 9) := ⟨⟨by decide +kernel, by decide +kernel⟩, List.mem_of_getElem? (i := 155) (by decide +kernel), List.mem_of_getElem? (i := 559) (by decide +kernel), List.mem_of_getElem? (i := 560) (by decide +kernel)⟩
theorem lw_p17 : lw_okq (⟨"LeanedBars$Exchanges", "fewestFrom", "(I)I"⟩, 3) := ⟨⟨by decide +kernel, by decide +kernel⟩, List.mem_of_getElem? (i := 190) (by decide +kernel), List.mem_of_getElem? (i := 579) (by decide +kernel), List.mem_of_getElem? (i := 580) (by decide +kernel)⟩
theorem lw_p18 : lw_okq (⟨"LeanedBars$Exchanges", "exchange", "(II)V"⟩, 3) := ⟨⟨by decide +kernel, by decide +kernel⟩, List.mem_of_getElem? (i := 190) (by decide +kernel), List.mem_of_getElem? (i := 583) (by decide +kernel), List.mem_of_getElem? (i := 584) (by decide +kernel)⟩
theorem lw_p19 : lw_okq (⟨"LeanedBars", "rateOfBar", "(I)I"⟩, 9) := ⟨⟨by decide +kernel, by decide +kernel⟩, List.mem_of_getElem? (i := 17) (by decide +kernel), List.mem_of_getElem? (i := 593) (by decide +kernel), List.mem_of_getElem? (i := 594) (by decide +kernel)⟩
theorem lw_p20 : lw_okq (⟨"LeanedBars", "rateOfRail", "(I)I"⟩, 9) := ⟨⟨by decide +kernel, by decide +kernel⟩, List.mem_of_getElem? (i := 17) (by decide +kernel), List.mem_of_getElem? (i := 597) (by decide +kernel), List.mem_of_getElem? (i := 598) (by decide +kernel)⟩
theorem lw_p21 : lw_okq (⟨"LeanedBars", "rateOfSpike", "(I)I"⟩, 9) := ⟨⟨by decide +kernel, by decide +kernel⟩, List.mem_of_getElem? (i := 17) (by decide +kernel), List.mem_of_getElem? (i := 606) (by decide +kernel), List.mem_of_getElem? (i := 607) (by decide +kernel)⟩
theorem lw_p22 : lw_okq (⟨"LeanedBars", "rateOfGate", "(I)I"⟩, 9) := ⟨⟨by decide +kernel, by decide +kernel⟩, List.mem_of_getElem? (i := 17) (by decide +kernel), List.mem_of_getElem? (i := 615) (by decide +kernel), List.mem_of_getElem? (i := 616) (by decide +kernel)⟩
theorem lw_p23 : lw_okq (⟨"LeanedBars", "rateOfFinial", "(I)I"⟩, 9) := ⟨⟨by decide +kernel, by decide +kernel⟩, List.mem_of_getElem? (i := 17) (by decide +kernel), List.mem_of_getElem? (i := 620) (by decide +kernel), List.mem_of_getElem? (i := 621) (by decide +kernel)⟩
theorem lw_p24 : lw_okq (⟨"LeanedBars", "rateOfNewOne", "(I)I"⟩, 9) := ⟨⟨by decide +kernel, by decide +kernel⟩, List.mem_of_getElem? (i := 17) (by decide +kernel), List.mem_of_getElem? (i := 625) (by decide +kernel), List.mem_of_getElem? (i := 626) (by decide +kernel)⟩
theorem lw_p25 : lw_okq (⟨"LeanedBarsModel", "reads", "()Z"⟩, 19) := ⟨⟨by decide +kernel, by decide +kernel⟩, List.mem_of_getElem? (i := 655) (by decide +kernel), List.mem_of_getElem? (i := 661) (by decide +kernel), List.mem_of_getElem? (i := 662) (by decide +kernel)⟩
theorem lw_p26 : lw_okq (⟨"LeanedBarsModel", "token", "()V"⟩, 19) := ⟨⟨by decide +kernel, by decide +kernel⟩, List.mem_of_getElem? (i := 655) (by decide +kernel), List.mem_of_getElem? (i := 668) (by decide +kernel), List.mem_of_getElem? (i := 669) (by decide +kernel)⟩
theorem lw_p27 : lw_okq (⟨"LeanedBarsModel", "byteAt", "(I)I"⟩, 19) := ⟨⟨by decide +kernel, by decide +kernel⟩, List.mem_of_getElem? (i := 655) (by decide +kernel), List.mem_of_getElem? (i := 672) (by decide +kernel), List.mem_of_getElem? (i := 673) (by decide +kernel)⟩
theorem lw_p28 : lw_okq (⟨"LeanedBarsModel", "verb", "()I"⟩, 19) := ⟨⟨by decide +kernel, by decide +kernel⟩, List.mem_of_getElem? (i := 655) (by decide +kernel), List.mem_of_getElem? (i := 679) (by decide +kernel), List.mem_of_getElem? (i := 680) (by decide +kernel)⟩
theorem lw_p29 : lw_okq (⟨"LeanedBarsModel", "readsItem", "(I)Z"⟩, 19) := ⟨⟨by decide +kernel, by decide +kernel⟩, List.mem_of_getElem? (i := 655) (by decide +kernel), List.mem_of_getElem? (i := 688) (by decide +kernel), List.mem_of_getElem? (i := 689) (by decide +kernel)⟩
theorem lw_p30 : lw_okq (⟨"LeanedBarsModel", "readsBar", "()Z"⟩, 19) := ⟨⟨by decide +kernel, by decide +kernel⟩, List.mem_of_getElem? (i := 655) (by decide +kernel), List.mem_of_getElem? (i := 692) (by decide +kernel), List.mem_of_getElem? (i := 693) (by decide +kernel)⟩
theorem lw_p31 : lw_okq (⟨"LeanedBarsModel", "figure", "(II)I"⟩, 19) := ⟨⟨by decide +kernel, by decide +kernel⟩, List.mem_of_getElem? (i := 655) (by decide +kernel), List.mem_of_getElem? (i := 696) (by decide +kernel), List.mem_of_getElem? (i := 697) (by decide +kernel)⟩
def lw_privs_2 : List (MethodName × Nat) := [(⟨"LeanedBars$Ways", "spread", "(IIIII)V"⟩, 9), (⟨"LeanedBars$Exchanges", "fewestFrom", "(I)I"⟩, 3), (⟨"LeanedBars$Exchanges", "exchange", "(II)V"⟩, 3), (⟨"LeanedBars", "rateOfBar", "(I)I"⟩, 9), (⟨"LeanedBars", "rateOfRail", "(I)I"⟩, 9), (⟨"LeanedBars", "rateOfSpike", "(I)I"⟩, 9), (⟨"LeanedBars", "rateOfGate", "(I)I"⟩, 9), (⟨"LeanedBars", "rateOfFinial", "(I)I"⟩, 9), (⟨"LeanedBars", "rateOfNewOne", "(I)I"⟩, 9), (⟨"LeanedBarsModel", "reads", "()Z"⟩, 19), (⟨"LeanedBarsModel", "token", "()V"⟩, 19), (⟨"LeanedBarsModel", "byteAt", "(I)I"⟩, 19), (⟨"LeanedBarsModel", "verb", "()I"⟩, 19), (⟨"LeanedBarsModel", "readsItem", "(I)Z"⟩, 19), (⟨"LeanedBarsModel", "readsBar", "()Z"⟩, 19), (⟨"LeanedBarsModel", "figure", "(II)I"⟩, 19)]
theorem lw_r2 : ∀ q ∈ lw_privs_2, lw_okq q := List.forall_mem_cons.mpr ⟨lw_p16, List.forall_mem_cons.mpr ⟨lw_p17, List.forall_mem_cons.mpr ⟨lw_p18, List.forall_mem_cons.mpr ⟨lw_p19, List.forall_mem_cons.mpr ⟨lw_p20, List.forall_mem_cons.mpr ⟨lw_p21, List.forall_mem_cons.mpr ⟨lw_p22, List.forall_mem_cons.mpr ⟨lw_p23, List.forall_mem_cons.mpr ⟨lw_p24, List.forall_mem_cons.mpr ⟨lw_p25, List.forall_mem_cons.mpr ⟨lw_p26, List.forall_mem_cons.mpr ⟨lw_p27, List.forall_mem_cons.mpr ⟨lw_p28, List.forall_mem_cons.mpr ⟨lw_p29, List.forall_mem_cons.mpr ⟨lw_p30, List.forall_mem_cons.mpr ⟨lw_p31, fun _ h => absurd h List.not_mem_nil⟩⟩⟩⟩⟩⟩⟩⟩⟩⟩⟩⟩⟩⟩⟩⟩
theorem lw_p32 : lw_okq (⟨"LeanedBarsModel", "readsPerson", "()Z"⟩, 19) := ⟨⟨by decide +kernel, by decide +kernel⟩, List.mem_of_getElem? (i := 655) (by decide +kernel), List.mem_of_getElem? (i := 700) (by decide +kernel), List.mem_of_getElem? (i := 701) (by decide +kernel)⟩
theorem lw_p33 : lw_okq (⟨"LeanedBarsModel", "readsRain", "()Z"⟩, 19) := ⟨⟨by decide +kernel, by decide +kernel⟩, List.mem_of_getElem? (i := 655) (by decide +kernel), List.mem_of_getElem? (i := 704) (by decide +kernel), List.mem_of_getElem? (i := 705) (by decide +kernel)⟩
theorem lw_p34 : lw_okq (⟨"LeanedBarsModel", "readsPaint", "()Z"⟩, 19) := ⟨⟨by decide +kernel, by decide +kernel⟩, List.mem_of_getElem? (i := 655) (by decide +kernel), List.mem_of_getElem? (i := 708) (by decide +kernel), List.mem_of_getElem? (i := 709) (by decide +kernel)⟩
theorem lw_p35 : lw_okq (⟨"LeanedBarsModel", "tells", "()V"⟩, 19) := ⟨⟨by decide +kernel, by decide +kernel⟩, List.mem_of_getElem? (i := 655) (by decide +kernel), List.mem_of_getElem? (i := 712) (by decide +kernel), List.mem_of_getElem? (i := 713) (by decide +kernel)⟩
theorem lw_p36 : lw_okq (⟨"LeanedBarsModel", "isBar", "(I)Z"⟩, 19) := ⟨⟨by decide +kernel, by decide +kernel⟩, List.mem_of_getElem? (i := 655) (by decide +kernel), List.mem_of_getElem? (i := 791) (by decide +kernel), List.mem_of_getElem? (i := 792) (by decide +kernel)⟩
theorem lw_p37 : lw_okq (⟨"LeanedBarsModel", "isPerson", "(I)Z"⟩, 19) := ⟨⟨by decide +kernel, by decide +kernel⟩, List.mem_of_getElem? (i := 655) (by decide +kernel), List.mem_of_getElem? (i := 799) (by decide +kernel), List.mem_of_getElem? (i := 800) (by decide +kernel)⟩
theorem lw_p38 : lw_okq (⟨"LeanedBarsModel", "paintOf", "(II)I"⟩, 19) := ⟨⟨by decide +kernel, by decide +kernel⟩, List.mem_of_getElem? (i := 655) (by decide +kernel), List.mem_of_getElem? (i := 811) (by decide +kernel), List.mem_of_getElem? (i := 812) (by decide +kernel)⟩
theorem lw_p39 : lw_okq (⟨"LeanedBarsModel", "rustOf", "(II)I"⟩, 19) := ⟨⟨by decide +kernel, by decide +kernel⟩, List.mem_of_getElem? (i := 655) (by decide +kernel), List.mem_of_getElem? (i := 831) (by decide +kernel), List.mem_of_getElem? (i := 832) (by decide +kernel)⟩
theorem lw_p40 : lw_okq (⟨"LeanedBarsModel", "plain", "(II)I"⟩, 19) := ⟨⟨by decide +kernel, by decide +kernel⟩, List.mem_of_getElem? (i := 655) (by decide +kernel), List.mem_of_getElem? (i := 835) (by decide +kernel), List.mem_of_getElem? (i := 836) (by decide +kernel)⟩
theorem lw_p41 : lw_okq (⟨"LeanedBarsModel", "lays", "()V"⟩, 19) := ⟨⟨by decide +kernel, by decide +kernel⟩, List.mem_of_getElem? (i := 655) (by decide +kernel), List.mem_of_getElem? (i := 855) (by decide +kernel), List.mem_of_getElem? (i := 856) (by decide +kernel)⟩
theorem lw_p42 : lw_okq (⟨"LeanedBarsModel", "isWay", "(I)Z"⟩, 19) := ⟨⟨by decide +kernel, by decide +kernel⟩, List.mem_of_getElem? (i := 655) (by decide +kernel), List.mem_of_getElem? (i := 859) (by decide +kernel), List.mem_of_getElem? (i := 860) (by decide +kernel)⟩
theorem lw_p43 : lw_okq (⟨"LeanedBarsModel", "figureOf", "(II)I"⟩, 19) := ⟨⟨by decide +kernel, by decide +kernel⟩, List.mem_of_getElem? (i := 655) (by decide +kernel), List.mem_of_getElem? (i := 863) (by decide +kernel), List.mem_of_getElem? (i := 864) (by decide +kernel)⟩
theorem lw_p44 : lw_okq (⟨"LeanedBarsModel", "isClaim", "(III)Z"⟩, 19) := ⟨⟨by decide +kernel, by decide +kernel⟩, List.mem_of_getElem? (i := 655) (by decide +kernel), List.mem_of_getElem? (i := 882) (by decide +kernel), List.mem_of_getElem? (i := 883) (by decide +kernel)⟩
theorem lw_p45 : lw_okq (⟨"LeanedBarsModel", "claims", "(II)I"⟩, 19) := ⟨⟨by decide +kernel, by decide +kernel⟩, List.mem_of_getElem? (i := 655) (by decide +kernel), List.mem_of_getElem? (i := 886) (by decide +kernel), List.mem_of_getElem? (i := 887) (by decide +kernel)⟩
theorem lw_p46 : lw_okq (⟨"LeanedBarsModel", "comesOut", "(I)Z"⟩, 19) := ⟨⟨by decide +kernel, by decide +kernel⟩, List.mem_of_getElem? (i := 655) (by decide +kernel), List.mem_of_getElem? (i := 902) (by decide +kernel), List.mem_of_getElem? (i := 903) (by decide +kernel)⟩
theorem lw_p47 : lw_okq (⟨"LeanedBarsModel", "exchanges", "(I)I"⟩, 19) := ⟨⟨by decide +kernel, by decide +kernel⟩, List.mem_of_getElem? (i := 655) (by decide +kernel), List.mem_of_getElem? (i := 906) (by decide +kernel), List.mem_of_getElem? (i := 907) (by decide +kernel)⟩
def lw_privs_3 : List (MethodName × Nat) := [(⟨"LeanedBarsModel", "readsPerson", "()Z"⟩, 19), (⟨"LeanedBarsModel", "readsRain", "()Z"⟩, 19), (⟨"LeanedBarsModel", "readsPaint", "()Z"⟩, 19), (⟨"LeanedBarsModel", "tells", "()V"⟩, 19), (⟨"LeanedBarsModel", "isBar", "(I)Z"⟩, 19), (⟨"LeanedBarsModel", "isPerson", "(I)Z"⟩, 19), (⟨"LeanedBarsModel", "paintOf", "(II)I"⟩, 19), (⟨"LeanedBarsModel", "rustOf", "(II)I"⟩, 19), (⟨"LeanedBarsModel", "plain", "(II)I"⟩, 19), (⟨"LeanedBarsModel", "lays", "()V"⟩, 19), (⟨"LeanedBarsModel", "isWay", "(I)Z"⟩, 19), (⟨"LeanedBarsModel", "figureOf", "(II)I"⟩, 19), (⟨"LeanedBarsModel", "isClaim", "(III)Z"⟩, 19), (⟨"LeanedBarsModel", "claims", "(II)I"⟩, 19), (⟨"LeanedBarsModel", "comesOut", "(I)Z"⟩, 19), (⟨"LeanedBarsModel", "exchanges", "(I)I"⟩, 19)]
theorem lw_r3 : ∀ q ∈ lw_privs_3, lw_okq q := List.forall_mem_cons.mpr ⟨lw_p32, List.forall_mem_cons.mpr ⟨lw_p33, List.forall_mem_cons.mpr ⟨lw_p34, List.forall_mem_cons.mpr ⟨lw_p35, List.forall_mem_cons.mpr ⟨lw_p36, List.forall_mem_cons.mpr ⟨lw_p37, List.forall_mem_cons.mpr ⟨lw_p38, List.forall_mem_cons.mpr ⟨lw_p39, List.forall_mem_cons.mpr ⟨lw_p40, List.forall_mem_cons.mpr ⟨lw_p41, List.forall_mem_cons.mpr ⟨lw_p42, List.forall_mem_cons.mpr ⟨lw_p43, List.forall_mem_cons.mpr ⟨lw_p44, List.forall_mem_cons.mpr ⟨lw_p45, List.forall_mem_cons.mpr ⟨lw_p46, List.forall_mem_cons.mpr ⟨lw_p47, fun _ h => absurd h List.not_mem_nil⟩⟩⟩⟩⟩⟩⟩⟩⟩⟩⟩⟩⟩⟩⟩⟩
def lw_privs : List (MethodName × Nat) := lw_privs_1 ++ (lw_privs_2 ++ (lw_privs_3))
def lw_tbl : List Cond := k2_sels lw_privs ++ tables_1
theorem lw_privs_ok : ∀ q ∈ lw_privs, lw_okq q := by
  show ∀ q ∈ lw_privs_1 ++ (lw_privs_2 ++ (lw_privs_3)), lw_okq q
  exact List.forall_mem_append.mpr ⟨lw_r1, List.forall_mem_append.mpr ⟨lw_r2, lw_r3⟩⟩
end
section
/-! ===== BEGIN words of one list among another's, by their places ===== -/
theorem goodIn_r {big : List Cond} (ws : List Cond) (ps : List Nat) (hp : ws = ps.filterMap (fun i => big[i]?)) (h : ws.all goodWord = true) : GoodIn big ws := by
  intro w hw
  have h1 := List.all_eq_true.mp h w hw
  rw [hp] at hw
  obtain ⟨i, -, hi⟩ := List.mem_filterMap.mp hw
  have hm : w ∈ big := by first | exact List.mem_of_getElem? hi | exact List.getElem?_mem hi
  exact ⟨hm, good_of_word h1⟩
theorem goodIn_app {big a b : List Cond} (ha : GoodIn big a) (hb : GoodIn big b) : GoodIn big (a ++ b) := fun w h => (List.mem_append.mp h).elim (ha w) (hb w)
theorem goodIn_ca {big a b : List Cond} {c : Cond} (ha : GoodIn big (c :: a)) (hb : GoodIn big b) : GoodIn big (c :: (a ++ b)) := fun w h => (List.mem_cons.mp h).elim (fun e => ha w (List.mem_cons.mpr (Or.inl e))) (fun h => (List.mem_append.mp h).elim (fun h => ha w (List.mem_cons.mpr (Or.inr h))) (hb w))
theorem goodIn_sub {big ws : List Cond} (hm : ∀ w ∈ ws, w ∈ big) (h : ws.all goodWord = true) : GoodIn big ws := fun w hw => ⟨hm w hw, good_of_word (List.all_eq_true.mp h w hw)⟩
/-! ===== END ===== -/

/-! ===== BEGIN printed: names, fields, word lists, decode rows ===== -/
def RX0 : String := "LeanedBars$Exchanges"
def TX0 : u_T := fun k => match k with
  | 0 => ("LeanedBars$Exchanges", "size", "I", false)
  | 1 => ("LeanedBars$Exchanges", "rusts", "[I", true)
  | _ => ("LeanedBars$Exchanges", "wanted", "[I", true)
def tyX0 : Nat → FieldType := fun k => match k with
  | 0 => .int
  | 1 => .array .int
  | _ => .array .int
abbrev wsX00 : List Cond := u_ws RX0 TX0 3
theorem nmX0 : ∀ a, a < 3 → ∀ b, b < 3 → a ≠ b → (TX0 a).2.1 ≠ (TX0 b).2.1 := by decide +kernel
theorem tyX0_ok : ∀ k, k < 3 → parseFieldDescriptor (TX0 k).2.2.1 = some (tyX0 k) := by decide +kernel
abbrev cX0_init : ByteArray := prog_2_method_1_code
def yX0_init : MethodName := ⟨RX0, "<init>", "()V"⟩
abbrev cX0_add : ByteArray := prog_2_method_2_code
def yX0_add : MethodName := ⟨RX0, "add", "(II)V"⟩
abbrev cX0_fewest : ByteArray := prog_2_method_3_code
def yX0_fewest : MethodName := ⟨RX0, "fewest", "()I"⟩
abbrev cX0_fewestFrom : ByteArray := prog_2_method_4_code
def yX0_fewestFrom : MethodName := ⟨RX0, "fewestFrom", "(I)I"⟩
abbrev cX0_exchange : ByteArray := prog_2_method_5_code
def yX0_exchange : MethodName := ⟨RX0, "exchange", "(II)V"⟩
def RX1 : String := "LeanedBars$Now"
def TX1 : u_T := fun k => match k with
  | 0 => ("LeanedBars$Now", "size", "I", false)
  | 1 => ("LeanedBars$Now", "people", "[I", true)
  | 2 => ("LeanedBars$Now", "bars", "[I", true)
  | 3 => ("LeanedBars$Now", "firsts", "[I", true)
  | 4 => ("LeanedBars$Now", "lengths", "[I", true)
  | _ => ("LeanedBars$Now", "sights", "[I", true)
def tyX1 : Nat → FieldType := fun k => match k with
  | 0 => .int
  | 1 => .array .int
  | 2 => .array .int
  | 3 => .array .int
  | 4 => .array .int
  | _ => .array .int
abbrev wsX10 : List Cond := u_ws RX1 TX1 6
theorem nmX1 : ∀ a, a < 6 → ∀ b, b < 6 → a ≠ b → (TX1 a).2.1 ≠ (TX1 b).2.1 := by decide +kernel
theorem tyX1_ok : ∀ k, k < 6 → parseFieldDescriptor (TX1 k).2.2.1 = some (tyX1 k) := by decide +kernel
abbrev cX1_init : ByteArray := prog_3_method_1_code
def yX1_init : MethodName := ⟨RX1, "<init>", "()V"⟩
abbrev cX1_forget : ByteArray := prog_3_method_2_code
def yX1_forget : MethodName := ⟨RX1, "forget", "()V"⟩
abbrev cX1_become : ByteArray := prog_3_method_3_code
def yX1_become : MethodName := ⟨RX1, "become", "(LLeanedBars$Now;)V"⟩
abbrev cX1_add : ByteArray := prog_3_method_4_code
def yX1_add : MethodName := ⟨RX1, "add", "(IIII)V"⟩
abbrev cX1_holdsOf : ByteArray := prog_3_method_5_code
def yX1_holdsOf : MethodName := ⟨RX1, "holdsOf", "(I)I"⟩
abbrev cX1_sightsTold : ByteArray := prog_3_method_6_code
def yX1_sightsTold : MethodName := ⟨RX1, "sightsTold", "()I"⟩
def RX2 : String := "LeanedBars$Railings"
def TX2 : u_T := fun k => match k with
  | 0 => ("LeanedBars$Railings", "bars", "I", false)
  | 1 => ("LeanedBars$Railings", "people", "I", false)
  | 2 => ("LeanedBars$Railings", "paints", "I", false)
  | 3 => ("LeanedBars$Railings", "metals", "[I", true)
  | 4 => ("LeanedBars$Railings", "grips", "[I", true)
  | 5 => ("LeanedBars$Railings", "rains", "[I", true)
  | 6 => ("LeanedBars$Railings", "paintedBars", "[I", true)
  | 7 => ("LeanedBars$Railings", "paintedYears", "[I", true)
  | _ => ("LeanedBars$Railings", "lastings", "[I", true)
def tyX2 : Nat → FieldType := fun k => match k with
  | 0 => .int
  | 1 => .int
  | 2 => .int
  | 3 => .array .int
  | 4 => .array .int
  | 5 => .array .int
  | 6 => .array .int
  | 7 => .array .int
  | _ => .array .int
abbrev wsX20 : List Cond := u_ws RX2 TX2 9
theorem nmX2 : ∀ a, a < 9 → ∀ b, b < 9 → a ≠ b → (TX2 a).2.1 ≠ (TX2 b).2.1 := by decide +kernel
theorem tyX2_ok : ∀ k, k < 9 → parseFieldDescriptor (TX2 k).2.2.1 = some (tyX2 k) := by decide +kernel
abbrev cX2_init : ByteArray := prog_4_method_1_code
def yX2_init : MethodName := ⟨RX2, "<init>", "()V"⟩
abbrev cX2_empty : ByteArray := prog_4_method_2_code
def yX2_empty : MethodName := ⟨RX2, "empty", "()V"⟩
abbrev cX2_become : ByteArray := prog_4_method_3_code
def yX2_become : MethodName := ⟨RX2, "become", "(LLeanedBars$Railings;)V"⟩
abbrev cX2_hasBar : ByteArray := prog_4_method_4_code
def yX2_hasBar : MethodName := ⟨RX2, "hasBar", "(I)Z"⟩
abbrev cX2_hasPerson : ByteArray := prog_4_method_5_code
def yX2_hasPerson : MethodName := ⟨RX2, "hasPerson", "(I)Z"⟩
abbrev cX2_addBar : ByteArray := prog_4_method_6_code
def yX2_addBar : MethodName := ⟨RX2, "addBar", "(I)V"⟩
abbrev cX2_addPerson : ByteArray := prog_4_method_7_code
def yX2_addPerson : MethodName := ⟨RX2, "addPerson", "(I)V"⟩
abbrev cX2_addPaint : ByteArray := prog_4_method_8_code
def yX2_addPaint : MethodName := ⟨RX2, "addPaint", "(III)V"⟩
abbrev cX2_isWet : ByteArray := prog_4_method_9_code
def yX2_isWet : MethodName := ⟨RX2, "isWet", "(II)Z"⟩
abbrev cX2_isCovered : ByteArray := prog_4_method_10_code
def yX2_isCovered : MethodName := ⟨RX2, "isCovered", "(II)Z"⟩
abbrev cX2_coveredYears : ByteArray := prog_4_method_11_code
def yX2_coveredYears : MethodName := ⟨RX2, "coveredYears", "(I)I"⟩
abbrev cX2_weather : ByteArray := prog_4_method_12_code
def yX2_weather : MethodName := ⟨RX2, "weather", "(II)I"⟩
abbrev cX2_dryYears : ByteArray := prog_4_method_13_code
def yX2_dryYears : MethodName := ⟨RX2, "dryYears", "(III)I"⟩
def RX3 : String := "LeanedBars$Reader"
def TX3 : u_T := fun k => match k with
  | 0 => ("LeanedBars$Reader", "text", "LLeanedBars$Text;", true)
  | 1 => ("LeanedBars$Reader", "told", "LLeanedBars$Railings;", true)
  | 2 => ("LeanedBars$Reader", "kind", "I", false)
  | 3 => ("LeanedBars$Reader", "at", "I", false)
  | 4 => ("LeanedBars$Reader", "behind", "I", false)
  | _ => ("LeanedBars$Reader", "number", "I", false)
def tyX3 : Nat → FieldType := fun k => match k with
  | 0 => .object "LeanedBars$Text"
  | 1 => .object "LeanedBars$Railings"
  | 2 => .int
  | 3 => .int
  | 4 => .int
  | _ => .int
abbrev wsX30 : List Cond := u_ws RX3 TX3 6
theorem nmX3 : ∀ a, a < 6 → ∀ b, b < 6 → a ≠ b → (TX3 a).2.1 ≠ (TX3 b).2.1 := by decide +kernel
theorem tyX3_ok : ∀ k, k < 6 → parseFieldDescriptor (TX3 k).2.2.1 = some (tyX3 k) := by decide +kernel
abbrev cX3_init : ByteArray := prog_5_method_1_code
def yX3_init : MethodName := ⟨RX3, "<init>", "()V"⟩
abbrev cX3_read : ByteArray := prog_5_method_2_code
def yX3_read : MethodName := ⟨RX3, "read", "()I"⟩
abbrev cX3_readItem : ByteArray := prog_5_method_3_code
def yX3_readItem : MethodName := ⟨RX3, "readItem", "()Z"⟩
abbrev cX3_readBar : ByteArray := prog_5_method_4_code
def yX3_readBar : MethodName := ⟨RX3, "readBar", "()Z"⟩
abbrev cX3_readPerson : ByteArray := prog_5_method_5_code
def yX3_readPerson : MethodName := ⟨RX3, "readPerson", "()Z"⟩
abbrev cX3_readRain : ByteArray := prog_5_method_6_code
def yX3_readRain : MethodName := ⟨RX3, "readRain", "()Z"⟩
abbrev cX3_readPaint : ByteArray := prog_5_method_7_code
def yX3_readPaint : MethodName := ⟨RX3, "readPaint", "()Z"⟩
abbrev cX3_take : ByteArray := prog_5_method_8_code
def yX3_take : MethodName := ⟨RX3, "take", "(II)I"⟩
abbrev cX3_takeStop : ByteArray := prog_5_method_9_code
def yX3_takeStop : MethodName := ⟨RX3, "takeStop", "()Z"⟩
abbrev cX3_next : ByteArray := prog_5_method_10_code
def yX3_next : MethodName := ⟨RX3, "next", "()V"⟩
def RX4 : String := "LeanedBars$Text"
def TX4 : u_T := fun k => match k with
  | 0 => ("LeanedBars$Text", "bytes", "[B", true)
  | _ => ("LeanedBars$Text", "length", "I", false)
def tyX4 : Nat → FieldType := fun k => match k with
  | 0 => .array .byte
  | _ => .int
abbrev wsX40 : List Cond := u_ws RX4 TX4 2
theorem nmX4 : ∀ a, a < 2 → ∀ b, b < 2 → a ≠ b → (TX4 a).2.1 ≠ (TX4 b).2.1 := by decide +kernel
theorem tyX4_ok : ∀ k, k < 2 → parseFieldDescriptor (TX4 k).2.2.1 = some (tyX4 k) := by decide +kernel
abbrev cX4_init : ByteArray := prog_6_method_1_code
def yX4_init : MethodName := ⟨RX4, "<init>", "()V"⟩
abbrev cX4_append : ByteArray := prog_6_method_2_code
def yX4_append : MethodName := ⟨RX4, "append", "(JI)V"⟩
abbrev cX4_isSign : ByteArray := prog_6_method_3_code
def yX4_isSign : MethodName := ⟨RX4, "isSign", "(IC)Z"⟩
abbrev cX4_isWord : ByteArray := prog_6_method_4_code
def yX4_isWord : MethodName := ⟨RX4, "isWord", "(IILjava/lang/String;)Z"⟩
abbrev cX4_behindRow : ByteArray := prog_6_method_5_code
def yX4_behindRow : MethodName := ⟨RX4, "behindRow", "(ICC)I"⟩
abbrev cX4_numberIn : ByteArray := prog_6_method_6_code
def yX4_numberIn : MethodName := ⟨RX4, "numberIn", "(II)I"⟩
def RX5 : String := "LeanedBars$Ways"
def TX5 : u_T := fun k => match k with
  | 0 => ("LeanedBars$Ways", "bars", "I", false)
  | 1 => ("LeanedBars$Ways", "people", "I", false)
  | 2 => ("LeanedBars$Ways", "isSeen", "[Z", true)
  | 3 => ("LeanedBars$Ways", "needs", "[I", true)
  | 4 => ("LeanedBars$Ways", "grips", "[I", true)
  | 5 => ("LeanedBars$Ways", "dryWinters", "[I", true)
  | 6 => ("LeanedBars$Ways", "fitting", "[I", true)
  | 7 => ("LeanedBars$Ways", "gathered", "[I", true)
  | _ => ("LeanedBars$Ways", "tally", "[I", true)
def tyX5 : Nat → FieldType := fun k => match k with
  | 0 => .int
  | 1 => .int
  | 2 => .array .boolean
  | 3 => .array .int
  | 4 => .array .int
  | 5 => .array .int
  | 6 => .array .int
  | 7 => .array .int
  | _ => .array .int
abbrev wsX50 : List Cond := u_ws RX5 TX5 9
theorem nmX5 : ∀ a, a < 9 → ∀ b, b < 9 → a ≠ b → (TX5 a).2.1 ≠ (TX5 b).2.1 := by decide +kernel
theorem tyX5_ok : ∀ k, k < 9 → parseFieldDescriptor (TX5 k).2.2.1 = some (tyX5 k) := by decide +kernel
abbrev cX5_init : ByteArray := prog_7_method_1_code
def yX5_init : MethodName := ⟨RX5, "<init>", "()V"⟩
abbrev cX5_learn : ByteArray := prog_7_method_2_code
def yX5_learn : MethodName := ⟨RX5, "learn", "(LLeanedBars$Railings;LLeanedBars$Now;)V"⟩
abbrev cX5_all : ByteArray := prog_7_method_3_code
def yX5_all : MethodName := ⟨RX5, "all", "()I"⟩
abbrev cX5_holdingNone : ByteArray := prog_7_method_4_code
def yX5_holdingNone : MethodName := ⟨RX5, "holdingNone", "(I)I"⟩
abbrev cX5_holding : ByteArray := prog_7_method_5_code
def yX5_holding : MethodName := ⟨RX5, "holding", "(II)I"⟩
abbrev cX5_canHaveHeld : ByteArray := prog_7_method_6_code
def yX5_canHaveHeld : MethodName := ⟨RX5, "canHaveHeld", "(III)Z"⟩
abbrev cX5_leftAtWorst : ByteArray := prog_7_method_7_code
def yX5_leftAtWorst : MethodName := ⟨RX5, "leftAtWorst", "(I)I"⟩
abbrev cX5_gather : ByteArray := prog_7_method_8_code
def yX5_gather : MethodName := ⟨RX5, "gather", "(I)V"⟩
abbrev cX5_gatherBar : ByteArray := prog_7_method_9_code
def yX5_gatherBar : MethodName := ⟨RX5, "gatherBar", "(I)V"⟩
abbrev cX5_waysBeside : ByteArray := prog_7_method_10_code
def yX5_waysBeside : MethodName := ⟨RX5, "waysBeside", "(I)I"⟩
abbrev cX5_winters : ByteArray := prog_7_method_11_code
def yX5_winters : MethodName := ⟨RX5, "winters", "(III)I"⟩
abbrev cX5_wintersFrom : ByteArray := prog_7_method_12_code
def yX5_wintersFrom : MethodName := ⟨RX5, "wintersFrom", "(IIII)I"⟩
abbrev cX5_spread : ByteArray := prog_7_method_13_code
def yX5_spread : MethodName := ⟨RX5, "spread", "(IIIII)V"⟩
abbrev cX5_leaves : ByteArray := prog_7_method_14_code
def yX5_leaves : MethodName := ⟨RX5, "leaves", "(III)I"⟩
abbrev cX5_isIn : ByteArray := prog_7_method_15_code
def yX5_isIn : MethodName := ⟨RX5, "isIn", "(II)Z"⟩
def RX6 : String := "LeanedBars"
def TX6 : u_T := fun k => match k with
  | 0 => ("LeanedBars", "reader", "LLeanedBars$Reader;", true)
  | 1 => ("LeanedBars", "text", "LLeanedBars$Text;", true)
  | 2 => ("LeanedBars", "railings", "LLeanedBars$Railings;", true)
  | 3 => ("LeanedBars", "now", "LLeanedBars$Now;", true)
  | 4 => ("LeanedBars", "images", "[LLeanedBars$Now;", true)
  | 5 => ("LeanedBars", "kept", "[Z", true)
  | 6 => ("LeanedBars", "ways", "LLeanedBars$Ways;", true)
  | 7 => ("LeanedBars", "exchanges", "LLeanedBars$Exchanges;", true)
  | _ => ("LeanedBars", "traced", "J", false)
def tyX6 : Nat → FieldType := fun k => match k with
  | 0 => .object "LeanedBars$Reader"
  | 1 => .object "LeanedBars$Text"
  | 2 => .object "LeanedBars$Railings"
  | 3 => .object "LeanedBars$Now"
  | 4 => .array (.object "LeanedBars$Now")
  | 5 => .array .boolean
  | 6 => .object "LeanedBars$Ways"
  | 7 => .object "LeanedBars$Exchanges"
  | _ => .long
abbrev wsX60 : List Cond := u_ws RX6 TX6 9
theorem nmX6 : ∀ a, a < 9 → ∀ b, b < 9 → a ≠ b → (TX6 a).2.1 ≠ (TX6 b).2.1 := by decide +kernel
theorem tyX6_ok : ∀ k, k < 9 → parseFieldDescriptor (TX6 k).2.2.1 = some (tyX6 k) := by decide +kernel
abbrev cX6_init : ByteArray := prog_1_method_1_code
def yX6_init : MethodName := ⟨RX6, "<init>", "()V"⟩
abbrev cX6_type : ByteArray := prog_1_method_2_code
def yX6_type : MethodName := ⟨RX6, "type", "(JI)I"⟩
abbrev cX6_clear : ByteArray := prog_1_method_3_code
def yX6_clear : MethodName := ⟨RX6, "clear", "()I"⟩
abbrev cX6_square : ByteArray := prog_1_method_4_code
def yX6_square : MethodName := ⟨RX6, "square", "()I"⟩
abbrev cX6_bar : ByteArray := prog_1_method_5_code
def yX6_bar : MethodName := ⟨RX6, "bar", "(I)I"⟩
abbrev cX6_person : ByteArray := prog_1_method_6_code
def yX6_person : MethodName := ⟨RX6, "person", "(I)I"⟩
abbrev cX6_rain : ByteArray := prog_1_method_7_code
def yX6_rain : MethodName := ⟨RX6, "rain", "(I)I"⟩
abbrev cX6_paint : ByteArray := prog_1_method_8_code
def yX6_paint : MethodName := ⟨RX6, "paint", "(II)I"⟩
abbrev cX6_holds : ByteArray := prog_1_method_9_code
def yX6_holds : MethodName := ⟨RX6, "holds", "(IIII)I"⟩
abbrev cX6_undo : ByteArray := prog_1_method_10_code
def yX6_undo : MethodName := ⟨RX6, "undo", "()I"⟩
abbrev cX6_held : ByteArray := prog_1_method_11_code
def yX6_held : MethodName := ⟨RX6, "held", "(II)I"⟩
abbrev cX6_rust : ByteArray := prog_1_method_12_code
def yX6_rust : MethodName := ⟨RX6, "rust", "(II)I"⟩
abbrev cX6_saw : ByteArray := prog_1_method_13_code
def yX6_saw : MethodName := ⟨RX6, "saw", "(II)I"⟩
abbrev cX6_hide : ByteArray := prog_1_method_14_code
def yX6_hide : MethodName := ⟨RX6, "hide", "(I)I"⟩
abbrev cX6_seen : ByteArray := prog_1_method_15_code
def yX6_seen : MethodName := ⟨RX6, "seen", "(I)I"⟩
abbrev cX6_fits : ByteArray := prog_1_method_16_code
def yX6_fits : MethodName := ⟨RX6, "fits", "()I"⟩
abbrev cX6_sure : ByteArray := prog_1_method_17_code
def yX6_sure : MethodName := ⟨RX6, "sure", "(I)I"⟩
abbrev cX6_odds : ByteArray := prog_1_method_18_code
def yX6_odds : MethodName := ⟨RX6, "odds", "(III)I"⟩
abbrev cX6_claim : ByteArray := prog_1_method_19_code
def yX6_claim : MethodName := ⟨RX6, "claim", "(III)I"⟩
abbrev cX6_saves : ByteArray := prog_1_method_20_code
def yX6_saves : MethodName := ⟨RX6, "saves", "(III)I"⟩
abbrev cX6_scrape : ByteArray := prog_1_method_21_code
def yX6_scrape : MethodName := ⟨RX6, "scrape", "(I)I"⟩
abbrev cX6_swaps : ByteArray := prog_1_method_22_code
def yX6_swaps : MethodName := ⟨RX6, "swaps", "()I"⟩
abbrev cX6_rate : ByteArray := prog_1_method_23_code
def yX6_rate : MethodName := ⟨RX6, "rate", "(II)I"⟩
abbrev cX6_keep : ByteArray := prog_1_method_24_code
def yX6_keep : MethodName := ⟨RX6, "keep", "(I)I"⟩
abbrev cX6_back : ByteArray := prog_1_method_25_code
def yX6_back : MethodName := ⟨RX6, "back", "(I)I"⟩
abbrev cX6_count : ByteArray := prog_1_method_26_code
def yX6_count : MethodName := ⟨RX6, "count", "(I)I"⟩
abbrev cX6_trace : ByteArray := prog_1_method_27_code
def yX6_trace : MethodName := ⟨RX6, "trace", "()J"⟩
abbrev cX6_within : ByteArray := prog_1_method_28_code
def yX6_within : MethodName := ⟨RX6, "within", "(III)Z"⟩
abbrev cX6_isYear : ByteArray := prog_1_method_29_code
def yX6_isYear : MethodName := ⟨RX6, "isYear", "(I)Z"⟩
abbrev cX6_isClaim : ByteArray := prog_1_method_30_code
def yX6_isClaim : MethodName := ⟨RX6, "isClaim", "(III)Z"⟩
abbrev cX6_rustByHolds : ByteArray := prog_1_method_31_code
def yX6_rustByHolds : MethodName := ⟨RX6, "rustByHolds", "(II)I"⟩
abbrev cX6_commonDivisor : ByteArray := prog_1_method_32_code
def yX6_commonDivisor : MethodName := ⟨RX6, "commonDivisor", "(II)I"⟩
abbrev cX6_rateOfBar : ByteArray := prog_1_method_33_code
def yX6_rateOfBar : MethodName := ⟨RX6, "rateOfBar", "(I)I"⟩
abbrev cX6_rateOfRail : ByteArray := prog_1_method_34_code
def yX6_rateOfRail : MethodName := ⟨RX6, "rateOfRail", "(I)I"⟩
abbrev cX6_rateOfSpike : ByteArray := prog_1_method_35_code
def yX6_rateOfSpike : MethodName := ⟨RX6, "rateOfSpike", "(I)I"⟩
abbrev cX6_rateOfGate : ByteArray := prog_1_method_36_code
def yX6_rateOfGate : MethodName := ⟨RX6, "rateOfGate", "(I)I"⟩
abbrev cX6_rateOfFinial : ByteArray := prog_1_method_37_code
def yX6_rateOfFinial : MethodName := ⟨RX6, "rateOfFinial", "(I)I"⟩
abbrev cX6_rateOfNewOne : ByteArray := prog_1_method_38_code
def yX6_rateOfNewOne : MethodName := ⟨RX6, "rateOfNewOne", "(I)I"⟩
def RX7 : String := "LeanedBarsModel"
def TX7 : u_T := fun k => match k with
  | 0 => ("LeanedBarsModel", "trace", "J", false)
  | 1 => ("LeanedBarsModel", "text", "[I", true)
  | 2 => ("LeanedBarsModel", "typed", "I", false)
  | 3 => ("LeanedBarsModel", "told", "[I", true)
  | 4 => ("LeanedBarsModel", "draft", "[I", true)
  | 5 => ("LeanedBarsModel", "s", "[I", true)
  | 6 => ("LeanedBarsModel", "images", "[I", true)
  | 7 => ("LeanedBarsModel", "kept", "[Z", true)
  | 8 => ("LeanedBarsModel", "at", "I", false)
  | 9 => ("LeanedBarsModel", "sort", "I", false)
  | 10 => ("LeanedBarsModel", "start", "I", false)
  | 11 => ("LeanedBarsModel", "size", "I", false)
  | 12 => ("LeanedBarsModel", "base", "[I", true)
  | 13 => ("LeanedBarsModel", "dry", "[I", true)
  | 14 => ("LeanedBarsModel", "here", "[I", true)
  | 15 => ("LeanedBarsModel", "ways", "I", false)
  | 16 => ("LeanedBarsModel", "many", "[I", true)
  | 17 => ("LeanedBarsModel", "spots", "[I", true)
  | _ => ("LeanedBarsModel", "row", "[I", true)
def tyX7 : Nat → FieldType := fun k => match k with
  | 0 => .long
  | 1 => .array .int
  | 2 => .int
  | 3 => .array .int
  | 4 => .array .int
  | 5 => .array .int
  | 6 => .array .int
  | 7 => .array .boolean
  | 8 => .int
  | 9 => .int
  | 10 => .int
  | 11 => .int
  | 12 => .array .int
  | 13 => .array .int
  | 14 => .array .int
  | 15 => .int
  | 16 => .array .int
  | 17 => .array .int
  | _ => .array .int
abbrev wsX70 : List Cond := u_ws RX7 TX7 19
theorem nmX7 : ∀ a, a < 19 → ∀ b, b < 19 → a ≠ b → (TX7 a).2.1 ≠ (TX7 b).2.1 := by decide +kernel
theorem tyX7_ok : ∀ k, k < 19 → parseFieldDescriptor (TX7 k).2.2.1 = some (tyX7 k) := by decide +kernel
abbrev cX7_init : ByteArray := prog_9_method_1_code
def yX7_init : MethodName := ⟨RX7, "<init>", "()V"⟩
abbrev cX7_in : ByteArray := prog_9_method_3_code
def yX7_in : MethodName := ⟨RX7, "in", "(III)Z"⟩
abbrev cX7_isBar : ByteArray := prog_9_method_4_code
def yX7_isBar : MethodName := ⟨RX7, "isBar", "(I)Z"⟩
abbrev cX7_isPerson : ByteArray := prog_9_method_5_code
def yX7_isPerson : MethodName := ⟨RX7, "isPerson", "(I)Z"⟩
abbrev cX7_type : ByteArray := prog_9_method_6_code
def yX7_type : MethodName := ⟨RX7, "type", "(JI)I"⟩
abbrev cX7_clear : ByteArray := prog_9_method_7_code
def yX7_clear : MethodName := ⟨RX7, "clear", "()I"⟩
abbrev cX7_byteAt : ByteArray := prog_9_method_8_code
def yX7_byteAt : MethodName := ⟨RX7, "byteAt", "(I)I"⟩
abbrev cX7_sortOf : ByteArray := prog_9_method_9_code
def yX7_sortOf : MethodName := ⟨RX7, "sortOf", "(I)I"⟩
abbrev cX7_token : ByteArray := prog_9_method_10_code
def yX7_token : MethodName := ⟨RX7, "token", "()V"⟩
abbrev cX7_verb : ByteArray := prog_9_method_11_code
def yX7_verb : MethodName := ⟨RX7, "verb", "()I"⟩
abbrev cX7_figure : ByteArray := prog_9_method_12_code
def yX7_figure : MethodName := ⟨RX7, "figure", "(II)I"⟩
abbrev cX7_readsBar : ByteArray := prog_9_method_13_code
def yX7_readsBar : MethodName := ⟨RX7, "readsBar", "()Z"⟩
abbrev cX7_readsPerson : ByteArray := prog_9_method_14_code
def yX7_readsPerson : MethodName := ⟨RX7, "readsPerson", "()Z"⟩
abbrev cX7_readsRain : ByteArray := prog_9_method_15_code
def yX7_readsRain : MethodName := ⟨RX7, "readsRain", "()Z"⟩
abbrev cX7_readsPaint : ByteArray := prog_9_method_16_code
def yX7_readsPaint : MethodName := ⟨RX7, "readsPaint", "()Z"⟩
abbrev cX7_readsItem : ByteArray := prog_9_method_17_code
def yX7_readsItem : MethodName := ⟨RX7, "readsItem", "(I)Z"⟩
abbrev cX7_reads : ByteArray := prog_9_method_18_code
def yX7_reads : MethodName := ⟨RX7, "reads", "()Z"⟩
abbrev cX7_tells : ByteArray := prog_9_method_19_code
def yX7_tells : MethodName := ⟨RX7, "tells", "()V"⟩
abbrev cX7_square : ByteArray := prog_9_method_20_code
def yX7_square : MethodName := ⟨RX7, "square", "()I"⟩
abbrev cX7_bar : ByteArray := prog_9_method_21_code
def yX7_bar : MethodName := ⟨RX7, "bar", "(I)I"⟩
abbrev cX7_person : ByteArray := prog_9_method_22_code
def yX7_person : MethodName := ⟨RX7, "person", "(I)I"⟩
abbrev cX7_rain : ByteArray := prog_9_method_23_code
def yX7_rain : MethodName := ⟨RX7, "rain", "(I)I"⟩
abbrev cX7_paintOf : ByteArray := prog_9_method_24_code
def yX7_paintOf : MethodName := ⟨RX7, "paintOf", "(II)I"⟩
abbrev cX7_paint : ByteArray := prog_9_method_25_code
def yX7_paint : MethodName := ⟨RX7, "paint", "(II)I"⟩
abbrev cX7_holds : ByteArray := prog_9_method_26_code
def yX7_holds : MethodName := ⟨RX7, "holds", "(IIII)I"⟩
abbrev cX7_undo : ByteArray := prog_9_method_27_code
def yX7_undo : MethodName := ⟨RX7, "undo", "()I"⟩
abbrev cX7_held : ByteArray := prog_9_method_28_code
def yX7_held : MethodName := ⟨RX7, "held", "(II)I"⟩
abbrev cX7_plain : ByteArray := prog_9_method_29_code
def yX7_plain : MethodName := ⟨RX7, "plain", "(II)I"⟩
abbrev cX7_rustOf : ByteArray := prog_9_method_30_code
def yX7_rustOf : MethodName := ⟨RX7, "rustOf", "(II)I"⟩
abbrev cX7_rust : ByteArray := prog_9_method_31_code
def yX7_rust : MethodName := ⟨RX7, "rust", "(II)I"⟩
abbrev cX7_saw : ByteArray := prog_9_method_32_code
def yX7_saw : MethodName := ⟨RX7, "saw", "(II)I"⟩
abbrev cX7_hide : ByteArray := prog_9_method_33_code
def yX7_hide : MethodName := ⟨RX7, "hide", "(I)I"⟩
abbrev cX7_seen : ByteArray := prog_9_method_34_code
def yX7_seen : MethodName := ⟨RX7, "seen", "(I)I"⟩
abbrev cX7_lays : ByteArray := prog_9_method_35_code
def yX7_lays : MethodName := ⟨RX7, "lays", "()V"⟩
abbrev cX7_figureOf : ByteArray := prog_9_method_36_code
def yX7_figureOf : MethodName := ⟨RX7, "figureOf", "(II)I"⟩
abbrev cX7_isWay : ByteArray := prog_9_method_37_code
def yX7_isWay : MethodName := ⟨RX7, "isWay", "(I)Z"⟩
abbrev cX7_barOf : ByteArray := prog_9_method_38_code
def yX7_barOf : MethodName := ⟨RX7, "barOf", "(I)I"⟩
abbrev cX7_fits : ByteArray := prog_9_method_39_code
def yX7_fits : MethodName := ⟨RX7, "fits", "()I"⟩
abbrev cX7_sure : ByteArray := prog_9_method_40_code
def yX7_sure : MethodName := ⟨RX7, "sure", "(I)I"⟩
abbrev cX7_odds : ByteArray := prog_9_method_41_code
def yX7_odds : MethodName := ⟨RX7, "odds", "(III)I"⟩
abbrev cX7_claims : ByteArray := prog_9_method_42_code
def yX7_claims : MethodName := ⟨RX7, "claims", "(II)I"⟩
abbrev cX7_isClaim : ByteArray := prog_9_method_43_code
def yX7_isClaim : MethodName := ⟨RX7, "isClaim", "(III)Z"⟩
abbrev cX7_claim : ByteArray := prog_9_method_44_code
def yX7_claim : MethodName := ⟨RX7, "claim", "(III)I"⟩
abbrev cX7_saves : ByteArray := prog_9_method_45_code
def yX7_saves : MethodName := ⟨RX7, "saves", "(III)I"⟩
abbrev cX7_scrape : ByteArray := prog_9_method_46_code
def yX7_scrape : MethodName := ⟨RX7, "scrape", "(I)I"⟩
abbrev cX7_exchanges : ByteArray := prog_9_method_47_code
def yX7_exchanges : MethodName := ⟨RX7, "exchanges", "(I)I"⟩
abbrev cX7_swaps : ByteArray := prog_9_method_48_code
def yX7_swaps : MethodName := ⟨RX7, "swaps", "()I"⟩
abbrev cX7_comesOut : ByteArray := prog_9_method_49_code
def yX7_comesOut : MethodName := ⟨RX7, "comesOut", "(I)Z"⟩
abbrev cX7_rate : ByteArray := prog_9_method_50_code
def yX7_rate : MethodName := ⟨RX7, "rate", "(II)I"⟩
abbrev cX7_keep : ByteArray := prog_9_method_51_code
def yX7_keep : MethodName := ⟨RX7, "keep", "(I)I"⟩
abbrev cX7_back : ByteArray := prog_9_method_52_code
def yX7_back : MethodName := ⟨RX7, "back", "(I)I"⟩
abbrev cX7_count : ByteArray := prog_9_method_53_code
def yX7_count : MethodName := ⟨RX7, "count", "(I)I"⟩
abbrev cX7_trace : ByteArray := prog_9_method_54_code
def yX7_trace : MethodName := ⟨RX7, "trace", "()J"⟩
def RJx145de : String := "java/io/Serializable"
def TJx145de : u_T := fun k => match k with
  | _ => ("", "", "", false)
def tyJx145de : Nat → FieldType := fun k => match k with
  | _ => .int
abbrev wsJx145de0 : List Cond := u_ws RJx145de TJx145de 0
theorem nmJx145de : ∀ a, a < 0 → ∀ b, b < 0 → a ≠ b → (TJx145de a).2.1 ≠ (TJx145de b).2.1 := by decide +kernel
theorem tyJx145de_ok : ∀ k, k < 0 → parseFieldDescriptor (TJx145de k).2.2.1 = some (tyJx145de k) := by decide +kernel
def RJx9f9b0 : String := "java/lang/CharSequence"
def TJx9f9b0 : u_T := fun k => match k with
  | _ => ("", "", "", false)
def tyJx9f9b0 : Nat → FieldType := fun k => match k with
  | _ => .int
abbrev wsJx9f9b00 : List Cond := u_ws RJx9f9b0 TJx9f9b0 0
theorem nmJx9f9b0 : ∀ a, a < 0 → ∀ b, b < 0 → a ≠ b → (TJx9f9b0 a).2.1 ≠ (TJx9f9b0 b).2.1 := by decide +kernel
theorem tyJx9f9b0_ok : ∀ k, k < 0 → parseFieldDescriptor (TJx9f9b0 k).2.2.1 = some (tyJx9f9b0 k) := by decide +kernel
def RJxb160c : String := "java/lang/Comparable"
def TJxb160c : u_T := fun k => match k with
  | _ => ("", "", "", false)
def tyJxb160c : Nat → FieldType := fun k => match k with
  | _ => .int
abbrev wsJxb160c0 : List Cond := u_ws RJxb160c TJxb160c 0
theorem nmJxb160c : ∀ a, a < 0 → ∀ b, b < 0 → a ≠ b → (TJxb160c a).2.1 ≠ (TJxb160c b).2.1 := by decide +kernel
theorem tyJxb160c_ok : ∀ k, k < 0 → parseFieldDescriptor (TJxb160c k).2.2.1 = some (tyJxb160c k) := by decide +kernel
def RJ9 : String := "java/lang/Math"
def TJ9 : u_T := fun k => match k with
  | _ => ("", "", "", false)
def tyJ9 : Nat → FieldType := fun k => match k with
  | _ => .int
abbrev wsJ90 : List Cond := u_ws RJ9 TJ9 0
theorem nmJ9 : ∀ a, a < 0 → ∀ b, b < 0 → a ≠ b → (TJ9 a).2.1 ≠ (TJ9 b).2.1 := by decide +kernel
theorem tyJ9_ok : ∀ k, k < 0 → parseFieldDescriptor (TJ9 k).2.2.1 = some (tyJ9 k) := by decide +kernel
abbrev cJ9_max_7cf53 : ByteArray := prog_10_method_65_code
def yJ9_max_7cf53 : MethodName := ⟨RJ9, "max", "(II)I"⟩
abbrev cJ9_min_7cf53 : ByteArray := prog_10_method_69_code
def yJ9_min_7cf53 : MethodName := ⟨RJ9, "min", "(II)I"⟩
def RJ0 : String := "java/lang/String"
def TJ0 : u_T := fun k => match k with
  | _ => ("", "", "", false)
def tyJ0 : Nat → FieldType := fun k => match k with
  | _ => .int
abbrev wsJ00 : List Cond := u_ws RJ0 TJ0 0
theorem nmJ0 : ∀ a, a < 0 → ∀ b, b < 0 → a ≠ b → (TJ0 a).2.1 ≠ (TJ0 b).2.1 := by decide +kernel
theorem tyJ0_ok : ∀ k, k < 0 → parseFieldDescriptor (TJ0 k).2.2.1 = some (tyJ0 k) := by decide +kernel
abbrev cJ0_length_8abf5 : ByteArray := prog_11_method_54_code
def yJ0_length_8abf5 : MethodName := ⟨RJ0, "length", "()I"⟩
abbrev cJ0_charAt_5068e : ByteArray := prog_11_method_56_code
def yJ0_charAt_5068e : MethodName := ⟨RJ0, "charAt", "(I)C"⟩
abbrev cJ0_coder_7d493 : ByteArray := prog_11_method_152_code
def yJ0_coder_7d493 : MethodName := ⟨RJ0, "coder", "()B"⟩
abbrev cJ0_isLatin1_aae02 : ByteArray := prog_11_method_154_code
def yJ0_isLatin1_aae02 : MethodName := ⟨RJ0, "isLatin1", "()Z"⟩
abbrev cJ0_checkIndex_df160 : ByteArray := prog_11_method_155_code
def yJ0_checkIndex_df160 : MethodName := ⟨RJ0, "checkIndex", "(II)V"⟩
def RJ1 : String := "java/lang/StringLatin1"
def TJ1 : u_T := fun k => match k with
  | _ => ("", "", "", false)
def tyJ1 : Nat → FieldType := fun k => match k with
  | _ => .int
abbrev wsJ10 : List Cond := u_ws RJ1 TJ1 0
theorem nmJ1 : ∀ a, a < 0 → ∀ b, b < 0 → a ≠ b → (TJ1 a).2.1 ≠ (TJ1 b).2.1 := by decide +kernel
theorem tyJ1_ok : ∀ k, k < 0 → parseFieldDescriptor (TJ1 k).2.2.1 = some (tyJ1 k) := by decide +kernel
abbrev cJ1_charAt_3b067 : ByteArray := prog_12_method_2_code
def yJ1_charAt_3b067 : MethodName := ⟨RJ1, "charAt", "([BI)C"⟩
def RJ2 : String := "java/lang/StringUTF16"
def TJ2 : u_T := fun k => match k with
  | _ => ("", "", "", false)
def tyJ2 : Nat → FieldType := fun k => match k with
  | _ => .int
abbrev wsJ20 : List Cond := u_ws RJ2 TJ2 0
theorem nmJ2 : ∀ a, a < 0 → ∀ b, b < 0 → a ≠ b → (TJ2 a).2.1 ≠ (TJ2 b).2.1 := by decide +kernel
theorem tyJ2_ok : ∀ k, k < 0 → parseFieldDescriptor (TJ2 k).2.2.1 = some (tyJ2 k) := by decide +kernel
abbrev cJ2_getChar_3b067 : ByteArray := prog_13_method_5_code
def yJ2_getChar_3b067 : MethodName := ⟨RJ2, "getChar", "([BI)C"⟩
abbrev cJ2_length_9d52b : ByteArray := prog_13_method_6_code
def yJ2_length_9d52b : MethodName := ⟨RJ2, "length", "([B)I"⟩
abbrev cJ2_charAt_3b067 : ByteArray := prog_13_method_83_code
def yJ2_charAt_3b067 : MethodName := ⟨RJ2, "charAt", "([BI)C"⟩
abbrev cJ2_checkIndex_2214a : ByteArray := prog_13_method_91_code
def yJ2_checkIndex_2214a : MethodName := ⟨RJ2, "checkIndex", "(I[B)V"⟩
def RJ10 : String := "java/lang/System"
def TJ10 : u_T := fun k => match k with
  | _ => ("", "", "", false)
def tyJ10 : Nat → FieldType := fun k => match k with
  | _ => .int
abbrev wsJ100 : List Cond := u_ws RJ10 TJ10 0
theorem nmJ10 : ∀ a, a < 0 → ∀ b, b < 0 → a ≠ b → (TJ10 a).2.1 ≠ (TJ10 b).2.1 := by decide +kernel
theorem tyJ10_ok : ∀ k, k < 0 → parseFieldDescriptor (TJ10 k).2.2.1 = some (tyJ10 k) := by decide +kernel
def RJxfd54e : String := "java/lang/constant/Constable"
def TJxfd54e : u_T := fun k => match k with
  | _ => ("", "", "", false)
def tyJxfd54e : Nat → FieldType := fun k => match k with
  | _ => .int
abbrev wsJxfd54e0 : List Cond := u_ws RJxfd54e TJxfd54e 0
theorem nmJxfd54e : ∀ a, a < 0 → ∀ b, b < 0 → a ≠ b → (TJxfd54e a).2.1 ≠ (TJxfd54e b).2.1 := by decide +kernel
theorem tyJxfd54e_ok : ∀ k, k < 0 → parseFieldDescriptor (TJxfd54e k).2.2.1 = some (tyJxfd54e k) := by decide +kernel
def RJx3cf43 : String := "java/lang/constant/ConstantDesc"
def TJx3cf43 : u_T := fun k => match k with
  | _ => ("", "", "", false)
def tyJx3cf43 : Nat → FieldType := fun k => match k with
  | _ => .int
abbrev wsJx3cf430 : List Cond := u_ws RJx3cf43 TJx3cf43 0
theorem nmJx3cf43 : ∀ a, a < 0 → ∀ b, b < 0 → a ≠ b → (TJx3cf43 a).2.1 ≠ (TJx3cf43 b).2.1 := by decide +kernel
theorem tyJx3cf43_ok : ∀ k, k < 0 → parseFieldDescriptor (TJx3cf43 k).2.2.1 = some (tyJx3cf43 k) := by decide +kernel
def RJ7 : String := "java/util/Arrays"
def TJ7 : u_T := fun k => match k with
  | _ => ("", "", "", false)
def tyJ7 : Nat → FieldType := fun k => match k with
  | _ => .int
abbrev wsJ70 : List Cond := u_ws RJ7 TJ7 0
theorem nmJ7 : ∀ a, a < 0 → ∀ b, b < 0 → a ≠ b → (TJ7 a).2.1 ≠ (TJ7 b).2.1 := by decide +kernel
theorem tyJ7_ok : ∀ k, k < 0 → parseFieldDescriptor (TJ7 k).2.2.1 = some (tyJ7 k) := by decide +kernel
abbrev cJ7_fill_53178 : ByteArray := prog_15_method_103_code
def yJ7_fill_53178 : MethodName := ⟨RJ7, "fill", "([II)V"⟩
def RJ3 : String := "jdk/internal/util/Preconditions"
def TJ3 : u_T := fun k => match k with
  | _ => ("", "", "", false)
def tyJ3 : Nat → FieldType := fun k => match k with
  | _ => .int
abbrev wsJ30 : List Cond := u_ws RJ3 TJ3 0
theorem nmJ3 : ∀ a, a < 0 → ∀ b, b < 0 → a ≠ b → (TJ3 a).2.1 ≠ (TJ3 b).2.1 := by decide +kernel
theorem tyJ3_ok : ∀ k, k < 0 → parseFieldDescriptor (TJ3 k).2.2.1 = some (tyJ3 k) := by decide +kernel
abbrev cJ3_checkIndex_8e157 : ByteArray := prog_16_method_11_code
def yJ3_checkIndex_8e157 : MethodName := ⟨RJ3, "checkIndex", "(IILjava/util/function/BiFunction;)I"⟩
def RL : String := "LeanedBarsLaw"
abbrev cL_law : ByteArray := code
def yL_law : MethodName := ⟨RL, "law", "([I)Z"⟩
def wsL_law_r1 : List Cond := [Cond.classLink RL 7 RX6, Cond.instantiable RX6 9, Cond.initialized RX6, Cond.classLink RL 10 RX7, Cond.instantiable RX7 19, Cond.initialized RX7, Cond.constantLong RL 13 (4294967295), Cond.methodLink RL 9 yX6_init, Cond.instanceMethod yX6_init, Cond.code yX6_init cX6_init 2 none, Cond.methodLink RX6 3 objectInit, Cond.instanceMethod objectInit, Cond.code objectInit ⟨#[0xb1]⟩ 1 none, Cond.classLink RX6 9 RX3, Cond.instantiable RX3 6, Cond.initialized RX3, Cond.fieldLink RX6 12 "LeanedBars" "reader" "LLeanedBars$Reader;", Cond.fieldLink RX6 16 "LeanedBars$Reader" "text" "LLeanedBars$Text;", Cond.fieldLink RX6 20 "LeanedBars" "text" "LLeanedBars$Text;", Cond.classLink RX6 21 RX2, Cond.instantiable RX2 9, Cond.initialized RX2, Cond.fieldLink RX6 24 "LeanedBars" "railings" "LLeanedBars$Railings;", Cond.classLink RX6 28 RX1]
def wsL_law_r2 : List Cond := [Cond.instantiable RX1 6, Cond.initialized RX1, Cond.fieldLink RX6 31 "LeanedBars" "now" "LLeanedBars$Now;", Cond.fieldLink RX6 35 "LeanedBars" "images" "[LLeanedBars$Now;", Cond.arrayClass .boolean, Cond.fieldLink RX6 39 "LeanedBars" "kept" "[Z", Cond.classLink RX6 43 RX5, Cond.instantiable RX5 9, Cond.initialized RX5, Cond.fieldLink RX6 46 "LeanedBars" "ways" "LLeanedBars$Ways;", Cond.classLink RX6 50 RX0, Cond.instantiable RX0 3, Cond.initialized RX0, Cond.fieldLink RX6 53 "LeanedBars" "exchanges" "LLeanedBars$Exchanges;", Cond.fieldLink RX6 57 "LeanedBars" "traced" "J", Cond.instanceMethod yX3_init, Cond.code yX3_init cX3_init 1 none, Cond.methodLink RX3 3 objectInit, Cond.classLink RX3 9 RX4, Cond.instantiable RX4 2, Cond.initialized RX4, Cond.fieldLink RX3 12 "LeanedBars$Reader" "text" "LLeanedBars$Text;", Cond.classLink RX3 18 RX2, Cond.fieldLink RX3 21 "LeanedBars$Reader" "told" "LLeanedBars$Railings;"]
def wsL_law_r3 : List Cond := [Cond.fieldLink RX3 25 "LeanedBars$Reader" "kind" "I", Cond.fieldLink RX3 29 "LeanedBars$Reader" "at" "I", Cond.fieldLink RX3 32 "LeanedBars$Reader" "behind" "I", Cond.fieldLink RX3 35 "LeanedBars$Reader" "number" "I", Cond.instanceMethod yX4_init, Cond.code yX4_init cX4_init 1 none, Cond.methodLink RX4 3 objectInit, Cond.arrayClass .byte, Cond.fieldLink RX4 9 "LeanedBars$Text" "bytes" "[B", Cond.fieldLink RX4 15 "LeanedBars$Text" "length" "I", Cond.methodLink RX3 20 yX2_init, Cond.instanceMethod yX2_init, Cond.code yX2_init cX2_init 1 none, Cond.methodLink RX2 3 objectInit, Cond.fieldLink RX2 9 "LeanedBars$Railings" "bars" "I", Cond.fieldLink RX2 15 "LeanedBars$Railings" "people" "I", Cond.fieldLink RX2 18 "LeanedBars$Railings" "paints" "I", Cond.arrayClass .int, Cond.fieldLink RX2 21 "LeanedBars$Railings" "metals" "[I", Cond.fieldLink RX2 25 "LeanedBars$Railings" "grips" "[I", Cond.fieldLink RX2 28 "LeanedBars$Railings" "rains" "[I", Cond.fieldLink RX2 31 "LeanedBars$Railings" "paintedBars" "[I", Cond.fieldLink RX2 34 "LeanedBars$Railings" "paintedYears" "[I", Cond.fieldLink RX2 37 "LeanedBars$Railings" "lastings" "[I"]
def wsL_law_r4 : List Cond := [Cond.methodLink RX2 40 yJ7_fill_53178, Cond.static yJ7_fill_53178, Cond.initialized RJ7, Cond.code yJ7_fill_53178 cJ7_fill_53178 4 none, Cond.methodLink RX6 23 yX2_init, Cond.methodLink RX6 30 yX1_init, Cond.instanceMethod yX1_init, Cond.code yX1_init cX1_init 1 none, Cond.methodLink RX1 3 objectInit, Cond.fieldLink RX1 9 "LeanedBars$Now" "size" "I", Cond.fieldLink RX1 15 "LeanedBars$Now" "people" "[I", Cond.fieldLink RX1 19 "LeanedBars$Now" "bars" "[I", Cond.fieldLink RX1 22 "LeanedBars$Now" "firsts" "[I", Cond.fieldLink RX1 25 "LeanedBars$Now" "lengths" "[I", Cond.fieldLink RX1 28 "LeanedBars$Now" "sights" "[I", Cond.methodLink RX1 31 yJ7_fill_53178, Cond.instanceMethod yX5_init, Cond.code yX5_init cX5_init 1 none, Cond.methodLink RX5 3 objectInit, Cond.fieldLink RX5 9 "LeanedBars$Ways" "bars" "I", Cond.fieldLink RX5 15 "LeanedBars$Ways" "people" "I", Cond.fieldLink RX5 18 "LeanedBars$Ways" "isSeen" "[Z", Cond.fieldLink RX5 22 "LeanedBars$Ways" "needs" "[I", Cond.fieldLink RX5 26 "LeanedBars$Ways" "grips" "[I"]
def wsL_law_r5 : List Cond := [Cond.fieldLink RX5 29 "LeanedBars$Ways" "dryWinters" "[I", Cond.fieldLink RX5 32 "LeanedBars$Ways" "fitting" "[I", Cond.fieldLink RX5 35 "LeanedBars$Ways" "gathered" "[I", Cond.fieldLink RX5 38 "LeanedBars$Ways" "tally" "[I", Cond.instanceMethod yX0_init, Cond.code yX0_init cX0_init 1 none, Cond.methodLink RX0 3 objectInit, Cond.fieldLink RX0 9 "LeanedBars$Exchanges" "size" "I", Cond.fieldLink RX0 15 "LeanedBars$Exchanges" "rusts" "[I", Cond.fieldLink RX0 19 "LeanedBars$Exchanges" "wanted" "[I", Cond.methodLink RL 12 yX7_init, Cond.instanceMethod yX7_init, Cond.code yX7_init cX7_init 1 none, Cond.methodLink RX7 1 objectInit, Cond.fieldLink RX7 7 "LeanedBarsModel" "text" "[I", Cond.fieldLink RX7 13 "LeanedBarsModel" "told" "[I", Cond.fieldLink RX7 16 "LeanedBarsModel" "draft" "[I", Cond.fieldLink RX7 19 "LeanedBarsModel" "s" "[I", Cond.fieldLink RX7 22 "LeanedBarsModel" "images" "[I", Cond.fieldLink RX7 25 "LeanedBarsModel" "kept" "[Z", Cond.fieldLink RX7 29 "LeanedBarsModel" "base" "[I", Cond.fieldLink RX7 32 "LeanedBarsModel" "dry" "[I", Cond.fieldLink RX7 35 "LeanedBarsModel" "here" "[I", Cond.fieldLink RX7 38 "LeanedBarsModel" "many" "[I"]
def wsL_law_r6 : List Cond := [Cond.fieldLink RX7 41 "LeanedBarsModel" "spots" "[I", Cond.fieldLink RX7 44 "LeanedBarsModel" "row" "[I", Cond.methodLink RX7 47 yX7_reads, Cond.instanceMethod yX7_reads, Cond.selects RX7 yX7_reads yX7_reads, Cond.code yX7_reads cX7_reads 2 (some .boolean), Cond.fieldLink RX7 64 "LeanedBarsModel" "at" "I", Cond.fieldLink RX7 77 "LeanedBarsModel" "sort" "I", Cond.methodLink RX7 54 yX7_in, Cond.static yX7_in, Cond.code yX7_in cX7_in 3 (some .boolean), Cond.methodLink RX7 93 yX7_token, Cond.instanceMethod yX7_token, Cond.selects RX7 yX7_token yX7_token, Cond.code yX7_token cX7_token 1 none, Cond.fieldLink RX7 71 "LeanedBarsModel" "start" "I", Cond.fieldLink RX7 80 "LeanedBarsModel" "size" "I", Cond.methodLink RX7 67 yX7_byteAt, Cond.instanceMethod yX7_byteAt, Cond.selects RX7 yX7_byteAt yX7_byteAt, Cond.code yX7_byteAt cX7_byteAt 2 (some .int), Cond.fieldLink RX7 58 "LeanedBarsModel" "typed" "I", Cond.methodLink RX7 74 yX7_sortOf, Cond.static yX7_sortOf]
def wsL_law_r7 : List Cond := [Cond.code yX7_sortOf cX7_sortOf 1 (some .int), Cond.methodLink RX7 112 yX7_verb, Cond.instanceMethod yX7_verb, Cond.selects RX7 yX7_verb yX7_verb, Cond.code yX7_verb cX7_verb 4 (some .int), Cond.constantLong RX7 83 (256), Cond.constantLong RX7 85 (6447474), Cond.constantLong RX7 87 (123581014175598), Cond.constantLong RX7 89 (1918986606), Cond.constantLong RX7 91 (482670636660), Cond.methodLink RX7 116 yX7_readsItem, Cond.instanceMethod yX7_readsItem, Cond.selects RX7 yX7_readsItem yX7_readsItem, Cond.code yX7_readsItem cX7_readsItem 2 (some .boolean), Cond.methodLink RX7 100 yX7_readsBar, Cond.instanceMethod yX7_readsBar, Cond.selects RX7 yX7_readsBar yX7_readsBar, Cond.code yX7_readsBar cX7_readsBar 2 (some .boolean), Cond.methodLink RX7 96 yX7_figure, Cond.instanceMethod yX7_figure, Cond.selects RX7 yX7_figure yX7_figure, Cond.code yX7_figure cX7_figure 4 (some .int), Cond.methodLink RX7 103 yX7_readsPerson, Cond.instanceMethod yX7_readsPerson]
def wsL_law_r8 : List Cond := [Cond.selects RX7 yX7_readsPerson yX7_readsPerson, Cond.code yX7_readsPerson cX7_readsPerson 2 (some .boolean), Cond.methodLink RX7 106 yX7_readsRain, Cond.instanceMethod yX7_readsRain, Cond.selects RX7 yX7_readsRain yX7_readsRain, Cond.code yX7_readsRain cX7_readsRain 3 (some .boolean), Cond.methodLink RX7 109 yX7_readsPaint, Cond.instanceMethod yX7_readsPaint, Cond.selects RX7 yX7_readsPaint yX7_readsPaint, Cond.code yX7_readsPaint cX7_readsPaint 5 (some .boolean), Cond.methodLink RX7 51 yX7_tells, Cond.instanceMethod yX7_tells, Cond.selects RX7 yX7_tells yX7_tells, Cond.code yX7_tells cX7_tells 2 none, Cond.methodLink RL 15 yX6_type, Cond.instanceMethod yX6_type, Cond.selects RX6 yX6_type yX6_type, Cond.code yX6_type cX6_type 4 (some .int), Cond.fieldLink RX6 65 "LeanedBars$Text" "length" "I", Cond.methodLink RX6 61 yX6_within, Cond.static yX6_within, Cond.code yX6_within cX6_within 3 (some .boolean), Cond.methodLink RX6 71 yX4_append, Cond.instanceMethod yX4_append]
def wsL_law_r9 : List Cond := [Cond.selects RX4 yX4_append yX4_append, Cond.code yX4_append cX4_append 5 none, Cond.methodLink RL 19 yX7_type, Cond.instanceMethod yX7_type, Cond.selects RX7 yX7_type yX7_type, Cond.code yX7_type cX7_type 5 (some .int), Cond.constantLong RX7 62 (255), Cond.methodLink RL 20 yX6_clear, Cond.instanceMethod yX6_clear, Cond.selects RX6 yX6_clear yX6_clear, Cond.code yX6_clear cX6_clear 2 (some .int), Cond.methodLink RL 24 yX7_clear, Cond.instanceMethod yX7_clear, Cond.selects RX7 yX7_clear yX7_clear, Cond.code yX7_clear cX7_clear 2 (some .int), Cond.methodLink RL 25 yX6_square, Cond.instanceMethod yX6_square, Cond.selects RX6 yX6_square yX6_square, Cond.code yX6_square cX6_square 3 (some .int), Cond.fieldLink RX6 79 "LeanedBars$Reader" "told" "LLeanedBars$Railings;", Cond.methodLink RX6 75 yX3_read, Cond.instanceMethod yX3_read, Cond.selects RX3 yX3_read yX3_read, Cond.code yX3_read cX3_read 3 (some .int)]
def wsL_law_r10 : List Cond := [Cond.methodLink RX3 38 yX2_empty, Cond.instanceMethod yX2_empty, Cond.selects RX2 yX2_empty yX2_empty, Cond.code yX2_empty cX2_empty 1 none, Cond.methodLink RX3 41 yX3_next, Cond.instanceMethod yX3_next, Cond.selects RX3 yX3_next yX3_next, Cond.code yX3_next cX3_next 1 none, Cond.fieldLink RX3 111 "LeanedBars$Text" "length" "I", Cond.methodLink RX3 107 yX4_behindRow, Cond.instanceMethod yX4_behindRow, Cond.selects RX4 yX4_behindRow yX4_behindRow, Cond.code yX4_behindRow cX4_behindRow 5 (some .int), Cond.methodLink RX3 114 yX4_numberIn, Cond.instanceMethod yX4_numberIn, Cond.selects RX4 yX4_numberIn yX4_numberIn, Cond.code yX4_numberIn cX4_numberIn 6 (some .int), Cond.methodLink RX4 32 yX4_isSign, Cond.instanceMethod yX4_isSign, Cond.selects RX4 yX4_isSign yX4_isSign, Cond.code yX4_isSign cX4_isSign 3 (some .boolean), Cond.methodLink RX3 117 yX4_isSign, Cond.methodLink RX3 44 yX3_readItem, Cond.instanceMethod yX3_readItem]
def wsL_law_r11 : List Cond := [Cond.selects RX3 yX3_readItem yX3_readItem, Cond.code yX3_readItem cX3_readItem 1 (some .boolean), Cond.methodLink RX3 50 yX4_isWord, Cond.instanceMethod yX4_isWord, Cond.selects RX4 yX4_isWord yX4_isWord, Cond.code yX4_isWord cX4_isWord 5 (some .boolean), Cond.methodLink RX4 23 yJ0_length_8abf5, Cond.instanceMethod yJ0_length_8abf5, Cond.selects RJ0 yJ0_length_8abf5 yJ0_length_8abf5, Cond.initialized RJ0, Cond.code yJ0_length_8abf5 cJ0_length_8abf5 1 (some .int), Cond.fieldLink RJ0 9 "java/lang/String" "value" "[B", Cond.methodLink RJ0 335 yJ0_coder_7d493, Cond.instanceMethod yJ0_coder_7d493, Cond.selects RJ0 yJ0_coder_7d493 yJ0_coder_7d493, Cond.code yJ0_coder_7d493 cJ0_coder_7d493 1 (some .byte), Cond.fieldLink RJ0 38 "java/lang/String" "COMPACT_STRINGS" "Z", Cond.fieldLink RJ0 15 "java/lang/String" "coder" "B", Cond.methodLink RX4 28 yJ0_charAt_5068e, Cond.instanceMethod yJ0_charAt_5068e, Cond.selects RJ0 yJ0_charAt_5068e yJ0_charAt_5068e, Cond.code yJ0_charAt_5068e cJ0_charAt_5068e 2 (some .char), Cond.methodLink RJ0 492 yJ0_isLatin1_aae02, Cond.instanceMethod yJ0_isLatin1_aae02]
def wsL_law_r12 : List Cond := [Cond.selects RJ0 yJ0_isLatin1_aae02 yJ0_isLatin1_aae02, Cond.code yJ0_isLatin1_aae02 cJ0_isLatin1_aae02 1 (some .boolean), Cond.methodLink RJ0 495 yJ1_charAt_3b067, Cond.static yJ1_charAt_3b067, Cond.initialized RJ1, Cond.code yJ1_charAt_3b067 cJ1_charAt_3b067 2 (some .char), Cond.methodLink RJ1 9 yJ0_checkIndex_df160, Cond.static yJ0_checkIndex_df160, Cond.code yJ0_checkIndex_df160 cJ0_checkIndex_df160 2 none, Cond.fieldLink RJ0 1053 "jdk/internal/util/Preconditions" "SIOOBE_FORMATTER" "Ljava/util/function/BiFunction;", Cond.methodLink RJ0 1059 yJ3_checkIndex_8e157, Cond.static yJ3_checkIndex_8e157, Cond.initialized RJ3, Cond.code yJ3_checkIndex_8e157 cJ3_checkIndex_8e157 3 (some .int), Cond.methodLink RJ0 498 yJ2_charAt_3b067, Cond.static yJ2_charAt_3b067, Cond.initialized RJ2, Cond.code yJ2_charAt_3b067 cJ2_charAt_3b067 2 (some .char), Cond.methodLink RJ2 67 yJ2_checkIndex_2214a, Cond.static yJ2_checkIndex_2214a, Cond.code yJ2_checkIndex_2214a cJ2_checkIndex_2214a 2 none, Cond.methodLink RJ2 48 yJ2_length_9d52b, Cond.static yJ2_length_9d52b, Cond.code yJ2_length_9d52b cJ2_length_9d52b 1 (some .int)]
def wsL_law_r13 : List Cond := [Cond.methodLink RJ2 414 yJ0_checkIndex_df160, Cond.methodLink RJ2 71 yJ2_getChar_3b067, Cond.static yJ2_getChar_3b067, Cond.code yJ2_getChar_3b067 cJ2_getChar_3b067 2 (some .char), Cond.fieldLink RJ2 44 "java/lang/StringUTF16" "$assertionsDisabled" "Z", Cond.fieldLink RJ2 59 "java/lang/StringUTF16" "HI_BYTE_SHIFT" "I", Cond.fieldLink RJ2 63 "java/lang/StringUTF16" "LO_BYTE_SHIFT" "I", Cond.methodLink RX3 54 yX3_readBar, Cond.instanceMethod yX3_readBar, Cond.selects RX3 yX3_readBar yX3_readBar, Cond.code yX3_readBar cX3_readBar 2 (some .boolean), Cond.fieldLink RX3 72 "LeanedBars$Railings" "bars" "I", Cond.methodLink RX3 75 yX3_take, Cond.instanceMethod yX3_take, Cond.selects RX3 yX3_take yX3_take, Cond.code yX3_take cX3_take 4 (some .int), Cond.methodLink RX3 79 yX3_takeStop, Cond.instanceMethod yX3_takeStop, Cond.selects RX3 yX3_takeStop yX3_takeStop, Cond.code yX3_takeStop cX3_takeStop 1 (some .boolean), Cond.methodLink RX3 82 yX2_addBar, Cond.instanceMethod yX2_addBar, Cond.selects RX2 yX2_addBar yX2_addBar, Cond.code yX2_addBar cX2_addBar 2 none]
def wsL_law_r14 : List Cond := [Cond.methodLink RX3 59 yX3_readPerson, Cond.instanceMethod yX3_readPerson, Cond.selects RX3 yX3_readPerson yX3_readPerson, Cond.code yX3_readPerson cX3_readPerson 2 (some .boolean), Cond.fieldLink RX3 86 "LeanedBars$Railings" "people" "I", Cond.methodLink RX3 89 yX2_addPerson, Cond.instanceMethod yX2_addPerson, Cond.selects RX2 yX2_addPerson yX2_addPerson, Cond.code yX2_addPerson cX2_addPerson 2 none, Cond.methodLink RX3 64 yX3_readRain, Cond.instanceMethod yX3_readRain, Cond.selects RX3 yX3_readRain yX3_readRain, Cond.code yX3_readRain cX3_readRain 3 (some .boolean), Cond.fieldLink RX3 92 "LeanedBars$Railings" "rains" "[I", Cond.methodLink RX3 69 yX3_readPaint, Cond.instanceMethod yX3_readPaint, Cond.selects RX3 yX3_readPaint yX3_readPaint, Cond.code yX3_readPaint cX3_readPaint 4 (some .boolean), Cond.fieldLink RX3 96 "LeanedBars$Railings" "paints" "I", Cond.methodLink RX3 99 yX2_addPaint, Cond.instanceMethod yX2_addPaint, Cond.selects RX2 yX2_addPaint yX2_addPaint, Cond.code yX2_addPaint cX2_addPaint 4 none, Cond.methodLink RX6 82 yX2_become]
def wsL_law_r15 : List Cond := [Cond.instanceMethod yX2_become, Cond.selects RX2 yX2_become yX2_become, Cond.code yX2_become cX2_become 2 none, Cond.methodLink RX2 46 arraycopyName, Cond.native arraycopyName, Cond.static arraycopyName, Cond.initialized "java/lang/System", Cond.methodLink RX6 86 yX1_forget, Cond.instanceMethod yX1_forget, Cond.selects RX1 yX1_forget yX1_forget, Cond.code yX1_forget cX1_forget 1 none, Cond.methodLink RL 28 yX7_square, Cond.instanceMethod yX7_square, Cond.selects RX7 yX7_square yX7_square, Cond.code yX7_square cX7_square 1 (some .int), Cond.methodLink RL 29 yX6_bar, Cond.instanceMethod yX6_bar, Cond.selects RX6 yX6_bar yX6_bar, Cond.code yX6_bar cX6_bar 2 (some .int), Cond.fieldLink RX6 93 "LeanedBars$Railings" "metals" "[I", Cond.methodLink RX6 89 yX2_hasBar, Cond.instanceMethod yX2_hasBar, Cond.selects RX2 yX2_hasBar yX2_hasBar, Cond.code yX2_hasBar cX2_hasBar 2 (some .boolean)]
def wsL_law_r16 : List Cond := [Cond.methodLink RL 33 yX7_bar, Cond.instanceMethod yX7_bar, Cond.selects RX7 yX7_bar yX7_bar, Cond.code yX7_bar cX7_bar 2 (some .int), Cond.methodLink RX7 120 yX7_isBar, Cond.instanceMethod yX7_isBar, Cond.selects RX7 yX7_isBar yX7_isBar, Cond.code yX7_isBar cX7_isBar 2 (some .boolean), Cond.methodLink RL 34 yX6_person, Cond.instanceMethod yX6_person, Cond.selects RX6 yX6_person yX6_person, Cond.code yX6_person cX6_person 2 (some .int), Cond.fieldLink RX6 100 "LeanedBars$Railings" "grips" "[I", Cond.methodLink RX6 97 yX2_hasPerson, Cond.instanceMethod yX2_hasPerson, Cond.selects RX2 yX2_hasPerson yX2_hasPerson, Cond.code yX2_hasPerson cX2_hasPerson 2 (some .boolean), Cond.methodLink RL 37 yX7_person, Cond.instanceMethod yX7_person, Cond.selects RX7 yX7_person yX7_person, Cond.code yX7_person cX7_person 2 (some .int), Cond.methodLink RX7 123 yX7_isPerson, Cond.instanceMethod yX7_isPerson, Cond.selects RX7 yX7_isPerson yX7_isPerson]
def wsL_law_r17 : List Cond := [Cond.code yX7_isPerson cX7_isPerson 2 (some .boolean), Cond.methodLink RL 38 yX6_rain, Cond.instanceMethod yX6_rain, Cond.selects RX6 yX6_rain yX6_rain, Cond.code yX6_rain cX6_rain 2 (some .int), Cond.fieldLink RX6 106 "LeanedBars$Railings" "rains" "[I", Cond.methodLink RX6 103 yX6_isYear, Cond.static yX6_isYear, Cond.code yX6_isYear cX6_isYear 1 (some .boolean), Cond.methodLink RL 41 yX7_rain, Cond.instanceMethod yX7_rain, Cond.selects RX7 yX7_rain yX7_rain, Cond.code yX7_rain cX7_rain 2 (some .int), Cond.methodLink RL 42 yX6_paint, Cond.instanceMethod yX6_paint, Cond.selects RX6 yX6_paint yX6_paint, Cond.code yX6_paint cX6_paint 3 (some .int), Cond.methodLink RX6 109 yX2_isWet, Cond.instanceMethod yX2_isWet, Cond.selects RX2 yX2_isWet yX2_isWet, Cond.code yX2_isWet cX2_isWet 4 (some .boolean), Cond.methodLink RX6 113 yX2_isCovered, Cond.instanceMethod yX2_isCovered, Cond.selects RX2 yX2_isCovered yX2_isCovered]
def wsL_law_r18 : List Cond := [Cond.code yX2_isCovered cX2_isCovered 5 (some .boolean), Cond.methodLink RL 46 yX7_paint, Cond.instanceMethod yX7_paint, Cond.selects RX7 yX7_paint yX7_paint, Cond.code yX7_paint cX7_paint 3 (some .int), Cond.methodLink RX7 126 yX7_paintOf, Cond.instanceMethod yX7_paintOf, Cond.selects RX7 yX7_paintOf yX7_paintOf, Cond.code yX7_paintOf cX7_paintOf 6 (some .int), Cond.methodLink RL 47 yX6_holds, Cond.instanceMethod yX6_holds, Cond.selects RX6 yX6_holds yX6_holds, Cond.code yX6_holds cX6_holds 5 (some .int), Cond.fieldLink RX6 116 "LeanedBars$Now" "size" "I", Cond.methodLink RX6 119 yX1_add, Cond.instanceMethod yX1_add, Cond.selects RX1 yX1_add yX1_add, Cond.code yX1_add cX1_add 5 none, Cond.methodLink RL 51 yX7_holds, Cond.instanceMethod yX7_holds, Cond.selects RX7 yX7_holds yX7_holds, Cond.code yX7_holds cX7_holds 6 (some .int), Cond.methodLink RL 52 yX6_undo, Cond.instanceMethod yX6_undo]
def wsL_law_r19 : List Cond := [Cond.selects RX6 yX6_undo yX6_undo, Cond.code yX6_undo cX6_undo 1 (some .int), Cond.methodLink RL 55 yX7_undo, Cond.instanceMethod yX7_undo, Cond.selects RX7 yX7_undo yX7_undo, Cond.code yX7_undo cX7_undo 1 (some .int), Cond.methodLink RL 56 yX6_held, Cond.instanceMethod yX6_held, Cond.selects RX6 yX6_held yX6_held, Cond.code yX6_held cX6_held 3 (some .int), Cond.fieldLink RX6 123 "LeanedBars$Now" "people" "[I", Cond.fieldLink RX6 126 "LeanedBars$Now" "bars" "[I", Cond.fieldLink RX6 129 "LeanedBars$Now" "firsts" "[I", Cond.fieldLink RX6 132 "LeanedBars$Now" "lengths" "[I", Cond.methodLink RL 59 yX7_held, Cond.instanceMethod yX7_held, Cond.selects RX7 yX7_held yX7_held, Cond.code yX7_held cX7_held 3 (some .int), Cond.methodLink RL 60 yX6_rust, Cond.instanceMethod yX6_rust, Cond.selects RX6 yX6_rust yX6_rust, Cond.code yX6_rust cX6_rust 3 (some .int), Cond.methodLink RX6 135 yX6_rustByHolds, Cond.instanceMethod yX6_rustByHolds]
def wsL_law_r20 : List Cond := [Cond.selects RX6 yX6_rustByHolds yX6_rustByHolds, Cond.code yX6_rustByHolds cX6_rustByHolds 6 (some .int), Cond.methodLink RX6 210 Lib.Math.min.name, Cond.static Lib.Math.min.name, Cond.initialized "java/lang/Math", Cond.code Lib.Math.min.name Lib.Math.min.code 2 (some .int), Cond.methodLink RX6 207 yX2_weather, Cond.instanceMethod yX2_weather, Cond.selects RX2 yX2_weather yX2_weather, Cond.code yX2_weather cX2_weather 5 (some .int), Cond.methodLink RX2 56 yX2_isCovered, Cond.methodLink RX6 215 yX2_dryYears, Cond.instanceMethod yX2_dryYears, Cond.selects RX2 yX2_dryYears yX2_dryYears, Cond.code yX2_dryYears cX2_dryYears 6 (some .int), Cond.methodLink RX2 60 yX2_isWet, Cond.methodLink RL 63 yX7_rust, Cond.instanceMethod yX7_rust, Cond.selects RX7 yX7_rust yX7_rust, Cond.code yX7_rust cX7_rust 3 (some .int), Cond.methodLink RX7 132 yX7_rustOf, Cond.instanceMethod yX7_rustOf, Cond.selects RX7 yX7_rustOf yX7_rustOf, Cond.code yX7_rustOf cX7_rustOf 7 (some .int)]
def wsL_law_r21 : List Cond := [Cond.methodLink RX7 129 yX7_plain, Cond.instanceMethod yX7_plain, Cond.selects RX7 yX7_plain yX7_plain, Cond.code yX7_plain cX7_plain 5 (some .int), Cond.methodLink RL 64 yX6_saw, Cond.instanceMethod yX6_saw, Cond.selects RX6 yX6_saw yX6_saw, Cond.code yX6_saw cX6_saw 4 (some .int), Cond.fieldLink RX6 139 "LeanedBars$Now" "sights" "[I", Cond.methodLink RL 67 yX7_saw, Cond.instanceMethod yX7_saw, Cond.selects RX7 yX7_saw yX7_saw, Cond.code yX7_saw cX7_saw 4 (some .int), Cond.methodLink RL 68 yX6_hide, Cond.instanceMethod yX6_hide, Cond.selects RX6 yX6_hide yX6_hide, Cond.code yX6_hide cX6_hide 3 (some .int), Cond.methodLink RL 71 yX7_hide, Cond.instanceMethod yX7_hide, Cond.selects RX7 yX7_hide yX7_hide, Cond.code yX7_hide cX7_hide 3 (some .int), Cond.methodLink RL 72 yX6_seen, Cond.instanceMethod yX6_seen, Cond.selects RX6 yX6_seen yX6_seen]
def wsL_law_r22 : List Cond := [Cond.code yX6_seen cX6_seen 2 (some .int), Cond.methodLink RL 75 yX7_seen, Cond.instanceMethod yX7_seen, Cond.selects RX7 yX7_seen yX7_seen, Cond.code yX7_seen cX7_seen 2 (some .int), Cond.methodLink RL 76 yX6_fits, Cond.instanceMethod yX6_fits, Cond.selects RX6 yX6_fits yX6_fits, Cond.code yX6_fits cX6_fits 1 (some .int), Cond.methodLink RX6 142 yX5_learn, Cond.instanceMethod yX5_learn, Cond.selects RX5 yX5_learn yX5_learn, Cond.code yX5_learn cX5_learn 5 none, Cond.fieldLink RX5 41 "LeanedBars$Railings" "bars" "I", Cond.fieldLink RX5 44 "LeanedBars$Railings" "people" "I", Cond.fieldLink RX5 45 "LeanedBars$Railings" "grips" "[I", Cond.methodLink RX5 46 arraycopyName, Cond.fieldLink RX5 52 "LeanedBars$Now" "sights" "[I", Cond.methodLink RX5 57 yX2_weather, Cond.methodLink RX5 61 yX2_dryYears, Cond.methodLink RX5 65 yX5_winters, Cond.instanceMethod yX5_winters, Cond.selects RX5 yX5_winters yX5_winters, Cond.code yX5_winters cX5_winters 6 (some .int)]
def wsL_law_r23 : List Cond := [Cond.methodLink RX5 101 yX5_wintersFrom, Cond.instanceMethod yX5_wintersFrom, Cond.selects RX5 yX5_wintersFrom yX5_wintersFrom, Cond.code yX5_wintersFrom cX5_wintersFrom 7 (some .int), Cond.methodLink RX5 76 yX5_isIn, Cond.static yX5_isIn, Cond.code yX5_isIn cX5_isIn 2 (some .boolean), Cond.methodLink RX5 80 yX5_leaves, Cond.instanceMethod yX5_leaves, Cond.selects RX5 yX5_leaves yX5_leaves, Cond.code yX5_leaves cX5_leaves 4 (some .int), Cond.methodLink RX6 146 yX5_all, Cond.instanceMethod yX5_all, Cond.selects RX5 yX5_all yX5_all, Cond.code yX5_all cX5_all 1 (some .int), Cond.methodLink RX5 68 yX5_gather, Cond.instanceMethod yX5_gather, Cond.selects RX5 yX5_gather yX5_gather, Cond.code yX5_gather cX5_gather 3 none, Cond.methodLink RX5 83 yJ7_fill_53178, Cond.methodLink RX5 98 yX5_gatherBar, Cond.instanceMethod yX5_gatherBar, Cond.selects RX5 yX5_gatherBar yX5_gatherBar, Cond.code yX5_gatherBar cX5_gatherBar 5 none]
def wsL_law_r24 : List Cond := [Cond.methodLink RX5 72 yX5_waysBeside, Cond.instanceMethod yX5_waysBeside, Cond.selects RX5 yX5_waysBeside yX5_waysBeside, Cond.code yX5_waysBeside cX5_waysBeside 4 (some .int), Cond.methodLink RL 79 yX7_fits, Cond.instanceMethod yX7_fits, Cond.selects RX7 yX7_fits yX7_fits, Cond.code yX7_fits cX7_fits 3 (some .int), Cond.fieldLink RX7 135 "LeanedBarsModel" "ways" "I", Cond.methodLink RX7 141 yX7_lays, Cond.instanceMethod yX7_lays, Cond.selects RX7 yX7_lays yX7_lays, Cond.code yX7_lays cX7_lays 4 none, Cond.methodLink RX7 144 yX7_isWay, Cond.instanceMethod yX7_isWay, Cond.selects RX7 yX7_isWay yX7_isWay, Cond.code yX7_isWay cX7_isWay 4 (some .boolean), Cond.methodLink RX7 138 yX7_figureOf, Cond.instanceMethod yX7_figureOf, Cond.selects RX7 yX7_figureOf yX7_figureOf, Cond.code yX7_figureOf cX7_figureOf 5 (some .int), Cond.methodLink RL 80 yX6_sure, Cond.instanceMethod yX6_sure, Cond.selects RX6 yX6_sure yX6_sure]
def wsL_law_r25 : List Cond := [Cond.code yX6_sure cX6_sure 4 (some .int), Cond.fieldLink RX6 153 "LeanedBars$Railings" "bars" "I", Cond.methodLink RX6 149 yX5_holdingNone, Cond.instanceMethod yX5_holdingNone, Cond.selects RX5 yX5_holdingNone yX5_holdingNone, Cond.code yX5_holdingNone cX5_holdingNone 2 (some .int), Cond.methodLink RX6 155 yX5_holding, Cond.instanceMethod yX5_holding, Cond.selects RX5 yX5_holding yX5_holding, Cond.code yX5_holding cX5_holding 5 (some .int), Cond.methodLink RL 83 yX7_sure, Cond.instanceMethod yX7_sure, Cond.selects RX7 yX7_sure yX7_sure, Cond.code yX7_sure cX7_sure 5 (some .int), Cond.methodLink RX7 147 yX7_barOf, Cond.static yX7_barOf, Cond.code yX7_barOf cX7_barOf 1 (some .int), Cond.methodLink RL 84 yX6_odds, Cond.instanceMethod yX6_odds, Cond.selects RX6 yX6_odds yX6_odds, Cond.code yX6_odds cX6_odds 7 (some .int), Cond.methodLink RX6 158 yX6_commonDivisor, Cond.static yX6_commonDivisor, Cond.code yX6_commonDivisor cX6_commonDivisor 6 (some .int)]
def wsL_law_r26 : List Cond := [Cond.methodLink RL 88 yX7_odds, Cond.instanceMethod yX7_odds, Cond.selects RX7 yX7_odds yX7_odds, Cond.code yX7_odds cX7_odds 9 (some .int), Cond.methodLink RL 89 yX6_claim, Cond.instanceMethod yX6_claim, Cond.selects RX6 yX6_claim yX6_claim, Cond.code yX6_claim cX6_claim 4 (some .int), Cond.methodLink RX6 161 yX6_isClaim, Cond.instanceMethod yX6_isClaim, Cond.selects RX6 yX6_isClaim yX6_isClaim, Cond.code yX6_isClaim cX6_isClaim 4 (some .boolean), Cond.methodLink RX6 164 yX5_canHaveHeld, Cond.instanceMethod yX5_canHaveHeld, Cond.selects RX5 yX5_canHaveHeld yX5_canHaveHeld, Cond.code yX5_canHaveHeld cX5_canHaveHeld 6 (some .boolean), Cond.methodLink RL 92 yX7_claim, Cond.instanceMethod yX7_claim, Cond.selects RX7 yX7_claim yX7_claim, Cond.code yX7_claim cX7_claim 4 (some .int), Cond.methodLink RX7 150 yX7_isClaim, Cond.instanceMethod yX7_isClaim, Cond.selects RX7 yX7_isClaim yX7_isClaim, Cond.code yX7_isClaim cX7_isClaim 4 (some .boolean)]
def wsL_law_r27 : List Cond := [Cond.methodLink RX7 153 yX7_claims, Cond.instanceMethod yX7_claims, Cond.selects RX7 yX7_claims yX7_claims, Cond.code yX7_claims cX7_claims 7 (some .int), Cond.methodLink RL 93 yX6_saves, Cond.instanceMethod yX6_saves, Cond.selects RX6 yX6_saves yX6_saves, Cond.code yX6_saves cX6_saves 5 (some .int), Cond.methodLink RL 96 yX7_saves, Cond.instanceMethod yX7_saves, Cond.selects RX7 yX7_saves yX7_saves, Cond.code yX7_saves cX7_saves 6 (some .int), Cond.methodLink RL 97 yX6_scrape, Cond.instanceMethod yX6_scrape, Cond.selects RX6 yX6_scrape yX6_scrape, Cond.code yX6_scrape cX6_scrape 6 (some .int), Cond.methodLink RX6 167 yX5_leftAtWorst, Cond.instanceMethod yX5_leftAtWorst, Cond.selects RX5 yX5_leftAtWorst yX5_leftAtWorst, Cond.code yX5_leftAtWorst cX5_leftAtWorst 4 (some .int), Cond.methodLink RX5 93 Lib.Math.max.name, Cond.static Lib.Math.max.name, Cond.code Lib.Math.max.name Lib.Math.max.code 2 (some .int), Cond.methodLink RX5 89 yX5_spread]
def wsL_law_r28 : List Cond := [Cond.instanceMethod yX5_spread, Cond.selects RX5 yX5_spread yX5_spread, Cond.code yX5_spread cX5_spread 7 none, Cond.methodLink RL 100 yX7_scrape, Cond.instanceMethod yX7_scrape, Cond.selects RX7 yX7_scrape yX7_scrape, Cond.code yX7_scrape cX7_scrape 7 (some .int), Cond.methodLink RL 101 yX6_swaps, Cond.instanceMethod yX6_swaps, Cond.selects RX6 yX6_swaps yX6_swaps, Cond.code yX6_swaps cX6_swaps 2 (some .int), Cond.fieldLink RX6 170 "LeanedBars$Exchanges" "size" "I", Cond.methodLink RX6 171 yX0_add, Cond.instanceMethod yX0_add, Cond.selects RX0 yX0_add yX0_add, Cond.code yX0_add cX0_add 3 none, Cond.methodLink RX6 174 yX0_fewest, Cond.instanceMethod yX0_fewest, Cond.selects RX0 yX0_fewest yX0_fewest, Cond.code yX0_fewest cX0_fewest 2 (some .int), Cond.methodLink RX0 22 yX0_fewestFrom, Cond.instanceMethod yX0_fewestFrom, Cond.selects RX0 yX0_fewestFrom yX0_fewestFrom, Cond.code yX0_fewestFrom cX0_fewestFrom 5 (some .int)]
def wsL_law_r29 : List Cond := [Cond.methodLink RX0 30 Lib.Math.min.name, Cond.methodLink RX0 26 yX0_exchange, Cond.instanceMethod yX0_exchange, Cond.selects RX0 yX0_exchange yX0_exchange, Cond.code yX0_exchange cX0_exchange 4 none, Cond.methodLink RL 104 yX7_swaps, Cond.instanceMethod yX7_swaps, Cond.selects RX7 yX7_swaps yX7_swaps, Cond.code yX7_swaps cX7_swaps 8 (some .int), Cond.methodLink RX7 156 yX7_comesOut, Cond.instanceMethod yX7_comesOut, Cond.selects RX7 yX7_comesOut yX7_comesOut, Cond.code yX7_comesOut cX7_comesOut 4 (some .boolean), Cond.methodLink RX7 159 yX7_exchanges, Cond.instanceMethod yX7_exchanges, Cond.selects RX7 yX7_exchanges yX7_exchanges, Cond.code yX7_exchanges cX7_exchanges 6 (some .int), Cond.methodLink RL 105 yX6_rate, Cond.instanceMethod yX6_rate, Cond.selects RX6 yX6_rate yX6_rate, Cond.code yX6_rate cX6_rate 3 (some .int), Cond.constant RX6 177 (-1000000), Cond.methodLink RX6 178 yX6_rateOfBar, Cond.instanceMethod yX6_rateOfBar]
def wsL_law_r30 : List Cond := [Cond.selects RX6 yX6_rateOfBar yX6_rateOfBar, Cond.code yX6_rateOfBar cX6_rateOfBar 2 (some .int), Cond.methodLink RX6 181 yX6_rateOfRail, Cond.instanceMethod yX6_rateOfRail, Cond.selects RX6 yX6_rateOfRail yX6_rateOfRail, Cond.code yX6_rateOfRail cX6_rateOfRail 2 (some .int), Cond.constantLong RX6 219 (10), Cond.methodLink RX6 221 yX2_coveredYears, Cond.instanceMethod yX2_coveredYears, Cond.selects RX2 yX2_coveredYears yX2_coveredYears, Cond.code yX2_coveredYears cX2_coveredYears 4 (some .int), Cond.methodLink RX6 184 yX6_rateOfSpike, Cond.instanceMethod yX6_rateOfSpike, Cond.selects RX6 yX6_rateOfSpike yX6_rateOfSpike, Cond.code yX6_rateOfSpike cX6_rateOfSpike 2 (some .int), Cond.constantLong RX6 224 (100), Cond.methodLink RX6 226 yX1_holdsOf, Cond.instanceMethod yX1_holdsOf, Cond.selects RX1 yX1_holdsOf yX1_holdsOf, Cond.code yX1_holdsOf cX1_holdsOf 4 (some .int), Cond.methodLink RX6 187 yX6_rateOfGate, Cond.instanceMethod yX6_rateOfGate, Cond.selects RX6 yX6_rateOfGate yX6_rateOfGate, Cond.code yX6_rateOfGate cX6_rateOfGate 2 (some .int)]
def wsL_law_r31 : List Cond := [Cond.constantLong RX6 229 (1000), Cond.methodLink RX6 190 yX6_rateOfFinial, Cond.instanceMethod yX6_rateOfFinial, Cond.selects RX6 yX6_rateOfFinial yX6_rateOfFinial, Cond.code yX6_rateOfFinial cX6_rateOfFinial 2 (some .int), Cond.constantLong RX6 231 (10000), Cond.methodLink RX6 193 yX6_rateOfNewOne, Cond.instanceMethod yX6_rateOfNewOne, Cond.selects RX6 yX6_rateOfNewOne yX6_rateOfNewOne, Cond.code yX6_rateOfNewOne cX6_rateOfNewOne 2 (some .int), Cond.constantLong RX6 233 (100000), Cond.methodLink RL 108 yX7_rate, Cond.instanceMethod yX7_rate, Cond.selects RX7 yX7_rate yX7_rate, Cond.code yX7_rate cX7_rate 6 (some .int), Cond.constant RX7 162 (-1000000), Cond.fieldLink RX7 163 "LeanedBarsModel" "trace" "J", Cond.constantLong RX7 167 (11), Cond.constantLong RX7 169 (101), Cond.constantLong RX7 171 (1011), Cond.constantLong RX7 173 (10101), Cond.constantLong RX7 175 (100001), Cond.methodLink RL 109 yX6_keep, Cond.instanceMethod yX6_keep]
def wsL_law_r32 : List Cond := [Cond.selects RX6 yX6_keep yX6_keep, Cond.code yX6_keep cX6_keep 2 (some .int), Cond.methodLink RX6 196 yX1_become, Cond.instanceMethod yX1_become, Cond.selects RX1 yX1_become yX1_become, Cond.code yX1_become cX1_become 2 none, Cond.methodLink RX1 37 arraycopyName, Cond.methodLink RL 112 yX7_keep, Cond.instanceMethod yX7_keep, Cond.selects RX7 yX7_keep yX7_keep, Cond.code yX7_keep cX7_keep 3 (some .int), Cond.methodLink RL 113 yX6_back, Cond.instanceMethod yX6_back, Cond.selects RX6 yX6_back yX6_back, Cond.code yX6_back cX6_back 2 (some .int), Cond.methodLink RL 116 yX7_back, Cond.instanceMethod yX7_back, Cond.selects RX7 yX7_back yX7_back, Cond.code yX7_back cX7_back 3 (some .int), Cond.methodLink RL 117 yX6_count, Cond.instanceMethod yX6_count, Cond.selects RX6 yX6_count yX6_count, Cond.code yX6_count cX6_count 2 (some .int), Cond.fieldLink RX6 199 "LeanedBars$Railings" "people" "I"]
def wsL_law_r33 : List Cond := [Cond.fieldLink RX6 201 "LeanedBars$Railings" "paints" "I", Cond.methodLink RX6 204 yX1_sightsTold, Cond.instanceMethod yX1_sightsTold, Cond.selects RX1 yX1_sightsTold yX1_sightsTold, Cond.code yX1_sightsTold cX1_sightsTold 3 (some .int), Cond.methodLink RL 120 yX7_count, Cond.instanceMethod yX7_count, Cond.selects RX7 yX7_count yX7_count, Cond.code yX7_count cX7_count 4 (some .int), Cond.methodLink RL 121 yX6_trace, Cond.instanceMethod yX6_trace, Cond.selects RX6 yX6_trace yX6_trace, Cond.code yX6_trace cX6_trace 1 (some .long), Cond.methodLink RL 125 yX7_trace, Cond.instanceMethod yX7_trace, Cond.selects RX7 yX7_trace yX7_trace, Cond.code yX7_trace cX7_trace 1 (some .long)]
def wsL_law : List Cond := (wsL_law_r1 ++ (wsL_law_r2 ++ (wsL_law_r3 ++ (wsL_law_r4 ++ (wsL_law_r5 ++ (wsL_law_r6 ++ (wsL_law_r7 ++ (wsL_law_r8 ++ (wsL_law_r9 ++ (wsL_law_r10 ++ (wsL_law_r11 ++ (wsL_law_r12 ++ (wsL_law_r13 ++ (wsL_law_r14 ++ (wsL_law_r15 ++ (wsL_law_r16 ++ (wsL_law_r17 ++ (wsL_law_r18 ++ (wsL_law_r19 ++ (wsL_law_r20 ++ (wsL_law_r21 ++ (wsL_law_r22 ++ (wsL_law_r23 ++ (wsL_law_r24 ++ (wsL_law_r25 ++ (wsL_law_r26 ++ (wsL_law_r27 ++ (wsL_law_r28 ++ (wsL_law_r29 ++ (wsL_law_r30 ++ (wsL_law_r31 ++ (wsL_law_r32 ++ wsL_law_r33)))))))))))))))))))))))))))))))) ++ wsX60 ++ wsX70 ++ wsX30 ++ wsX20 ++ wsX10 ++ wsX50 ++ wsX00 ++ wsX40 ++ ([] : List Cond)
theorem inlX0 : ∀ w ∈ wsX00, w ∈ wsL_law := fun _ h => List.mem_append_left _ (List.mem_append_left _ (List.mem_append_right _ h))
theorem inlX1 : ∀ w ∈ wsX10, w ∈ wsL_law := fun _ h => List.mem_append_left _ (List.mem_append_left _ (List.mem_append_left _ (List.mem_append_left _ (List.mem_append_right _ h))))
theorem inlX2 : ∀ w ∈ wsX20, w ∈ wsL_law := fun _ h => List.mem_append_left _ (List.mem_append_left _ (List.mem_append_left _ (List.mem_append_left _ (List.mem_append_left _ (List.mem_append_right _ h)))))
theorem inlX3 : ∀ w ∈ wsX30, w ∈ wsL_law := fun _ h => List.mem_append_left _ (List.mem_append_left _ (List.mem_append_left _ (List.mem_append_left _ (List.mem_append_left _ (List.mem_append_left _ (List.mem_append_right _ h))))))
theorem inlX4 : ∀ w ∈ wsX40, w ∈ wsL_law := fun _ h => List.mem_append_left _ (List.mem_append_right _ h)
theorem inlX5 : ∀ w ∈ wsX50, w ∈ wsL_law := fun _ h => List.mem_append_left _ (List.mem_append_left _ (List.mem_append_left _ (List.mem_append_right _ h)))
theorem inlX6 : ∀ w ∈ wsX60, w ∈ wsL_law := fun _ h => List.mem_append_left _ (List.mem_append_left _ (List.mem_append_left _ (List.mem_append_left _ (List.mem_append_left _ (List.mem_append_left _ (List.mem_append_left _ (List.mem_append_left _ (List.mem_append_right _ h))))))))
theorem inlX7 : ∀ w ∈ wsX70, w ∈ wsL_law := fun _ h => List.mem_append_left _ (List.mem_append_left _ (List.mem_append_left _ (List.mem_append_left _ (List.mem_append_left _ (List.mem_append_left _ (List.mem_append_left _ (List.mem_append_right _ h)))))))
abbrev vwCl : List vw_C := [(RX0, TX0, 3), (RX1, TX1, 6), (RX2, TX2, 9), (RX3, TX3, 6), (RX4, TX4, 2), (RX5, TX5, 9), (RX6, TX6, 9), (RX7, TX7, 19)]
end
section
theorem dX0_init_0 : decode cX0_init 0 = .ok (.aload_n 0, 1) := by decide +kernel
theorem dX0_init_1 : decode cX0_init 1 = .ok (.invokespecial 3, 3) := by decide +kernel
theorem dX0_init_4 : decode cX0_init 4 = .ok (.aload_n 0, 1) := by decide +kernel
theorem dX0_init_5 : decode cX0_init 5 = .ok (.iconst 0, 1) := by decide +kernel
theorem dX0_init_6 : decode cX0_init 6 = .ok (.putfield 9, 3) := by decide +kernel
theorem dX0_init_9 : decode cX0_init 9 = .ok (.aload_n 0, 1) := by decide +kernel
theorem dX0_init_10 : decode cX0_init 10 = .ok (.bipush 6, 2) := by decide +kernel
theorem dX0_init_12 : decode cX0_init 12 = .ok (.newarray .int, 2) := by decide +kernel
theorem dX0_init_14 : decode cX0_init 14 = .ok (.putfield 15, 3) := by decide +kernel
theorem dX0_init_17 : decode cX0_init 17 = .ok (.aload_n 0, 1) := by decide +kernel
theorem dX0_init_18 : decode cX0_init 18 = .ok (.bipush 6, 2) := by decide +kernel
theorem dX0_init_20 : decode cX0_init 20 = .ok (.newarray .int, 2) := by decide +kernel
theorem dX0_init_22 : decode cX0_init 22 = .ok (.putfield 19, 3) := by decide +kernel
theorem dX0_init_25 : decode cX0_init 25 = .ok (.return_, 1) := by decide +kernel
theorem dX0_add_0 : decode cX0_add 0 = .ok (.aload_n 0, 1) := by decide +kernel
theorem dX0_add_1 : decode cX0_add 1 = .ok (.getfield 9, 3) := by decide +kernel
theorem dX0_add_4 : decode cX0_add 4 = .ok (.bipush 6, 2) := by decide +kernel
theorem dX0_add_6 : decode cX0_add 6 = .ok (.if_icmp .ge 33, 3) := by decide +kernel
theorem dX0_add_9 : decode cX0_add 9 = .ok (.aload_n 0, 1) := by decide +kernel
theorem dX0_add_10 : decode cX0_add 10 = .ok (.getfield 15, 3) := by decide +kernel
theorem dX0_add_13 : decode cX0_add 13 = .ok (.aload_n 0, 1) := by decide +kernel
theorem dX0_add_14 : decode cX0_add 14 = .ok (.getfield 9, 3) := by decide +kernel
theorem dX0_add_17 : decode cX0_add 17 = .ok (.iload_n 1, 1) := by decide +kernel
theorem dX0_add_18 : decode cX0_add 18 = .ok (.iastore, 1) := by decide +kernel
theorem dX0_add_19 : decode cX0_add 19 = .ok (.aload_n 0, 1) := by decide +kernel
theorem dX0_add_20 : decode cX0_add 20 = .ok (.getfield 19, 3) := by decide +kernel
theorem dX0_add_23 : decode cX0_add 23 = .ok (.aload_n 0, 1) := by decide +kernel
theorem dX0_add_24 : decode cX0_add 24 = .ok (.getfield 9, 3) := by decide +kernel
theorem dX0_add_27 : decode cX0_add 27 = .ok (.iload_n 2, 1) := by decide +kernel
theorem dX0_add_28 : decode cX0_add 28 = .ok (.iastore, 1) := by decide +kernel
theorem dX0_add_29 : decode cX0_add 29 = .ok (.aload_n 0, 1) := by decide +kernel
theorem dX0_add_30 : decode cX0_add 30 = .ok (.dup, 1) := by decide +kernel
theorem dX0_add_31 : decode cX0_add 31 = .ok (.getfield 9, 3) := by decide +kernel
theorem dX0_add_34 : decode cX0_add 34 = .ok (.iconst 1, 1) := by decide +kernel
theorem dX0_add_35 : decode cX0_add 35 = .ok (.iadd, 1) := by decide +kernel
theorem dX0_add_36 : decode cX0_add 36 = .ok (.putfield 9, 3) := by decide +kernel
theorem dX0_add_39 : decode cX0_add 39 = .ok (.return_, 1) := by decide +kernel
theorem dX0_fewest_0 : decode cX0_fewest 0 = .ok (.aload_n 0, 1) := by decide +kernel
theorem dX0_fewest_1 : decode cX0_fewest 1 = .ok (.iconst 0, 1) := by decide +kernel
theorem dX0_fewest_2 : decode cX0_fewest 2 = .ok (.invokevirtual 22, 3) := by decide +kernel
theorem dX0_fewest_5 : decode cX0_fewest 5 = .ok (.istore_n 1, 1) := by decide +kernel
theorem dX0_fewest_6 : decode cX0_fewest 6 = .ok (.iload_n 1, 1) := by decide +kernel
theorem dX0_fewest_7 : decode cX0_fewest 7 = .ok (.bipush 100, 2) := by decide +kernel
theorem dX0_fewest_9 : decode cX0_fewest 9 = .ok (.if_icmp .ge 7, 3) := by decide +kernel
theorem dX0_fewest_12 : decode cX0_fewest 12 = .ok (.iload_n 1, 1) := by decide +kernel
theorem dX0_fewest_13 : decode cX0_fewest 13 = .ok (.goto 5, 3) := by decide +kernel
theorem dX0_fewest_16 : decode cX0_fewest 16 = .ok (.bipush (-9), 2) := by decide +kernel
theorem dX0_fewest_18 : decode cX0_fewest 18 = .ok (.ireturn, 1) := by decide +kernel
theorem dX0_fewestFrom_0 : decode cX0_fewestFrom 0 = .ok (.iload_n 1, 1) := by decide +kernel
theorem dX0_fewestFrom_1 : decode cX0_fewestFrom 1 = .ok (.istore_n 2, 1) := by decide +kernel
theorem dX0_fewestFrom_2 : decode cX0_fewestFrom 2 = .ok (.iload_n 2, 1) := by decide +kernel
theorem dX0_fewestFrom_3 : decode cX0_fewestFrom 3 = .ok (.aload_n 0, 1) := by decide +kernel
theorem dX0_fewestFrom_4 : decode cX0_fewestFrom 4 = .ok (.getfield 9, 3) := by decide +kernel
theorem dX0_fewestFrom_7 : decode cX0_fewestFrom 7 = .ok (.if_icmp .ge 24, 3) := by decide +kernel
theorem dX0_fewestFrom_10 : decode cX0_fewestFrom 10 = .ok (.aload_n 0, 1) := by decide +kernel
theorem dX0_fewestFrom_11 : decode cX0_fewestFrom 11 = .ok (.getfield 15, 3) := by decide +kernel
theorem dX0_fewestFrom_14 : decode cX0_fewestFrom 14 = .ok (.iload_n 2, 1) := by decide +kernel
theorem dX0_fewestFrom_15 : decode cX0_fewestFrom 15 = .ok (.iaload, 1) := by decide +kernel
theorem dX0_fewestFrom_16 : decode cX0_fewestFrom 16 = .ok (.aload_n 0, 1) := by decide +kernel
theorem dX0_fewestFrom_17 : decode cX0_fewestFrom 17 = .ok (.getfield 19, 3) := by decide +kernel
theorem dX0_fewestFrom_20 : decode cX0_fewestFrom 20 = .ok (.iload_n 2, 1) := by decide +kernel
theorem dX0_fewestFrom_21 : decode cX0_fewestFrom 21 = .ok (.iaload, 1) := by decide +kernel
theorem dX0_fewestFrom_22 : decode cX0_fewestFrom 22 = .ok (.if_icmp .ne 9, 3) := by decide +kernel
theorem dX0_fewestFrom_25 : decode cX0_fewestFrom 25 = .ok (.iinc 2 1, 3) := by decide +kernel
theorem dX0_fewestFrom_28 : decode cX0_fewestFrom 28 = .ok (.goto (-26), 3) := by decide +kernel
theorem dX0_fewestFrom_31 : decode cX0_fewestFrom 31 = .ok (.iload_n 2, 1) := by decide +kernel
theorem dX0_fewestFrom_32 : decode cX0_fewestFrom 32 = .ok (.aload_n 0, 1) := by decide +kernel
theorem dX0_fewestFrom_33 : decode cX0_fewestFrom 33 = .ok (.getfield 9, 3) := by decide +kernel
theorem dX0_fewestFrom_36 : decode cX0_fewestFrom 36 = .ok (.if_icmp .lt 5, 3) := by decide +kernel
theorem dX0_fewestFrom_39 : decode cX0_fewestFrom 39 = .ok (.iconst 0, 1) := by decide +kernel
theorem dX0_fewestFrom_40 : decode cX0_fewestFrom 40 = .ok (.ireturn, 1) := by decide +kernel
theorem dX0_fewestFrom_41 : decode cX0_fewestFrom 41 = .ok (.bipush 100, 2) := by decide +kernel
theorem dX0_fewestFrom_43 : decode cX0_fewestFrom 43 = .ok (.istore_n 3, 1) := by decide +kernel
theorem dX0_fewestFrom_44 : decode cX0_fewestFrom 44 = .ok (.iload_n 2, 1) := by decide +kernel
theorem dX0_fewestFrom_45 : decode cX0_fewestFrom 45 = .ok (.iconst 1, 1) := by decide +kernel
theorem dX0_fewestFrom_46 : decode cX0_fewestFrom 46 = .ok (.iadd, 1) := by decide +kernel
theorem dX0_fewestFrom_47 : decode cX0_fewestFrom 47 = .ok (.istore 4, 2) := by decide +kernel
theorem dX0_fewestFrom_49 : decode cX0_fewestFrom 49 = .ok (.iload 4, 2) := by decide +kernel
theorem dX0_fewestFrom_51 : decode cX0_fewestFrom 51 = .ok (.aload_n 0, 1) := by decide +kernel
theorem dX0_fewestFrom_52 : decode cX0_fewestFrom 52 = .ok (.getfield 9, 3) := by decide +kernel
theorem dX0_fewestFrom_55 : decode cX0_fewestFrom 55 = .ok (.if_icmp .ge 70, 3) := by decide +kernel
theorem dX0_fewestFrom_58 : decode cX0_fewestFrom 58 = .ok (.aload_n 0, 1) := by decide +kernel
theorem dX0_fewestFrom_59 : decode cX0_fewestFrom 59 = .ok (.getfield 15, 3) := by decide +kernel
theorem dX0_fewestFrom_62 : decode cX0_fewestFrom 62 = .ok (.iload 4, 2) := by decide +kernel
theorem dX0_fewestFrom_64 : decode cX0_fewestFrom 64 = .ok (.iaload, 1) := by decide +kernel
theorem dX0_fewestFrom_65 : decode cX0_fewestFrom 65 = .ok (.aload_n 0, 1) := by decide +kernel
theorem dX0_fewestFrom_66 : decode cX0_fewestFrom 66 = .ok (.getfield 19, 3) := by decide +kernel
theorem dX0_fewestFrom_69 : decode cX0_fewestFrom 69 = .ok (.iload_n 2, 1) := by decide +kernel
theorem dX0_fewestFrom_70 : decode cX0_fewestFrom 70 = .ok (.iaload, 1) := by decide +kernel
theorem dX0_fewestFrom_71 : decode cX0_fewestFrom 71 = .ok (.if_icmp .ne 48, 3) := by decide +kernel
theorem dX0_fewestFrom_74 : decode cX0_fewestFrom 74 = .ok (.aload_n 0, 1) := by decide +kernel
theorem dX0_fewestFrom_75 : decode cX0_fewestFrom 75 = .ok (.getfield 15, 3) := by decide +kernel
theorem dX0_fewestFrom_78 : decode cX0_fewestFrom 78 = .ok (.iload 4, 2) := by decide +kernel
theorem dX0_fewestFrom_80 : decode cX0_fewestFrom 80 = .ok (.iaload, 1) := by decide +kernel
theorem dX0_fewestFrom_81 : decode cX0_fewestFrom 81 = .ok (.aload_n 0, 1) := by decide +kernel
theorem dX0_fewestFrom_82 : decode cX0_fewestFrom 82 = .ok (.getfield 19, 3) := by decide +kernel
theorem dX0_fewestFrom_85 : decode cX0_fewestFrom 85 = .ok (.iload 4, 2) := by decide +kernel
theorem dX0_fewestFrom_87 : decode cX0_fewestFrom 87 = .ok (.iaload, 1) := by decide +kernel
theorem dX0_fewestFrom_88 : decode cX0_fewestFrom 88 = .ok (.if_icmp .eq 31, 3) := by decide +kernel
theorem dX0_fewestFrom_91 : decode cX0_fewestFrom 91 = .ok (.aload_n 0, 1) := by decide +kernel
theorem dX0_fewestFrom_92 : decode cX0_fewestFrom 92 = .ok (.iload_n 2, 1) := by decide +kernel
theorem dX0_fewestFrom_93 : decode cX0_fewestFrom 93 = .ok (.iload 4, 2) := by decide +kernel
theorem dX0_fewestFrom_95 : decode cX0_fewestFrom 95 = .ok (.invokevirtual 26, 3) := by decide +kernel
theorem dX0_fewestFrom_98 : decode cX0_fewestFrom 98 = .ok (.iload_n 3, 1) := by decide +kernel
theorem dX0_fewestFrom_99 : decode cX0_fewestFrom 99 = .ok (.iconst 1, 1) := by decide +kernel
theorem dX0_fewestFrom_100 : decode cX0_fewestFrom 100 = .ok (.aload_n 0, 1) := by decide +kernel
theorem dX0_fewestFrom_101 : decode cX0_fewestFrom 101 = .ok (.iload_n 2, 1) := by decide +kernel
theorem dX0_fewestFrom_102 : decode cX0_fewestFrom 102 = .ok (.iconst 1, 1) := by decide +kernel
theorem dX0_fewestFrom_103 : decode cX0_fewestFrom 103 = .ok (.iadd, 1) := by decide +kernel
theorem dX0_fewestFrom_104 : decode cX0_fewestFrom 104 = .ok (.invokevirtual 22, 3) := by decide +kernel
theorem dX0_fewestFrom_107 : decode cX0_fewestFrom 107 = .ok (.iadd, 1) := by decide +kernel
theorem dX0_fewestFrom_108 : decode cX0_fewestFrom 108 = .ok (.invokestatic 30, 3) := by decide +kernel
theorem dX0_fewestFrom_111 : decode cX0_fewestFrom 111 = .ok (.istore_n 3, 1) := by decide +kernel
theorem dX0_fewestFrom_112 : decode cX0_fewestFrom 112 = .ok (.aload_n 0, 1) := by decide +kernel
theorem dX0_fewestFrom_113 : decode cX0_fewestFrom 113 = .ok (.iload_n 2, 1) := by decide +kernel
theorem dX0_fewestFrom_114 : decode cX0_fewestFrom 114 = .ok (.iload 4, 2) := by decide +kernel
theorem dX0_fewestFrom_116 : decode cX0_fewestFrom 116 = .ok (.invokevirtual 26, 3) := by decide +kernel
theorem dX0_fewestFrom_119 : decode cX0_fewestFrom 119 = .ok (.iinc 4 1, 3) := by decide +kernel
theorem dX0_fewestFrom_122 : decode cX0_fewestFrom 122 = .ok (.goto (-73), 3) := by decide +kernel
theorem dX0_fewestFrom_125 : decode cX0_fewestFrom 125 = .ok (.iload_n 3, 1) := by decide +kernel
theorem dX0_fewestFrom_126 : decode cX0_fewestFrom 126 = .ok (.ireturn, 1) := by decide +kernel
theorem dX0_exchange_0 : decode cX0_exchange 0 = .ok (.aload_n 0, 1) := by decide +kernel
theorem dX0_exchange_1 : decode cX0_exchange 1 = .ok (.getfield 15, 3) := by decide +kernel
theorem dX0_exchange_4 : decode cX0_exchange 4 = .ok (.iload_n 1, 1) := by decide +kernel
theorem dX0_exchange_5 : decode cX0_exchange 5 = .ok (.iaload, 1) := by decide +kernel
theorem dX0_exchange_6 : decode cX0_exchange 6 = .ok (.istore_n 3, 1) := by decide +kernel
theorem dX0_exchange_7 : decode cX0_exchange 7 = .ok (.aload_n 0, 1) := by decide +kernel
theorem dX0_exchange_8 : decode cX0_exchange 8 = .ok (.getfield 15, 3) := by decide +kernel
theorem dX0_exchange_11 : decode cX0_exchange 11 = .ok (.iload_n 1, 1) := by decide +kernel
theorem dX0_exchange_12 : decode cX0_exchange 12 = .ok (.aload_n 0, 1) := by decide +kernel
theorem dX0_exchange_13 : decode cX0_exchange 13 = .ok (.getfield 15, 3) := by decide +kernel
theorem dX0_exchange_16 : decode cX0_exchange 16 = .ok (.iload_n 2, 1) := by decide +kernel
theorem dX0_exchange_17 : decode cX0_exchange 17 = .ok (.iaload, 1) := by decide +kernel
theorem dX0_exchange_18 : decode cX0_exchange 18 = .ok (.iastore, 1) := by decide +kernel
theorem dX0_exchange_19 : decode cX0_exchange 19 = .ok (.aload_n 0, 1) := by decide +kernel
theorem dX0_exchange_20 : decode cX0_exchange 20 = .ok (.getfield 15, 3) := by decide +kernel
theorem dX0_exchange_23 : decode cX0_exchange 23 = .ok (.iload_n 2, 1) := by decide +kernel
theorem dX0_exchange_24 : decode cX0_exchange 24 = .ok (.iload_n 3, 1) := by decide +kernel
theorem dX0_exchange_25 : decode cX0_exchange 25 = .ok (.iastore, 1) := by decide +kernel
theorem dX0_exchange_26 : decode cX0_exchange 26 = .ok (.return_, 1) := by decide +kernel
theorem dX1_init_0 : decode cX1_init 0 = .ok (.aload_n 0, 1) := by decide +kernel
theorem dX1_init_1 : decode cX1_init 1 = .ok (.invokespecial 3, 3) := by decide +kernel
theorem dX1_init_4 : decode cX1_init 4 = .ok (.aload_n 0, 1) := by decide +kernel
theorem dX1_init_5 : decode cX1_init 5 = .ok (.iconst 0, 1) := by decide +kernel
theorem dX1_init_6 : decode cX1_init 6 = .ok (.putfield 9, 3) := by decide +kernel
theorem dX1_init_9 : decode cX1_init 9 = .ok (.aload_n 0, 1) := by decide +kernel
theorem dX1_init_10 : decode cX1_init 10 = .ok (.bipush 12, 2) := by decide +kernel
theorem dX1_init_12 : decode cX1_init 12 = .ok (.newarray .int, 2) := by decide +kernel
theorem dX1_init_14 : decode cX1_init 14 = .ok (.putfield 15, 3) := by decide +kernel
theorem dX1_init_17 : decode cX1_init 17 = .ok (.aload_n 0, 1) := by decide +kernel
theorem dX1_init_18 : decode cX1_init 18 = .ok (.bipush 12, 2) := by decide +kernel
theorem dX1_init_20 : decode cX1_init 20 = .ok (.newarray .int, 2) := by decide +kernel
theorem dX1_init_22 : decode cX1_init 22 = .ok (.putfield 19, 3) := by decide +kernel
theorem dX1_init_25 : decode cX1_init 25 = .ok (.aload_n 0, 1) := by decide +kernel
theorem dX1_init_26 : decode cX1_init 26 = .ok (.bipush 12, 2) := by decide +kernel
theorem dX1_init_28 : decode cX1_init 28 = .ok (.newarray .int, 2) := by decide +kernel
theorem dX1_init_30 : decode cX1_init 30 = .ok (.putfield 22, 3) := by decide +kernel
theorem dX1_init_33 : decode cX1_init 33 = .ok (.aload_n 0, 1) := by decide +kernel
theorem dX1_init_34 : decode cX1_init 34 = .ok (.bipush 12, 2) := by decide +kernel
theorem dX1_init_36 : decode cX1_init 36 = .ok (.newarray .int, 2) := by decide +kernel
theorem dX1_init_38 : decode cX1_init 38 = .ok (.putfield 25, 3) := by decide +kernel
theorem dX1_init_41 : decode cX1_init 41 = .ok (.aload_n 0, 1) := by decide +kernel
theorem dX1_init_42 : decode cX1_init 42 = .ok (.bipush 6, 2) := by decide +kernel
theorem dX1_init_44 : decode cX1_init 44 = .ok (.newarray .int, 2) := by decide +kernel
theorem dX1_init_46 : decode cX1_init 46 = .ok (.putfield 28, 3) := by decide +kernel
theorem dX1_init_49 : decode cX1_init 49 = .ok (.aload_n 0, 1) := by decide +kernel
theorem dX1_init_50 : decode cX1_init 50 = .ok (.getfield 28, 3) := by decide +kernel
theorem dX1_init_53 : decode cX1_init 53 = .ok (.bipush (-9), 2) := by decide +kernel
theorem dX1_init_55 : decode cX1_init 55 = .ok (.invokestatic 31, 3) := by decide +kernel
theorem dX1_init_58 : decode cX1_init 58 = .ok (.return_, 1) := by decide +kernel
theorem dX1_forget_0 : decode cX1_forget 0 = .ok (.aload_n 0, 1) := by decide +kernel
theorem dX1_forget_1 : decode cX1_forget 1 = .ok (.iconst 0, 1) := by decide +kernel
theorem dX1_forget_2 : decode cX1_forget 2 = .ok (.putfield 9, 3) := by decide +kernel
theorem dX1_forget_5 : decode cX1_forget 5 = .ok (.aload_n 0, 1) := by decide +kernel
theorem dX1_forget_6 : decode cX1_forget 6 = .ok (.getfield 28, 3) := by decide +kernel
theorem dX1_forget_9 : decode cX1_forget 9 = .ok (.bipush (-9), 2) := by decide +kernel
theorem dX1_forget_11 : decode cX1_forget 11 = .ok (.invokestatic 31, 3) := by decide +kernel
theorem dX1_forget_14 : decode cX1_forget 14 = .ok (.return_, 1) := by decide +kernel
theorem dX1_become_0 : decode cX1_become 0 = .ok (.aload_n 0, 1) := by decide +kernel
theorem dX1_become_1 : decode cX1_become 1 = .ok (.aload_n 1, 1) := by decide +kernel
theorem dX1_become_2 : decode cX1_become 2 = .ok (.getfield 9, 3) := by decide +kernel
theorem dX1_become_5 : decode cX1_become 5 = .ok (.putfield 9, 3) := by decide +kernel
theorem dX1_become_8 : decode cX1_become 8 = .ok (.aload_n 1, 1) := by decide +kernel
theorem dX1_become_9 : decode cX1_become 9 = .ok (.getfield 15, 3) := by decide +kernel
theorem dX1_become_12 : decode cX1_become 12 = .ok (.iconst 0, 1) := by decide +kernel
theorem dX1_become_13 : decode cX1_become 13 = .ok (.aload_n 0, 1) := by decide +kernel
theorem dX1_become_14 : decode cX1_become 14 = .ok (.getfield 15, 3) := by decide +kernel
theorem dX1_become_17 : decode cX1_become 17 = .ok (.iconst 0, 1) := by decide +kernel
theorem dX1_become_18 : decode cX1_become 18 = .ok (.bipush 12, 2) := by decide +kernel
theorem dX1_become_20 : decode cX1_become 20 = .ok (.invokestatic 37, 3) := by decide +kernel
theorem dX1_become_23 : decode cX1_become 23 = .ok (.aload_n 1, 1) := by decide +kernel
theorem dX1_become_24 : decode cX1_become 24 = .ok (.getfield 19, 3) := by decide +kernel
theorem dX1_become_27 : decode cX1_become 27 = .ok (.iconst 0, 1) := by decide +kernel
theorem dX1_become_28 : decode cX1_become 28 = .ok (.aload_n 0, 1) := by decide +kernel
theorem dX1_become_29 : decode cX1_become 29 = .ok (.getfield 19, 3) := by decide +kernel
theorem dX1_become_32 : decode cX1_become 32 = .ok (.iconst 0, 1) := by decide +kernel
theorem dX1_become_33 : decode cX1_become 33 = .ok (.bipush 12, 2) := by decide +kernel
theorem dX1_become_35 : decode cX1_become 35 = .ok (.invokestatic 37, 3) := by decide +kernel
theorem dX1_become_38 : decode cX1_become 38 = .ok (.aload_n 1, 1) := by decide +kernel
theorem dX1_become_39 : decode cX1_become 39 = .ok (.getfield 22, 3) := by decide +kernel
theorem dX1_become_42 : decode cX1_become 42 = .ok (.iconst 0, 1) := by decide +kernel
theorem dX1_become_43 : decode cX1_become 43 = .ok (.aload_n 0, 1) := by decide +kernel
theorem dX1_become_44 : decode cX1_become 44 = .ok (.getfield 22, 3) := by decide +kernel
theorem dX1_become_47 : decode cX1_become 47 = .ok (.iconst 0, 1) := by decide +kernel
theorem dX1_become_48 : decode cX1_become 48 = .ok (.bipush 12, 2) := by decide +kernel
theorem dX1_become_50 : decode cX1_become 50 = .ok (.invokestatic 37, 3) := by decide +kernel
theorem dX1_become_53 : decode cX1_become 53 = .ok (.aload_n 1, 1) := by decide +kernel
theorem dX1_become_54 : decode cX1_become 54 = .ok (.getfield 25, 3) := by decide +kernel
theorem dX1_become_57 : decode cX1_become 57 = .ok (.iconst 0, 1) := by decide +kernel
theorem dX1_become_58 : decode cX1_become 58 = .ok (.aload_n 0, 1) := by decide +kernel
theorem dX1_become_59 : decode cX1_become 59 = .ok (.getfield 25, 3) := by decide +kernel
theorem dX1_become_62 : decode cX1_become 62 = .ok (.iconst 0, 1) := by decide +kernel
theorem dX1_become_63 : decode cX1_become 63 = .ok (.bipush 12, 2) := by decide +kernel
theorem dX1_become_65 : decode cX1_become 65 = .ok (.invokestatic 37, 3) := by decide +kernel
theorem dX1_become_68 : decode cX1_become 68 = .ok (.aload_n 1, 1) := by decide +kernel
theorem dX1_become_69 : decode cX1_become 69 = .ok (.getfield 28, 3) := by decide +kernel
theorem dX1_become_72 : decode cX1_become 72 = .ok (.iconst 0, 1) := by decide +kernel
theorem dX1_become_73 : decode cX1_become 73 = .ok (.aload_n 0, 1) := by decide +kernel
theorem dX1_become_74 : decode cX1_become 74 = .ok (.getfield 28, 3) := by decide +kernel
theorem dX1_become_77 : decode cX1_become 77 = .ok (.iconst 0, 1) := by decide +kernel
theorem dX1_become_78 : decode cX1_become 78 = .ok (.bipush 6, 2) := by decide +kernel
theorem dX1_become_80 : decode cX1_become 80 = .ok (.invokestatic 37, 3) := by decide +kernel
theorem dX1_become_83 : decode cX1_become 83 = .ok (.return_, 1) := by decide +kernel
theorem dX1_add_0 : decode cX1_add 0 = .ok (.aload_n 0, 1) := by decide +kernel
theorem dX1_add_1 : decode cX1_add 1 = .ok (.getfield 15, 3) := by decide +kernel
theorem dX1_add_4 : decode cX1_add 4 = .ok (.aload_n 0, 1) := by decide +kernel
theorem dX1_add_5 : decode cX1_add 5 = .ok (.getfield 9, 3) := by decide +kernel
theorem dX1_add_8 : decode cX1_add 8 = .ok (.iload_n 1, 1) := by decide +kernel
theorem dX1_add_9 : decode cX1_add 9 = .ok (.iastore, 1) := by decide +kernel
theorem dX1_add_10 : decode cX1_add 10 = .ok (.aload_n 0, 1) := by decide +kernel
theorem dX1_add_11 : decode cX1_add 11 = .ok (.getfield 19, 3) := by decide +kernel
theorem dX1_add_14 : decode cX1_add 14 = .ok (.aload_n 0, 1) := by decide +kernel
theorem dX1_add_15 : decode cX1_add 15 = .ok (.getfield 9, 3) := by decide +kernel
theorem dX1_add_18 : decode cX1_add 18 = .ok (.iload_n 2, 1) := by decide +kernel
theorem dX1_add_19 : decode cX1_add 19 = .ok (.iastore, 1) := by decide +kernel
theorem dX1_add_20 : decode cX1_add 20 = .ok (.aload_n 0, 1) := by decide +kernel
theorem dX1_add_21 : decode cX1_add 21 = .ok (.getfield 22, 3) := by decide +kernel
theorem dX1_add_24 : decode cX1_add 24 = .ok (.aload_n 0, 1) := by decide +kernel
theorem dX1_add_25 : decode cX1_add 25 = .ok (.getfield 9, 3) := by decide +kernel
theorem dX1_add_28 : decode cX1_add 28 = .ok (.iload_n 3, 1) := by decide +kernel
theorem dX1_add_29 : decode cX1_add 29 = .ok (.iastore, 1) := by decide +kernel
theorem dX1_add_30 : decode cX1_add 30 = .ok (.aload_n 0, 1) := by decide +kernel
theorem dX1_add_31 : decode cX1_add 31 = .ok (.getfield 25, 3) := by decide +kernel
theorem dX1_add_34 : decode cX1_add 34 = .ok (.aload_n 0, 1) := by decide +kernel
theorem dX1_add_35 : decode cX1_add 35 = .ok (.getfield 9, 3) := by decide +kernel
theorem dX1_add_38 : decode cX1_add 38 = .ok (.iload 4, 2) := by decide +kernel
theorem dX1_add_40 : decode cX1_add 40 = .ok (.iastore, 1) := by decide +kernel
theorem dX1_add_41 : decode cX1_add 41 = .ok (.aload_n 0, 1) := by decide +kernel
theorem dX1_add_42 : decode cX1_add 42 = .ok (.dup, 1) := by decide +kernel
theorem dX1_add_43 : decode cX1_add 43 = .ok (.getfield 9, 3) := by decide +kernel
theorem dX1_add_46 : decode cX1_add 46 = .ok (.iconst 1, 1) := by decide +kernel
theorem dX1_add_47 : decode cX1_add 47 = .ok (.iadd, 1) := by decide +kernel
theorem dX1_add_48 : decode cX1_add 48 = .ok (.putfield 9, 3) := by decide +kernel
theorem dX1_add_51 : decode cX1_add 51 = .ok (.return_, 1) := by decide +kernel
theorem dX1_holdsOf_0 : decode cX1_holdsOf 0 = .ok (.iconst 0, 1) := by decide +kernel
theorem dX1_holdsOf_1 : decode cX1_holdsOf 1 = .ok (.istore_n 2, 1) := by decide +kernel
theorem dX1_holdsOf_2 : decode cX1_holdsOf 2 = .ok (.iconst 0, 1) := by decide +kernel
theorem dX1_holdsOf_3 : decode cX1_holdsOf 3 = .ok (.istore_n 3, 1) := by decide +kernel
theorem dX1_holdsOf_4 : decode cX1_holdsOf 4 = .ok (.iload_n 3, 1) := by decide +kernel
theorem dX1_holdsOf_5 : decode cX1_holdsOf 5 = .ok (.aload_n 0, 1) := by decide +kernel
theorem dX1_holdsOf_6 : decode cX1_holdsOf 6 = .ok (.getfield 9, 3) := by decide +kernel
theorem dX1_holdsOf_9 : decode cX1_holdsOf 9 = .ok (.if_icmp .ge 22, 3) := by decide +kernel
theorem dX1_holdsOf_12 : decode cX1_holdsOf 12 = .ok (.aload_n 0, 1) := by decide +kernel
theorem dX1_holdsOf_13 : decode cX1_holdsOf 13 = .ok (.getfield 19, 3) := by decide +kernel
theorem dX1_holdsOf_16 : decode cX1_holdsOf 16 = .ok (.iload_n 3, 1) := by decide +kernel
theorem dX1_holdsOf_17 : decode cX1_holdsOf 17 = .ok (.iaload, 1) := by decide +kernel
theorem dX1_holdsOf_18 : decode cX1_holdsOf 18 = .ok (.iload_n 1, 1) := by decide +kernel
theorem dX1_holdsOf_19 : decode cX1_holdsOf 19 = .ok (.if_icmp .ne 6, 3) := by decide +kernel
theorem dX1_holdsOf_22 : decode cX1_holdsOf 22 = .ok (.iinc 2 1, 3) := by decide +kernel
theorem dX1_holdsOf_25 : decode cX1_holdsOf 25 = .ok (.iinc 3 1, 3) := by decide +kernel
theorem dX1_holdsOf_28 : decode cX1_holdsOf 28 = .ok (.goto (-24), 3) := by decide +kernel
theorem dX1_holdsOf_31 : decode cX1_holdsOf 31 = .ok (.iload_n 2, 1) := by decide +kernel
theorem dX1_holdsOf_32 : decode cX1_holdsOf 32 = .ok (.ireturn, 1) := by decide +kernel
theorem dX1_sightsTold_0 : decode cX1_sightsTold 0 = .ok (.iconst 0, 1) := by decide +kernel
theorem dX1_sightsTold_1 : decode cX1_sightsTold 1 = .ok (.istore_n 1, 1) := by decide +kernel
theorem dX1_sightsTold_2 : decode cX1_sightsTold 2 = .ok (.iconst 0, 1) := by decide +kernel
theorem dX1_sightsTold_3 : decode cX1_sightsTold 3 = .ok (.istore_n 2, 1) := by decide +kernel
theorem dX1_sightsTold_4 : decode cX1_sightsTold 4 = .ok (.iload_n 2, 1) := by decide +kernel
theorem dX1_sightsTold_5 : decode cX1_sightsTold 5 = .ok (.bipush 6, 2) := by decide +kernel
theorem dX1_sightsTold_7 : decode cX1_sightsTold 7 = .ok (.if_icmp .ge 23, 3) := by decide +kernel
theorem dX1_sightsTold_10 : decode cX1_sightsTold 10 = .ok (.aload_n 0, 1) := by decide +kernel
theorem dX1_sightsTold_11 : decode cX1_sightsTold 11 = .ok (.getfield 28, 3) := by decide +kernel
theorem dX1_sightsTold_14 : decode cX1_sightsTold 14 = .ok (.iload_n 2, 1) := by decide +kernel
theorem dX1_sightsTold_15 : decode cX1_sightsTold 15 = .ok (.iaload, 1) := by decide +kernel
theorem dX1_sightsTold_16 : decode cX1_sightsTold 16 = .ok (.bipush (-9), 2) := by decide +kernel
theorem dX1_sightsTold_18 : decode cX1_sightsTold 18 = .ok (.if_icmp .eq 6, 3) := by decide +kernel
theorem dX1_sightsTold_21 : decode cX1_sightsTold 21 = .ok (.iinc 1 1, 3) := by decide +kernel
theorem dX1_sightsTold_24 : decode cX1_sightsTold 24 = .ok (.iinc 2 1, 3) := by decide +kernel
theorem dX1_sightsTold_27 : decode cX1_sightsTold 27 = .ok (.goto (-23), 3) := by decide +kernel
theorem dX1_sightsTold_30 : decode cX1_sightsTold 30 = .ok (.iload_n 1, 1) := by decide +kernel
theorem dX1_sightsTold_31 : decode cX1_sightsTold 31 = .ok (.ireturn, 1) := by decide +kernel
theorem dX2_init_0 : decode cX2_init 0 = .ok (.aload_n 0, 1) := by decide +kernel
theorem dX2_init_1 : decode cX2_init 1 = .ok (.invokespecial 3, 3) := by decide +kernel
theorem dX2_init_4 : decode cX2_init 4 = .ok (.aload_n 0, 1) := by decide +kernel
theorem dX2_init_5 : decode cX2_init 5 = .ok (.iconst 0, 1) := by decide +kernel
theorem dX2_init_6 : decode cX2_init 6 = .ok (.putfield 9, 3) := by decide +kernel
theorem dX2_init_9 : decode cX2_init 9 = .ok (.aload_n 0, 1) := by decide +kernel
theorem dX2_init_10 : decode cX2_init 10 = .ok (.iconst 0, 1) := by decide +kernel
theorem dX2_init_11 : decode cX2_init 11 = .ok (.putfield 15, 3) := by decide +kernel
theorem dX2_init_14 : decode cX2_init 14 = .ok (.aload_n 0, 1) := by decide +kernel
theorem dX2_init_15 : decode cX2_init 15 = .ok (.iconst 0, 1) := by decide +kernel
theorem dX2_init_16 : decode cX2_init 16 = .ok (.putfield 18, 3) := by decide +kernel
theorem dX2_init_19 : decode cX2_init 19 = .ok (.aload_n 0, 1) := by decide +kernel
theorem dX2_init_20 : decode cX2_init 20 = .ok (.bipush 6, 2) := by decide +kernel
theorem dX2_init_22 : decode cX2_init 22 = .ok (.newarray .int, 2) := by decide +kernel
theorem dX2_init_24 : decode cX2_init 24 = .ok (.putfield 21, 3) := by decide +kernel
theorem dX2_init_27 : decode cX2_init 27 = .ok (.aload_n 0, 1) := by decide +kernel
theorem dX2_init_28 : decode cX2_init 28 = .ok (.iconst 3, 1) := by decide +kernel
theorem dX2_init_29 : decode cX2_init 29 = .ok (.newarray .int, 2) := by decide +kernel
theorem dX2_init_31 : decode cX2_init 31 = .ok (.putfield 25, 3) := by decide +kernel
theorem dX2_init_34 : decode cX2_init 34 = .ok (.aload_n 0, 1) := by decide +kernel
theorem dX2_init_35 : decode cX2_init 35 = .ok (.bipush 10, 2) := by decide +kernel
theorem dX2_init_37 : decode cX2_init 37 = .ok (.newarray .int, 2) := by decide +kernel
theorem dX2_init_39 : decode cX2_init 39 = .ok (.putfield 28, 3) := by decide +kernel
theorem dX2_init_42 : decode cX2_init 42 = .ok (.aload_n 0, 1) := by decide +kernel
theorem dX2_init_43 : decode cX2_init 43 = .ok (.bipush 8, 2) := by decide +kernel
theorem dX2_init_45 : decode cX2_init 45 = .ok (.newarray .int, 2) := by decide +kernel
theorem dX2_init_47 : decode cX2_init 47 = .ok (.putfield 31, 3) := by decide +kernel
theorem dX2_init_50 : decode cX2_init 50 = .ok (.aload_n 0, 1) := by decide +kernel
theorem dX2_init_51 : decode cX2_init 51 = .ok (.bipush 8, 2) := by decide +kernel
theorem dX2_init_53 : decode cX2_init 53 = .ok (.newarray .int, 2) := by decide +kernel
theorem dX2_init_55 : decode cX2_init 55 = .ok (.putfield 34, 3) := by decide +kernel
theorem dX2_init_58 : decode cX2_init 58 = .ok (.aload_n 0, 1) := by decide +kernel
theorem dX2_init_59 : decode cX2_init 59 = .ok (.bipush 8, 2) := by decide +kernel
theorem dX2_init_61 : decode cX2_init 61 = .ok (.newarray .int, 2) := by decide +kernel
theorem dX2_init_63 : decode cX2_init 63 = .ok (.putfield 37, 3) := by decide +kernel
theorem dX2_init_66 : decode cX2_init 66 = .ok (.aload_n 0, 1) := by decide +kernel
theorem dX2_init_67 : decode cX2_init 67 = .ok (.getfield 28, 3) := by decide +kernel
theorem dX2_init_70 : decode cX2_init 70 = .ok (.iconst 1, 1) := by decide +kernel
theorem dX2_init_71 : decode cX2_init 71 = .ok (.invokestatic 40, 3) := by decide +kernel
theorem dX2_init_74 : decode cX2_init 74 = .ok (.return_, 1) := by decide +kernel
theorem dX2_empty_0 : decode cX2_empty 0 = .ok (.aload_n 0, 1) := by decide +kernel
theorem dX2_empty_1 : decode cX2_empty 1 = .ok (.iconst 0, 1) := by decide +kernel
theorem dX2_empty_2 : decode cX2_empty 2 = .ok (.putfield 9, 3) := by decide +kernel
theorem dX2_empty_5 : decode cX2_empty 5 = .ok (.aload_n 0, 1) := by decide +kernel
theorem dX2_empty_6 : decode cX2_empty 6 = .ok (.iconst 0, 1) := by decide +kernel
theorem dX2_empty_7 : decode cX2_empty 7 = .ok (.putfield 15, 3) := by decide +kernel
theorem dX2_empty_10 : decode cX2_empty 10 = .ok (.aload_n 0, 1) := by decide +kernel
theorem dX2_empty_11 : decode cX2_empty 11 = .ok (.iconst 0, 1) := by decide +kernel
theorem dX2_empty_12 : decode cX2_empty 12 = .ok (.putfield 18, 3) := by decide +kernel
theorem dX2_empty_15 : decode cX2_empty 15 = .ok (.aload_n 0, 1) := by decide +kernel
theorem dX2_empty_16 : decode cX2_empty 16 = .ok (.getfield 28, 3) := by decide +kernel
theorem dX2_empty_19 : decode cX2_empty 19 = .ok (.iconst 1, 1) := by decide +kernel
theorem dX2_empty_20 : decode cX2_empty 20 = .ok (.invokestatic 40, 3) := by decide +kernel
theorem dX2_empty_23 : decode cX2_empty 23 = .ok (.return_, 1) := by decide +kernel
theorem dX2_become_0 : decode cX2_become 0 = .ok (.aload_n 0, 1) := by decide +kernel
theorem dX2_become_1 : decode cX2_become 1 = .ok (.aload_n 1, 1) := by decide +kernel
theorem dX2_become_2 : decode cX2_become 2 = .ok (.getfield 9, 3) := by decide +kernel
theorem dX2_become_5 : decode cX2_become 5 = .ok (.putfield 9, 3) := by decide +kernel
theorem dX2_become_8 : decode cX2_become 8 = .ok (.aload_n 0, 1) := by decide +kernel
theorem dX2_become_9 : decode cX2_become 9 = .ok (.aload_n 1, 1) := by decide +kernel
theorem dX2_become_10 : decode cX2_become 10 = .ok (.getfield 15, 3) := by decide +kernel
theorem dX2_become_13 : decode cX2_become 13 = .ok (.putfield 15, 3) := by decide +kernel
theorem dX2_become_16 : decode cX2_become 16 = .ok (.aload_n 0, 1) := by decide +kernel
theorem dX2_become_17 : decode cX2_become 17 = .ok (.aload_n 1, 1) := by decide +kernel
theorem dX2_become_18 : decode cX2_become 18 = .ok (.getfield 18, 3) := by decide +kernel
theorem dX2_become_21 : decode cX2_become 21 = .ok (.putfield 18, 3) := by decide +kernel
theorem dX2_become_24 : decode cX2_become 24 = .ok (.aload_n 1, 1) := by decide +kernel
theorem dX2_become_25 : decode cX2_become 25 = .ok (.getfield 21, 3) := by decide +kernel
theorem dX2_become_28 : decode cX2_become 28 = .ok (.iconst 0, 1) := by decide +kernel
theorem dX2_become_29 : decode cX2_become 29 = .ok (.aload_n 0, 1) := by decide +kernel
theorem dX2_become_30 : decode cX2_become 30 = .ok (.getfield 21, 3) := by decide +kernel
theorem dX2_become_33 : decode cX2_become 33 = .ok (.iconst 0, 1) := by decide +kernel
theorem dX2_become_34 : decode cX2_become 34 = .ok (.bipush 6, 2) := by decide +kernel
theorem dX2_become_36 : decode cX2_become 36 = .ok (.invokestatic 46, 3) := by decide +kernel
theorem dX2_become_39 : decode cX2_become 39 = .ok (.aload_n 1, 1) := by decide +kernel
theorem dX2_become_40 : decode cX2_become 40 = .ok (.getfield 25, 3) := by decide +kernel
theorem dX2_become_43 : decode cX2_become 43 = .ok (.iconst 0, 1) := by decide +kernel
theorem dX2_become_44 : decode cX2_become 44 = .ok (.aload_n 0, 1) := by decide +kernel
theorem dX2_become_45 : decode cX2_become 45 = .ok (.getfield 25, 3) := by decide +kernel
theorem dX2_become_48 : decode cX2_become 48 = .ok (.iconst 0, 1) := by decide +kernel
theorem dX2_become_49 : decode cX2_become 49 = .ok (.iconst 3, 1) := by decide +kernel
theorem dX2_become_50 : decode cX2_become 50 = .ok (.invokestatic 46, 3) := by decide +kernel
theorem dX2_become_53 : decode cX2_become 53 = .ok (.aload_n 1, 1) := by decide +kernel
theorem dX2_become_54 : decode cX2_become 54 = .ok (.getfield 28, 3) := by decide +kernel
theorem dX2_become_57 : decode cX2_become 57 = .ok (.iconst 0, 1) := by decide +kernel
theorem dX2_become_58 : decode cX2_become 58 = .ok (.aload_n 0, 1) := by decide +kernel
theorem dX2_become_59 : decode cX2_become 59 = .ok (.getfield 28, 3) := by decide +kernel
theorem dX2_become_62 : decode cX2_become 62 = .ok (.iconst 0, 1) := by decide +kernel
theorem dX2_become_63 : decode cX2_become 63 = .ok (.bipush 10, 2) := by decide +kernel
theorem dX2_become_65 : decode cX2_become 65 = .ok (.invokestatic 46, 3) := by decide +kernel
theorem dX2_become_68 : decode cX2_become 68 = .ok (.aload_n 1, 1) := by decide +kernel
theorem dX2_become_69 : decode cX2_become 69 = .ok (.getfield 31, 3) := by decide +kernel
theorem dX2_become_72 : decode cX2_become 72 = .ok (.iconst 0, 1) := by decide +kernel
theorem dX2_become_73 : decode cX2_become 73 = .ok (.aload_n 0, 1) := by decide +kernel
theorem dX2_become_74 : decode cX2_become 74 = .ok (.getfield 31, 3) := by decide +kernel
theorem dX2_become_77 : decode cX2_become 77 = .ok (.iconst 0, 1) := by decide +kernel
theorem dX2_become_78 : decode cX2_become 78 = .ok (.bipush 8, 2) := by decide +kernel
theorem dX2_become_80 : decode cX2_become 80 = .ok (.invokestatic 46, 3) := by decide +kernel
theorem dX2_become_83 : decode cX2_become 83 = .ok (.aload_n 1, 1) := by decide +kernel
theorem dX2_become_84 : decode cX2_become 84 = .ok (.getfield 34, 3) := by decide +kernel
theorem dX2_become_87 : decode cX2_become 87 = .ok (.iconst 0, 1) := by decide +kernel
theorem dX2_become_88 : decode cX2_become 88 = .ok (.aload_n 0, 1) := by decide +kernel
theorem dX2_become_89 : decode cX2_become 89 = .ok (.getfield 34, 3) := by decide +kernel
theorem dX2_become_92 : decode cX2_become 92 = .ok (.iconst 0, 1) := by decide +kernel
theorem dX2_become_93 : decode cX2_become 93 = .ok (.bipush 8, 2) := by decide +kernel
theorem dX2_become_95 : decode cX2_become 95 = .ok (.invokestatic 46, 3) := by decide +kernel
theorem dX2_become_98 : decode cX2_become 98 = .ok (.aload_n 1, 1) := by decide +kernel
theorem dX2_become_99 : decode cX2_become 99 = .ok (.getfield 37, 3) := by decide +kernel
theorem dX2_become_102 : decode cX2_become 102 = .ok (.iconst 0, 1) := by decide +kernel
theorem dX2_become_103 : decode cX2_become 103 = .ok (.aload_n 0, 1) := by decide +kernel
theorem dX2_become_104 : decode cX2_become 104 = .ok (.getfield 37, 3) := by decide +kernel
theorem dX2_become_107 : decode cX2_become 107 = .ok (.iconst 0, 1) := by decide +kernel
theorem dX2_become_108 : decode cX2_become 108 = .ok (.bipush 8, 2) := by decide +kernel
theorem dX2_become_110 : decode cX2_become 110 = .ok (.invokestatic 46, 3) := by decide +kernel
theorem dX2_become_113 : decode cX2_become 113 = .ok (.return_, 1) := by decide +kernel
theorem dX2_hasBar_0 : decode cX2_hasBar 0 = .ok (.iload_n 1, 1) := by decide +kernel
theorem dX2_hasBar_1 : decode cX2_hasBar 1 = .ok (.iconst 0, 1) := by decide +kernel
theorem dX2_hasBar_2 : decode cX2_hasBar 2 = .ok (.aload_n 0, 1) := by decide +kernel
theorem dX2_hasBar_3 : decode cX2_hasBar 3 = .ok (.getfield 9, 3) := by decide +kernel
theorem dX2_hasBar_6 : decode cX2_hasBar 6 = .ok (.iconst 1, 1) := by decide +kernel
theorem dX2_hasBar_7 : decode cX2_hasBar 7 = .ok (.isub, 1) := by decide +kernel
theorem dX2_hasBar_8 : decode cX2_hasBar 8 = .ok (.invokestatic 52, 3) := by decide +kernel
theorem dX2_hasBar_11 : decode cX2_hasBar 11 = .ok (.ireturn, 1) := by decide +kernel
theorem dX2_hasPerson_0 : decode cX2_hasPerson 0 = .ok (.iload_n 1, 1) := by decide +kernel
theorem dX2_hasPerson_1 : decode cX2_hasPerson 1 = .ok (.iconst 0, 1) := by decide +kernel
theorem dX2_hasPerson_2 : decode cX2_hasPerson 2 = .ok (.aload_n 0, 1) := by decide +kernel
theorem dX2_hasPerson_3 : decode cX2_hasPerson 3 = .ok (.getfield 15, 3) := by decide +kernel
theorem dX2_hasPerson_6 : decode cX2_hasPerson 6 = .ok (.iconst 1, 1) := by decide +kernel
theorem dX2_hasPerson_7 : decode cX2_hasPerson 7 = .ok (.isub, 1) := by decide +kernel
theorem dX2_hasPerson_8 : decode cX2_hasPerson 8 = .ok (.invokestatic 52, 3) := by decide +kernel
theorem dX2_hasPerson_11 : decode cX2_hasPerson 11 = .ok (.ireturn, 1) := by decide +kernel
theorem dX2_addBar_0 : decode cX2_addBar 0 = .ok (.aload_n 0, 1) := by decide +kernel
theorem dX2_addBar_1 : decode cX2_addBar 1 = .ok (.getfield 21, 3) := by decide +kernel
theorem dX2_addBar_4 : decode cX2_addBar 4 = .ok (.aload_n 0, 1) := by decide +kernel
theorem dX2_addBar_5 : decode cX2_addBar 5 = .ok (.getfield 9, 3) := by decide +kernel
theorem dX2_addBar_8 : decode cX2_addBar 8 = .ok (.iload_n 1, 1) := by decide +kernel
theorem dX2_addBar_9 : decode cX2_addBar 9 = .ok (.iastore, 1) := by decide +kernel
theorem dX2_addBar_10 : decode cX2_addBar 10 = .ok (.aload_n 0, 1) := by decide +kernel
theorem dX2_addBar_11 : decode cX2_addBar 11 = .ok (.dup, 1) := by decide +kernel
theorem dX2_addBar_12 : decode cX2_addBar 12 = .ok (.getfield 9, 3) := by decide +kernel
theorem dX2_addBar_15 : decode cX2_addBar 15 = .ok (.iconst 1, 1) := by decide +kernel
theorem dX2_addBar_16 : decode cX2_addBar 16 = .ok (.iadd, 1) := by decide +kernel
theorem dX2_addBar_17 : decode cX2_addBar 17 = .ok (.putfield 9, 3) := by decide +kernel
theorem dX2_addBar_20 : decode cX2_addBar 20 = .ok (.return_, 1) := by decide +kernel
theorem dX2_addPerson_0 : decode cX2_addPerson 0 = .ok (.aload_n 0, 1) := by decide +kernel
theorem dX2_addPerson_1 : decode cX2_addPerson 1 = .ok (.getfield 25, 3) := by decide +kernel
theorem dX2_addPerson_4 : decode cX2_addPerson 4 = .ok (.aload_n 0, 1) := by decide +kernel
theorem dX2_addPerson_5 : decode cX2_addPerson 5 = .ok (.getfield 15, 3) := by decide +kernel
theorem dX2_addPerson_8 : decode cX2_addPerson 8 = .ok (.iload_n 1, 1) := by decide +kernel
theorem dX2_addPerson_9 : decode cX2_addPerson 9 = .ok (.iastore, 1) := by decide +kernel
theorem dX2_addPerson_10 : decode cX2_addPerson 10 = .ok (.aload_n 0, 1) := by decide +kernel
theorem dX2_addPerson_11 : decode cX2_addPerson 11 = .ok (.dup, 1) := by decide +kernel
theorem dX2_addPerson_12 : decode cX2_addPerson 12 = .ok (.getfield 15, 3) := by decide +kernel
theorem dX2_addPerson_15 : decode cX2_addPerson 15 = .ok (.iconst 1, 1) := by decide +kernel
theorem dX2_addPerson_16 : decode cX2_addPerson 16 = .ok (.iadd, 1) := by decide +kernel
theorem dX2_addPerson_17 : decode cX2_addPerson 17 = .ok (.putfield 15, 3) := by decide +kernel
theorem dX2_addPerson_20 : decode cX2_addPerson 20 = .ok (.return_, 1) := by decide +kernel
theorem dX2_addPaint_0 : decode cX2_addPaint 0 = .ok (.aload_n 0, 1) := by decide +kernel
theorem dX2_addPaint_1 : decode cX2_addPaint 1 = .ok (.getfield 31, 3) := by decide +kernel
theorem dX2_addPaint_4 : decode cX2_addPaint 4 = .ok (.aload_n 0, 1) := by decide +kernel
theorem dX2_addPaint_5 : decode cX2_addPaint 5 = .ok (.getfield 18, 3) := by decide +kernel
theorem dX2_addPaint_8 : decode cX2_addPaint 8 = .ok (.iload_n 1, 1) := by decide +kernel
theorem dX2_addPaint_9 : decode cX2_addPaint 9 = .ok (.iastore, 1) := by decide +kernel
theorem dX2_addPaint_10 : decode cX2_addPaint 10 = .ok (.aload_n 0, 1) := by decide +kernel
theorem dX2_addPaint_11 : decode cX2_addPaint 11 = .ok (.getfield 34, 3) := by decide +kernel
theorem dX2_addPaint_14 : decode cX2_addPaint 14 = .ok (.aload_n 0, 1) := by decide +kernel
theorem dX2_addPaint_15 : decode cX2_addPaint 15 = .ok (.getfield 18, 3) := by decide +kernel
theorem dX2_addPaint_18 : decode cX2_addPaint 18 = .ok (.iload_n 2, 1) := by decide +kernel
theorem dX2_addPaint_19 : decode cX2_addPaint 19 = .ok (.iastore, 1) := by decide +kernel
theorem dX2_addPaint_20 : decode cX2_addPaint 20 = .ok (.aload_n 0, 1) := by decide +kernel
theorem dX2_addPaint_21 : decode cX2_addPaint 21 = .ok (.getfield 37, 3) := by decide +kernel
theorem dX2_addPaint_24 : decode cX2_addPaint 24 = .ok (.aload_n 0, 1) := by decide +kernel
theorem dX2_addPaint_25 : decode cX2_addPaint 25 = .ok (.getfield 18, 3) := by decide +kernel
theorem dX2_addPaint_28 : decode cX2_addPaint 28 = .ok (.iload_n 3, 1) := by decide +kernel
theorem dX2_addPaint_29 : decode cX2_addPaint 29 = .ok (.iastore, 1) := by decide +kernel
theorem dX2_addPaint_30 : decode cX2_addPaint 30 = .ok (.aload_n 0, 1) := by decide +kernel
theorem dX2_addPaint_31 : decode cX2_addPaint 31 = .ok (.dup, 1) := by decide +kernel
theorem dX2_addPaint_32 : decode cX2_addPaint 32 = .ok (.getfield 18, 3) := by decide +kernel
theorem dX2_addPaint_35 : decode cX2_addPaint 35 = .ok (.iconst 1, 1) := by decide +kernel
theorem dX2_addPaint_36 : decode cX2_addPaint 36 = .ok (.iadd, 1) := by decide +kernel
theorem dX2_addPaint_37 : decode cX2_addPaint 37 = .ok (.putfield 18, 3) := by decide +kernel
theorem dX2_addPaint_40 : decode cX2_addPaint 40 = .ok (.return_, 1) := by decide +kernel
theorem dX2_isWet_0 : decode cX2_isWet 0 = .ok (.iconst 0, 1) := by decide +kernel
theorem dX2_isWet_1 : decode cX2_isWet 1 = .ok (.istore_n 3, 1) := by decide +kernel
theorem dX2_isWet_2 : decode cX2_isWet 2 = .ok (.iload_n 3, 1) := by decide +kernel
theorem dX2_isWet_3 : decode cX2_isWet 3 = .ok (.aload_n 0, 1) := by decide +kernel
theorem dX2_isWet_4 : decode cX2_isWet 4 = .ok (.getfield 18, 3) := by decide +kernel
theorem dX2_isWet_7 : decode cX2_isWet 7 = .ok (.if_icmp .ge 31, 3) := by decide +kernel
theorem dX2_isWet_10 : decode cX2_isWet 10 = .ok (.aload_n 0, 1) := by decide +kernel
theorem dX2_isWet_11 : decode cX2_isWet 11 = .ok (.getfield 31, 3) := by decide +kernel
theorem dX2_isWet_14 : decode cX2_isWet 14 = .ok (.iload_n 3, 1) := by decide +kernel
theorem dX2_isWet_15 : decode cX2_isWet 15 = .ok (.iaload, 1) := by decide +kernel
theorem dX2_isWet_16 : decode cX2_isWet 16 = .ok (.iload_n 1, 1) := by decide +kernel
theorem dX2_isWet_17 : decode cX2_isWet 17 = .ok (.if_icmp .ne 15, 3) := by decide +kernel
theorem dX2_isWet_20 : decode cX2_isWet 20 = .ok (.aload_n 0, 1) := by decide +kernel
theorem dX2_isWet_21 : decode cX2_isWet 21 = .ok (.getfield 34, 3) := by decide +kernel
theorem dX2_isWet_24 : decode cX2_isWet 24 = .ok (.iload_n 3, 1) := by decide +kernel
theorem dX2_isWet_25 : decode cX2_isWet 25 = .ok (.iaload, 1) := by decide +kernel
theorem dX2_isWet_26 : decode cX2_isWet 26 = .ok (.iload_n 2, 1) := by decide +kernel
theorem dX2_isWet_27 : decode cX2_isWet 27 = .ok (.if_icmp .ne 5, 3) := by decide +kernel
theorem dX2_isWet_30 : decode cX2_isWet 30 = .ok (.iconst 1, 1) := by decide +kernel
theorem dX2_isWet_31 : decode cX2_isWet 31 = .ok (.ireturn, 1) := by decide +kernel
theorem dX2_isWet_32 : decode cX2_isWet 32 = .ok (.iinc 3 1, 3) := by decide +kernel
theorem dX2_isWet_35 : decode cX2_isWet 35 = .ok (.goto (-33), 3) := by decide +kernel
theorem dX2_isWet_38 : decode cX2_isWet 38 = .ok (.iconst 0, 1) := by decide +kernel
theorem dX2_isWet_39 : decode cX2_isWet 39 = .ok (.ireturn, 1) := by decide +kernel
theorem dX2_isCovered_0 : decode cX2_isCovered 0 = .ok (.iconst 0, 1) := by decide +kernel
theorem dX2_isCovered_1 : decode cX2_isCovered 1 = .ok (.istore_n 3, 1) := by decide +kernel
theorem dX2_isCovered_2 : decode cX2_isCovered 2 = .ok (.iload_n 3, 1) := by decide +kernel
theorem dX2_isCovered_3 : decode cX2_isCovered 3 = .ok (.aload_n 0, 1) := by decide +kernel
theorem dX2_isCovered_4 : decode cX2_isCovered 4 = .ok (.getfield 18, 3) := by decide +kernel
theorem dX2_isCovered_7 : decode cX2_isCovered 7 = .ok (.if_icmp .ge 53, 3) := by decide +kernel
theorem dX2_isCovered_10 : decode cX2_isCovered 10 = .ok (.aload_n 0, 1) := by decide +kernel
theorem dX2_isCovered_11 : decode cX2_isCovered 11 = .ok (.getfield 34, 3) := by decide +kernel
theorem dX2_isCovered_14 : decode cX2_isCovered 14 = .ok (.iload_n 3, 1) := by decide +kernel
theorem dX2_isCovered_15 : decode cX2_isCovered 15 = .ok (.iaload, 1) := by decide +kernel
theorem dX2_isCovered_16 : decode cX2_isCovered 16 = .ok (.aload_n 0, 1) := by decide +kernel
theorem dX2_isCovered_17 : decode cX2_isCovered 17 = .ok (.getfield 37, 3) := by decide +kernel
theorem dX2_isCovered_20 : decode cX2_isCovered 20 = .ok (.iload_n 3, 1) := by decide +kernel
theorem dX2_isCovered_21 : decode cX2_isCovered 21 = .ok (.iaload, 1) := by decide +kernel
theorem dX2_isCovered_22 : decode cX2_isCovered 22 = .ok (.iadd, 1) := by decide +kernel
theorem dX2_isCovered_23 : decode cX2_isCovered 23 = .ok (.iconst 1, 1) := by decide +kernel
theorem dX2_isCovered_24 : decode cX2_isCovered 24 = .ok (.isub, 1) := by decide +kernel
theorem dX2_isCovered_25 : decode cX2_isCovered 25 = .ok (.istore 4, 2) := by decide +kernel
theorem dX2_isCovered_27 : decode cX2_isCovered 27 = .ok (.aload_n 0, 1) := by decide +kernel
theorem dX2_isCovered_28 : decode cX2_isCovered 28 = .ok (.getfield 31, 3) := by decide +kernel
theorem dX2_isCovered_31 : decode cX2_isCovered 31 = .ok (.iload_n 3, 1) := by decide +kernel
theorem dX2_isCovered_32 : decode cX2_isCovered 32 = .ok (.iaload, 1) := by decide +kernel
theorem dX2_isCovered_33 : decode cX2_isCovered 33 = .ok (.iload_n 1, 1) := by decide +kernel
theorem dX2_isCovered_34 : decode cX2_isCovered 34 = .ok (.if_icmp .ne 20, 3) := by decide +kernel
theorem dX2_isCovered_37 : decode cX2_isCovered 37 = .ok (.iload_n 2, 1) := by decide +kernel
theorem dX2_isCovered_38 : decode cX2_isCovered 38 = .ok (.aload_n 0, 1) := by decide +kernel
theorem dX2_isCovered_39 : decode cX2_isCovered 39 = .ok (.getfield 34, 3) := by decide +kernel
theorem dX2_isCovered_42 : decode cX2_isCovered 42 = .ok (.iload_n 3, 1) := by decide +kernel
theorem dX2_isCovered_43 : decode cX2_isCovered 43 = .ok (.iaload, 1) := by decide +kernel
theorem dX2_isCovered_44 : decode cX2_isCovered 44 = .ok (.iload 4, 2) := by decide +kernel
theorem dX2_isCovered_46 : decode cX2_isCovered 46 = .ok (.invokestatic 52, 3) := by decide +kernel
theorem dX2_isCovered_49 : decode cX2_isCovered 49 = .ok (.ifCond .eq 5, 3) := by decide +kernel
theorem dX2_isCovered_52 : decode cX2_isCovered 52 = .ok (.iconst 1, 1) := by decide +kernel
theorem dX2_isCovered_53 : decode cX2_isCovered 53 = .ok (.ireturn, 1) := by decide +kernel
theorem dX2_isCovered_54 : decode cX2_isCovered 54 = .ok (.iinc 3 1, 3) := by decide +kernel
theorem dX2_isCovered_57 : decode cX2_isCovered 57 = .ok (.goto (-55), 3) := by decide +kernel
theorem dX2_isCovered_60 : decode cX2_isCovered 60 = .ok (.iconst 0, 1) := by decide +kernel
theorem dX2_isCovered_61 : decode cX2_isCovered 61 = .ok (.ireturn, 1) := by decide +kernel
theorem dX2_coveredYears_0 : decode cX2_coveredYears 0 = .ok (.iconst 0, 1) := by decide +kernel
theorem dX2_coveredYears_1 : decode cX2_coveredYears 1 = .ok (.istore_n 2, 1) := by decide +kernel
theorem dX2_coveredYears_2 : decode cX2_coveredYears 2 = .ok (.iconst 0, 1) := by decide +kernel
theorem dX2_coveredYears_3 : decode cX2_coveredYears 3 = .ok (.istore_n 3, 1) := by decide +kernel
theorem dX2_coveredYears_4 : decode cX2_coveredYears 4 = .ok (.iload_n 3, 1) := by decide +kernel
theorem dX2_coveredYears_5 : decode cX2_coveredYears 5 = .ok (.bipush 10, 2) := by decide +kernel
theorem dX2_coveredYears_7 : decode cX2_coveredYears 7 = .ok (.if_icmp .ge 21, 3) := by decide +kernel
theorem dX2_coveredYears_10 : decode cX2_coveredYears 10 = .ok (.aload_n 0, 1) := by decide +kernel
theorem dX2_coveredYears_11 : decode cX2_coveredYears 11 = .ok (.iload_n 1, 1) := by decide +kernel
theorem dX2_coveredYears_12 : decode cX2_coveredYears 12 = .ok (.iload_n 3, 1) := by decide +kernel
theorem dX2_coveredYears_13 : decode cX2_coveredYears 13 = .ok (.invokevirtual 56, 3) := by decide +kernel
theorem dX2_coveredYears_16 : decode cX2_coveredYears 16 = .ok (.ifCond .eq 6, 3) := by decide +kernel
theorem dX2_coveredYears_19 : decode cX2_coveredYears 19 = .ok (.iinc 2 1, 3) := by decide +kernel
theorem dX2_coveredYears_22 : decode cX2_coveredYears 22 = .ok (.iinc 3 1, 3) := by decide +kernel
theorem dX2_coveredYears_25 : decode cX2_coveredYears 25 = .ok (.goto (-21), 3) := by decide +kernel
theorem dX2_coveredYears_28 : decode cX2_coveredYears 28 = .ok (.iload_n 2, 1) := by decide +kernel
theorem dX2_coveredYears_29 : decode cX2_coveredYears 29 = .ok (.ireturn, 1) := by decide +kernel
theorem dX2_weather_0 : decode cX2_weather 0 = .ok (.iconst 0, 1) := by decide +kernel
theorem dX2_weather_1 : decode cX2_weather 1 = .ok (.istore_n 3, 1) := by decide +kernel
theorem dX2_weather_2 : decode cX2_weather 2 = .ok (.iconst 0, 1) := by decide +kernel
theorem dX2_weather_3 : decode cX2_weather 3 = .ok (.istore 4, 2) := by decide +kernel
theorem dX2_weather_5 : decode cX2_weather 5 = .ok (.iload 4, 2) := by decide +kernel
theorem dX2_weather_7 : decode cX2_weather 7 = .ok (.iload_n 2, 1) := by decide +kernel
theorem dX2_weather_8 : decode cX2_weather 8 = .ok (.if_icmp .gt 43, 3) := by decide +kernel
theorem dX2_weather_11 : decode cX2_weather 11 = .ok (.iload 4, 2) := by decide +kernel
theorem dX2_weather_13 : decode cX2_weather 13 = .ok (.bipush 10, 2) := by decide +kernel
theorem dX2_weather_15 : decode cX2_weather 15 = .ok (.if_icmp .ge 36, 3) := by decide +kernel
theorem dX2_weather_18 : decode cX2_weather 18 = .ok (.aload_n 0, 1) := by decide +kernel
theorem dX2_weather_19 : decode cX2_weather 19 = .ok (.iload_n 1, 1) := by decide +kernel
theorem dX2_weather_20 : decode cX2_weather 20 = .ok (.iload 4, 2) := by decide +kernel
theorem dX2_weather_22 : decode cX2_weather 22 = .ok (.invokevirtual 56, 3) := by decide +kernel
theorem dX2_weather_25 : decode cX2_weather 25 = .ok (.ifCond .ne 20, 3) := by decide +kernel
theorem dX2_weather_28 : decode cX2_weather 28 = .ok (.iload_n 3, 1) := by decide +kernel
theorem dX2_weather_29 : decode cX2_weather 29 = .ok (.aload_n 0, 1) := by decide +kernel
theorem dX2_weather_30 : decode cX2_weather 30 = .ok (.getfield 28, 3) := by decide +kernel
theorem dX2_weather_33 : decode cX2_weather 33 = .ok (.iload 4, 2) := by decide +kernel
theorem dX2_weather_35 : decode cX2_weather 35 = .ok (.iaload, 1) := by decide +kernel
theorem dX2_weather_36 : decode cX2_weather 36 = .ok (.aload_n 0, 1) := by decide +kernel
theorem dX2_weather_37 : decode cX2_weather 37 = .ok (.getfield 21, 3) := by decide +kernel
theorem dX2_weather_40 : decode cX2_weather 40 = .ok (.iload_n 1, 1) := by decide +kernel
theorem dX2_weather_41 : decode cX2_weather 41 = .ok (.iaload, 1) := by decide +kernel
theorem dX2_weather_42 : decode cX2_weather 42 = .ok (.imul, 1) := by decide +kernel
theorem dX2_weather_43 : decode cX2_weather 43 = .ok (.iadd, 1) := by decide +kernel
theorem dX2_weather_44 : decode cX2_weather 44 = .ok (.istore_n 3, 1) := by decide +kernel
theorem dX2_weather_45 : decode cX2_weather 45 = .ok (.iinc 4 1, 3) := by decide +kernel
theorem dX2_weather_48 : decode cX2_weather 48 = .ok (.goto (-43), 3) := by decide +kernel
theorem dX2_weather_51 : decode cX2_weather 51 = .ok (.iload_n 3, 1) := by decide +kernel
theorem dX2_weather_52 : decode cX2_weather 52 = .ok (.ireturn, 1) := by decide +kernel
theorem dX2_dryYears_0 : decode cX2_dryYears 0 = .ok (.iconst 0, 1) := by decide +kernel
theorem dX2_dryYears_1 : decode cX2_dryYears 1 = .ok (.istore 4, 2) := by decide +kernel
theorem dX2_dryYears_3 : decode cX2_dryYears 3 = .ok (.iload_n 2, 1) := by decide +kernel
theorem dX2_dryYears_4 : decode cX2_dryYears 4 = .ok (.istore 5, 2) := by decide +kernel
theorem dX2_dryYears_6 : decode cX2_dryYears 6 = .ok (.iload 5, 2) := by decide +kernel
theorem dX2_dryYears_8 : decode cX2_dryYears 8 = .ok (.iload_n 3, 1) := by decide +kernel
theorem dX2_dryYears_9 : decode cX2_dryYears 9 = .ok (.if_icmp .gt 29, 3) := by decide +kernel
theorem dX2_dryYears_12 : decode cX2_dryYears 12 = .ok (.iload 5, 2) := by decide +kernel
theorem dX2_dryYears_14 : decode cX2_dryYears 14 = .ok (.bipush 10, 2) := by decide +kernel
theorem dX2_dryYears_16 : decode cX2_dryYears 16 = .ok (.if_icmp .ge 22, 3) := by decide +kernel
theorem dX2_dryYears_19 : decode cX2_dryYears 19 = .ok (.aload_n 0, 1) := by decide +kernel
theorem dX2_dryYears_20 : decode cX2_dryYears 20 = .ok (.iload_n 1, 1) := by decide +kernel
theorem dX2_dryYears_21 : decode cX2_dryYears 21 = .ok (.iload 5, 2) := by decide +kernel
theorem dX2_dryYears_23 : decode cX2_dryYears 23 = .ok (.invokevirtual 60, 3) := by decide +kernel
theorem dX2_dryYears_26 : decode cX2_dryYears 26 = .ok (.ifCond .ne 6, 3) := by decide +kernel
theorem dX2_dryYears_29 : decode cX2_dryYears 29 = .ok (.iinc 4 1, 3) := by decide +kernel
theorem dX2_dryYears_32 : decode cX2_dryYears 32 = .ok (.iinc 5 1, 3) := by decide +kernel
theorem dX2_dryYears_35 : decode cX2_dryYears 35 = .ok (.goto (-29), 3) := by decide +kernel
theorem dX2_dryYears_38 : decode cX2_dryYears 38 = .ok (.iload 4, 2) := by decide +kernel
theorem dX2_dryYears_40 : decode cX2_dryYears 40 = .ok (.ireturn, 1) := by decide +kernel
theorem dX3_init_0 : decode cX3_init 0 = .ok (.aload_n 0, 1) := by decide +kernel
theorem dX3_init_1 : decode cX3_init 1 = .ok (.invokespecial 3, 3) := by decide +kernel
theorem dX3_init_4 : decode cX3_init 4 = .ok (.aload_n 0, 1) := by decide +kernel
theorem dX3_init_5 : decode cX3_init 5 = .ok (.new 9, 3) := by decide +kernel
theorem dX3_init_8 : decode cX3_init 8 = .ok (.dup, 1) := by decide +kernel
theorem dX3_init_9 : decode cX3_init 9 = .ok (.invokespecial 11, 3) := by decide +kernel
theorem dX3_init_12 : decode cX3_init 12 = .ok (.putfield 12, 3) := by decide +kernel
theorem dX3_init_15 : decode cX3_init 15 = .ok (.aload_n 0, 1) := by decide +kernel
theorem dX3_init_16 : decode cX3_init 16 = .ok (.new 18, 3) := by decide +kernel
theorem dX3_init_19 : decode cX3_init 19 = .ok (.dup, 1) := by decide +kernel
theorem dX3_init_20 : decode cX3_init 20 = .ok (.invokespecial 20, 3) := by decide +kernel
theorem dX3_init_23 : decode cX3_init 23 = .ok (.putfield 21, 3) := by decide +kernel
theorem dX3_init_26 : decode cX3_init 26 = .ok (.aload_n 0, 1) := by decide +kernel
theorem dX3_init_27 : decode cX3_init 27 = .ok (.iconst 0, 1) := by decide +kernel
theorem dX3_init_28 : decode cX3_init 28 = .ok (.putfield 25, 3) := by decide +kernel
theorem dX3_init_31 : decode cX3_init 31 = .ok (.aload_n 0, 1) := by decide +kernel
theorem dX3_init_32 : decode cX3_init 32 = .ok (.iconst 0, 1) := by decide +kernel
theorem dX3_init_33 : decode cX3_init 33 = .ok (.putfield 29, 3) := by decide +kernel
theorem dX3_init_36 : decode cX3_init 36 = .ok (.aload_n 0, 1) := by decide +kernel
theorem dX3_init_37 : decode cX3_init 37 = .ok (.iconst 0, 1) := by decide +kernel
theorem dX3_init_38 : decode cX3_init 38 = .ok (.putfield 32, 3) := by decide +kernel
theorem dX3_init_41 : decode cX3_init 41 = .ok (.aload_n 0, 1) := by decide +kernel
theorem dX3_init_42 : decode cX3_init 42 = .ok (.iconst 0, 1) := by decide +kernel
theorem dX3_init_43 : decode cX3_init 43 = .ok (.putfield 35, 3) := by decide +kernel
theorem dX3_init_46 : decode cX3_init 46 = .ok (.return_, 1) := by decide +kernel
theorem dX3_read_0 : decode cX3_read 0 = .ok (.aload_n 0, 1) := by decide +kernel
theorem dX3_read_1 : decode cX3_read 1 = .ok (.getfield 21, 3) := by decide +kernel
theorem dX3_read_4 : decode cX3_read 4 = .ok (.invokevirtual 38, 3) := by decide +kernel
theorem dX3_read_7 : decode cX3_read 7 = .ok (.aload_n 0, 1) := by decide +kernel
theorem dX3_read_8 : decode cX3_read 8 = .ok (.iconst 0, 1) := by decide +kernel
theorem dX3_read_9 : decode cX3_read 9 = .ok (.putfield 32, 3) := by decide +kernel
theorem dX3_read_12 : decode cX3_read 12 = .ok (.aload_n 0, 1) := by decide +kernel
theorem dX3_read_13 : decode cX3_read 13 = .ok (.invokevirtual 41, 3) := by decide +kernel
theorem dX3_read_16 : decode cX3_read 16 = .ok (.iconst 0, 1) := by decide +kernel
theorem dX3_read_17 : decode cX3_read 17 = .ok (.istore_n 1, 1) := by decide +kernel
theorem dX3_read_18 : decode cX3_read 18 = .ok (.iconst 0, 1) := by decide +kernel
theorem dX3_read_19 : decode cX3_read 19 = .ok (.istore_n 2, 1) := by decide +kernel
theorem dX3_read_20 : decode cX3_read 20 = .ok (.iload_n 2, 1) := by decide +kernel
theorem dX3_read_21 : decode cX3_read 21 = .ok (.sipush 300, 3) := by decide +kernel
theorem dX3_read_24 : decode cX3_read 24 = .ok (.if_icmp .ge 34, 3) := by decide +kernel
theorem dX3_read_27 : decode cX3_read 27 = .ok (.aload_n 0, 1) := by decide +kernel
theorem dX3_read_28 : decode cX3_read 28 = .ok (.getfield 25, 3) := by decide +kernel
theorem dX3_read_31 : decode cX3_read 31 = .ok (.ifCond .eq 27, 3) := by decide +kernel
theorem dX3_read_34 : decode cX3_read 34 = .ok (.aload_n 0, 1) := by decide +kernel
theorem dX3_read_35 : decode cX3_read 35 = .ok (.invokevirtual 44, 3) := by decide +kernel
theorem dX3_read_38 : decode cX3_read 38 = .ok (.ifCond .ne 11, 3) := by decide +kernel
theorem dX3_read_41 : decode cX3_read 41 = .ok (.bipush (-10), 2) := by decide +kernel
theorem dX3_read_43 : decode cX3_read 43 = .ok (.aload_n 0, 1) := by decide +kernel
theorem dX3_read_44 : decode cX3_read 44 = .ok (.getfield 29, 3) := by decide +kernel
theorem dX3_read_47 : decode cX3_read 47 = .ok (.isub, 1) := by decide +kernel
theorem dX3_read_48 : decode cX3_read 48 = .ok (.ireturn, 1) := by decide +kernel
theorem dX3_read_49 : decode cX3_read 49 = .ok (.iinc 1 1, 3) := by decide +kernel
theorem dX3_read_52 : decode cX3_read 52 = .ok (.iinc 2 1, 3) := by decide +kernel
theorem dX3_read_55 : decode cX3_read 55 = .ok (.goto (-35), 3) := by decide +kernel
theorem dX3_read_58 : decode cX3_read 58 = .ok (.iload_n 1, 1) := by decide +kernel
theorem dX3_read_59 : decode cX3_read 59 = .ok (.ireturn, 1) := by decide +kernel
theorem dX3_readItem_0 : decode cX3_readItem 0 = .ok (.aload_n 0, 1) := by decide +kernel
theorem dX3_readItem_1 : decode cX3_readItem 1 = .ok (.getfield 25, 3) := by decide +kernel
theorem dX3_readItem_4 : decode cX3_readItem 4 = .ok (.iconst 1, 1) := by decide +kernel
theorem dX3_readItem_5 : decode cX3_readItem 5 = .ok (.if_icmp .eq 5, 3) := by decide +kernel
theorem dX3_readItem_8 : decode cX3_readItem 8 = .ok (.iconst 0, 1) := by decide +kernel
theorem dX3_readItem_9 : decode cX3_readItem 9 = .ok (.ireturn, 1) := by decide +kernel
theorem dX3_readItem_10 : decode cX3_readItem 10 = .ok (.aload_n 0, 1) := by decide +kernel
theorem dX3_readItem_11 : decode cX3_readItem 11 = .ok (.getfield 12, 3) := by decide +kernel
theorem dX3_readItem_14 : decode cX3_readItem 14 = .ok (.aload_n 0, 1) := by decide +kernel
theorem dX3_readItem_15 : decode cX3_readItem 15 = .ok (.getfield 29, 3) := by decide +kernel
theorem dX3_readItem_18 : decode cX3_readItem 18 = .ok (.aload_n 0, 1) := by decide +kernel
theorem dX3_readItem_19 : decode cX3_readItem 19 = .ok (.getfield 32, 3) := by decide +kernel
theorem dX3_readItem_22 : decode cX3_readItem 22 = .ok (.ldc 48, 2) := by decide +kernel
theorem dX3_readItem_24 : decode cX3_readItem 24 = .ok (.invokevirtual 50, 3) := by decide +kernel
theorem dX3_readItem_27 : decode cX3_readItem 27 = .ok (.ifCond .eq 8, 3) := by decide +kernel
theorem dX3_readItem_30 : decode cX3_readItem 30 = .ok (.aload_n 0, 1) := by decide +kernel
theorem dX3_readItem_31 : decode cX3_readItem 31 = .ok (.invokevirtual 54, 3) := by decide +kernel
theorem dX3_readItem_34 : decode cX3_readItem 34 = .ok (.ireturn, 1) := by decide +kernel
theorem dX3_readItem_35 : decode cX3_readItem 35 = .ok (.aload_n 0, 1) := by decide +kernel
theorem dX3_readItem_36 : decode cX3_readItem 36 = .ok (.getfield 12, 3) := by decide +kernel
theorem dX3_readItem_39 : decode cX3_readItem 39 = .ok (.aload_n 0, 1) := by decide +kernel
theorem dX3_readItem_40 : decode cX3_readItem 40 = .ok (.getfield 29, 3) := by decide +kernel
theorem dX3_readItem_43 : decode cX3_readItem 43 = .ok (.aload_n 0, 1) := by decide +kernel
theorem dX3_readItem_44 : decode cX3_readItem 44 = .ok (.getfield 32, 3) := by decide +kernel
theorem dX3_readItem_47 : decode cX3_readItem 47 = .ok (.ldc 57, 2) := by decide +kernel
theorem dX3_readItem_49 : decode cX3_readItem 49 = .ok (.invokevirtual 50, 3) := by decide +kernel
theorem dX3_readItem_52 : decode cX3_readItem 52 = .ok (.ifCond .eq 8, 3) := by decide +kernel
theorem dX3_readItem_55 : decode cX3_readItem 55 = .ok (.aload_n 0, 1) := by decide +kernel
theorem dX3_readItem_56 : decode cX3_readItem 56 = .ok (.invokevirtual 59, 3) := by decide +kernel
theorem dX3_readItem_59 : decode cX3_readItem 59 = .ok (.ireturn, 1) := by decide +kernel
theorem dX3_readItem_60 : decode cX3_readItem 60 = .ok (.aload_n 0, 1) := by decide +kernel
theorem dX3_readItem_61 : decode cX3_readItem 61 = .ok (.getfield 12, 3) := by decide +kernel
theorem dX3_readItem_64 : decode cX3_readItem 64 = .ok (.aload_n 0, 1) := by decide +kernel
theorem dX3_readItem_65 : decode cX3_readItem 65 = .ok (.getfield 29, 3) := by decide +kernel
theorem dX3_readItem_68 : decode cX3_readItem 68 = .ok (.aload_n 0, 1) := by decide +kernel
theorem dX3_readItem_69 : decode cX3_readItem 69 = .ok (.getfield 32, 3) := by decide +kernel
theorem dX3_readItem_72 : decode cX3_readItem 72 = .ok (.ldc 62, 2) := by decide +kernel
theorem dX3_readItem_74 : decode cX3_readItem 74 = .ok (.invokevirtual 50, 3) := by decide +kernel
theorem dX3_readItem_77 : decode cX3_readItem 77 = .ok (.ifCond .eq 8, 3) := by decide +kernel
theorem dX3_readItem_80 : decode cX3_readItem 80 = .ok (.aload_n 0, 1) := by decide +kernel
theorem dX3_readItem_81 : decode cX3_readItem 81 = .ok (.invokevirtual 64, 3) := by decide +kernel
theorem dX3_readItem_84 : decode cX3_readItem 84 = .ok (.ireturn, 1) := by decide +kernel
theorem dX3_readItem_85 : decode cX3_readItem 85 = .ok (.aload_n 0, 1) := by decide +kernel
theorem dX3_readItem_86 : decode cX3_readItem 86 = .ok (.getfield 12, 3) := by decide +kernel
theorem dX3_readItem_89 : decode cX3_readItem 89 = .ok (.aload_n 0, 1) := by decide +kernel
theorem dX3_readItem_90 : decode cX3_readItem 90 = .ok (.getfield 29, 3) := by decide +kernel
theorem dX3_readItem_93 : decode cX3_readItem 93 = .ok (.aload_n 0, 1) := by decide +kernel
theorem dX3_readItem_94 : decode cX3_readItem 94 = .ok (.getfield 32, 3) := by decide +kernel
theorem dX3_readItem_97 : decode cX3_readItem 97 = .ok (.ldc 67, 2) := by decide +kernel
theorem dX3_readItem_99 : decode cX3_readItem 99 = .ok (.invokevirtual 50, 3) := by decide +kernel
theorem dX3_readItem_102 : decode cX3_readItem 102 = .ok (.ifCond .eq 14, 3) := by decide +kernel
theorem dX3_readItem_105 : decode cX3_readItem 105 = .ok (.aload_n 0, 1) := by decide +kernel
theorem dX3_readItem_106 : decode cX3_readItem 106 = .ok (.invokevirtual 69, 3) := by decide +kernel
theorem dX3_readItem_109 : decode cX3_readItem 109 = .ok (.ifCond .eq 7, 3) := by decide +kernel
theorem dX3_readItem_112 : decode cX3_readItem 112 = .ok (.iconst 1, 1) := by decide +kernel
theorem dX3_readItem_113 : decode cX3_readItem 113 = .ok (.goto 4, 3) := by decide +kernel
theorem dX3_readItem_116 : decode cX3_readItem 116 = .ok (.iconst 0, 1) := by decide +kernel
theorem dX3_readItem_117 : decode cX3_readItem 117 = .ok (.ireturn, 1) := by decide +kernel
theorem dX3_readBar_0 : decode cX3_readBar 0 = .ok (.aload_n 0, 1) := by decide +kernel
theorem dX3_readBar_1 : decode cX3_readBar 1 = .ok (.getfield 21, 3) := by decide +kernel
theorem dX3_readBar_4 : decode cX3_readBar 4 = .ok (.getfield 72, 3) := by decide +kernel
theorem dX3_readBar_7 : decode cX3_readBar 7 = .ok (.bipush 6, 2) := by decide +kernel
theorem dX3_readBar_9 : decode cX3_readBar 9 = .ok (.if_icmp .lt 5, 3) := by decide +kernel
theorem dX3_readBar_12 : decode cX3_readBar 12 = .ok (.iconst 0, 1) := by decide +kernel
theorem dX3_readBar_13 : decode cX3_readBar 13 = .ok (.ireturn, 1) := by decide +kernel
theorem dX3_readBar_14 : decode cX3_readBar 14 = .ok (.aload_n 0, 1) := by decide +kernel
theorem dX3_readBar_15 : decode cX3_readBar 15 = .ok (.invokevirtual 41, 3) := by decide +kernel
theorem dX3_readBar_18 : decode cX3_readBar 18 = .ok (.aload_n 0, 1) := by decide +kernel
theorem dX3_readBar_19 : decode cX3_readBar 19 = .ok (.iconst 1, 1) := by decide +kernel
theorem dX3_readBar_20 : decode cX3_readBar 20 = .ok (.iconst 3, 1) := by decide +kernel
theorem dX3_readBar_21 : decode cX3_readBar 21 = .ok (.invokevirtual 75, 3) := by decide +kernel
theorem dX3_readBar_24 : decode cX3_readBar 24 = .ok (.istore_n 1, 1) := by decide +kernel
theorem dX3_readBar_25 : decode cX3_readBar 25 = .ok (.iload_n 1, 1) := by decide +kernel
theorem dX3_readBar_26 : decode cX3_readBar 26 = .ok (.ifCond .lt 10, 3) := by decide +kernel
theorem dX3_readBar_29 : decode cX3_readBar 29 = .ok (.aload_n 0, 1) := by decide +kernel
theorem dX3_readBar_30 : decode cX3_readBar 30 = .ok (.invokevirtual 79, 3) := by decide +kernel
theorem dX3_readBar_33 : decode cX3_readBar 33 = .ok (.ifCond .ne 5, 3) := by decide +kernel
theorem dX3_readBar_36 : decode cX3_readBar 36 = .ok (.iconst 0, 1) := by decide +kernel
theorem dX3_readBar_37 : decode cX3_readBar 37 = .ok (.ireturn, 1) := by decide +kernel
theorem dX3_readBar_38 : decode cX3_readBar 38 = .ok (.aload_n 0, 1) := by decide +kernel
theorem dX3_readBar_39 : decode cX3_readBar 39 = .ok (.getfield 21, 3) := by decide +kernel
theorem dX3_readBar_42 : decode cX3_readBar 42 = .ok (.iload_n 1, 1) := by decide +kernel
theorem dX3_readBar_43 : decode cX3_readBar 43 = .ok (.invokevirtual 82, 3) := by decide +kernel
theorem dX3_readBar_46 : decode cX3_readBar 46 = .ok (.iconst 1, 1) := by decide +kernel
theorem dX3_readBar_47 : decode cX3_readBar 47 = .ok (.ireturn, 1) := by decide +kernel
theorem dX3_readPerson_0 : decode cX3_readPerson 0 = .ok (.aload_n 0, 1) := by decide +kernel
theorem dX3_readPerson_1 : decode cX3_readPerson 1 = .ok (.getfield 21, 3) := by decide +kernel
theorem dX3_readPerson_4 : decode cX3_readPerson 4 = .ok (.getfield 86, 3) := by decide +kernel
theorem dX3_readPerson_7 : decode cX3_readPerson 7 = .ok (.iconst 3, 1) := by decide +kernel
theorem dX3_readPerson_8 : decode cX3_readPerson 8 = .ok (.if_icmp .lt 5, 3) := by decide +kernel
theorem dX3_readPerson_11 : decode cX3_readPerson 11 = .ok (.iconst 0, 1) := by decide +kernel
theorem dX3_readPerson_12 : decode cX3_readPerson 12 = .ok (.ireturn, 1) := by decide +kernel
theorem dX3_readPerson_13 : decode cX3_readPerson 13 = .ok (.aload_n 0, 1) := by decide +kernel
theorem dX3_readPerson_14 : decode cX3_readPerson 14 = .ok (.invokevirtual 41, 3) := by decide +kernel
theorem dX3_readPerson_17 : decode cX3_readPerson 17 = .ok (.aload_n 0, 1) := by decide +kernel
theorem dX3_readPerson_18 : decode cX3_readPerson 18 = .ok (.iconst 1, 1) := by decide +kernel
theorem dX3_readPerson_19 : decode cX3_readPerson 19 = .ok (.bipush 9, 2) := by decide +kernel
theorem dX3_readPerson_21 : decode cX3_readPerson 21 = .ok (.invokevirtual 75, 3) := by decide +kernel
theorem dX3_readPerson_24 : decode cX3_readPerson 24 = .ok (.istore_n 1, 1) := by decide +kernel
theorem dX3_readPerson_25 : decode cX3_readPerson 25 = .ok (.iload_n 1, 1) := by decide +kernel
theorem dX3_readPerson_26 : decode cX3_readPerson 26 = .ok (.ifCond .lt 10, 3) := by decide +kernel
theorem dX3_readPerson_29 : decode cX3_readPerson 29 = .ok (.aload_n 0, 1) := by decide +kernel
theorem dX3_readPerson_30 : decode cX3_readPerson 30 = .ok (.invokevirtual 79, 3) := by decide +kernel
theorem dX3_readPerson_33 : decode cX3_readPerson 33 = .ok (.ifCond .ne 5, 3) := by decide +kernel
theorem dX3_readPerson_36 : decode cX3_readPerson 36 = .ok (.iconst 0, 1) := by decide +kernel
theorem dX3_readPerson_37 : decode cX3_readPerson 37 = .ok (.ireturn, 1) := by decide +kernel
theorem dX3_readPerson_38 : decode cX3_readPerson 38 = .ok (.aload_n 0, 1) := by decide +kernel
theorem dX3_readPerson_39 : decode cX3_readPerson 39 = .ok (.getfield 21, 3) := by decide +kernel
theorem dX3_readPerson_42 : decode cX3_readPerson 42 = .ok (.iload_n 1, 1) := by decide +kernel
theorem dX3_readPerson_43 : decode cX3_readPerson 43 = .ok (.invokevirtual 89, 3) := by decide +kernel
theorem dX3_readPerson_46 : decode cX3_readPerson 46 = .ok (.iconst 1, 1) := by decide +kernel
theorem dX3_readPerson_47 : decode cX3_readPerson 47 = .ok (.ireturn, 1) := by decide +kernel
theorem dX3_readRain_0 : decode cX3_readRain 0 = .ok (.aload_n 0, 1) := by decide +kernel
theorem dX3_readRain_1 : decode cX3_readRain 1 = .ok (.invokevirtual 41, 3) := by decide +kernel
theorem dX3_readRain_4 : decode cX3_readRain 4 = .ok (.aload_n 0, 1) := by decide +kernel
theorem dX3_readRain_5 : decode cX3_readRain 5 = .ok (.iconst 0, 1) := by decide +kernel
theorem dX3_readRain_6 : decode cX3_readRain 6 = .ok (.bipush 9, 2) := by decide +kernel
theorem dX3_readRain_8 : decode cX3_readRain 8 = .ok (.invokevirtual 75, 3) := by decide +kernel
theorem dX3_readRain_11 : decode cX3_readRain 11 = .ok (.istore_n 1, 1) := by decide +kernel
theorem dX3_readRain_12 : decode cX3_readRain 12 = .ok (.iload_n 1, 1) := by decide +kernel
theorem dX3_readRain_13 : decode cX3_readRain 13 = .ok (.ifCond .ge 5, 3) := by decide +kernel
theorem dX3_readRain_16 : decode cX3_readRain 16 = .ok (.iconst 0, 1) := by decide +kernel
theorem dX3_readRain_17 : decode cX3_readRain 17 = .ok (.ireturn, 1) := by decide +kernel
theorem dX3_readRain_18 : decode cX3_readRain 18 = .ok (.aload_n 0, 1) := by decide +kernel
theorem dX3_readRain_19 : decode cX3_readRain 19 = .ok (.iconst 0, 1) := by decide +kernel
theorem dX3_readRain_20 : decode cX3_readRain 20 = .ok (.iconst 3, 1) := by decide +kernel
theorem dX3_readRain_21 : decode cX3_readRain 21 = .ok (.invokevirtual 75, 3) := by decide +kernel
theorem dX3_readRain_24 : decode cX3_readRain 24 = .ok (.istore_n 2, 1) := by decide +kernel
theorem dX3_readRain_25 : decode cX3_readRain 25 = .ok (.iload_n 2, 1) := by decide +kernel
theorem dX3_readRain_26 : decode cX3_readRain 26 = .ok (.ifCond .lt 10, 3) := by decide +kernel
theorem dX3_readRain_29 : decode cX3_readRain 29 = .ok (.aload_n 0, 1) := by decide +kernel
theorem dX3_readRain_30 : decode cX3_readRain 30 = .ok (.invokevirtual 79, 3) := by decide +kernel
theorem dX3_readRain_33 : decode cX3_readRain 33 = .ok (.ifCond .ne 5, 3) := by decide +kernel
theorem dX3_readRain_36 : decode cX3_readRain 36 = .ok (.iconst 0, 1) := by decide +kernel
theorem dX3_readRain_37 : decode cX3_readRain 37 = .ok (.ireturn, 1) := by decide +kernel
theorem dX3_readRain_38 : decode cX3_readRain 38 = .ok (.aload_n 0, 1) := by decide +kernel
theorem dX3_readRain_39 : decode cX3_readRain 39 = .ok (.getfield 21, 3) := by decide +kernel
theorem dX3_readRain_42 : decode cX3_readRain 42 = .ok (.getfield 92, 3) := by decide +kernel
theorem dX3_readRain_45 : decode cX3_readRain 45 = .ok (.iload_n 1, 1) := by decide +kernel
theorem dX3_readRain_46 : decode cX3_readRain 46 = .ok (.iload_n 2, 1) := by decide +kernel
theorem dX3_readRain_47 : decode cX3_readRain 47 = .ok (.iastore, 1) := by decide +kernel
theorem dX3_readRain_48 : decode cX3_readRain 48 = .ok (.iconst 1, 1) := by decide +kernel
theorem dX3_readRain_49 : decode cX3_readRain 49 = .ok (.ireturn, 1) := by decide +kernel
theorem dX3_readPaint_0 : decode cX3_readPaint 0 = .ok (.aload_n 0, 1) := by decide +kernel
theorem dX3_readPaint_1 : decode cX3_readPaint 1 = .ok (.getfield 21, 3) := by decide +kernel
theorem dX3_readPaint_4 : decode cX3_readPaint 4 = .ok (.getfield 96, 3) := by decide +kernel
theorem dX3_readPaint_7 : decode cX3_readPaint 7 = .ok (.bipush 8, 2) := by decide +kernel
theorem dX3_readPaint_9 : decode cX3_readPaint 9 = .ok (.if_icmp .lt 5, 3) := by decide +kernel
theorem dX3_readPaint_12 : decode cX3_readPaint 12 = .ok (.iconst 0, 1) := by decide +kernel
theorem dX3_readPaint_13 : decode cX3_readPaint 13 = .ok (.ireturn, 1) := by decide +kernel
theorem dX3_readPaint_14 : decode cX3_readPaint 14 = .ok (.aload_n 0, 1) := by decide +kernel
theorem dX3_readPaint_15 : decode cX3_readPaint 15 = .ok (.invokevirtual 41, 3) := by decide +kernel
theorem dX3_readPaint_18 : decode cX3_readPaint 18 = .ok (.aload_n 0, 1) := by decide +kernel
theorem dX3_readPaint_19 : decode cX3_readPaint 19 = .ok (.iconst 0, 1) := by decide +kernel
theorem dX3_readPaint_20 : decode cX3_readPaint 20 = .ok (.aload_n 0, 1) := by decide +kernel
theorem dX3_readPaint_21 : decode cX3_readPaint 21 = .ok (.getfield 21, 3) := by decide +kernel
theorem dX3_readPaint_24 : decode cX3_readPaint 24 = .ok (.getfield 72, 3) := by decide +kernel
theorem dX3_readPaint_27 : decode cX3_readPaint 27 = .ok (.iconst 1, 1) := by decide +kernel
theorem dX3_readPaint_28 : decode cX3_readPaint 28 = .ok (.isub, 1) := by decide +kernel
theorem dX3_readPaint_29 : decode cX3_readPaint 29 = .ok (.invokevirtual 75, 3) := by decide +kernel
theorem dX3_readPaint_32 : decode cX3_readPaint 32 = .ok (.istore_n 1, 1) := by decide +kernel
theorem dX3_readPaint_33 : decode cX3_readPaint 33 = .ok (.iload_n 1, 1) := by decide +kernel
theorem dX3_readPaint_34 : decode cX3_readPaint 34 = .ok (.ifCond .ge 5, 3) := by decide +kernel
theorem dX3_readPaint_37 : decode cX3_readPaint 37 = .ok (.iconst 0, 1) := by decide +kernel
theorem dX3_readPaint_38 : decode cX3_readPaint 38 = .ok (.ireturn, 1) := by decide +kernel
theorem dX3_readPaint_39 : decode cX3_readPaint 39 = .ok (.aload_n 0, 1) := by decide +kernel
theorem dX3_readPaint_40 : decode cX3_readPaint 40 = .ok (.iconst 0, 1) := by decide +kernel
theorem dX3_readPaint_41 : decode cX3_readPaint 41 = .ok (.bipush 9, 2) := by decide +kernel
theorem dX3_readPaint_43 : decode cX3_readPaint 43 = .ok (.invokevirtual 75, 3) := by decide +kernel
theorem dX3_readPaint_46 : decode cX3_readPaint 46 = .ok (.istore_n 2, 1) := by decide +kernel
theorem dX3_readPaint_47 : decode cX3_readPaint 47 = .ok (.iload_n 2, 1) := by decide +kernel
theorem dX3_readPaint_48 : decode cX3_readPaint 48 = .ok (.ifCond .ge 5, 3) := by decide +kernel
theorem dX3_readPaint_51 : decode cX3_readPaint 51 = .ok (.iconst 0, 1) := by decide +kernel
theorem dX3_readPaint_52 : decode cX3_readPaint 52 = .ok (.ireturn, 1) := by decide +kernel
theorem dX3_readPaint_53 : decode cX3_readPaint 53 = .ok (.aload_n 0, 1) := by decide +kernel
theorem dX3_readPaint_54 : decode cX3_readPaint 54 = .ok (.iconst 1, 1) := by decide +kernel
theorem dX3_readPaint_55 : decode cX3_readPaint 55 = .ok (.iconst 5, 1) := by decide +kernel
theorem dX3_readPaint_56 : decode cX3_readPaint 56 = .ok (.invokevirtual 75, 3) := by decide +kernel
theorem dX3_readPaint_59 : decode cX3_readPaint 59 = .ok (.istore_n 3, 1) := by decide +kernel
theorem dX3_readPaint_60 : decode cX3_readPaint 60 = .ok (.iload_n 3, 1) := by decide +kernel
theorem dX3_readPaint_61 : decode cX3_readPaint 61 = .ok (.ifCond .lt 10, 3) := by decide +kernel
theorem dX3_readPaint_64 : decode cX3_readPaint 64 = .ok (.aload_n 0, 1) := by decide +kernel
theorem dX3_readPaint_65 : decode cX3_readPaint 65 = .ok (.invokevirtual 79, 3) := by decide +kernel
theorem dX3_readPaint_68 : decode cX3_readPaint 68 = .ok (.ifCond .ne 5, 3) := by decide +kernel
theorem dX3_readPaint_71 : decode cX3_readPaint 71 = .ok (.iconst 0, 1) := by decide +kernel
theorem dX3_readPaint_72 : decode cX3_readPaint 72 = .ok (.ireturn, 1) := by decide +kernel
theorem dX3_readPaint_73 : decode cX3_readPaint 73 = .ok (.aload_n 0, 1) := by decide +kernel
theorem dX3_readPaint_74 : decode cX3_readPaint 74 = .ok (.getfield 21, 3) := by decide +kernel
theorem dX3_readPaint_77 : decode cX3_readPaint 77 = .ok (.iload_n 1, 1) := by decide +kernel
theorem dX3_readPaint_78 : decode cX3_readPaint 78 = .ok (.iload_n 2, 1) := by decide +kernel
theorem dX3_readPaint_79 : decode cX3_readPaint 79 = .ok (.iload_n 3, 1) := by decide +kernel
theorem dX3_readPaint_80 : decode cX3_readPaint 80 = .ok (.invokevirtual 99, 3) := by decide +kernel
theorem dX3_readPaint_83 : decode cX3_readPaint 83 = .ok (.iconst 1, 1) := by decide +kernel
theorem dX3_readPaint_84 : decode cX3_readPaint 84 = .ok (.ireturn, 1) := by decide +kernel
theorem dX3_take_0 : decode cX3_take 0 = .ok (.aload_n 0, 1) := by decide +kernel
theorem dX3_take_1 : decode cX3_take 1 = .ok (.getfield 25, 3) := by decide +kernel
theorem dX3_take_4 : decode cX3_take 4 = .ok (.iconst 2, 1) := by decide +kernel
theorem dX3_take_5 : decode cX3_take 5 = .ok (.if_icmp .ne 15, 3) := by decide +kernel
theorem dX3_take_8 : decode cX3_take 8 = .ok (.aload_n 0, 1) := by decide +kernel
theorem dX3_take_9 : decode cX3_take 9 = .ok (.getfield 35, 3) := by decide +kernel
theorem dX3_take_12 : decode cX3_take 12 = .ok (.iload_n 1, 1) := by decide +kernel
theorem dX3_take_13 : decode cX3_take 13 = .ok (.iload_n 2, 1) := by decide +kernel
theorem dX3_take_14 : decode cX3_take 14 = .ok (.invokestatic 103, 3) := by decide +kernel
theorem dX3_take_17 : decode cX3_take 17 = .ok (.ifCond .ne 5, 3) := by decide +kernel
theorem dX3_take_20 : decode cX3_take 20 = .ok (.iconst (-1), 1) := by decide +kernel
theorem dX3_take_21 : decode cX3_take 21 = .ok (.ireturn, 1) := by decide +kernel
theorem dX3_take_22 : decode cX3_take 22 = .ok (.aload_n 0, 1) := by decide +kernel
theorem dX3_take_23 : decode cX3_take 23 = .ok (.getfield 35, 3) := by decide +kernel
theorem dX3_take_26 : decode cX3_take 26 = .ok (.istore_n 3, 1) := by decide +kernel
theorem dX3_take_27 : decode cX3_take 27 = .ok (.aload_n 0, 1) := by decide +kernel
theorem dX3_take_28 : decode cX3_take 28 = .ok (.invokevirtual 41, 3) := by decide +kernel
theorem dX3_take_31 : decode cX3_take 31 = .ok (.iload_n 3, 1) := by decide +kernel
theorem dX3_take_32 : decode cX3_take 32 = .ok (.ireturn, 1) := by decide +kernel
theorem dX3_takeStop_0 : decode cX3_takeStop 0 = .ok (.aload_n 0, 1) := by decide +kernel
theorem dX3_takeStop_1 : decode cX3_takeStop 1 = .ok (.getfield 25, 3) := by decide +kernel
theorem dX3_takeStop_4 : decode cX3_takeStop 4 = .ok (.iconst 3, 1) := by decide +kernel
theorem dX3_takeStop_5 : decode cX3_takeStop 5 = .ok (.if_icmp .eq 5, 3) := by decide +kernel
theorem dX3_takeStop_8 : decode cX3_takeStop 8 = .ok (.iconst 0, 1) := by decide +kernel
theorem dX3_takeStop_9 : decode cX3_takeStop 9 = .ok (.ireturn, 1) := by decide +kernel
theorem dX3_takeStop_10 : decode cX3_takeStop 10 = .ok (.aload_n 0, 1) := by decide +kernel
theorem dX3_takeStop_11 : decode cX3_takeStop 11 = .ok (.invokevirtual 41, 3) := by decide +kernel
theorem dX3_takeStop_14 : decode cX3_takeStop 14 = .ok (.iconst 1, 1) := by decide +kernel
theorem dX3_takeStop_15 : decode cX3_takeStop 15 = .ok (.ireturn, 1) := by decide +kernel
theorem dX3_next_0 : decode cX3_next 0 = .ok (.aload_n 0, 1) := by decide +kernel
theorem dX3_next_1 : decode cX3_next 1 = .ok (.aload_n 0, 1) := by decide +kernel
theorem dX3_next_2 : decode cX3_next 2 = .ok (.getfield 12, 3) := by decide +kernel
theorem dX3_next_5 : decode cX3_next 5 = .ok (.aload_n 0, 1) := by decide +kernel
theorem dX3_next_6 : decode cX3_next 6 = .ok (.getfield 32, 3) := by decide +kernel
theorem dX3_next_9 : decode cX3_next 9 = .ok (.bipush 32, 2) := by decide +kernel
theorem dX3_next_11 : decode cX3_next 11 = .ok (.bipush 32, 2) := by decide +kernel
theorem dX3_next_13 : decode cX3_next 13 = .ok (.invokevirtual 107, 3) := by decide +kernel
theorem dX3_next_16 : decode cX3_next 16 = .ok (.putfield 29, 3) := by decide +kernel
theorem dX3_next_19 : decode cX3_next 19 = .ok (.aload_n 0, 1) := by decide +kernel
theorem dX3_next_20 : decode cX3_next 20 = .ok (.getfield 29, 3) := by decide +kernel
theorem dX3_next_23 : decode cX3_next 23 = .ok (.aload_n 0, 1) := by decide +kernel
theorem dX3_next_24 : decode cX3_next 24 = .ok (.getfield 12, 3) := by decide +kernel
theorem dX3_next_27 : decode cX3_next 27 = .ok (.getfield 111, 3) := by decide +kernel
theorem dX3_next_30 : decode cX3_next 30 = .ok (.if_icmp .lt 9, 3) := by decide +kernel
theorem dX3_next_33 : decode cX3_next 33 = .ok (.aload_n 0, 1) := by decide +kernel
theorem dX3_next_34 : decode cX3_next 34 = .ok (.iconst 0, 1) := by decide +kernel
theorem dX3_next_35 : decode cX3_next 35 = .ok (.putfield 25, 3) := by decide +kernel
theorem dX3_next_38 : decode cX3_next 38 = .ok (.return_, 1) := by decide +kernel
theorem dX3_next_39 : decode cX3_next 39 = .ok (.aload_n 0, 1) := by decide +kernel
theorem dX3_next_40 : decode cX3_next 40 = .ok (.aload_n 0, 1) := by decide +kernel
theorem dX3_next_41 : decode cX3_next 41 = .ok (.getfield 12, 3) := by decide +kernel
theorem dX3_next_44 : decode cX3_next 44 = .ok (.aload_n 0, 1) := by decide +kernel
theorem dX3_next_45 : decode cX3_next 45 = .ok (.getfield 29, 3) := by decide +kernel
theorem dX3_next_48 : decode cX3_next 48 = .ok (.bipush 97, 2) := by decide +kernel
theorem dX3_next_50 : decode cX3_next 50 = .ok (.bipush 122, 2) := by decide +kernel
theorem dX3_next_52 : decode cX3_next 52 = .ok (.invokevirtual 107, 3) := by decide +kernel
theorem dX3_next_55 : decode cX3_next 55 = .ok (.putfield 32, 3) := by decide +kernel
theorem dX3_next_58 : decode cX3_next 58 = .ok (.aload_n 0, 1) := by decide +kernel
theorem dX3_next_59 : decode cX3_next 59 = .ok (.getfield 32, 3) := by decide +kernel
theorem dX3_next_62 : decode cX3_next 62 = .ok (.aload_n 0, 1) := by decide +kernel
theorem dX3_next_63 : decode cX3_next 63 = .ok (.getfield 29, 3) := by decide +kernel
theorem dX3_next_66 : decode cX3_next 66 = .ok (.if_icmp .le 9, 3) := by decide +kernel
theorem dX3_next_69 : decode cX3_next 69 = .ok (.aload_n 0, 1) := by decide +kernel
theorem dX3_next_70 : decode cX3_next 70 = .ok (.iconst 1, 1) := by decide +kernel
theorem dX3_next_71 : decode cX3_next 71 = .ok (.putfield 25, 3) := by decide +kernel
theorem dX3_next_74 : decode cX3_next 74 = .ok (.return_, 1) := by decide +kernel
theorem dX3_next_75 : decode cX3_next 75 = .ok (.aload_n 0, 1) := by decide +kernel
theorem dX3_next_76 : decode cX3_next 76 = .ok (.aload_n 0, 1) := by decide +kernel
theorem dX3_next_77 : decode cX3_next 77 = .ok (.getfield 12, 3) := by decide +kernel
theorem dX3_next_80 : decode cX3_next 80 = .ok (.aload_n 0, 1) := by decide +kernel
theorem dX3_next_81 : decode cX3_next 81 = .ok (.getfield 29, 3) := by decide +kernel
theorem dX3_next_84 : decode cX3_next 84 = .ok (.bipush 48, 2) := by decide +kernel
theorem dX3_next_86 : decode cX3_next 86 = .ok (.bipush 57, 2) := by decide +kernel
theorem dX3_next_88 : decode cX3_next 88 = .ok (.invokevirtual 107, 3) := by decide +kernel
theorem dX3_next_91 : decode cX3_next 91 = .ok (.putfield 32, 3) := by decide +kernel
theorem dX3_next_94 : decode cX3_next 94 = .ok (.aload_n 0, 1) := by decide +kernel
theorem dX3_next_95 : decode cX3_next 95 = .ok (.getfield 32, 3) := by decide +kernel
theorem dX3_next_98 : decode cX3_next 98 = .ok (.aload_n 0, 1) := by decide +kernel
theorem dX3_next_99 : decode cX3_next 99 = .ok (.getfield 29, 3) := by decide +kernel
theorem dX3_next_102 : decode cX3_next 102 = .ok (.if_icmp .le 39, 3) := by decide +kernel
theorem dX3_next_105 : decode cX3_next 105 = .ok (.aload_n 0, 1) := by decide +kernel
theorem dX3_next_106 : decode cX3_next 106 = .ok (.aload_n 0, 1) := by decide +kernel
theorem dX3_next_107 : decode cX3_next 107 = .ok (.getfield 12, 3) := by decide +kernel
theorem dX3_next_110 : decode cX3_next 110 = .ok (.aload_n 0, 1) := by decide +kernel
theorem dX3_next_111 : decode cX3_next 111 = .ok (.getfield 29, 3) := by decide +kernel
theorem dX3_next_114 : decode cX3_next 114 = .ok (.aload_n 0, 1) := by decide +kernel
theorem dX3_next_115 : decode cX3_next 115 = .ok (.getfield 32, 3) := by decide +kernel
theorem dX3_next_118 : decode cX3_next 118 = .ok (.invokevirtual 114, 3) := by decide +kernel
theorem dX3_next_121 : decode cX3_next 121 = .ok (.putfield 35, 3) := by decide +kernel
theorem dX3_next_124 : decode cX3_next 124 = .ok (.aload_n 0, 1) := by decide +kernel
theorem dX3_next_125 : decode cX3_next 125 = .ok (.aload_n 0, 1) := by decide +kernel
theorem dX3_next_126 : decode cX3_next 126 = .ok (.getfield 35, 3) := by decide +kernel
theorem dX3_next_129 : decode cX3_next 129 = .ok (.ifCond .ge 7, 3) := by decide +kernel
theorem dX3_next_132 : decode cX3_next 132 = .ok (.iconst 4, 1) := by decide +kernel
theorem dX3_next_133 : decode cX3_next 133 = .ok (.goto 4, 3) := by decide +kernel
theorem dX3_next_136 : decode cX3_next 136 = .ok (.iconst 2, 1) := by decide +kernel
theorem dX3_next_137 : decode cX3_next 137 = .ok (.putfield 25, 3) := by decide +kernel
theorem dX3_next_140 : decode cX3_next 140 = .ok (.return_, 1) := by decide +kernel
theorem dX3_next_141 : decode cX3_next 141 = .ok (.aload_n 0, 1) := by decide +kernel
theorem dX3_next_142 : decode cX3_next 142 = .ok (.aload_n 0, 1) := by decide +kernel
theorem dX3_next_143 : decode cX3_next 143 = .ok (.getfield 29, 3) := by decide +kernel
theorem dX3_next_146 : decode cX3_next 146 = .ok (.iconst 1, 1) := by decide +kernel
theorem dX3_next_147 : decode cX3_next 147 = .ok (.iadd, 1) := by decide +kernel
theorem dX3_next_148 : decode cX3_next 148 = .ok (.putfield 32, 3) := by decide +kernel
theorem dX3_next_151 : decode cX3_next 151 = .ok (.aload_n 0, 1) := by decide +kernel
theorem dX3_next_152 : decode cX3_next 152 = .ok (.aload_n 0, 1) := by decide +kernel
theorem dX3_next_153 : decode cX3_next 153 = .ok (.getfield 12, 3) := by decide +kernel
theorem dX3_next_156 : decode cX3_next 156 = .ok (.aload_n 0, 1) := by decide +kernel
theorem dX3_next_157 : decode cX3_next 157 = .ok (.getfield 29, 3) := by decide +kernel
theorem dX3_next_160 : decode cX3_next 160 = .ok (.bipush 59, 2) := by decide +kernel
theorem dX3_next_162 : decode cX3_next 162 = .ok (.invokevirtual 117, 3) := by decide +kernel
theorem dX3_next_165 : decode cX3_next 165 = .ok (.ifCond .eq 7, 3) := by decide +kernel
theorem dX3_next_168 : decode cX3_next 168 = .ok (.iconst 3, 1) := by decide +kernel
theorem dX3_next_169 : decode cX3_next 169 = .ok (.goto 4, 3) := by decide +kernel
theorem dX3_next_172 : decode cX3_next 172 = .ok (.iconst 4, 1) := by decide +kernel
theorem dX3_next_173 : decode cX3_next 173 = .ok (.putfield 25, 3) := by decide +kernel
theorem dX3_next_176 : decode cX3_next 176 = .ok (.return_, 1) := by decide +kernel
theorem dX4_init_0 : decode cX4_init 0 = .ok (.aload_n 0, 1) := by decide +kernel
theorem dX4_init_1 : decode cX4_init 1 = .ok (.invokespecial 3, 3) := by decide +kernel
theorem dX4_init_4 : decode cX4_init 4 = .ok (.aload_n 0, 1) := by decide +kernel
theorem dX4_init_5 : decode cX4_init 5 = .ok (.sipush 300, 3) := by decide +kernel
theorem dX4_init_8 : decode cX4_init 8 = .ok (.newarray .byte, 2) := by decide +kernel
theorem dX4_init_10 : decode cX4_init 10 = .ok (.putfield 9, 3) := by decide +kernel
theorem dX4_init_13 : decode cX4_init 13 = .ok (.aload_n 0, 1) := by decide +kernel
theorem dX4_init_14 : decode cX4_init 14 = .ok (.iconst 0, 1) := by decide +kernel
theorem dX4_init_15 : decode cX4_init 15 = .ok (.putfield 15, 3) := by decide +kernel
theorem dX4_init_18 : decode cX4_init 18 = .ok (.return_, 1) := by decide +kernel
theorem dX4_append_0 : decode cX4_append 0 = .ok (.iload_n 3, 1) := by decide +kernel
theorem dX4_append_1 : decode cX4_append 1 = .ok (.iconst 1, 1) := by decide +kernel
theorem dX4_append_2 : decode cX4_append 2 = .ok (.isub, 1) := by decide +kernel
theorem dX4_append_3 : decode cX4_append 3 = .ok (.istore 4, 2) := by decide +kernel
theorem dX4_append_5 : decode cX4_append 5 = .ok (.iload 4, 2) := by decide +kernel
theorem dX4_append_7 : decode cX4_append 7 = .ok (.ifCond .lt 47, 3) := by decide +kernel
theorem dX4_append_10 : decode cX4_append 10 = .ok (.aload_n 0, 1) := by decide +kernel
theorem dX4_append_11 : decode cX4_append 11 = .ok (.getfield 15, 3) := by decide +kernel
theorem dX4_append_14 : decode cX4_append 14 = .ok (.sipush 300, 3) := by decide +kernel
theorem dX4_append_17 : decode cX4_append 17 = .ok (.if_icmp .ge 37, 3) := by decide +kernel
theorem dX4_append_20 : decode cX4_append 20 = .ok (.aload_n 0, 1) := by decide +kernel
theorem dX4_append_21 : decode cX4_append 21 = .ok (.getfield 9, 3) := by decide +kernel
theorem dX4_append_24 : decode cX4_append 24 = .ok (.aload_n 0, 1) := by decide +kernel
theorem dX4_append_25 : decode cX4_append 25 = .ok (.getfield 15, 3) := by decide +kernel
theorem dX4_append_28 : decode cX4_append 28 = .ok (.lload_n 1, 1) := by decide +kernel
theorem dX4_append_29 : decode cX4_append 29 = .ok (.bipush 8, 2) := by decide +kernel
theorem dX4_append_31 : decode cX4_append 31 = .ok (.iload 4, 2) := by decide +kernel
theorem dX4_append_33 : decode cX4_append 33 = .ok (.imul, 1) := by decide +kernel
theorem dX4_append_34 : decode cX4_append 34 = .ok (.lushr, 1) := by decide +kernel
theorem dX4_append_35 : decode cX4_append 35 = .ok (.l2i, 1) := by decide +kernel
theorem dX4_append_36 : decode cX4_append 36 = .ok (.i2b, 1) := by decide +kernel
theorem dX4_append_37 : decode cX4_append 37 = .ok (.bastore, 1) := by decide +kernel
theorem dX4_append_38 : decode cX4_append 38 = .ok (.aload_n 0, 1) := by decide +kernel
theorem dX4_append_39 : decode cX4_append 39 = .ok (.dup, 1) := by decide +kernel
theorem dX4_append_40 : decode cX4_append 40 = .ok (.getfield 15, 3) := by decide +kernel
theorem dX4_append_43 : decode cX4_append 43 = .ok (.iconst 1, 1) := by decide +kernel
theorem dX4_append_44 : decode cX4_append 44 = .ok (.iadd, 1) := by decide +kernel
theorem dX4_append_45 : decode cX4_append 45 = .ok (.putfield 15, 3) := by decide +kernel
theorem dX4_append_48 : decode cX4_append 48 = .ok (.iinc 4 (-1), 3) := by decide +kernel
theorem dX4_append_51 : decode cX4_append 51 = .ok (.goto (-46), 3) := by decide +kernel
theorem dX4_append_54 : decode cX4_append 54 = .ok (.return_, 1) := by decide +kernel
theorem dX4_isSign_0 : decode cX4_isSign 0 = .ok (.iload_n 1, 1) := by decide +kernel
theorem dX4_isSign_1 : decode cX4_isSign 1 = .ok (.iconst 0, 1) := by decide +kernel
theorem dX4_isSign_2 : decode cX4_isSign 2 = .ok (.aload_n 0, 1) := by decide +kernel
theorem dX4_isSign_3 : decode cX4_isSign 3 = .ok (.getfield 15, 3) := by decide +kernel
theorem dX4_isSign_6 : decode cX4_isSign 6 = .ok (.iconst 1, 1) := by decide +kernel
theorem dX4_isSign_7 : decode cX4_isSign 7 = .ok (.isub, 1) := by decide +kernel
theorem dX4_isSign_8 : decode cX4_isSign 8 = .ok (.invokestatic 19, 3) := by decide +kernel
theorem dX4_isSign_11 : decode cX4_isSign 11 = .ok (.ifCond .eq 17, 3) := by decide +kernel
theorem dX4_isSign_14 : decode cX4_isSign 14 = .ok (.aload_n 0, 1) := by decide +kernel
theorem dX4_isSign_15 : decode cX4_isSign 15 = .ok (.getfield 9, 3) := by decide +kernel
theorem dX4_isSign_18 : decode cX4_isSign 18 = .ok (.iload_n 1, 1) := by decide +kernel
theorem dX4_isSign_19 : decode cX4_isSign 19 = .ok (.baload, 1) := by decide +kernel
theorem dX4_isSign_20 : decode cX4_isSign 20 = .ok (.iload_n 2, 1) := by decide +kernel
theorem dX4_isSign_21 : decode cX4_isSign 21 = .ok (.if_icmp .ne 7, 3) := by decide +kernel
theorem dX4_isSign_24 : decode cX4_isSign 24 = .ok (.iconst 1, 1) := by decide +kernel
theorem dX4_isSign_25 : decode cX4_isSign 25 = .ok (.goto 4, 3) := by decide +kernel
theorem dX4_isSign_28 : decode cX4_isSign 28 = .ok (.iconst 0, 1) := by decide +kernel
theorem dX4_isSign_29 : decode cX4_isSign 29 = .ok (.ireturn, 1) := by decide +kernel
theorem dX4_isWord_0 : decode cX4_isWord 0 = .ok (.iload_n 2, 1) := by decide +kernel
theorem dX4_isWord_1 : decode cX4_isWord 1 = .ok (.iload_n 1, 1) := by decide +kernel
theorem dX4_isWord_2 : decode cX4_isWord 2 = .ok (.isub, 1) := by decide +kernel
theorem dX4_isWord_3 : decode cX4_isWord 3 = .ok (.aload_n 3, 1) := by decide +kernel
theorem dX4_isWord_4 : decode cX4_isWord 4 = .ok (.invokevirtual 23, 3) := by decide +kernel
theorem dX4_isWord_7 : decode cX4_isWord 7 = .ok (.if_icmp .eq 5, 3) := by decide +kernel
theorem dX4_isWord_10 : decode cX4_isWord 10 = .ok (.iconst 0, 1) := by decide +kernel
theorem dX4_isWord_11 : decode cX4_isWord 11 = .ok (.ireturn, 1) := by decide +kernel
theorem dX4_isWord_12 : decode cX4_isWord 12 = .ok (.iconst 0, 1) := by decide +kernel
theorem dX4_isWord_13 : decode cX4_isWord 13 = .ok (.istore 4, 2) := by decide +kernel
theorem dX4_isWord_15 : decode cX4_isWord 15 = .ok (.iload 4, 2) := by decide +kernel
theorem dX4_isWord_17 : decode cX4_isWord 17 = .ok (.aload_n 3, 1) := by decide +kernel
theorem dX4_isWord_18 : decode cX4_isWord 18 = .ok (.invokevirtual 23, 3) := by decide +kernel
theorem dX4_isWord_21 : decode cX4_isWord 21 = .ok (.if_icmp .ge 28, 3) := by decide +kernel
theorem dX4_isWord_24 : decode cX4_isWord 24 = .ok (.aload_n 0, 1) := by decide +kernel
theorem dX4_isWord_25 : decode cX4_isWord 25 = .ok (.iload_n 1, 1) := by decide +kernel
theorem dX4_isWord_26 : decode cX4_isWord 26 = .ok (.iload 4, 2) := by decide +kernel
theorem dX4_isWord_28 : decode cX4_isWord 28 = .ok (.iadd, 1) := by decide +kernel
theorem dX4_isWord_29 : decode cX4_isWord 29 = .ok (.aload_n 3, 1) := by decide +kernel
theorem dX4_isWord_30 : decode cX4_isWord 30 = .ok (.iload 4, 2) := by decide +kernel
theorem dX4_isWord_32 : decode cX4_isWord 32 = .ok (.invokevirtual 28, 3) := by decide +kernel
theorem dX4_isWord_35 : decode cX4_isWord 35 = .ok (.invokevirtual 32, 3) := by decide +kernel
theorem dX4_isWord_38 : decode cX4_isWord 38 = .ok (.ifCond .ne 5, 3) := by decide +kernel
theorem dX4_isWord_41 : decode cX4_isWord 41 = .ok (.iconst 0, 1) := by decide +kernel
theorem dX4_isWord_42 : decode cX4_isWord 42 = .ok (.ireturn, 1) := by decide +kernel
theorem dX4_isWord_43 : decode cX4_isWord 43 = .ok (.iinc 4 1, 3) := by decide +kernel
theorem dX4_isWord_46 : decode cX4_isWord 46 = .ok (.goto (-31), 3) := by decide +kernel
theorem dX4_isWord_49 : decode cX4_isWord 49 = .ok (.iconst 1, 1) := by decide +kernel
theorem dX4_isWord_50 : decode cX4_isWord 50 = .ok (.ireturn, 1) := by decide +kernel
theorem dX4_behindRow_0 : decode cX4_behindRow 0 = .ok (.iload_n 1, 1) := by decide +kernel
theorem dX4_behindRow_1 : decode cX4_behindRow 1 = .ok (.istore 4, 2) := by decide +kernel
theorem dX4_behindRow_3 : decode cX4_behindRow 3 = .ok (.iload 4, 2) := by decide +kernel
theorem dX4_behindRow_5 : decode cX4_behindRow 5 = .ok (.aload_n 0, 1) := by decide +kernel
theorem dX4_behindRow_6 : decode cX4_behindRow 6 = .ok (.getfield 15, 3) := by decide +kernel
theorem dX4_behindRow_9 : decode cX4_behindRow 9 = .ok (.if_icmp .ge 24, 3) := by decide +kernel
theorem dX4_behindRow_12 : decode cX4_behindRow 12 = .ok (.aload_n 0, 1) := by decide +kernel
theorem dX4_behindRow_13 : decode cX4_behindRow 13 = .ok (.getfield 9, 3) := by decide +kernel
theorem dX4_behindRow_16 : decode cX4_behindRow 16 = .ok (.iload 4, 2) := by decide +kernel
theorem dX4_behindRow_18 : decode cX4_behindRow 18 = .ok (.baload, 1) := by decide +kernel
theorem dX4_behindRow_19 : decode cX4_behindRow 19 = .ok (.iload_n 2, 1) := by decide +kernel
theorem dX4_behindRow_20 : decode cX4_behindRow 20 = .ok (.iload_n 3, 1) := by decide +kernel
theorem dX4_behindRow_21 : decode cX4_behindRow 21 = .ok (.invokestatic 19, 3) := by decide +kernel
theorem dX4_behindRow_24 : decode cX4_behindRow 24 = .ok (.ifCond .eq 9, 3) := by decide +kernel
theorem dX4_behindRow_27 : decode cX4_behindRow 27 = .ok (.iinc 4 1, 3) := by decide +kernel
theorem dX4_behindRow_30 : decode cX4_behindRow 30 = .ok (.goto (-27), 3) := by decide +kernel
theorem dX4_behindRow_33 : decode cX4_behindRow 33 = .ok (.iload 4, 2) := by decide +kernel
theorem dX4_behindRow_35 : decode cX4_behindRow 35 = .ok (.ireturn, 1) := by decide +kernel
theorem dX4_numberIn_0 : decode cX4_numberIn 0 = .ok (.aload_n 0, 1) := by decide +kernel
theorem dX4_numberIn_1 : decode cX4_numberIn 1 = .ok (.iload_n 1, 1) := by decide +kernel
theorem dX4_numberIn_2 : decode cX4_numberIn 2 = .ok (.bipush 48, 2) := by decide +kernel
theorem dX4_numberIn_4 : decode cX4_numberIn 4 = .ok (.invokevirtual 32, 3) := by decide +kernel
theorem dX4_numberIn_7 : decode cX4_numberIn 7 = .ok (.ifCond .eq 14, 3) := by decide +kernel
theorem dX4_numberIn_10 : decode cX4_numberIn 10 = .ok (.iload_n 2, 1) := by decide +kernel
theorem dX4_numberIn_11 : decode cX4_numberIn 11 = .ok (.iload_n 1, 1) := by decide +kernel
theorem dX4_numberIn_12 : decode cX4_numberIn 12 = .ok (.isub, 1) := by decide +kernel
theorem dX4_numberIn_13 : decode cX4_numberIn 13 = .ok (.iconst 1, 1) := by decide +kernel
theorem dX4_numberIn_14 : decode cX4_numberIn 14 = .ok (.if_icmp .le 7, 3) := by decide +kernel
theorem dX4_numberIn_17 : decode cX4_numberIn 17 = .ok (.iconst 1, 1) := by decide +kernel
theorem dX4_numberIn_18 : decode cX4_numberIn 18 = .ok (.goto 4, 3) := by decide +kernel
theorem dX4_numberIn_21 : decode cX4_numberIn 21 = .ok (.iconst 0, 1) := by decide +kernel
theorem dX4_numberIn_22 : decode cX4_numberIn 22 = .ok (.istore_n 3, 1) := by decide +kernel
theorem dX4_numberIn_23 : decode cX4_numberIn 23 = .ok (.iload_n 3, 1) := by decide +kernel
theorem dX4_numberIn_24 : decode cX4_numberIn 24 = .ok (.ifCond .ne 10, 3) := by decide +kernel
theorem dX4_numberIn_27 : decode cX4_numberIn 27 = .ok (.iload_n 2, 1) := by decide +kernel
theorem dX4_numberIn_28 : decode cX4_numberIn 28 = .ok (.iload_n 1, 1) := by decide +kernel
theorem dX4_numberIn_29 : decode cX4_numberIn 29 = .ok (.isub, 1) := by decide +kernel
theorem dX4_numberIn_30 : decode cX4_numberIn 30 = .ok (.iconst 2, 1) := by decide +kernel
theorem dX4_numberIn_31 : decode cX4_numberIn 31 = .ok (.if_icmp .le 5, 3) := by decide +kernel
theorem dX4_numberIn_34 : decode cX4_numberIn 34 = .ok (.iconst (-1), 1) := by decide +kernel
theorem dX4_numberIn_35 : decode cX4_numberIn 35 = .ok (.ireturn, 1) := by decide +kernel
theorem dX4_numberIn_36 : decode cX4_numberIn 36 = .ok (.iconst 0, 1) := by decide +kernel
theorem dX4_numberIn_37 : decode cX4_numberIn 37 = .ok (.istore 4, 2) := by decide +kernel
theorem dX4_numberIn_39 : decode cX4_numberIn 39 = .ok (.iload_n 1, 1) := by decide +kernel
theorem dX4_numberIn_40 : decode cX4_numberIn 40 = .ok (.istore 5, 2) := by decide +kernel
theorem dX4_numberIn_42 : decode cX4_numberIn 42 = .ok (.iload 5, 2) := by decide +kernel
theorem dX4_numberIn_44 : decode cX4_numberIn 44 = .ok (.iload_n 2, 1) := by decide +kernel
theorem dX4_numberIn_45 : decode cX4_numberIn 45 = .ok (.if_icmp .ge 36, 3) := by decide +kernel
theorem dX4_numberIn_48 : decode cX4_numberIn 48 = .ok (.iload 5, 2) := by decide +kernel
theorem dX4_numberIn_50 : decode cX4_numberIn 50 = .ok (.aload_n 0, 1) := by decide +kernel
theorem dX4_numberIn_51 : decode cX4_numberIn 51 = .ok (.getfield 15, 3) := by decide +kernel
theorem dX4_numberIn_54 : decode cX4_numberIn 54 = .ok (.if_icmp .ge 27, 3) := by decide +kernel
theorem dX4_numberIn_57 : decode cX4_numberIn 57 = .ok (.bipush 10, 2) := by decide +kernel
theorem dX4_numberIn_59 : decode cX4_numberIn 59 = .ok (.iload 4, 2) := by decide +kernel
theorem dX4_numberIn_61 : decode cX4_numberIn 61 = .ok (.imul, 1) := by decide +kernel
theorem dX4_numberIn_62 : decode cX4_numberIn 62 = .ok (.aload_n 0, 1) := by decide +kernel
theorem dX4_numberIn_63 : decode cX4_numberIn 63 = .ok (.getfield 9, 3) := by decide +kernel
theorem dX4_numberIn_66 : decode cX4_numberIn 66 = .ok (.iload 5, 2) := by decide +kernel
theorem dX4_numberIn_68 : decode cX4_numberIn 68 = .ok (.baload, 1) := by decide +kernel
theorem dX4_numberIn_69 : decode cX4_numberIn 69 = .ok (.iadd, 1) := by decide +kernel
theorem dX4_numberIn_70 : decode cX4_numberIn 70 = .ok (.bipush 48, 2) := by decide +kernel
theorem dX4_numberIn_72 : decode cX4_numberIn 72 = .ok (.isub, 1) := by decide +kernel
theorem dX4_numberIn_73 : decode cX4_numberIn 73 = .ok (.istore 4, 2) := by decide +kernel
theorem dX4_numberIn_75 : decode cX4_numberIn 75 = .ok (.iinc 5 1, 3) := by decide +kernel
theorem dX4_numberIn_78 : decode cX4_numberIn 78 = .ok (.goto (-36), 3) := by decide +kernel
theorem dX4_numberIn_81 : decode cX4_numberIn 81 = .ok (.iload 4, 2) := by decide +kernel
theorem dX4_numberIn_83 : decode cX4_numberIn 83 = .ok (.ireturn, 1) := by decide +kernel
theorem dX5_init_0 : decode cX5_init 0 = .ok (.aload_n 0, 1) := by decide +kernel
theorem dX5_init_1 : decode cX5_init 1 = .ok (.invokespecial 3, 3) := by decide +kernel
theorem dX5_init_4 : decode cX5_init 4 = .ok (.aload_n 0, 1) := by decide +kernel
theorem dX5_init_5 : decode cX5_init 5 = .ok (.iconst 0, 1) := by decide +kernel
theorem dX5_init_6 : decode cX5_init 6 = .ok (.putfield 9, 3) := by decide +kernel
theorem dX5_init_9 : decode cX5_init 9 = .ok (.aload_n 0, 1) := by decide +kernel
theorem dX5_init_10 : decode cX5_init 10 = .ok (.iconst 0, 1) := by decide +kernel
theorem dX5_init_11 : decode cX5_init 11 = .ok (.putfield 15, 3) := by decide +kernel
theorem dX5_init_14 : decode cX5_init 14 = .ok (.aload_n 0, 1) := by decide +kernel
theorem dX5_init_15 : decode cX5_init 15 = .ok (.bipush 6, 2) := by decide +kernel
theorem dX5_init_17 : decode cX5_init 17 = .ok (.newarray .boolean, 2) := by decide +kernel
theorem dX5_init_19 : decode cX5_init 19 = .ok (.putfield 18, 3) := by decide +kernel
theorem dX5_init_22 : decode cX5_init 22 = .ok (.aload_n 0, 1) := by decide +kernel
theorem dX5_init_23 : decode cX5_init 23 = .ok (.bipush 6, 2) := by decide +kernel
theorem dX5_init_25 : decode cX5_init 25 = .ok (.newarray .int, 2) := by decide +kernel
theorem dX5_init_27 : decode cX5_init 27 = .ok (.putfield 22, 3) := by decide +kernel
theorem dX5_init_30 : decode cX5_init 30 = .ok (.aload_n 0, 1) := by decide +kernel
theorem dX5_init_31 : decode cX5_init 31 = .ok (.iconst 3, 1) := by decide +kernel
theorem dX5_init_32 : decode cX5_init 32 = .ok (.newarray .int, 2) := by decide +kernel
theorem dX5_init_34 : decode cX5_init 34 = .ok (.putfield 26, 3) := by decide +kernel
theorem dX5_init_37 : decode cX5_init 37 = .ok (.aload_n 0, 1) := by decide +kernel
theorem dX5_init_38 : decode cX5_init 38 = .ok (.bipush 66, 2) := by decide +kernel
theorem dX5_init_40 : decode cX5_init 40 = .ok (.newarray .int, 2) := by decide +kernel
theorem dX5_init_42 : decode cX5_init 42 = .ok (.putfield 29, 3) := by decide +kernel
theorem dX5_init_45 : decode cX5_init 45 = .ok (.aload_n 0, 1) := by decide +kernel
theorem dX5_init_46 : decode cX5_init 46 = .ok (.bipush 48, 2) := by decide +kernel
theorem dX5_init_48 : decode cX5_init 48 = .ok (.newarray .int, 2) := by decide +kernel
theorem dX5_init_50 : decode cX5_init 50 = .ok (.putfield 32, 3) := by decide +kernel
theorem dX5_init_53 : decode cX5_init 53 = .ok (.aload_n 0, 1) := by decide +kernel
theorem dX5_init_54 : decode cX5_init 54 = .ok (.bipush 8, 2) := by decide +kernel
theorem dX5_init_56 : decode cX5_init 56 = .ok (.newarray .int, 2) := by decide +kernel
theorem dX5_init_58 : decode cX5_init 58 = .ok (.putfield 35, 3) := by decide +kernel
theorem dX5_init_61 : decode cX5_init 61 = .ok (.aload_n 0, 1) := by decide +kernel
theorem dX5_init_62 : decode cX5_init 62 = .ok (.sipush 271, 3) := by decide +kernel
theorem dX5_init_65 : decode cX5_init 65 = .ok (.newarray .int, 2) := by decide +kernel
theorem dX5_init_67 : decode cX5_init 67 = .ok (.putfield 38, 3) := by decide +kernel
theorem dX5_init_70 : decode cX5_init 70 = .ok (.return_, 1) := by decide +kernel
theorem dX5_learn_0 : decode cX5_learn 0 = .ok (.aload_n 0, 1) := by decide +kernel
theorem dX5_learn_1 : decode cX5_learn 1 = .ok (.aload_n 1, 1) := by decide +kernel
theorem dX5_learn_2 : decode cX5_learn 2 = .ok (.getfield 41, 3) := by decide +kernel
theorem dX5_learn_5 : decode cX5_learn 5 = .ok (.putfield 9, 3) := by decide +kernel
theorem dX5_learn_8 : decode cX5_learn 8 = .ok (.aload_n 0, 1) := by decide +kernel
theorem dX5_learn_9 : decode cX5_learn 9 = .ok (.aload_n 1, 1) := by decide +kernel
theorem dX5_learn_10 : decode cX5_learn 10 = .ok (.getfield 44, 3) := by decide +kernel
theorem dX5_learn_13 : decode cX5_learn 13 = .ok (.putfield 15, 3) := by decide +kernel
theorem dX5_learn_16 : decode cX5_learn 16 = .ok (.aload_n 1, 1) := by decide +kernel
theorem dX5_learn_17 : decode cX5_learn 17 = .ok (.getfield 45, 3) := by decide +kernel
theorem dX5_learn_20 : decode cX5_learn 20 = .ok (.iconst 0, 1) := by decide +kernel
theorem dX5_learn_21 : decode cX5_learn 21 = .ok (.aload_n 0, 1) := by decide +kernel
theorem dX5_learn_22 : decode cX5_learn 22 = .ok (.getfield 26, 3) := by decide +kernel
theorem dX5_learn_25 : decode cX5_learn 25 = .ok (.iconst 0, 1) := by decide +kernel
theorem dX5_learn_26 : decode cX5_learn 26 = .ok (.iconst 3, 1) := by decide +kernel
theorem dX5_learn_27 : decode cX5_learn 27 = .ok (.invokestatic 46, 3) := by decide +kernel
theorem dX5_learn_30 : decode cX5_learn 30 = .ok (.iconst 0, 1) := by decide +kernel
theorem dX5_learn_31 : decode cX5_learn 31 = .ok (.istore_n 3, 1) := by decide +kernel
theorem dX5_learn_32 : decode cX5_learn 32 = .ok (.iload_n 3, 1) := by decide +kernel
theorem dX5_learn_33 : decode cX5_learn 33 = .ok (.aload_n 0, 1) := by decide +kernel
theorem dX5_learn_34 : decode cX5_learn 34 = .ok (.getfield 9, 3) := by decide +kernel
theorem dX5_learn_37 : decode cX5_learn 37 = .ok (.if_icmp .ge 134, 3) := by decide +kernel
theorem dX5_learn_40 : decode cX5_learn 40 = .ok (.aload_n 0, 1) := by decide +kernel
theorem dX5_learn_41 : decode cX5_learn 41 = .ok (.getfield 18, 3) := by decide +kernel
theorem dX5_learn_44 : decode cX5_learn 44 = .ok (.iload_n 3, 1) := by decide +kernel
theorem dX5_learn_45 : decode cX5_learn 45 = .ok (.aload_n 2, 1) := by decide +kernel
theorem dX5_learn_46 : decode cX5_learn 46 = .ok (.getfield 52, 3) := by decide +kernel
theorem dX5_learn_49 : decode cX5_learn 49 = .ok (.iload_n 3, 1) := by decide +kernel
theorem dX5_learn_50 : decode cX5_learn 50 = .ok (.iaload, 1) := by decide +kernel
theorem dX5_learn_51 : decode cX5_learn 51 = .ok (.bipush (-9), 2) := by decide +kernel
theorem dX5_learn_53 : decode cX5_learn 53 = .ok (.if_icmp .eq 7, 3) := by decide +kernel
theorem dX5_learn_56 : decode cX5_learn 56 = .ok (.iconst 1, 1) := by decide +kernel
theorem dX5_learn_57 : decode cX5_learn 57 = .ok (.goto 4, 3) := by decide +kernel
theorem dX5_learn_60 : decode cX5_learn 60 = .ok (.iconst 0, 1) := by decide +kernel
theorem dX5_learn_61 : decode cX5_learn 61 = .ok (.bastore, 1) := by decide +kernel
theorem dX5_learn_62 : decode cX5_learn 62 = .ok (.aload_n 0, 1) := by decide +kernel
theorem dX5_learn_63 : decode cX5_learn 63 = .ok (.getfield 22, 3) := by decide +kernel
theorem dX5_learn_66 : decode cX5_learn 66 = .ok (.iload_n 3, 1) := by decide +kernel
theorem dX5_learn_67 : decode cX5_learn 67 = .ok (.aload_n 2, 1) := by decide +kernel
theorem dX5_learn_68 : decode cX5_learn 68 = .ok (.getfield 52, 3) := by decide +kernel
theorem dX5_learn_71 : decode cX5_learn 71 = .ok (.iload_n 3, 1) := by decide +kernel
theorem dX5_learn_72 : decode cX5_learn 72 = .ok (.iaload, 1) := by decide +kernel
theorem dX5_learn_73 : decode cX5_learn 73 = .ok (.aload_n 1, 1) := by decide +kernel
theorem dX5_learn_74 : decode cX5_learn 74 = .ok (.iload_n 3, 1) := by decide +kernel
theorem dX5_learn_75 : decode cX5_learn 75 = .ok (.bipush 9, 2) := by decide +kernel
theorem dX5_learn_77 : decode cX5_learn 77 = .ok (.invokevirtual 57, 3) := by decide +kernel
theorem dX5_learn_80 : decode cX5_learn 80 = .ok (.isub, 1) := by decide +kernel
theorem dX5_learn_81 : decode cX5_learn 81 = .ok (.iastore, 1) := by decide +kernel
theorem dX5_learn_82 : decode cX5_learn 82 = .ok (.iconst 1, 1) := by decide +kernel
theorem dX5_learn_83 : decode cX5_learn 83 = .ok (.istore 4, 2) := by decide +kernel
theorem dX5_learn_85 : decode cX5_learn 85 = .ok (.iload 4, 2) := by decide +kernel
theorem dX5_learn_87 : decode cX5_learn 87 = .ok (.bipush 10, 2) := by decide +kernel
theorem dX5_learn_89 : decode cX5_learn 89 = .ok (.if_icmp .gt 31, 3) := by decide +kernel
theorem dX5_learn_92 : decode cX5_learn 92 = .ok (.aload_n 0, 1) := by decide +kernel
theorem dX5_learn_93 : decode cX5_learn 93 = .ok (.getfield 29, 3) := by decide +kernel
theorem dX5_learn_96 : decode cX5_learn 96 = .ok (.iload_n 3, 1) := by decide +kernel
theorem dX5_learn_97 : decode cX5_learn 97 = .ok (.bipush 11, 2) := by decide +kernel
theorem dX5_learn_99 : decode cX5_learn 99 = .ok (.imul, 1) := by decide +kernel
theorem dX5_learn_100 : decode cX5_learn 100 = .ok (.iload 4, 2) := by decide +kernel
theorem dX5_learn_102 : decode cX5_learn 102 = .ok (.iadd, 1) := by decide +kernel
theorem dX5_learn_103 : decode cX5_learn 103 = .ok (.aload_n 1, 1) := by decide +kernel
theorem dX5_learn_104 : decode cX5_learn 104 = .ok (.iload_n 3, 1) := by decide +kernel
theorem dX5_learn_105 : decode cX5_learn 105 = .ok (.iconst 0, 1) := by decide +kernel
theorem dX5_learn_106 : decode cX5_learn 106 = .ok (.iload 4, 2) := by decide +kernel
theorem dX5_learn_108 : decode cX5_learn 108 = .ok (.iconst 1, 1) := by decide +kernel
theorem dX5_learn_109 : decode cX5_learn 109 = .ok (.isub, 1) := by decide +kernel
theorem dX5_learn_110 : decode cX5_learn 110 = .ok (.invokevirtual 61, 3) := by decide +kernel
theorem dX5_learn_113 : decode cX5_learn 113 = .ok (.iastore, 1) := by decide +kernel
theorem dX5_learn_114 : decode cX5_learn 114 = .ok (.iinc 4 1, 3) := by decide +kernel
theorem dX5_learn_117 : decode cX5_learn 117 = .ok (.goto (-32), 3) := by decide +kernel
theorem dX5_learn_120 : decode cX5_learn 120 = .ok (.iconst 0, 1) := by decide +kernel
theorem dX5_learn_121 : decode cX5_learn 121 = .ok (.istore 4, 2) := by decide +kernel
theorem dX5_learn_123 : decode cX5_learn 123 = .ok (.iload 4, 2) := by decide +kernel
theorem dX5_learn_125 : decode cX5_learn 125 = .ok (.iconst 1, 1) := by decide +kernel
theorem dX5_learn_126 : decode cX5_learn 126 = .ok (.aload_n 0, 1) := by decide +kernel
theorem dX5_learn_127 : decode cX5_learn 127 = .ok (.getfield 15, 3) := by decide +kernel
theorem dX5_learn_130 : decode cX5_learn 130 = .ok (.ishl, 1) := by decide +kernel
theorem dX5_learn_131 : decode cX5_learn 131 = .ok (.if_icmp .ge 34, 3) := by decide +kernel
theorem dX5_learn_134 : decode cX5_learn 134 = .ok (.aload_n 0, 1) := by decide +kernel
theorem dX5_learn_135 : decode cX5_learn 135 = .ok (.getfield 32, 3) := by decide +kernel
theorem dX5_learn_138 : decode cX5_learn 138 = .ok (.iload_n 3, 1) := by decide +kernel
theorem dX5_learn_139 : decode cX5_learn 139 = .ok (.bipush 8, 2) := by decide +kernel
theorem dX5_learn_141 : decode cX5_learn 141 = .ok (.imul, 1) := by decide +kernel
theorem dX5_learn_142 : decode cX5_learn 142 = .ok (.iload 4, 2) := by decide +kernel
theorem dX5_learn_144 : decode cX5_learn 144 = .ok (.iadd, 1) := by decide +kernel
theorem dX5_learn_145 : decode cX5_learn 145 = .ok (.aload_n 0, 1) := by decide +kernel
theorem dX5_learn_146 : decode cX5_learn 146 = .ok (.iload_n 3, 1) := by decide +kernel
theorem dX5_learn_147 : decode cX5_learn 147 = .ok (.iload 4, 2) := by decide +kernel
theorem dX5_learn_149 : decode cX5_learn 149 = .ok (.aload_n 0, 1) := by decide +kernel
theorem dX5_learn_150 : decode cX5_learn 150 = .ok (.getfield 22, 3) := by decide +kernel
theorem dX5_learn_153 : decode cX5_learn 153 = .ok (.iload_n 3, 1) := by decide +kernel
theorem dX5_learn_154 : decode cX5_learn 154 = .ok (.iaload, 1) := by decide +kernel
theorem dX5_learn_155 : decode cX5_learn 155 = .ok (.invokevirtual 65, 3) := by decide +kernel
theorem dX5_learn_158 : decode cX5_learn 158 = .ok (.iastore, 1) := by decide +kernel
theorem dX5_learn_159 : decode cX5_learn 159 = .ok (.iinc 4 1, 3) := by decide +kernel
theorem dX5_learn_162 : decode cX5_learn 162 = .ok (.goto (-39), 3) := by decide +kernel
theorem dX5_learn_165 : decode cX5_learn 165 = .ok (.iinc 3 1, 3) := by decide +kernel
theorem dX5_learn_168 : decode cX5_learn 168 = .ok (.goto (-136), 3) := by decide +kernel
theorem dX5_learn_171 : decode cX5_learn 171 = .ok (.return_, 1) := by decide +kernel
theorem dX5_all_0 : decode cX5_all 0 = .ok (.aload_n 0, 1) := by decide +kernel
theorem dX5_all_1 : decode cX5_all 1 = .ok (.bipush (-9), 2) := by decide +kernel
theorem dX5_all_3 : decode cX5_all 3 = .ok (.invokevirtual 68, 3) := by decide +kernel
theorem dX5_all_6 : decode cX5_all 6 = .ok (.aload_n 0, 1) := by decide +kernel
theorem dX5_all_7 : decode cX5_all 7 = .ok (.iconst 0, 1) := by decide +kernel
theorem dX5_all_8 : decode cX5_all 8 = .ok (.invokevirtual 72, 3) := by decide +kernel
theorem dX5_all_11 : decode cX5_all 11 = .ok (.ireturn, 1) := by decide +kernel
theorem dX5_holdingNone_0 : decode cX5_holdingNone 0 = .ok (.aload_n 0, 1) := by decide +kernel
theorem dX5_holdingNone_1 : decode cX5_holdingNone 1 = .ok (.bipush (-9), 2) := by decide +kernel
theorem dX5_holdingNone_3 : decode cX5_holdingNone 3 = .ok (.invokevirtual 68, 3) := by decide +kernel
theorem dX5_holdingNone_6 : decode cX5_holdingNone 6 = .ok (.aload_n 0, 1) := by decide +kernel
theorem dX5_holdingNone_7 : decode cX5_holdingNone 7 = .ok (.iconst 1, 1) := by decide +kernel
theorem dX5_holdingNone_8 : decode cX5_holdingNone 8 = .ok (.iload_n 1, 1) := by decide +kernel
theorem dX5_holdingNone_9 : decode cX5_holdingNone 9 = .ok (.ishl, 1) := by decide +kernel
theorem dX5_holdingNone_10 : decode cX5_holdingNone 10 = .ok (.invokevirtual 72, 3) := by decide +kernel
theorem dX5_holdingNone_13 : decode cX5_holdingNone 13 = .ok (.ireturn, 1) := by decide +kernel
theorem dX5_holding_0 : decode cX5_holding 0 = .ok (.aload_n 0, 1) := by decide +kernel
theorem dX5_holding_1 : decode cX5_holding 1 = .ok (.iload_n 2, 1) := by decide +kernel
theorem dX5_holding_2 : decode cX5_holding 2 = .ok (.invokevirtual 68, 3) := by decide +kernel
theorem dX5_holding_5 : decode cX5_holding 5 = .ok (.iconst 0, 1) := by decide +kernel
theorem dX5_holding_6 : decode cX5_holding 6 = .ok (.istore_n 3, 1) := by decide +kernel
theorem dX5_holding_7 : decode cX5_holding 7 = .ok (.iconst 0, 1) := by decide +kernel
theorem dX5_holding_8 : decode cX5_holding 8 = .ok (.istore 4, 2) := by decide +kernel
theorem dX5_holding_10 : decode cX5_holding 10 = .ok (.iload 4, 2) := by decide +kernel
theorem dX5_holding_12 : decode cX5_holding 12 = .ok (.iconst 1, 1) := by decide +kernel
theorem dX5_holding_13 : decode cX5_holding 13 = .ok (.aload_n 0, 1) := by decide +kernel
theorem dX5_holding_14 : decode cX5_holding 14 = .ok (.getfield 15, 3) := by decide +kernel
theorem dX5_holding_17 : decode cX5_holding 17 = .ok (.ishl, 1) := by decide +kernel
theorem dX5_holding_18 : decode cX5_holding 18 = .ok (.if_icmp .ge 40, 3) := by decide +kernel
theorem dX5_holding_21 : decode cX5_holding 21 = .ok (.iload 4, 2) := by decide +kernel
theorem dX5_holding_23 : decode cX5_holding 23 = .ok (.iload_n 1, 1) := by decide +kernel
theorem dX5_holding_24 : decode cX5_holding 24 = .ok (.invokestatic 76, 3) := by decide +kernel
theorem dX5_holding_27 : decode cX5_holding 27 = .ok (.ifCond .eq 25, 3) := by decide +kernel
theorem dX5_holding_30 : decode cX5_holding 30 = .ok (.iload_n 3, 1) := by decide +kernel
theorem dX5_holding_31 : decode cX5_holding 31 = .ok (.aload_n 0, 1) := by decide +kernel
theorem dX5_holding_32 : decode cX5_holding 32 = .ok (.getfield 32, 3) := by decide +kernel
theorem dX5_holding_35 : decode cX5_holding 35 = .ok (.iload_n 2, 1) := by decide +kernel
theorem dX5_holding_36 : decode cX5_holding 36 = .ok (.bipush 8, 2) := by decide +kernel
theorem dX5_holding_38 : decode cX5_holding 38 = .ok (.imul, 1) := by decide +kernel
theorem dX5_holding_39 : decode cX5_holding 39 = .ok (.iload 4, 2) := by decide +kernel
theorem dX5_holding_41 : decode cX5_holding 41 = .ok (.iadd, 1) := by decide +kernel
theorem dX5_holding_42 : decode cX5_holding 42 = .ok (.iaload, 1) := by decide +kernel
theorem dX5_holding_43 : decode cX5_holding 43 = .ok (.aload_n 0, 1) := by decide +kernel
theorem dX5_holding_44 : decode cX5_holding 44 = .ok (.iload 4, 2) := by decide +kernel
theorem dX5_holding_46 : decode cX5_holding 46 = .ok (.invokevirtual 72, 3) := by decide +kernel
theorem dX5_holding_49 : decode cX5_holding 49 = .ok (.imul, 1) := by decide +kernel
theorem dX5_holding_50 : decode cX5_holding 50 = .ok (.iadd, 1) := by decide +kernel
theorem dX5_holding_51 : decode cX5_holding 51 = .ok (.istore_n 3, 1) := by decide +kernel
theorem dX5_holding_52 : decode cX5_holding 52 = .ok (.iinc 4 1, 3) := by decide +kernel
theorem dX5_holding_55 : decode cX5_holding 55 = .ok (.goto (-45), 3) := by decide +kernel
theorem dX5_holding_58 : decode cX5_holding 58 = .ok (.iload_n 3, 1) := by decide +kernel
theorem dX5_holding_59 : decode cX5_holding 59 = .ok (.ireturn, 1) := by decide +kernel
theorem dX5_canHaveHeld_0 : decode cX5_canHaveHeld 0 = .ok (.aload_n 0, 1) := by decide +kernel
theorem dX5_canHaveHeld_1 : decode cX5_canHaveHeld 1 = .ok (.iload_n 2, 1) := by decide +kernel
theorem dX5_canHaveHeld_2 : decode cX5_canHaveHeld 2 = .ok (.invokevirtual 68, 3) := by decide +kernel
theorem dX5_canHaveHeld_5 : decode cX5_canHaveHeld 5 = .ok (.aload_n 0, 1) := by decide +kernel
theorem dX5_canHaveHeld_6 : decode cX5_canHaveHeld 6 = .ok (.getfield 22, 3) := by decide +kernel
theorem dX5_canHaveHeld_9 : decode cX5_canHaveHeld 9 = .ok (.iload_n 2, 1) := by decide +kernel
theorem dX5_canHaveHeld_10 : decode cX5_canHaveHeld 10 = .ok (.iaload, 1) := by decide +kernel
theorem dX5_canHaveHeld_11 : decode cX5_canHaveHeld 11 = .ok (.aload_n 0, 1) := by decide +kernel
theorem dX5_canHaveHeld_12 : decode cX5_canHaveHeld 12 = .ok (.iload_n 1, 1) := by decide +kernel
theorem dX5_canHaveHeld_13 : decode cX5_canHaveHeld 13 = .ok (.iload_n 2, 1) := by decide +kernel
theorem dX5_canHaveHeld_14 : decode cX5_canHaveHeld 14 = .ok (.iload_n 3, 1) := by decide +kernel
theorem dX5_canHaveHeld_15 : decode cX5_canHaveHeld 15 = .ok (.invokevirtual 80, 3) := by decide +kernel
theorem dX5_canHaveHeld_18 : decode cX5_canHaveHeld 18 = .ok (.isub, 1) := by decide +kernel
theorem dX5_canHaveHeld_19 : decode cX5_canHaveHeld 19 = .ok (.istore 4, 2) := by decide +kernel
theorem dX5_canHaveHeld_21 : decode cX5_canHaveHeld 21 = .ok (.iconst 0, 1) := by decide +kernel
theorem dX5_canHaveHeld_22 : decode cX5_canHaveHeld 22 = .ok (.istore 5, 2) := by decide +kernel
theorem dX5_canHaveHeld_24 : decode cX5_canHaveHeld 24 = .ok (.iload 5, 2) := by decide +kernel
theorem dX5_canHaveHeld_26 : decode cX5_canHaveHeld 26 = .ok (.iconst 1, 1) := by decide +kernel
theorem dX5_canHaveHeld_27 : decode cX5_canHaveHeld 27 = .ok (.aload_n 0, 1) := by decide +kernel
theorem dX5_canHaveHeld_28 : decode cX5_canHaveHeld 28 = .ok (.getfield 15, 3) := by decide +kernel
theorem dX5_canHaveHeld_31 : decode cX5_canHaveHeld 31 = .ok (.ishl, 1) := by decide +kernel
theorem dX5_canHaveHeld_32 : decode cX5_canHaveHeld 32 = .ok (.if_icmp .ge 45, 3) := by decide +kernel
theorem dX5_canHaveHeld_35 : decode cX5_canHaveHeld 35 = .ok (.iload 5, 2) := by decide +kernel
theorem dX5_canHaveHeld_37 : decode cX5_canHaveHeld 37 = .ok (.iload_n 1, 1) := by decide +kernel
theorem dX5_canHaveHeld_38 : decode cX5_canHaveHeld 38 = .ok (.invokestatic 76, 3) := by decide +kernel
theorem dX5_canHaveHeld_41 : decode cX5_canHaveHeld 41 = .ok (.ifCond .eq 30, 3) := by decide +kernel
theorem dX5_canHaveHeld_44 : decode cX5_canHaveHeld 44 = .ok (.aload_n 0, 1) := by decide +kernel
theorem dX5_canHaveHeld_45 : decode cX5_canHaveHeld 45 = .ok (.iload 5, 2) := by decide +kernel
theorem dX5_canHaveHeld_47 : decode cX5_canHaveHeld 47 = .ok (.invokevirtual 72, 3) := by decide +kernel
theorem dX5_canHaveHeld_50 : decode cX5_canHaveHeld 50 = .ok (.ifCond .le 21, 3) := by decide +kernel
theorem dX5_canHaveHeld_53 : decode cX5_canHaveHeld 53 = .ok (.aload_n 0, 1) := by decide +kernel
theorem dX5_canHaveHeld_54 : decode cX5_canHaveHeld 54 = .ok (.iload_n 2, 1) := by decide +kernel
theorem dX5_canHaveHeld_55 : decode cX5_canHaveHeld 55 = .ok (.iload 5, 2) := by decide +kernel
theorem dX5_canHaveHeld_57 : decode cX5_canHaveHeld 57 = .ok (.iconst 1, 1) := by decide +kernel
theorem dX5_canHaveHeld_58 : decode cX5_canHaveHeld 58 = .ok (.iload_n 1, 1) := by decide +kernel
theorem dX5_canHaveHeld_59 : decode cX5_canHaveHeld 59 = .ok (.ishl, 1) := by decide +kernel
theorem dX5_canHaveHeld_60 : decode cX5_canHaveHeld 60 = .ok (.ixor, 1) := by decide +kernel
theorem dX5_canHaveHeld_61 : decode cX5_canHaveHeld 61 = .ok (.iload 4, 2) := by decide +kernel
theorem dX5_canHaveHeld_63 : decode cX5_canHaveHeld 63 = .ok (.invokevirtual 65, 3) := by decide +kernel
theorem dX5_canHaveHeld_66 : decode cX5_canHaveHeld 66 = .ok (.ifCond .le 5, 3) := by decide +kernel
theorem dX5_canHaveHeld_69 : decode cX5_canHaveHeld 69 = .ok (.iconst 1, 1) := by decide +kernel
theorem dX5_canHaveHeld_70 : decode cX5_canHaveHeld 70 = .ok (.ireturn, 1) := by decide +kernel
theorem dX5_canHaveHeld_71 : decode cX5_canHaveHeld 71 = .ok (.iinc 5 1, 3) := by decide +kernel
theorem dX5_canHaveHeld_74 : decode cX5_canHaveHeld 74 = .ok (.goto (-50), 3) := by decide +kernel
theorem dX5_canHaveHeld_77 : decode cX5_canHaveHeld 77 = .ok (.iconst 0, 1) := by decide +kernel
theorem dX5_canHaveHeld_78 : decode cX5_canHaveHeld 78 = .ok (.ireturn, 1) := by decide +kernel
theorem dX5_leftAtWorst_0 : decode cX5_leftAtWorst 0 = .ok (.aload_n 0, 1) := by decide +kernel
theorem dX5_leftAtWorst_1 : decode cX5_leftAtWorst 1 = .ok (.iload_n 1, 1) := by decide +kernel
theorem dX5_leftAtWorst_2 : decode cX5_leftAtWorst 2 = .ok (.invokevirtual 68, 3) := by decide +kernel
theorem dX5_leftAtWorst_5 : decode cX5_leftAtWorst 5 = .ok (.aload_n 0, 1) := by decide +kernel
theorem dX5_leftAtWorst_6 : decode cX5_leftAtWorst 6 = .ok (.getfield 38, 3) := by decide +kernel
theorem dX5_leftAtWorst_9 : decode cX5_leftAtWorst 9 = .ok (.iconst 0, 1) := by decide +kernel
theorem dX5_leftAtWorst_10 : decode cX5_leftAtWorst 10 = .ok (.invokestatic 83, 3) := by decide +kernel
theorem dX5_leftAtWorst_13 : decode cX5_leftAtWorst 13 = .ok (.iconst 0, 1) := by decide +kernel
theorem dX5_leftAtWorst_14 : decode cX5_leftAtWorst 14 = .ok (.istore_n 2, 1) := by decide +kernel
theorem dX5_leftAtWorst_15 : decode cX5_leftAtWorst 15 = .ok (.iload_n 2, 1) := by decide +kernel
theorem dX5_leftAtWorst_16 : decode cX5_leftAtWorst 16 = .ok (.iconst 1, 1) := by decide +kernel
theorem dX5_leftAtWorst_17 : decode cX5_leftAtWorst 17 = .ok (.aload_n 0, 1) := by decide +kernel
theorem dX5_leftAtWorst_18 : decode cX5_leftAtWorst 18 = .ok (.getfield 15, 3) := by decide +kernel
theorem dX5_leftAtWorst_21 : decode cX5_leftAtWorst 21 = .ok (.ishl, 1) := by decide +kernel
theorem dX5_leftAtWorst_22 : decode cX5_leftAtWorst 22 = .ok (.if_icmp .ge 22, 3) := by decide +kernel
theorem dX5_leftAtWorst_25 : decode cX5_leftAtWorst 25 = .ok (.aload_n 0, 1) := by decide +kernel
theorem dX5_leftAtWorst_26 : decode cX5_leftAtWorst 26 = .ok (.iload_n 1, 1) := by decide +kernel
theorem dX5_leftAtWorst_27 : decode cX5_leftAtWorst 27 = .ok (.iload_n 2, 1) := by decide +kernel
theorem dX5_leftAtWorst_28 : decode cX5_leftAtWorst 28 = .ok (.iconst 0, 1) := by decide +kernel
theorem dX5_leftAtWorst_29 : decode cX5_leftAtWorst 29 = .ok (.iconst 0, 1) := by decide +kernel
theorem dX5_leftAtWorst_30 : decode cX5_leftAtWorst 30 = .ok (.aload_n 0, 1) := by decide +kernel
theorem dX5_leftAtWorst_31 : decode cX5_leftAtWorst 31 = .ok (.iload_n 2, 1) := by decide +kernel
theorem dX5_leftAtWorst_32 : decode cX5_leftAtWorst 32 = .ok (.invokevirtual 72, 3) := by decide +kernel
theorem dX5_leftAtWorst_35 : decode cX5_leftAtWorst 35 = .ok (.invokevirtual 89, 3) := by decide +kernel
theorem dX5_leftAtWorst_38 : decode cX5_leftAtWorst 38 = .ok (.iinc 2 1, 3) := by decide +kernel
theorem dX5_leftAtWorst_41 : decode cX5_leftAtWorst 41 = .ok (.goto (-26), 3) := by decide +kernel
theorem dX5_leftAtWorst_44 : decode cX5_leftAtWorst 44 = .ok (.iconst 0, 1) := by decide +kernel
theorem dX5_leftAtWorst_45 : decode cX5_leftAtWorst 45 = .ok (.istore_n 2, 1) := by decide +kernel
theorem dX5_leftAtWorst_46 : decode cX5_leftAtWorst 46 = .ok (.iconst 0, 1) := by decide +kernel
theorem dX5_leftAtWorst_47 : decode cX5_leftAtWorst 47 = .ok (.istore_n 3, 1) := by decide +kernel
theorem dX5_leftAtWorst_48 : decode cX5_leftAtWorst 48 = .ok (.iload_n 3, 1) := by decide +kernel
theorem dX5_leftAtWorst_49 : decode cX5_leftAtWorst 49 = .ok (.sipush 270, 3) := by decide +kernel
theorem dX5_leftAtWorst_52 : decode cX5_leftAtWorst 52 = .ok (.if_icmp .gt 20, 3) := by decide +kernel
theorem dX5_leftAtWorst_55 : decode cX5_leftAtWorst 55 = .ok (.iload_n 2, 1) := by decide +kernel
theorem dX5_leftAtWorst_56 : decode cX5_leftAtWorst 56 = .ok (.aload_n 0, 1) := by decide +kernel
theorem dX5_leftAtWorst_57 : decode cX5_leftAtWorst 57 = .ok (.getfield 38, 3) := by decide +kernel
theorem dX5_leftAtWorst_60 : decode cX5_leftAtWorst 60 = .ok (.iload_n 3, 1) := by decide +kernel
theorem dX5_leftAtWorst_61 : decode cX5_leftAtWorst 61 = .ok (.iaload, 1) := by decide +kernel
theorem dX5_leftAtWorst_62 : decode cX5_leftAtWorst 62 = .ok (.invokestatic 93, 3) := by decide +kernel
theorem dX5_leftAtWorst_65 : decode cX5_leftAtWorst 65 = .ok (.istore_n 2, 1) := by decide +kernel
theorem dX5_leftAtWorst_66 : decode cX5_leftAtWorst 66 = .ok (.iinc 3 1, 3) := by decide +kernel
theorem dX5_leftAtWorst_69 : decode cX5_leftAtWorst 69 = .ok (.goto (-21), 3) := by decide +kernel
theorem dX5_leftAtWorst_72 : decode cX5_leftAtWorst 72 = .ok (.iload_n 2, 1) := by decide +kernel
theorem dX5_leftAtWorst_73 : decode cX5_leftAtWorst 73 = .ok (.ireturn, 1) := by decide +kernel
theorem dX5_gather_0 : decode cX5_gather 0 = .ok (.aload_n 0, 1) := by decide +kernel
theorem dX5_gather_1 : decode cX5_gather 1 = .ok (.getfield 35, 3) := by decide +kernel
theorem dX5_gather_4 : decode cX5_gather 4 = .ok (.iconst 0, 1) := by decide +kernel
theorem dX5_gather_5 : decode cX5_gather 5 = .ok (.invokestatic 83, 3) := by decide +kernel
theorem dX5_gather_8 : decode cX5_gather 8 = .ok (.aload_n 0, 1) := by decide +kernel
theorem dX5_gather_9 : decode cX5_gather 9 = .ok (.getfield 35, 3) := by decide +kernel
theorem dX5_gather_12 : decode cX5_gather 12 = .ok (.iconst 0, 1) := by decide +kernel
theorem dX5_gather_13 : decode cX5_gather 13 = .ok (.iconst 1, 1) := by decide +kernel
theorem dX5_gather_14 : decode cX5_gather 14 = .ok (.iastore, 1) := by decide +kernel
theorem dX5_gather_15 : decode cX5_gather 15 = .ok (.iconst 0, 1) := by decide +kernel
theorem dX5_gather_16 : decode cX5_gather 16 = .ok (.istore_n 2, 1) := by decide +kernel
theorem dX5_gather_17 : decode cX5_gather 17 = .ok (.iload_n 2, 1) := by decide +kernel
theorem dX5_gather_18 : decode cX5_gather 18 = .ok (.aload_n 0, 1) := by decide +kernel
theorem dX5_gather_19 : decode cX5_gather 19 = .ok (.getfield 9, 3) := by decide +kernel
theorem dX5_gather_22 : decode cX5_gather 22 = .ok (.if_icmp .ge 19, 3) := by decide +kernel
theorem dX5_gather_25 : decode cX5_gather 25 = .ok (.iload_n 2, 1) := by decide +kernel
theorem dX5_gather_26 : decode cX5_gather 26 = .ok (.iload_n 1, 1) := by decide +kernel
theorem dX5_gather_27 : decode cX5_gather 27 = .ok (.if_icmp .eq 8, 3) := by decide +kernel
theorem dX5_gather_30 : decode cX5_gather 30 = .ok (.aload_n 0, 1) := by decide +kernel
theorem dX5_gather_31 : decode cX5_gather 31 = .ok (.iload_n 2, 1) := by decide +kernel
theorem dX5_gather_32 : decode cX5_gather 32 = .ok (.invokevirtual 98, 3) := by decide +kernel
theorem dX5_gather_35 : decode cX5_gather 35 = .ok (.iinc 2 1, 3) := by decide +kernel
theorem dX5_gather_38 : decode cX5_gather 38 = .ok (.goto (-21), 3) := by decide +kernel
theorem dX5_gather_41 : decode cX5_gather 41 = .ok (.return_, 1) := by decide +kernel
theorem dX5_gatherBar_0 : decode cX5_gatherBar 0 = .ok (.iconst 1, 1) := by decide +kernel
theorem dX5_gatherBar_1 : decode cX5_gatherBar 1 = .ok (.aload_n 0, 1) := by decide +kernel
theorem dX5_gatherBar_2 : decode cX5_gatherBar 2 = .ok (.getfield 15, 3) := by decide +kernel
theorem dX5_gatherBar_5 : decode cX5_gatherBar 5 = .ok (.ishl, 1) := by decide +kernel
theorem dX5_gatherBar_6 : decode cX5_gatherBar 6 = .ok (.iconst 1, 1) := by decide +kernel
theorem dX5_gatherBar_7 : decode cX5_gatherBar 7 = .ok (.isub, 1) := by decide +kernel
theorem dX5_gatherBar_8 : decode cX5_gatherBar 8 = .ok (.istore_n 2, 1) := by decide +kernel
theorem dX5_gatherBar_9 : decode cX5_gatherBar 9 = .ok (.iload_n 2, 1) := by decide +kernel
theorem dX5_gatherBar_10 : decode cX5_gatherBar 10 = .ok (.ifCond .lt 67, 3) := by decide +kernel
theorem dX5_gatherBar_13 : decode cX5_gatherBar 13 = .ok (.iconst 0, 1) := by decide +kernel
theorem dX5_gatherBar_14 : decode cX5_gatherBar 14 = .ok (.istore_n 3, 1) := by decide +kernel
theorem dX5_gatherBar_15 : decode cX5_gatherBar 15 = .ok (.iconst 0, 1) := by decide +kernel
theorem dX5_gatherBar_16 : decode cX5_gatherBar 16 = .ok (.istore 4, 2) := by decide +kernel
theorem dX5_gatherBar_18 : decode cX5_gatherBar 18 = .ok (.iload 4, 2) := by decide +kernel
theorem dX5_gatherBar_20 : decode cX5_gatherBar 20 = .ok (.iload_n 2, 1) := by decide +kernel
theorem dX5_gatherBar_21 : decode cX5_gatherBar 21 = .ok (.if_icmp .gt 43, 3) := by decide +kernel
theorem dX5_gatherBar_24 : decode cX5_gatherBar 24 = .ok (.iload 4, 2) := by decide +kernel
theorem dX5_gatherBar_26 : decode cX5_gatherBar 26 = .ok (.iload_n 2, 1) := by decide +kernel
theorem dX5_gatherBar_27 : decode cX5_gatherBar 27 = .ok (.iconst (-1), 1) := by decide +kernel
theorem dX5_gatherBar_28 : decode cX5_gatherBar 28 = .ok (.ixor, 1) := by decide +kernel
theorem dX5_gatherBar_29 : decode cX5_gatherBar 29 = .ok (.iand, 1) := by decide +kernel
theorem dX5_gatherBar_30 : decode cX5_gatherBar 30 = .ok (.ifCond .ne 28, 3) := by decide +kernel
theorem dX5_gatherBar_33 : decode cX5_gatherBar 33 = .ok (.iload_n 3, 1) := by decide +kernel
theorem dX5_gatherBar_34 : decode cX5_gatherBar 34 = .ok (.aload_n 0, 1) := by decide +kernel
theorem dX5_gatherBar_35 : decode cX5_gatherBar 35 = .ok (.getfield 32, 3) := by decide +kernel
theorem dX5_gatherBar_38 : decode cX5_gatherBar 38 = .ok (.iload_n 1, 1) := by decide +kernel
theorem dX5_gatherBar_39 : decode cX5_gatherBar 39 = .ok (.bipush 8, 2) := by decide +kernel
theorem dX5_gatherBar_41 : decode cX5_gatherBar 41 = .ok (.imul, 1) := by decide +kernel
theorem dX5_gatherBar_42 : decode cX5_gatherBar 42 = .ok (.iload 4, 2) := by decide +kernel
theorem dX5_gatherBar_44 : decode cX5_gatherBar 44 = .ok (.iadd, 1) := by decide +kernel
theorem dX5_gatherBar_45 : decode cX5_gatherBar 45 = .ok (.iaload, 1) := by decide +kernel
theorem dX5_gatherBar_46 : decode cX5_gatherBar 46 = .ok (.aload_n 0, 1) := by decide +kernel
theorem dX5_gatherBar_47 : decode cX5_gatherBar 47 = .ok (.getfield 35, 3) := by decide +kernel
theorem dX5_gatherBar_50 : decode cX5_gatherBar 50 = .ok (.iload_n 2, 1) := by decide +kernel
theorem dX5_gatherBar_51 : decode cX5_gatherBar 51 = .ok (.iload 4, 2) := by decide +kernel
theorem dX5_gatherBar_53 : decode cX5_gatherBar 53 = .ok (.ixor, 1) := by decide +kernel
theorem dX5_gatherBar_54 : decode cX5_gatherBar 54 = .ok (.iaload, 1) := by decide +kernel
theorem dX5_gatherBar_55 : decode cX5_gatherBar 55 = .ok (.imul, 1) := by decide +kernel
theorem dX5_gatherBar_56 : decode cX5_gatherBar 56 = .ok (.iadd, 1) := by decide +kernel
theorem dX5_gatherBar_57 : decode cX5_gatherBar 57 = .ok (.istore_n 3, 1) := by decide +kernel
theorem dX5_gatherBar_58 : decode cX5_gatherBar 58 = .ok (.iinc 4 1, 3) := by decide +kernel
theorem dX5_gatherBar_61 : decode cX5_gatherBar 61 = .ok (.goto (-43), 3) := by decide +kernel
theorem dX5_gatherBar_64 : decode cX5_gatherBar 64 = .ok (.aload_n 0, 1) := by decide +kernel
theorem dX5_gatherBar_65 : decode cX5_gatherBar 65 = .ok (.getfield 35, 3) := by decide +kernel
theorem dX5_gatherBar_68 : decode cX5_gatherBar 68 = .ok (.iload_n 2, 1) := by decide +kernel
theorem dX5_gatherBar_69 : decode cX5_gatherBar 69 = .ok (.iload_n 3, 1) := by decide +kernel
theorem dX5_gatherBar_70 : decode cX5_gatherBar 70 = .ok (.iastore, 1) := by decide +kernel
theorem dX5_gatherBar_71 : decode cX5_gatherBar 71 = .ok (.iinc 2 (-1), 3) := by decide +kernel
theorem dX5_gatherBar_74 : decode cX5_gatherBar 74 = .ok (.goto (-65), 3) := by decide +kernel
theorem dX5_gatherBar_77 : decode cX5_gatherBar 77 = .ok (.return_, 1) := by decide +kernel
theorem dX5_waysBeside_0 : decode cX5_waysBeside 0 = .ok (.iconst 0, 1) := by decide +kernel
theorem dX5_waysBeside_1 : decode cX5_waysBeside 1 = .ok (.istore_n 2, 1) := by decide +kernel
theorem dX5_waysBeside_2 : decode cX5_waysBeside 2 = .ok (.iconst 0, 1) := by decide +kernel
theorem dX5_waysBeside_3 : decode cX5_waysBeside 3 = .ok (.istore_n 3, 1) := by decide +kernel
theorem dX5_waysBeside_4 : decode cX5_waysBeside 4 = .ok (.iload_n 3, 1) := by decide +kernel
theorem dX5_waysBeside_5 : decode cX5_waysBeside 5 = .ok (.iconst 1, 1) := by decide +kernel
theorem dX5_waysBeside_6 : decode cX5_waysBeside 6 = .ok (.aload_n 0, 1) := by decide +kernel
theorem dX5_waysBeside_7 : decode cX5_waysBeside 7 = .ok (.getfield 15, 3) := by decide +kernel
theorem dX5_waysBeside_10 : decode cX5_waysBeside 10 = .ok (.ishl, 1) := by decide +kernel
theorem dX5_waysBeside_11 : decode cX5_waysBeside 11 = .ok (.if_icmp .ge 24, 3) := by decide +kernel
theorem dX5_waysBeside_14 : decode cX5_waysBeside 14 = .ok (.iload_n 3, 1) := by decide +kernel
theorem dX5_waysBeside_15 : decode cX5_waysBeside 15 = .ok (.iload_n 1, 1) := by decide +kernel
theorem dX5_waysBeside_16 : decode cX5_waysBeside 16 = .ok (.iand, 1) := by decide +kernel
theorem dX5_waysBeside_17 : decode cX5_waysBeside 17 = .ok (.ifCond .ne 12, 3) := by decide +kernel
theorem dX5_waysBeside_20 : decode cX5_waysBeside 20 = .ok (.iload_n 2, 1) := by decide +kernel
theorem dX5_waysBeside_21 : decode cX5_waysBeside 21 = .ok (.aload_n 0, 1) := by decide +kernel
theorem dX5_waysBeside_22 : decode cX5_waysBeside 22 = .ok (.getfield 35, 3) := by decide +kernel
theorem dX5_waysBeside_25 : decode cX5_waysBeside 25 = .ok (.iload_n 3, 1) := by decide +kernel
theorem dX5_waysBeside_26 : decode cX5_waysBeside 26 = .ok (.iaload, 1) := by decide +kernel
theorem dX5_waysBeside_27 : decode cX5_waysBeside 27 = .ok (.iadd, 1) := by decide +kernel
theorem dX5_waysBeside_28 : decode cX5_waysBeside 28 = .ok (.istore_n 2, 1) := by decide +kernel
theorem dX5_waysBeside_29 : decode cX5_waysBeside 29 = .ok (.iinc 3 1, 3) := by decide +kernel
theorem dX5_waysBeside_32 : decode cX5_waysBeside 32 = .ok (.goto (-28), 3) := by decide +kernel
theorem dX5_waysBeside_35 : decode cX5_waysBeside 35 = .ok (.iload_n 2, 1) := by decide +kernel
theorem dX5_waysBeside_36 : decode cX5_waysBeside 36 = .ok (.ireturn, 1) := by decide +kernel
theorem dX5_winters_0 : decode cX5_winters 0 = .ok (.aload_n 0, 1) := by decide +kernel
theorem dX5_winters_1 : decode cX5_winters 1 = .ok (.getfield 18, 3) := by decide +kernel
theorem dX5_winters_4 : decode cX5_winters 4 = .ok (.iload_n 1, 1) := by decide +kernel
theorem dX5_winters_5 : decode cX5_winters 5 = .ok (.baload, 1) := by decide +kernel
theorem dX5_winters_6 : decode cX5_winters 6 = .ok (.ifCond .eq 12, 3) := by decide +kernel
theorem dX5_winters_9 : decode cX5_winters 9 = .ok (.aload_n 0, 1) := by decide +kernel
theorem dX5_winters_10 : decode cX5_winters 10 = .ok (.iconst 0, 1) := by decide +kernel
theorem dX5_winters_11 : decode cX5_winters 11 = .ok (.iload_n 1, 1) := by decide +kernel
theorem dX5_winters_12 : decode cX5_winters 12 = .ok (.iload_n 2, 1) := by decide +kernel
theorem dX5_winters_13 : decode cX5_winters 13 = .ok (.iload_n 3, 1) := by decide +kernel
theorem dX5_winters_14 : decode cX5_winters 14 = .ok (.invokevirtual 101, 3) := by decide +kernel
theorem dX5_winters_17 : decode cX5_winters 17 = .ok (.ireturn, 1) := by decide +kernel
theorem dX5_winters_18 : decode cX5_winters 18 = .ok (.iconst 1, 1) := by decide +kernel
theorem dX5_winters_19 : decode cX5_winters 19 = .ok (.istore 4, 2) := by decide +kernel
theorem dX5_winters_21 : decode cX5_winters 21 = .ok (.iconst 0, 1) := by decide +kernel
theorem dX5_winters_22 : decode cX5_winters 22 = .ok (.istore 5, 2) := by decide +kernel
theorem dX5_winters_24 : decode cX5_winters 24 = .ok (.iload 5, 2) := by decide +kernel
theorem dX5_winters_26 : decode cX5_winters 26 = .ok (.aload_n 0, 1) := by decide +kernel
theorem dX5_winters_27 : decode cX5_winters 27 = .ok (.getfield 15, 3) := by decide +kernel
theorem dX5_winters_30 : decode cX5_winters 30 = .ok (.if_icmp .ge 29, 3) := by decide +kernel
theorem dX5_winters_33 : decode cX5_winters 33 = .ok (.iload 4, 2) := by decide +kernel
theorem dX5_winters_35 : decode cX5_winters 35 = .ok (.iload_n 2, 1) := by decide +kernel
theorem dX5_winters_36 : decode cX5_winters 36 = .ok (.iload 5, 2) := by decide +kernel
theorem dX5_winters_38 : decode cX5_winters 38 = .ok (.invokestatic 76, 3) := by decide +kernel
theorem dX5_winters_41 : decode cX5_winters 41 = .ok (.ifCond .eq 8, 3) := by decide +kernel
theorem dX5_winters_44 : decode cX5_winters 44 = .ok (.bipush 10, 2) := by decide +kernel
theorem dX5_winters_46 : decode cX5_winters 46 = .ok (.goto 4, 3) := by decide +kernel
theorem dX5_winters_49 : decode cX5_winters 49 = .ok (.iconst 1, 1) := by decide +kernel
theorem dX5_winters_50 : decode cX5_winters 50 = .ok (.imul, 1) := by decide +kernel
theorem dX5_winters_51 : decode cX5_winters 51 = .ok (.istore 4, 2) := by decide +kernel
theorem dX5_winters_53 : decode cX5_winters 53 = .ok (.iinc 5 1, 3) := by decide +kernel
theorem dX5_winters_56 : decode cX5_winters 56 = .ok (.goto (-32), 3) := by decide +kernel
theorem dX5_winters_59 : decode cX5_winters 59 = .ok (.iload 4, 2) := by decide +kernel
theorem dX5_winters_61 : decode cX5_winters 61 = .ok (.ireturn, 1) := by decide +kernel
theorem dX5_wintersFrom_0 : decode cX5_wintersFrom 0 = .ok (.iload 4, 2) := by decide +kernel
theorem dX5_wintersFrom_2 : decode cX5_wintersFrom 2 = .ok (.ifCond .ge 5, 3) := by decide +kernel
theorem dX5_wintersFrom_5 : decode cX5_wintersFrom 5 = .ok (.iconst 0, 1) := by decide +kernel
theorem dX5_wintersFrom_6 : decode cX5_wintersFrom 6 = .ok (.ireturn, 1) := by decide +kernel
theorem dX5_wintersFrom_7 : decode cX5_wintersFrom 7 = .ok (.iload_n 1, 1) := by decide +kernel
theorem dX5_wintersFrom_8 : decode cX5_wintersFrom 8 = .ok (.aload_n 0, 1) := by decide +kernel
theorem dX5_wintersFrom_9 : decode cX5_wintersFrom 9 = .ok (.getfield 15, 3) := by decide +kernel
theorem dX5_wintersFrom_12 : decode cX5_wintersFrom 12 = .ok (.if_icmp .lt 14, 3) := by decide +kernel
theorem dX5_wintersFrom_15 : decode cX5_wintersFrom 15 = .ok (.iload 4, 2) := by decide +kernel
theorem dX5_wintersFrom_17 : decode cX5_wintersFrom 17 = .ok (.ifCond .ne 7, 3) := by decide +kernel
theorem dX5_wintersFrom_20 : decode cX5_wintersFrom 20 = .ok (.iconst 1, 1) := by decide +kernel
theorem dX5_wintersFrom_21 : decode cX5_wintersFrom 21 = .ok (.goto 4, 3) := by decide +kernel
theorem dX5_wintersFrom_24 : decode cX5_wintersFrom 24 = .ok (.iconst 0, 1) := by decide +kernel
theorem dX5_wintersFrom_25 : decode cX5_wintersFrom 25 = .ok (.ireturn, 1) := by decide +kernel
theorem dX5_wintersFrom_26 : decode cX5_wintersFrom 26 = .ok (.iload_n 3, 1) := by decide +kernel
theorem dX5_wintersFrom_27 : decode cX5_wintersFrom 27 = .ok (.iload_n 1, 1) := by decide +kernel
theorem dX5_wintersFrom_28 : decode cX5_wintersFrom 28 = .ok (.invokestatic 76, 3) := by decide +kernel
theorem dX5_wintersFrom_31 : decode cX5_wintersFrom 31 = .ok (.ifCond .ne 15, 3) := by decide +kernel
theorem dX5_wintersFrom_34 : decode cX5_wintersFrom 34 = .ok (.aload_n 0, 1) := by decide +kernel
theorem dX5_wintersFrom_35 : decode cX5_wintersFrom 35 = .ok (.iload_n 1, 1) := by decide +kernel
theorem dX5_wintersFrom_36 : decode cX5_wintersFrom 36 = .ok (.iconst 1, 1) := by decide +kernel
theorem dX5_wintersFrom_37 : decode cX5_wintersFrom 37 = .ok (.iadd, 1) := by decide +kernel
theorem dX5_wintersFrom_38 : decode cX5_wintersFrom 38 = .ok (.iload_n 2, 1) := by decide +kernel
theorem dX5_wintersFrom_39 : decode cX5_wintersFrom 39 = .ok (.iload_n 3, 1) := by decide +kernel
theorem dX5_wintersFrom_40 : decode cX5_wintersFrom 40 = .ok (.iload 4, 2) := by decide +kernel
theorem dX5_wintersFrom_42 : decode cX5_wintersFrom 42 = .ok (.invokevirtual 101, 3) := by decide +kernel
theorem dX5_wintersFrom_45 : decode cX5_wintersFrom 45 = .ok (.ireturn, 1) := by decide +kernel
theorem dX5_wintersFrom_46 : decode cX5_wintersFrom 46 = .ok (.iconst 0, 1) := by decide +kernel
theorem dX5_wintersFrom_47 : decode cX5_wintersFrom 47 = .ok (.istore 5, 2) := by decide +kernel
theorem dX5_wintersFrom_49 : decode cX5_wintersFrom 49 = .ok (.iconst 1, 1) := by decide +kernel
theorem dX5_wintersFrom_50 : decode cX5_wintersFrom 50 = .ok (.istore 6, 2) := by decide +kernel
theorem dX5_wintersFrom_52 : decode cX5_wintersFrom 52 = .ok (.iload 6, 2) := by decide +kernel
theorem dX5_wintersFrom_54 : decode cX5_wintersFrom 54 = .ok (.bipush 10, 2) := by decide +kernel
theorem dX5_wintersFrom_56 : decode cX5_wintersFrom 56 = .ok (.if_icmp .gt 34, 3) := by decide +kernel
theorem dX5_wintersFrom_59 : decode cX5_wintersFrom 59 = .ok (.iload 5, 2) := by decide +kernel
theorem dX5_wintersFrom_61 : decode cX5_wintersFrom 61 = .ok (.aload_n 0, 1) := by decide +kernel
theorem dX5_wintersFrom_62 : decode cX5_wintersFrom 62 = .ok (.iload_n 1, 1) := by decide +kernel
theorem dX5_wintersFrom_63 : decode cX5_wintersFrom 63 = .ok (.iconst 1, 1) := by decide +kernel
theorem dX5_wintersFrom_64 : decode cX5_wintersFrom 64 = .ok (.iadd, 1) := by decide +kernel
theorem dX5_wintersFrom_65 : decode cX5_wintersFrom 65 = .ok (.iload_n 2, 1) := by decide +kernel
theorem dX5_wintersFrom_66 : decode cX5_wintersFrom 66 = .ok (.iload_n 3, 1) := by decide +kernel
theorem dX5_wintersFrom_67 : decode cX5_wintersFrom 67 = .ok (.iload 4, 2) := by decide +kernel
theorem dX5_wintersFrom_69 : decode cX5_wintersFrom 69 = .ok (.aload_n 0, 1) := by decide +kernel
theorem dX5_wintersFrom_70 : decode cX5_wintersFrom 70 = .ok (.iload_n 1, 1) := by decide +kernel
theorem dX5_wintersFrom_71 : decode cX5_wintersFrom 71 = .ok (.iload_n 2, 1) := by decide +kernel
theorem dX5_wintersFrom_72 : decode cX5_wintersFrom 72 = .ok (.iload 6, 2) := by decide +kernel
theorem dX5_wintersFrom_74 : decode cX5_wintersFrom 74 = .ok (.invokevirtual 80, 3) := by decide +kernel
theorem dX5_wintersFrom_77 : decode cX5_wintersFrom 77 = .ok (.isub, 1) := by decide +kernel
theorem dX5_wintersFrom_78 : decode cX5_wintersFrom 78 = .ok (.invokevirtual 101, 3) := by decide +kernel
theorem dX5_wintersFrom_81 : decode cX5_wintersFrom 81 = .ok (.iadd, 1) := by decide +kernel
theorem dX5_wintersFrom_82 : decode cX5_wintersFrom 82 = .ok (.istore 5, 2) := by decide +kernel
theorem dX5_wintersFrom_84 : decode cX5_wintersFrom 84 = .ok (.iinc 6 1, 3) := by decide +kernel
theorem dX5_wintersFrom_87 : decode cX5_wintersFrom 87 = .ok (.goto (-35), 3) := by decide +kernel
theorem dX5_wintersFrom_90 : decode cX5_wintersFrom 90 = .ok (.iload 5, 2) := by decide +kernel
theorem dX5_wintersFrom_92 : decode cX5_wintersFrom 92 = .ok (.ireturn, 1) := by decide +kernel
theorem dX5_spread_0 : decode cX5_spread 0 = .ok (.iload_n 3, 1) := by decide +kernel
theorem dX5_spread_1 : decode cX5_spread 1 = .ok (.aload_n 0, 1) := by decide +kernel
theorem dX5_spread_2 : decode cX5_spread 2 = .ok (.getfield 15, 3) := by decide +kernel
theorem dX5_spread_5 : decode cX5_spread 5 = .ok (.if_icmp .lt 28, 3) := by decide +kernel
theorem dX5_spread_8 : decode cX5_spread 8 = .ok (.iload 4, 2) := by decide +kernel
theorem dX5_spread_10 : decode cX5_spread 10 = .ok (.iconst 0, 1) := by decide +kernel
theorem dX5_spread_11 : decode cX5_spread 11 = .ok (.sipush 270, 3) := by decide +kernel
theorem dX5_spread_14 : decode cX5_spread 14 = .ok (.invokestatic 105, 3) := by decide +kernel
theorem dX5_spread_17 : decode cX5_spread 17 = .ok (.ifCond .eq 15, 3) := by decide +kernel
theorem dX5_spread_20 : decode cX5_spread 20 = .ok (.aload_n 0, 1) := by decide +kernel
theorem dX5_spread_21 : decode cX5_spread 21 = .ok (.getfield 38, 3) := by decide +kernel
theorem dX5_spread_24 : decode cX5_spread 24 = .ok (.iload 4, 2) := by decide +kernel
theorem dX5_spread_26 : decode cX5_spread 26 = .ok (.dup2, 1) := by decide +kernel
theorem dX5_spread_27 : decode cX5_spread 27 = .ok (.iaload, 1) := by decide +kernel
theorem dX5_spread_28 : decode cX5_spread 28 = .ok (.iload 5, 2) := by decide +kernel
theorem dX5_spread_30 : decode cX5_spread 30 = .ok (.iadd, 1) := by decide +kernel
theorem dX5_spread_31 : decode cX5_spread 31 = .ok (.iastore, 1) := by decide +kernel
theorem dX5_spread_32 : decode cX5_spread 32 = .ok (.return_, 1) := by decide +kernel
theorem dX5_spread_33 : decode cX5_spread 33 = .ok (.iload_n 2, 1) := by decide +kernel
theorem dX5_spread_34 : decode cX5_spread 34 = .ok (.iload_n 3, 1) := by decide +kernel
theorem dX5_spread_35 : decode cX5_spread 35 = .ok (.invokestatic 76, 3) := by decide +kernel
theorem dX5_spread_38 : decode cX5_spread 38 = .ok (.ifCond .ne 17, 3) := by decide +kernel
theorem dX5_spread_41 : decode cX5_spread 41 = .ok (.aload_n 0, 1) := by decide +kernel
theorem dX5_spread_42 : decode cX5_spread 42 = .ok (.iload_n 1, 1) := by decide +kernel
theorem dX5_spread_43 : decode cX5_spread 43 = .ok (.iload_n 2, 1) := by decide +kernel
theorem dX5_spread_44 : decode cX5_spread 44 = .ok (.iload_n 3, 1) := by decide +kernel
theorem dX5_spread_45 : decode cX5_spread 45 = .ok (.iconst 1, 1) := by decide +kernel
theorem dX5_spread_46 : decode cX5_spread 46 = .ok (.iadd, 1) := by decide +kernel
theorem dX5_spread_47 : decode cX5_spread 47 = .ok (.iload 4, 2) := by decide +kernel
theorem dX5_spread_49 : decode cX5_spread 49 = .ok (.iload 5, 2) := by decide +kernel
theorem dX5_spread_51 : decode cX5_spread 51 = .ok (.invokevirtual 89, 3) := by decide +kernel
theorem dX5_spread_54 : decode cX5_spread 54 = .ok (.return_, 1) := by decide +kernel
theorem dX5_spread_55 : decode cX5_spread 55 = .ok (.iconst 1, 1) := by decide +kernel
theorem dX5_spread_56 : decode cX5_spread 56 = .ok (.istore 6, 2) := by decide +kernel
theorem dX5_spread_58 : decode cX5_spread 58 = .ok (.iload 6, 2) := by decide +kernel
theorem dX5_spread_60 : decode cX5_spread 60 = .ok (.bipush 10, 2) := by decide +kernel
theorem dX5_spread_62 : decode cX5_spread 62 = .ok (.if_icmp .gt 31, 3) := by decide +kernel
theorem dX5_spread_65 : decode cX5_spread 65 = .ok (.aload_n 0, 1) := by decide +kernel
theorem dX5_spread_66 : decode cX5_spread 66 = .ok (.iload_n 1, 1) := by decide +kernel
theorem dX5_spread_67 : decode cX5_spread 67 = .ok (.iload_n 2, 1) := by decide +kernel
theorem dX5_spread_68 : decode cX5_spread 68 = .ok (.iload_n 3, 1) := by decide +kernel
theorem dX5_spread_69 : decode cX5_spread 69 = .ok (.iconst 1, 1) := by decide +kernel
theorem dX5_spread_70 : decode cX5_spread 70 = .ok (.iadd, 1) := by decide +kernel
theorem dX5_spread_71 : decode cX5_spread 71 = .ok (.iload 4, 2) := by decide +kernel
theorem dX5_spread_73 : decode cX5_spread 73 = .ok (.aload_n 0, 1) := by decide +kernel
theorem dX5_spread_74 : decode cX5_spread 74 = .ok (.iload_n 3, 1) := by decide +kernel
theorem dX5_spread_75 : decode cX5_spread 75 = .ok (.iload_n 1, 1) := by decide +kernel
theorem dX5_spread_76 : decode cX5_spread 76 = .ok (.iload 6, 2) := by decide +kernel
theorem dX5_spread_78 : decode cX5_spread 78 = .ok (.invokevirtual 80, 3) := by decide +kernel
theorem dX5_spread_81 : decode cX5_spread 81 = .ok (.iadd, 1) := by decide +kernel
theorem dX5_spread_82 : decode cX5_spread 82 = .ok (.iload 5, 2) := by decide +kernel
theorem dX5_spread_84 : decode cX5_spread 84 = .ok (.invokevirtual 89, 3) := by decide +kernel
theorem dX5_spread_87 : decode cX5_spread 87 = .ok (.iinc 6 1, 3) := by decide +kernel
theorem dX5_spread_90 : decode cX5_spread 90 = .ok (.goto (-32), 3) := by decide +kernel
theorem dX5_spread_93 : decode cX5_spread 93 = .ok (.return_, 1) := by decide +kernel
theorem dX5_leaves_0 : decode cX5_leaves 0 = .ok (.aload_n 0, 1) := by decide +kernel
theorem dX5_leaves_1 : decode cX5_leaves 1 = .ok (.getfield 26, 3) := by decide +kernel
theorem dX5_leaves_4 : decode cX5_leaves 4 = .ok (.iload_n 1, 1) := by decide +kernel
theorem dX5_leaves_5 : decode cX5_leaves 5 = .ok (.iaload, 1) := by decide +kernel
theorem dX5_leaves_6 : decode cX5_leaves 6 = .ok (.aload_n 0, 1) := by decide +kernel
theorem dX5_leaves_7 : decode cX5_leaves 7 = .ok (.getfield 29, 3) := by decide +kernel
theorem dX5_leaves_10 : decode cX5_leaves 10 = .ok (.iload_n 2, 1) := by decide +kernel
theorem dX5_leaves_11 : decode cX5_leaves 11 = .ok (.bipush 11, 2) := by decide +kernel
theorem dX5_leaves_13 : decode cX5_leaves 13 = .ok (.imul, 1) := by decide +kernel
theorem dX5_leaves_14 : decode cX5_leaves 14 = .ok (.iload_n 3, 1) := by decide +kernel
theorem dX5_leaves_15 : decode cX5_leaves 15 = .ok (.iadd, 1) := by decide +kernel
theorem dX5_leaves_16 : decode cX5_leaves 16 = .ok (.iaload, 1) := by decide +kernel
theorem dX5_leaves_17 : decode cX5_leaves 17 = .ok (.imul, 1) := by decide +kernel
theorem dX5_leaves_18 : decode cX5_leaves 18 = .ok (.ireturn, 1) := by decide +kernel
theorem dX5_isIn_0 : decode cX5_isIn 0 = .ok (.iload_n 0, 1) := by decide +kernel
theorem dX5_isIn_1 : decode cX5_isIn 1 = .ok (.iload_n 1, 1) := by decide +kernel
theorem dX5_isIn_2 : decode cX5_isIn 2 = .ok (.ishr, 1) := by decide +kernel
theorem dX5_isIn_3 : decode cX5_isIn 3 = .ok (.iconst 1, 1) := by decide +kernel
theorem dX5_isIn_4 : decode cX5_isIn 4 = .ok (.iand, 1) := by decide +kernel
theorem dX5_isIn_5 : decode cX5_isIn 5 = .ok (.iconst 1, 1) := by decide +kernel
theorem dX5_isIn_6 : decode cX5_isIn 6 = .ok (.if_icmp .ne 7, 3) := by decide +kernel
theorem dX5_isIn_9 : decode cX5_isIn 9 = .ok (.iconst 1, 1) := by decide +kernel
theorem dX5_isIn_10 : decode cX5_isIn 10 = .ok (.goto 4, 3) := by decide +kernel
theorem dX5_isIn_13 : decode cX5_isIn 13 = .ok (.iconst 0, 1) := by decide +kernel
theorem dX5_isIn_14 : decode cX5_isIn 14 = .ok (.ireturn, 1) := by decide +kernel
theorem dX6_init_0 : decode cX6_init 0 = .ok (.aload_n 0, 1) := by decide +kernel
theorem dX6_init_1 : decode cX6_init 1 = .ok (.invokespecial 3, 3) := by decide +kernel
theorem dX6_init_4 : decode cX6_init 4 = .ok (.aload_n 0, 1) := by decide +kernel
theorem dX6_init_5 : decode cX6_init 5 = .ok (.new 9, 3) := by decide +kernel
theorem dX6_init_8 : decode cX6_init 8 = .ok (.dup, 1) := by decide +kernel
theorem dX6_init_9 : decode cX6_init 9 = .ok (.invokespecial 11, 3) := by decide +kernel
theorem dX6_init_12 : decode cX6_init 12 = .ok (.putfield 12, 3) := by decide +kernel
theorem dX6_init_15 : decode cX6_init 15 = .ok (.aload_n 0, 1) := by decide +kernel
theorem dX6_init_16 : decode cX6_init 16 = .ok (.aload_n 0, 1) := by decide +kernel
theorem dX6_init_17 : decode cX6_init 17 = .ok (.getfield 12, 3) := by decide +kernel
theorem dX6_init_20 : decode cX6_init 20 = .ok (.getfield 16, 3) := by decide +kernel
theorem dX6_init_23 : decode cX6_init 23 = .ok (.putfield 20, 3) := by decide +kernel
theorem dX6_init_26 : decode cX6_init 26 = .ok (.aload_n 0, 1) := by decide +kernel
theorem dX6_init_27 : decode cX6_init 27 = .ok (.new 21, 3) := by decide +kernel
theorem dX6_init_30 : decode cX6_init 30 = .ok (.dup, 1) := by decide +kernel
theorem dX6_init_31 : decode cX6_init 31 = .ok (.invokespecial 23, 3) := by decide +kernel
theorem dX6_init_34 : decode cX6_init 34 = .ok (.putfield 24, 3) := by decide +kernel
theorem dX6_init_37 : decode cX6_init 37 = .ok (.aload_n 0, 1) := by decide +kernel
theorem dX6_init_38 : decode cX6_init 38 = .ok (.new 28, 3) := by decide +kernel
theorem dX6_init_41 : decode cX6_init 41 = .ok (.dup, 1) := by decide +kernel
theorem dX6_init_42 : decode cX6_init 42 = .ok (.invokespecial 30, 3) := by decide +kernel
theorem dX6_init_45 : decode cX6_init 45 = .ok (.putfield 31, 3) := by decide +kernel
theorem dX6_init_48 : decode cX6_init 48 = .ok (.aload_n 0, 1) := by decide +kernel
theorem dX6_init_49 : decode cX6_init 49 = .ok (.iconst 2, 1) := by decide +kernel
theorem dX6_init_50 : decode cX6_init 50 = .ok (.anewarray 28, 3) := by decide +kernel
theorem dX6_init_53 : decode cX6_init 53 = .ok (.putfield 35, 3) := by decide +kernel
theorem dX6_init_56 : decode cX6_init 56 = .ok (.iconst 0, 1) := by decide +kernel
theorem dX6_init_57 : decode cX6_init 57 = .ok (.istore_n 1, 1) := by decide +kernel
theorem dX6_init_58 : decode cX6_init 58 = .ok (.iload_n 1, 1) := by decide +kernel
theorem dX6_init_59 : decode cX6_init 59 = .ok (.iconst 2, 1) := by decide +kernel
theorem dX6_init_60 : decode cX6_init 60 = .ok (.if_icmp .ge 22, 3) := by decide +kernel
theorem dX6_init_63 : decode cX6_init 63 = .ok (.aload_n 0, 1) := by decide +kernel
theorem dX6_init_64 : decode cX6_init 64 = .ok (.getfield 35, 3) := by decide +kernel
theorem dX6_init_67 : decode cX6_init 67 = .ok (.iload_n 1, 1) := by decide +kernel
theorem dX6_init_68 : decode cX6_init 68 = .ok (.new 28, 3) := by decide +kernel
theorem dX6_init_71 : decode cX6_init 71 = .ok (.dup, 1) := by decide +kernel
theorem dX6_init_72 : decode cX6_init 72 = .ok (.invokespecial 30, 3) := by decide +kernel
theorem dX6_init_75 : decode cX6_init 75 = .ok (.aastore, 1) := by decide +kernel
theorem dX6_init_76 : decode cX6_init 76 = .ok (.iinc 1 1, 3) := by decide +kernel
theorem dX6_init_79 : decode cX6_init 79 = .ok (.goto (-21), 3) := by decide +kernel
theorem dX6_init_82 : decode cX6_init 82 = .ok (.aload_n 0, 1) := by decide +kernel
theorem dX6_init_83 : decode cX6_init 83 = .ok (.iconst 2, 1) := by decide +kernel
theorem dX6_init_84 : decode cX6_init 84 = .ok (.newarray .boolean, 2) := by decide +kernel
theorem dX6_init_86 : decode cX6_init 86 = .ok (.putfield 39, 3) := by decide +kernel
theorem dX6_init_89 : decode cX6_init 89 = .ok (.aload_n 0, 1) := by decide +kernel
theorem dX6_init_90 : decode cX6_init 90 = .ok (.new 43, 3) := by decide +kernel
theorem dX6_init_93 : decode cX6_init 93 = .ok (.dup, 1) := by decide +kernel
theorem dX6_init_94 : decode cX6_init 94 = .ok (.invokespecial 45, 3) := by decide +kernel
theorem dX6_init_97 : decode cX6_init 97 = .ok (.putfield 46, 3) := by decide +kernel
theorem dX6_init_100 : decode cX6_init 100 = .ok (.aload_n 0, 1) := by decide +kernel
theorem dX6_init_101 : decode cX6_init 101 = .ok (.new 50, 3) := by decide +kernel
theorem dX6_init_104 : decode cX6_init 104 = .ok (.dup, 1) := by decide +kernel
theorem dX6_init_105 : decode cX6_init 105 = .ok (.invokespecial 52, 3) := by decide +kernel
theorem dX6_init_108 : decode cX6_init 108 = .ok (.putfield 53, 3) := by decide +kernel
theorem dX6_init_111 : decode cX6_init 111 = .ok (.aload_n 0, 1) := by decide +kernel
theorem dX6_init_112 : decode cX6_init 112 = .ok (.lconst 0, 1) := by decide +kernel
theorem dX6_init_113 : decode cX6_init 113 = .ok (.putfield 57, 3) := by decide +kernel
theorem dX6_init_116 : decode cX6_init 116 = .ok (.return_, 1) := by decide +kernel
theorem dX6_type_0 : decode cX6_type 0 = .ok (.iload_n 3, 1) := by decide +kernel
theorem dX6_type_1 : decode cX6_type 1 = .ok (.iconst 1, 1) := by decide +kernel
theorem dX6_type_2 : decode cX6_type 2 = .ok (.bipush 8, 2) := by decide +kernel
theorem dX6_type_4 : decode cX6_type 4 = .ok (.invokestatic 61, 3) := by decide +kernel
theorem dX6_type_7 : decode cX6_type 7 = .ok (.ifCond .ne 5, 3) := by decide +kernel
theorem dX6_type_10 : decode cX6_type 10 = .ok (.iconst (-1), 1) := by decide +kernel
theorem dX6_type_11 : decode cX6_type 11 = .ok (.ireturn, 1) := by decide +kernel
theorem dX6_type_12 : decode cX6_type 12 = .ok (.aload_n 0, 1) := by decide +kernel
theorem dX6_type_13 : decode cX6_type 13 = .ok (.getfield 20, 3) := by decide +kernel
theorem dX6_type_16 : decode cX6_type 16 = .ok (.getfield 65, 3) := by decide +kernel
theorem dX6_type_19 : decode cX6_type 19 = .ok (.iload_n 3, 1) := by decide +kernel
theorem dX6_type_20 : decode cX6_type 20 = .ok (.iadd, 1) := by decide +kernel
theorem dX6_type_21 : decode cX6_type 21 = .ok (.sipush 300, 3) := by decide +kernel
theorem dX6_type_24 : decode cX6_type 24 = .ok (.if_icmp .le 6, 3) := by decide +kernel
theorem dX6_type_27 : decode cX6_type 27 = .ok (.bipush (-3), 2) := by decide +kernel
theorem dX6_type_29 : decode cX6_type 29 = .ok (.ireturn, 1) := by decide +kernel
theorem dX6_type_30 : decode cX6_type 30 = .ok (.aload_n 0, 1) := by decide +kernel
theorem dX6_type_31 : decode cX6_type 31 = .ok (.getfield 20, 3) := by decide +kernel
theorem dX6_type_34 : decode cX6_type 34 = .ok (.lload_n 1, 1) := by decide +kernel
theorem dX6_type_35 : decode cX6_type 35 = .ok (.iload_n 3, 1) := by decide +kernel
theorem dX6_type_36 : decode cX6_type 36 = .ok (.invokevirtual 71, 3) := by decide +kernel
theorem dX6_type_39 : decode cX6_type 39 = .ok (.aload_n 0, 1) := by decide +kernel
theorem dX6_type_40 : decode cX6_type 40 = .ok (.getfield 20, 3) := by decide +kernel
theorem dX6_type_43 : decode cX6_type 43 = .ok (.getfield 65, 3) := by decide +kernel
theorem dX6_type_46 : decode cX6_type 46 = .ok (.ireturn, 1) := by decide +kernel
theorem dX6_clear_0 : decode cX6_clear 0 = .ok (.aload_n 0, 1) := by decide +kernel
theorem dX6_clear_1 : decode cX6_clear 1 = .ok (.getfield 20, 3) := by decide +kernel
theorem dX6_clear_4 : decode cX6_clear 4 = .ok (.getfield 65, 3) := by decide +kernel
theorem dX6_clear_7 : decode cX6_clear 7 = .ok (.istore_n 1, 1) := by decide +kernel
theorem dX6_clear_8 : decode cX6_clear 8 = .ok (.aload_n 0, 1) := by decide +kernel
theorem dX6_clear_9 : decode cX6_clear 9 = .ok (.getfield 20, 3) := by decide +kernel
theorem dX6_clear_12 : decode cX6_clear 12 = .ok (.iconst 0, 1) := by decide +kernel
theorem dX6_clear_13 : decode cX6_clear 13 = .ok (.putfield 65, 3) := by decide +kernel
theorem dX6_clear_16 : decode cX6_clear 16 = .ok (.iload_n 1, 1) := by decide +kernel
theorem dX6_clear_17 : decode cX6_clear 17 = .ok (.ireturn, 1) := by decide +kernel
theorem dX6_square_0 : decode cX6_square 0 = .ok (.aload_n 0, 1) := by decide +kernel
theorem dX6_square_1 : decode cX6_square 1 = .ok (.getfield 12, 3) := by decide +kernel
theorem dX6_square_4 : decode cX6_square 4 = .ok (.invokevirtual 75, 3) := by decide +kernel
theorem dX6_square_7 : decode cX6_square 7 = .ok (.istore_n 1, 1) := by decide +kernel
theorem dX6_square_8 : decode cX6_square 8 = .ok (.iload_n 1, 1) := by decide +kernel
theorem dX6_square_9 : decode cX6_square 9 = .ok (.ifCond .ge 5, 3) := by decide +kernel
theorem dX6_square_12 : decode cX6_square 12 = .ok (.iload_n 1, 1) := by decide +kernel
theorem dX6_square_13 : decode cX6_square 13 = .ok (.ireturn, 1) := by decide +kernel
theorem dX6_square_14 : decode cX6_square 14 = .ok (.aload_n 0, 1) := by decide +kernel
theorem dX6_square_15 : decode cX6_square 15 = .ok (.getfield 24, 3) := by decide +kernel
theorem dX6_square_18 : decode cX6_square 18 = .ok (.aload_n 0, 1) := by decide +kernel
theorem dX6_square_19 : decode cX6_square 19 = .ok (.getfield 12, 3) := by decide +kernel
theorem dX6_square_22 : decode cX6_square 22 = .ok (.getfield 79, 3) := by decide +kernel
theorem dX6_square_25 : decode cX6_square 25 = .ok (.invokevirtual 82, 3) := by decide +kernel
theorem dX6_square_28 : decode cX6_square 28 = .ok (.aload_n 0, 1) := by decide +kernel
theorem dX6_square_29 : decode cX6_square 29 = .ok (.getfield 20, 3) := by decide +kernel
theorem dX6_square_32 : decode cX6_square 32 = .ok (.iconst 0, 1) := by decide +kernel
theorem dX6_square_33 : decode cX6_square 33 = .ok (.putfield 65, 3) := by decide +kernel
theorem dX6_square_36 : decode cX6_square 36 = .ok (.aload_n 0, 1) := by decide +kernel
theorem dX6_square_37 : decode cX6_square 37 = .ok (.getfield 31, 3) := by decide +kernel
theorem dX6_square_40 : decode cX6_square 40 = .ok (.invokevirtual 86, 3) := by decide +kernel
theorem dX6_square_43 : decode cX6_square 43 = .ok (.iconst 0, 1) := by decide +kernel
theorem dX6_square_44 : decode cX6_square 44 = .ok (.istore_n 2, 1) := by decide +kernel
theorem dX6_square_45 : decode cX6_square 45 = .ok (.iload_n 2, 1) := by decide +kernel
theorem dX6_square_46 : decode cX6_square 46 = .ok (.iconst 2, 1) := by decide +kernel
theorem dX6_square_47 : decode cX6_square 47 = .ok (.if_icmp .ge 16, 3) := by decide +kernel
theorem dX6_square_50 : decode cX6_square 50 = .ok (.aload_n 0, 1) := by decide +kernel
theorem dX6_square_51 : decode cX6_square 51 = .ok (.getfield 39, 3) := by decide +kernel
theorem dX6_square_54 : decode cX6_square 54 = .ok (.iload_n 2, 1) := by decide +kernel
theorem dX6_square_55 : decode cX6_square 55 = .ok (.iconst 0, 1) := by decide +kernel
theorem dX6_square_56 : decode cX6_square 56 = .ok (.bastore, 1) := by decide +kernel
theorem dX6_square_57 : decode cX6_square 57 = .ok (.iinc 2 1, 3) := by decide +kernel
theorem dX6_square_60 : decode cX6_square 60 = .ok (.goto (-15), 3) := by decide +kernel
theorem dX6_square_63 : decode cX6_square 63 = .ok (.iload_n 1, 1) := by decide +kernel
theorem dX6_square_64 : decode cX6_square 64 = .ok (.ireturn, 1) := by decide +kernel
theorem dX6_bar_0 : decode cX6_bar 0 = .ok (.aload_n 0, 1) := by decide +kernel
theorem dX6_bar_1 : decode cX6_bar 1 = .ok (.getfield 24, 3) := by decide +kernel
theorem dX6_bar_4 : decode cX6_bar 4 = .ok (.iload_n 1, 1) := by decide +kernel
theorem dX6_bar_5 : decode cX6_bar 5 = .ok (.invokevirtual 89, 3) := by decide +kernel
theorem dX6_bar_8 : decode cX6_bar 8 = .ok (.ifCond .eq 15, 3) := by decide +kernel
theorem dX6_bar_11 : decode cX6_bar 11 = .ok (.aload_n 0, 1) := by decide +kernel
theorem dX6_bar_12 : decode cX6_bar 12 = .ok (.getfield 24, 3) := by decide +kernel
theorem dX6_bar_15 : decode cX6_bar 15 = .ok (.getfield 93, 3) := by decide +kernel
theorem dX6_bar_18 : decode cX6_bar 18 = .ok (.iload_n 1, 1) := by decide +kernel
theorem dX6_bar_19 : decode cX6_bar 19 = .ok (.iaload, 1) := by decide +kernel
theorem dX6_bar_20 : decode cX6_bar 20 = .ok (.goto 4, 3) := by decide +kernel
theorem dX6_bar_23 : decode cX6_bar 23 = .ok (.iconst (-1), 1) := by decide +kernel
theorem dX6_bar_24 : decode cX6_bar 24 = .ok (.ireturn, 1) := by decide +kernel
theorem dX6_person_0 : decode cX6_person 0 = .ok (.aload_n 0, 1) := by decide +kernel
theorem dX6_person_1 : decode cX6_person 1 = .ok (.getfield 24, 3) := by decide +kernel
theorem dX6_person_4 : decode cX6_person 4 = .ok (.iload_n 1, 1) := by decide +kernel
theorem dX6_person_5 : decode cX6_person 5 = .ok (.invokevirtual 97, 3) := by decide +kernel
theorem dX6_person_8 : decode cX6_person 8 = .ok (.ifCond .eq 15, 3) := by decide +kernel
theorem dX6_person_11 : decode cX6_person 11 = .ok (.aload_n 0, 1) := by decide +kernel
theorem dX6_person_12 : decode cX6_person 12 = .ok (.getfield 24, 3) := by decide +kernel
theorem dX6_person_15 : decode cX6_person 15 = .ok (.getfield 100, 3) := by decide +kernel
theorem dX6_person_18 : decode cX6_person 18 = .ok (.iload_n 1, 1) := by decide +kernel
theorem dX6_person_19 : decode cX6_person 19 = .ok (.iaload, 1) := by decide +kernel
theorem dX6_person_20 : decode cX6_person 20 = .ok (.goto 4, 3) := by decide +kernel
theorem dX6_person_23 : decode cX6_person 23 = .ok (.iconst (-1), 1) := by decide +kernel
theorem dX6_person_24 : decode cX6_person 24 = .ok (.ireturn, 1) := by decide +kernel
theorem dX6_rain_0 : decode cX6_rain 0 = .ok (.iload_n 1, 1) := by decide +kernel
theorem dX6_rain_1 : decode cX6_rain 1 = .ok (.invokestatic 103, 3) := by decide +kernel
theorem dX6_rain_4 : decode cX6_rain 4 = .ok (.ifCond .eq 15, 3) := by decide +kernel
theorem dX6_rain_7 : decode cX6_rain 7 = .ok (.aload_n 0, 1) := by decide +kernel
theorem dX6_rain_8 : decode cX6_rain 8 = .ok (.getfield 24, 3) := by decide +kernel
theorem dX6_rain_11 : decode cX6_rain 11 = .ok (.getfield 106, 3) := by decide +kernel
theorem dX6_rain_14 : decode cX6_rain 14 = .ok (.iload_n 1, 1) := by decide +kernel
theorem dX6_rain_15 : decode cX6_rain 15 = .ok (.iaload, 1) := by decide +kernel
theorem dX6_rain_16 : decode cX6_rain 16 = .ok (.goto 4, 3) := by decide +kernel
theorem dX6_rain_19 : decode cX6_rain 19 = .ok (.iconst (-1), 1) := by decide +kernel
theorem dX6_rain_20 : decode cX6_rain 20 = .ok (.ireturn, 1) := by decide +kernel
theorem dX6_paint_0 : decode cX6_paint 0 = .ok (.aload_n 0, 1) := by decide +kernel
theorem dX6_paint_1 : decode cX6_paint 1 = .ok (.getfield 24, 3) := by decide +kernel
theorem dX6_paint_4 : decode cX6_paint 4 = .ok (.iload_n 1, 1) := by decide +kernel
theorem dX6_paint_5 : decode cX6_paint 5 = .ok (.invokevirtual 89, 3) := by decide +kernel
theorem dX6_paint_8 : decode cX6_paint 8 = .ok (.ifCond .eq 10, 3) := by decide +kernel
theorem dX6_paint_11 : decode cX6_paint 11 = .ok (.iload_n 2, 1) := by decide +kernel
theorem dX6_paint_12 : decode cX6_paint 12 = .ok (.invokestatic 103, 3) := by decide +kernel
theorem dX6_paint_15 : decode cX6_paint 15 = .ok (.ifCond .ne 5, 3) := by decide +kernel
theorem dX6_paint_18 : decode cX6_paint 18 = .ok (.iconst (-1), 1) := by decide +kernel
theorem dX6_paint_19 : decode cX6_paint 19 = .ok (.ireturn, 1) := by decide +kernel
theorem dX6_paint_20 : decode cX6_paint 20 = .ok (.aload_n 0, 1) := by decide +kernel
theorem dX6_paint_21 : decode cX6_paint 21 = .ok (.getfield 24, 3) := by decide +kernel
theorem dX6_paint_24 : decode cX6_paint 24 = .ok (.iload_n 1, 1) := by decide +kernel
theorem dX6_paint_25 : decode cX6_paint 25 = .ok (.iload_n 2, 1) := by decide +kernel
theorem dX6_paint_26 : decode cX6_paint 26 = .ok (.invokevirtual 109, 3) := by decide +kernel
theorem dX6_paint_29 : decode cX6_paint 29 = .ok (.ifCond .eq 5, 3) := by decide +kernel
theorem dX6_paint_32 : decode cX6_paint 32 = .ok (.iconst 2, 1) := by decide +kernel
theorem dX6_paint_33 : decode cX6_paint 33 = .ok (.ireturn, 1) := by decide +kernel
theorem dX6_paint_34 : decode cX6_paint 34 = .ok (.aload_n 0, 1) := by decide +kernel
theorem dX6_paint_35 : decode cX6_paint 35 = .ok (.getfield 24, 3) := by decide +kernel
theorem dX6_paint_38 : decode cX6_paint 38 = .ok (.iload_n 1, 1) := by decide +kernel
theorem dX6_paint_39 : decode cX6_paint 39 = .ok (.iload_n 2, 1) := by decide +kernel
theorem dX6_paint_40 : decode cX6_paint 40 = .ok (.invokevirtual 113, 3) := by decide +kernel
theorem dX6_paint_43 : decode cX6_paint 43 = .ok (.ifCond .eq 7, 3) := by decide +kernel
theorem dX6_paint_46 : decode cX6_paint 46 = .ok (.iconst 1, 1) := by decide +kernel
theorem dX6_paint_47 : decode cX6_paint 47 = .ok (.goto 4, 3) := by decide +kernel
theorem dX6_paint_50 : decode cX6_paint 50 = .ok (.iconst 0, 1) := by decide +kernel
theorem dX6_paint_51 : decode cX6_paint 51 = .ok (.ireturn, 1) := by decide +kernel
theorem dX6_holds_0 : decode cX6_holds 0 = .ok (.aload_n 0, 1) := by decide +kernel
theorem dX6_holds_1 : decode cX6_holds 1 = .ok (.getfield 24, 3) := by decide +kernel
theorem dX6_holds_4 : decode cX6_holds 4 = .ok (.iload_n 1, 1) := by decide +kernel
theorem dX6_holds_5 : decode cX6_holds 5 = .ok (.invokevirtual 97, 3) := by decide +kernel
theorem dX6_holds_8 : decode cX6_holds 8 = .ok (.ifCond .eq 14, 3) := by decide +kernel
theorem dX6_holds_11 : decode cX6_holds 11 = .ok (.aload_n 0, 1) := by decide +kernel
theorem dX6_holds_12 : decode cX6_holds 12 = .ok (.getfield 24, 3) := by decide +kernel
theorem dX6_holds_15 : decode cX6_holds 15 = .ok (.iload_n 2, 1) := by decide +kernel
theorem dX6_holds_16 : decode cX6_holds 16 = .ok (.invokevirtual 89, 3) := by decide +kernel
theorem dX6_holds_19 : decode cX6_holds 19 = .ok (.ifCond .ne 5, 3) := by decide +kernel
theorem dX6_holds_22 : decode cX6_holds 22 = .ok (.iconst (-1), 1) := by decide +kernel
theorem dX6_holds_23 : decode cX6_holds 23 = .ok (.ireturn, 1) := by decide +kernel
theorem dX6_holds_24 : decode cX6_holds 24 = .ok (.iload_n 3, 1) := by decide +kernel
theorem dX6_holds_25 : decode cX6_holds 25 = .ok (.invokestatic 103, 3) := by decide +kernel
theorem dX6_holds_28 : decode cX6_holds 28 = .ok (.ifCond .eq 16, 3) := by decide +kernel
theorem dX6_holds_31 : decode cX6_holds 31 = .ok (.iload 4, 2) := by decide +kernel
theorem dX6_holds_33 : decode cX6_holds 33 = .ok (.iconst 1, 1) := by decide +kernel
theorem dX6_holds_34 : decode cX6_holds 34 = .ok (.bipush 10, 2) := by decide +kernel
theorem dX6_holds_36 : decode cX6_holds 36 = .ok (.iload_n 3, 1) := by decide +kernel
theorem dX6_holds_37 : decode cX6_holds 37 = .ok (.isub, 1) := by decide +kernel
theorem dX6_holds_38 : decode cX6_holds 38 = .ok (.invokestatic 61, 3) := by decide +kernel
theorem dX6_holds_41 : decode cX6_holds 41 = .ok (.ifCond .ne 5, 3) := by decide +kernel
theorem dX6_holds_44 : decode cX6_holds 44 = .ok (.iconst (-1), 1) := by decide +kernel
theorem dX6_holds_45 : decode cX6_holds 45 = .ok (.ireturn, 1) := by decide +kernel
theorem dX6_holds_46 : decode cX6_holds 46 = .ok (.aload_n 0, 1) := by decide +kernel
theorem dX6_holds_47 : decode cX6_holds 47 = .ok (.getfield 31, 3) := by decide +kernel
theorem dX6_holds_50 : decode cX6_holds 50 = .ok (.getfield 116, 3) := by decide +kernel
theorem dX6_holds_53 : decode cX6_holds 53 = .ok (.bipush 12, 2) := by decide +kernel
theorem dX6_holds_55 : decode cX6_holds 55 = .ok (.if_icmp .lt 6, 3) := by decide +kernel
theorem dX6_holds_58 : decode cX6_holds 58 = .ok (.bipush (-3), 2) := by decide +kernel
theorem dX6_holds_60 : decode cX6_holds 60 = .ok (.ireturn, 1) := by decide +kernel
theorem dX6_holds_61 : decode cX6_holds 61 = .ok (.aload_n 0, 1) := by decide +kernel
theorem dX6_holds_62 : decode cX6_holds 62 = .ok (.getfield 31, 3) := by decide +kernel
theorem dX6_holds_65 : decode cX6_holds 65 = .ok (.iload_n 1, 1) := by decide +kernel
theorem dX6_holds_66 : decode cX6_holds 66 = .ok (.iload_n 2, 1) := by decide +kernel
theorem dX6_holds_67 : decode cX6_holds 67 = .ok (.iload_n 3, 1) := by decide +kernel
theorem dX6_holds_68 : decode cX6_holds 68 = .ok (.iload 4, 2) := by decide +kernel
theorem dX6_holds_70 : decode cX6_holds 70 = .ok (.invokevirtual 119, 3) := by decide +kernel
theorem dX6_holds_73 : decode cX6_holds 73 = .ok (.aload_n 0, 1) := by decide +kernel
theorem dX6_holds_74 : decode cX6_holds 74 = .ok (.getfield 31, 3) := by decide +kernel
theorem dX6_holds_77 : decode cX6_holds 77 = .ok (.getfield 116, 3) := by decide +kernel
theorem dX6_holds_80 : decode cX6_holds 80 = .ok (.ireturn, 1) := by decide +kernel
theorem dX6_undo_0 : decode cX6_undo 0 = .ok (.aload_n 0, 1) := by decide +kernel
theorem dX6_undo_1 : decode cX6_undo 1 = .ok (.getfield 31, 3) := by decide +kernel
theorem dX6_undo_4 : decode cX6_undo 4 = .ok (.getfield 116, 3) := by decide +kernel
theorem dX6_undo_7 : decode cX6_undo 7 = .ok (.ifCond .gt 6, 3) := by decide +kernel
theorem dX6_undo_10 : decode cX6_undo 10 = .ok (.bipush (-2), 2) := by decide +kernel
theorem dX6_undo_12 : decode cX6_undo 12 = .ok (.ireturn, 1) := by decide +kernel
theorem dX6_undo_13 : decode cX6_undo 13 = .ok (.aload_n 0, 1) := by decide +kernel
theorem dX6_undo_14 : decode cX6_undo 14 = .ok (.getfield 31, 3) := by decide +kernel
theorem dX6_undo_17 : decode cX6_undo 17 = .ok (.dup, 1) := by decide +kernel
theorem dX6_undo_18 : decode cX6_undo 18 = .ok (.getfield 116, 3) := by decide +kernel
theorem dX6_undo_21 : decode cX6_undo 21 = .ok (.iconst 1, 1) := by decide +kernel
theorem dX6_undo_22 : decode cX6_undo 22 = .ok (.isub, 1) := by decide +kernel
theorem dX6_undo_23 : decode cX6_undo 23 = .ok (.putfield 116, 3) := by decide +kernel
theorem dX6_undo_26 : decode cX6_undo 26 = .ok (.aload_n 0, 1) := by decide +kernel
theorem dX6_undo_27 : decode cX6_undo 27 = .ok (.getfield 31, 3) := by decide +kernel
theorem dX6_undo_30 : decode cX6_undo 30 = .ok (.getfield 116, 3) := by decide +kernel
theorem dX6_undo_33 : decode cX6_undo 33 = .ok (.ireturn, 1) := by decide +kernel
theorem dX6_held_0 : decode cX6_held 0 = .ok (.iload_n 1, 1) := by decide +kernel
theorem dX6_held_1 : decode cX6_held 1 = .ok (.iconst 0, 1) := by decide +kernel
theorem dX6_held_2 : decode cX6_held 2 = .ok (.aload_n 0, 1) := by decide +kernel
theorem dX6_held_3 : decode cX6_held 3 = .ok (.getfield 31, 3) := by decide +kernel
theorem dX6_held_6 : decode cX6_held 6 = .ok (.getfield 116, 3) := by decide +kernel
theorem dX6_held_9 : decode cX6_held 9 = .ok (.iconst 1, 1) := by decide +kernel
theorem dX6_held_10 : decode cX6_held 10 = .ok (.isub, 1) := by decide +kernel
theorem dX6_held_11 : decode cX6_held 11 = .ok (.invokestatic 61, 3) := by decide +kernel
theorem dX6_held_14 : decode cX6_held 14 = .ok (.ifCond .ne 5, 3) := by decide +kernel
theorem dX6_held_17 : decode cX6_held 17 = .ok (.iconst (-1), 1) := by decide +kernel
theorem dX6_held_18 : decode cX6_held 18 = .ok (.ireturn, 1) := by decide +kernel
theorem dX6_held_19 : decode cX6_held 19 = .ok (.iload_n 2, 1) := by decide +kernel
theorem dX6_held_20 : decode cX6_held 20 = .ok (.tableswitch 72 0 3 #[32, 42, 52, 62], 32) := by decide +kernel
theorem dX6_held_52 : decode cX6_held 52 = .ok (.aload_n 0, 1) := by decide +kernel
theorem dX6_held_53 : decode cX6_held 53 = .ok (.getfield 31, 3) := by decide +kernel
theorem dX6_held_56 : decode cX6_held 56 = .ok (.getfield 123, 3) := by decide +kernel
theorem dX6_held_59 : decode cX6_held 59 = .ok (.iload_n 1, 1) := by decide +kernel
theorem dX6_held_60 : decode cX6_held 60 = .ok (.iaload, 1) := by decide +kernel
theorem dX6_held_61 : decode cX6_held 61 = .ok (.ireturn, 1) := by decide +kernel
theorem dX6_held_62 : decode cX6_held 62 = .ok (.aload_n 0, 1) := by decide +kernel
theorem dX6_held_63 : decode cX6_held 63 = .ok (.getfield 31, 3) := by decide +kernel
theorem dX6_held_66 : decode cX6_held 66 = .ok (.getfield 126, 3) := by decide +kernel
theorem dX6_held_69 : decode cX6_held 69 = .ok (.iload_n 1, 1) := by decide +kernel
theorem dX6_held_70 : decode cX6_held 70 = .ok (.iaload, 1) := by decide +kernel
theorem dX6_held_71 : decode cX6_held 71 = .ok (.ireturn, 1) := by decide +kernel
theorem dX6_held_72 : decode cX6_held 72 = .ok (.aload_n 0, 1) := by decide +kernel
theorem dX6_held_73 : decode cX6_held 73 = .ok (.getfield 31, 3) := by decide +kernel
theorem dX6_held_76 : decode cX6_held 76 = .ok (.getfield 129, 3) := by decide +kernel
theorem dX6_held_79 : decode cX6_held 79 = .ok (.iload_n 1, 1) := by decide +kernel
theorem dX6_held_80 : decode cX6_held 80 = .ok (.iaload, 1) := by decide +kernel
theorem dX6_held_81 : decode cX6_held 81 = .ok (.ireturn, 1) := by decide +kernel
theorem dX6_held_82 : decode cX6_held 82 = .ok (.aload_n 0, 1) := by decide +kernel
theorem dX6_held_83 : decode cX6_held 83 = .ok (.getfield 31, 3) := by decide +kernel
theorem dX6_held_86 : decode cX6_held 86 = .ok (.getfield 132, 3) := by decide +kernel
theorem dX6_held_89 : decode cX6_held 89 = .ok (.iload_n 1, 1) := by decide +kernel
theorem dX6_held_90 : decode cX6_held 90 = .ok (.iaload, 1) := by decide +kernel
theorem dX6_held_91 : decode cX6_held 91 = .ok (.ireturn, 1) := by decide +kernel
theorem dX6_held_92 : decode cX6_held 92 = .ok (.iconst (-1), 1) := by decide +kernel
theorem dX6_held_93 : decode cX6_held 93 = .ok (.ireturn, 1) := by decide +kernel
theorem dX6_rust_0 : decode cX6_rust 0 = .ok (.aload_n 0, 1) := by decide +kernel
theorem dX6_rust_1 : decode cX6_rust 1 = .ok (.getfield 24, 3) := by decide +kernel
theorem dX6_rust_4 : decode cX6_rust 4 = .ok (.iload_n 1, 1) := by decide +kernel
theorem dX6_rust_5 : decode cX6_rust 5 = .ok (.invokevirtual 89, 3) := by decide +kernel
theorem dX6_rust_8 : decode cX6_rust 8 = .ok (.ifCond .eq 10, 3) := by decide +kernel
theorem dX6_rust_11 : decode cX6_rust 11 = .ok (.iload_n 2, 1) := by decide +kernel
theorem dX6_rust_12 : decode cX6_rust 12 = .ok (.invokestatic 103, 3) := by decide +kernel
theorem dX6_rust_15 : decode cX6_rust 15 = .ok (.ifCond .ne 5, 3) := by decide +kernel
theorem dX6_rust_18 : decode cX6_rust 18 = .ok (.iconst (-1), 1) := by decide +kernel
theorem dX6_rust_19 : decode cX6_rust 19 = .ok (.ireturn, 1) := by decide +kernel
theorem dX6_rust_20 : decode cX6_rust 20 = .ok (.aload_n 0, 1) := by decide +kernel
theorem dX6_rust_21 : decode cX6_rust 21 = .ok (.iload_n 1, 1) := by decide +kernel
theorem dX6_rust_22 : decode cX6_rust 22 = .ok (.iload_n 2, 1) := by decide +kernel
theorem dX6_rust_23 : decode cX6_rust 23 = .ok (.invokevirtual 135, 3) := by decide +kernel
theorem dX6_rust_26 : decode cX6_rust 26 = .ok (.ireturn, 1) := by decide +kernel
theorem dX6_saw_0 : decode cX6_saw 0 = .ok (.aload_n 0, 1) := by decide +kernel
theorem dX6_saw_1 : decode cX6_saw 1 = .ok (.getfield 24, 3) := by decide +kernel
theorem dX6_saw_4 : decode cX6_saw 4 = .ok (.iload_n 1, 1) := by decide +kernel
theorem dX6_saw_5 : decode cX6_saw 5 = .ok (.invokevirtual 89, 3) := by decide +kernel
theorem dX6_saw_8 : decode cX6_saw 8 = .ok (.ifCond .eq 14, 3) := by decide +kernel
theorem dX6_saw_11 : decode cX6_saw 11 = .ok (.iload_n 2, 1) := by decide +kernel
theorem dX6_saw_12 : decode cX6_saw 12 = .ok (.iconst 0, 1) := by decide +kernel
theorem dX6_saw_13 : decode cX6_saw 13 = .ok (.sipush 999, 3) := by decide +kernel
theorem dX6_saw_16 : decode cX6_saw 16 = .ok (.invokestatic 61, 3) := by decide +kernel
theorem dX6_saw_19 : decode cX6_saw 19 = .ok (.ifCond .ne 5, 3) := by decide +kernel
theorem dX6_saw_22 : decode cX6_saw 22 = .ok (.iconst (-1), 1) := by decide +kernel
theorem dX6_saw_23 : decode cX6_saw 23 = .ok (.ireturn, 1) := by decide +kernel
theorem dX6_saw_24 : decode cX6_saw 24 = .ok (.aload_n 0, 1) := by decide +kernel
theorem dX6_saw_25 : decode cX6_saw 25 = .ok (.getfield 31, 3) := by decide +kernel
theorem dX6_saw_28 : decode cX6_saw 28 = .ok (.getfield 139, 3) := by decide +kernel
theorem dX6_saw_31 : decode cX6_saw 31 = .ok (.iload_n 1, 1) := by decide +kernel
theorem dX6_saw_32 : decode cX6_saw 32 = .ok (.iaload, 1) := by decide +kernel
theorem dX6_saw_33 : decode cX6_saw 33 = .ok (.istore_n 3, 1) := by decide +kernel
theorem dX6_saw_34 : decode cX6_saw 34 = .ok (.aload_n 0, 1) := by decide +kernel
theorem dX6_saw_35 : decode cX6_saw 35 = .ok (.getfield 31, 3) := by decide +kernel
theorem dX6_saw_38 : decode cX6_saw 38 = .ok (.getfield 139, 3) := by decide +kernel
theorem dX6_saw_41 : decode cX6_saw 41 = .ok (.iload_n 1, 1) := by decide +kernel
theorem dX6_saw_42 : decode cX6_saw 42 = .ok (.iload_n 2, 1) := by decide +kernel
end
section
theorem dX6_saw_43 : decode cX6_saw 43 = .ok (.iastore, 1) := by decide +kernel
theorem dX6_saw_44 : decode cX6_saw 44 = .ok (.iload_n 3, 1) := by decide +kernel
theorem dX6_saw_45 : decode cX6_saw 45 = .ok (.ireturn, 1) := by decide +kernel
theorem dX6_hide_0 : decode cX6_hide 0 = .ok (.aload_n 0, 1) := by decide +kernel
theorem dX6_hide_1 : decode cX6_hide 1 = .ok (.getfield 24, 3) := by decide +kernel
theorem dX6_hide_4 : decode cX6_hide 4 = .ok (.iload_n 1, 1) := by decide +kernel
theorem dX6_hide_5 : decode cX6_hide 5 = .ok (.invokevirtual 89, 3) := by decide +kernel
theorem dX6_hide_8 : decode cX6_hide 8 = .ok (.ifCond .ne 5, 3) := by decide +kernel
theorem dX6_hide_11 : decode cX6_hide 11 = .ok (.iconst (-1), 1) := by decide +kernel
theorem dX6_hide_12 : decode cX6_hide 12 = .ok (.ireturn, 1) := by decide +kernel
theorem dX6_hide_13 : decode cX6_hide 13 = .ok (.aload_n 0, 1) := by decide +kernel
theorem dX6_hide_14 : decode cX6_hide 14 = .ok (.getfield 31, 3) := by decide +kernel
theorem dX6_hide_17 : decode cX6_hide 17 = .ok (.getfield 139, 3) := by decide +kernel
theorem dX6_hide_20 : decode cX6_hide 20 = .ok (.iload_n 1, 1) := by decide +kernel
theorem dX6_hide_21 : decode cX6_hide 21 = .ok (.iaload, 1) := by decide +kernel
theorem dX6_hide_22 : decode cX6_hide 22 = .ok (.istore_n 2, 1) := by decide +kernel
theorem dX6_hide_23 : decode cX6_hide 23 = .ok (.iload_n 2, 1) := by decide +kernel
theorem dX6_hide_24 : decode cX6_hide 24 = .ok (.bipush (-9), 2) := by decide +kernel
theorem dX6_hide_26 : decode cX6_hide 26 = .ok (.if_icmp .ne 6, 3) := by decide +kernel
theorem dX6_hide_29 : decode cX6_hide 29 = .ok (.bipush (-2), 2) := by decide +kernel
theorem dX6_hide_31 : decode cX6_hide 31 = .ok (.ireturn, 1) := by decide +kernel
theorem dX6_hide_32 : decode cX6_hide 32 = .ok (.aload_n 0, 1) := by decide +kernel
theorem dX6_hide_33 : decode cX6_hide 33 = .ok (.getfield 31, 3) := by decide +kernel
theorem dX6_hide_36 : decode cX6_hide 36 = .ok (.getfield 139, 3) := by decide +kernel
theorem dX6_hide_39 : decode cX6_hide 39 = .ok (.iload_n 1, 1) := by decide +kernel
theorem dX6_hide_40 : decode cX6_hide 40 = .ok (.bipush (-9), 2) := by decide +kernel
theorem dX6_hide_42 : decode cX6_hide 42 = .ok (.iastore, 1) := by decide +kernel
theorem dX6_hide_43 : decode cX6_hide 43 = .ok (.iload_n 2, 1) := by decide +kernel
theorem dX6_hide_44 : decode cX6_hide 44 = .ok (.ireturn, 1) := by decide +kernel
theorem dX6_seen_0 : decode cX6_seen 0 = .ok (.aload_n 0, 1) := by decide +kernel
theorem dX6_seen_1 : decode cX6_seen 1 = .ok (.getfield 24, 3) := by decide +kernel
theorem dX6_seen_4 : decode cX6_seen 4 = .ok (.iload_n 1, 1) := by decide +kernel
theorem dX6_seen_5 : decode cX6_seen 5 = .ok (.invokevirtual 89, 3) := by decide +kernel
theorem dX6_seen_8 : decode cX6_seen 8 = .ok (.ifCond .eq 15, 3) := by decide +kernel
theorem dX6_seen_11 : decode cX6_seen 11 = .ok (.aload_n 0, 1) := by decide +kernel
theorem dX6_seen_12 : decode cX6_seen 12 = .ok (.getfield 31, 3) := by decide +kernel
theorem dX6_seen_15 : decode cX6_seen 15 = .ok (.getfield 139, 3) := by decide +kernel
theorem dX6_seen_18 : decode cX6_seen 18 = .ok (.iload_n 1, 1) := by decide +kernel
theorem dX6_seen_19 : decode cX6_seen 19 = .ok (.iaload, 1) := by decide +kernel
theorem dX6_seen_20 : decode cX6_seen 20 = .ok (.goto 4, 3) := by decide +kernel
theorem dX6_seen_23 : decode cX6_seen 23 = .ok (.iconst (-1), 1) := by decide +kernel
theorem dX6_seen_24 : decode cX6_seen 24 = .ok (.ireturn, 1) := by decide +kernel
theorem dX6_fits_0 : decode cX6_fits 0 = .ok (.aload_n 0, 1) := by decide +kernel
theorem dX6_fits_1 : decode cX6_fits 1 = .ok (.getfield 46, 3) := by decide +kernel
theorem dX6_fits_4 : decode cX6_fits 4 = .ok (.aload_n 0, 1) := by decide +kernel
theorem dX6_fits_5 : decode cX6_fits 5 = .ok (.getfield 24, 3) := by decide +kernel
theorem dX6_fits_8 : decode cX6_fits 8 = .ok (.aload_n 0, 1) := by decide +kernel
theorem dX6_fits_9 : decode cX6_fits 9 = .ok (.getfield 31, 3) := by decide +kernel
theorem dX6_fits_12 : decode cX6_fits 12 = .ok (.invokevirtual 142, 3) := by decide +kernel
theorem dX6_fits_15 : decode cX6_fits 15 = .ok (.aload_n 0, 1) := by decide +kernel
theorem dX6_fits_16 : decode cX6_fits 16 = .ok (.getfield 46, 3) := by decide +kernel
theorem dX6_fits_19 : decode cX6_fits 19 = .ok (.invokevirtual 146, 3) := by decide +kernel
theorem dX6_fits_22 : decode cX6_fits 22 = .ok (.ireturn, 1) := by decide +kernel
theorem dX6_sure_0 : decode cX6_sure 0 = .ok (.aload_n 0, 1) := by decide +kernel
theorem dX6_sure_1 : decode cX6_sure 1 = .ok (.getfield 24, 3) := by decide +kernel
theorem dX6_sure_4 : decode cX6_sure 4 = .ok (.iload_n 1, 1) := by decide +kernel
theorem dX6_sure_5 : decode cX6_sure 5 = .ok (.invokevirtual 97, 3) := by decide +kernel
theorem dX6_sure_8 : decode cX6_sure 8 = .ok (.ifCond .ne 5, 3) := by decide +kernel
theorem dX6_sure_11 : decode cX6_sure 11 = .ok (.iconst (-1), 1) := by decide +kernel
theorem dX6_sure_12 : decode cX6_sure 12 = .ok (.ireturn, 1) := by decide +kernel
theorem dX6_sure_13 : decode cX6_sure 13 = .ok (.aload_n 0, 1) := by decide +kernel
theorem dX6_sure_14 : decode cX6_sure 14 = .ok (.getfield 46, 3) := by decide +kernel
theorem dX6_sure_17 : decode cX6_sure 17 = .ok (.aload_n 0, 1) := by decide +kernel
theorem dX6_sure_18 : decode cX6_sure 18 = .ok (.getfield 24, 3) := by decide +kernel
theorem dX6_sure_21 : decode cX6_sure 21 = .ok (.aload_n 0, 1) := by decide +kernel
theorem dX6_sure_22 : decode cX6_sure 22 = .ok (.getfield 31, 3) := by decide +kernel
theorem dX6_sure_25 : decode cX6_sure 25 = .ok (.invokevirtual 142, 3) := by decide +kernel
theorem dX6_sure_28 : decode cX6_sure 28 = .ok (.aload_n 0, 1) := by decide +kernel
theorem dX6_sure_29 : decode cX6_sure 29 = .ok (.getfield 46, 3) := by decide +kernel
theorem dX6_sure_32 : decode cX6_sure 32 = .ok (.invokevirtual 146, 3) := by decide +kernel
theorem dX6_sure_35 : decode cX6_sure 35 = .ok (.istore_n 2, 1) := by decide +kernel
theorem dX6_sure_36 : decode cX6_sure 36 = .ok (.iload_n 2, 1) := by decide +kernel
theorem dX6_sure_37 : decode cX6_sure 37 = .ok (.ifCond .ne 6, 3) := by decide +kernel
theorem dX6_sure_40 : decode cX6_sure 40 = .ok (.bipush (-9), 2) := by decide +kernel
theorem dX6_sure_42 : decode cX6_sure 42 = .ok (.ireturn, 1) := by decide +kernel
theorem dX6_sure_43 : decode cX6_sure 43 = .ok (.aload_n 0, 1) := by decide +kernel
theorem dX6_sure_44 : decode cX6_sure 44 = .ok (.getfield 46, 3) := by decide +kernel
theorem dX6_sure_47 : decode cX6_sure 47 = .ok (.iload_n 1, 1) := by decide +kernel
theorem dX6_sure_48 : decode cX6_sure 48 = .ok (.invokevirtual 149, 3) := by decide +kernel
theorem dX6_sure_51 : decode cX6_sure 51 = .ok (.iload_n 2, 1) := by decide +kernel
theorem dX6_sure_52 : decode cX6_sure 52 = .ok (.if_icmp .ne 6, 3) := by decide +kernel
theorem dX6_sure_55 : decode cX6_sure 55 = .ok (.bipush (-4), 2) := by decide +kernel
theorem dX6_sure_57 : decode cX6_sure 57 = .ok (.ireturn, 1) := by decide +kernel
theorem dX6_sure_58 : decode cX6_sure 58 = .ok (.iconst 0, 1) := by decide +kernel
theorem dX6_sure_59 : decode cX6_sure 59 = .ok (.istore_n 3, 1) := by decide +kernel
theorem dX6_sure_60 : decode cX6_sure 60 = .ok (.iload_n 3, 1) := by decide +kernel
theorem dX6_sure_61 : decode cX6_sure 61 = .ok (.aload_n 0, 1) := by decide +kernel
theorem dX6_sure_62 : decode cX6_sure 62 = .ok (.getfield 24, 3) := by decide +kernel
theorem dX6_sure_65 : decode cX6_sure 65 = .ok (.getfield 153, 3) := by decide +kernel
theorem dX6_sure_68 : decode cX6_sure 68 = .ok (.if_icmp .ge 24, 3) := by decide +kernel
theorem dX6_sure_71 : decode cX6_sure 71 = .ok (.aload_n 0, 1) := by decide +kernel
theorem dX6_sure_72 : decode cX6_sure 72 = .ok (.getfield 46, 3) := by decide +kernel
theorem dX6_sure_75 : decode cX6_sure 75 = .ok (.iload_n 1, 1) := by decide +kernel
theorem dX6_sure_76 : decode cX6_sure 76 = .ok (.iload_n 3, 1) := by decide +kernel
theorem dX6_sure_77 : decode cX6_sure 77 = .ok (.invokevirtual 155, 3) := by decide +kernel
theorem dX6_sure_80 : decode cX6_sure 80 = .ok (.iload_n 2, 1) := by decide +kernel
theorem dX6_sure_81 : decode cX6_sure 81 = .ok (.if_icmp .ne 5, 3) := by decide +kernel
theorem dX6_sure_84 : decode cX6_sure 84 = .ok (.iload_n 3, 1) := by decide +kernel
theorem dX6_sure_85 : decode cX6_sure 85 = .ok (.ireturn, 1) := by decide +kernel
theorem dX6_sure_86 : decode cX6_sure 86 = .ok (.iinc 3 1, 3) := by decide +kernel
theorem dX6_sure_89 : decode cX6_sure 89 = .ok (.goto (-29), 3) := by decide +kernel
theorem dX6_sure_92 : decode cX6_sure 92 = .ok (.bipush (-5), 2) := by decide +kernel
theorem dX6_sure_94 : decode cX6_sure 94 = .ok (.ireturn, 1) := by decide +kernel
theorem dX6_odds_0 : decode cX6_odds 0 = .ok (.aload_n 0, 1) := by decide +kernel
theorem dX6_odds_1 : decode cX6_odds 1 = .ok (.getfield 24, 3) := by decide +kernel
theorem dX6_odds_4 : decode cX6_odds 4 = .ok (.iload_n 1, 1) := by decide +kernel
theorem dX6_odds_5 : decode cX6_odds 5 = .ok (.invokevirtual 97, 3) := by decide +kernel
theorem dX6_odds_8 : decode cX6_odds 8 = .ok (.ifCond .eq 12, 3) := by decide +kernel
theorem dX6_odds_11 : decode cX6_odds 11 = .ok (.iload_n 3, 1) := by decide +kernel
theorem dX6_odds_12 : decode cX6_odds 12 = .ok (.iconst 0, 1) := by decide +kernel
theorem dX6_odds_13 : decode cX6_odds 13 = .ok (.iconst 1, 1) := by decide +kernel
theorem dX6_odds_14 : decode cX6_odds 14 = .ok (.invokestatic 61, 3) := by decide +kernel
theorem dX6_odds_17 : decode cX6_odds 17 = .ok (.ifCond .ne 5, 3) := by decide +kernel
theorem dX6_odds_20 : decode cX6_odds 20 = .ok (.iconst (-1), 1) := by decide +kernel
theorem dX6_odds_21 : decode cX6_odds 21 = .ok (.ireturn, 1) := by decide +kernel
theorem dX6_odds_22 : decode cX6_odds 22 = .ok (.iload_n 2, 1) := by decide +kernel
theorem dX6_odds_23 : decode cX6_odds 23 = .ok (.bipush (-4), 2) := by decide +kernel
theorem dX6_odds_25 : decode cX6_odds 25 = .ok (.if_icmp .eq 16, 3) := by decide +kernel
theorem dX6_odds_28 : decode cX6_odds 28 = .ok (.aload_n 0, 1) := by decide +kernel
theorem dX6_odds_29 : decode cX6_odds 29 = .ok (.getfield 24, 3) := by decide +kernel
theorem dX6_odds_32 : decode cX6_odds 32 = .ok (.iload_n 2, 1) := by decide +kernel
theorem dX6_odds_33 : decode cX6_odds 33 = .ok (.invokevirtual 89, 3) := by decide +kernel
theorem dX6_odds_36 : decode cX6_odds 36 = .ok (.ifCond .ne 5, 3) := by decide +kernel
theorem dX6_odds_39 : decode cX6_odds 39 = .ok (.iconst (-1), 1) := by decide +kernel
theorem dX6_odds_40 : decode cX6_odds 40 = .ok (.ireturn, 1) := by decide +kernel
theorem dX6_odds_41 : decode cX6_odds 41 = .ok (.aload_n 0, 1) := by decide +kernel
theorem dX6_odds_42 : decode cX6_odds 42 = .ok (.getfield 46, 3) := by decide +kernel
theorem dX6_odds_45 : decode cX6_odds 45 = .ok (.aload_n 0, 1) := by decide +kernel
theorem dX6_odds_46 : decode cX6_odds 46 = .ok (.getfield 24, 3) := by decide +kernel
theorem dX6_odds_49 : decode cX6_odds 49 = .ok (.aload_n 0, 1) := by decide +kernel
theorem dX6_odds_50 : decode cX6_odds 50 = .ok (.getfield 31, 3) := by decide +kernel
theorem dX6_odds_53 : decode cX6_odds 53 = .ok (.invokevirtual 142, 3) := by decide +kernel
theorem dX6_odds_56 : decode cX6_odds 56 = .ok (.iload_n 2, 1) := by decide +kernel
theorem dX6_odds_57 : decode cX6_odds 57 = .ok (.bipush (-4), 2) := by decide +kernel
theorem dX6_odds_59 : decode cX6_odds 59 = .ok (.if_icmp .ne 14, 3) := by decide +kernel
theorem dX6_odds_62 : decode cX6_odds 62 = .ok (.aload_n 0, 1) := by decide +kernel
theorem dX6_odds_63 : decode cX6_odds 63 = .ok (.getfield 46, 3) := by decide +kernel
theorem dX6_odds_66 : decode cX6_odds 66 = .ok (.iload_n 1, 1) := by decide +kernel
theorem dX6_odds_67 : decode cX6_odds 67 = .ok (.invokevirtual 149, 3) := by decide +kernel
theorem dX6_odds_70 : decode cX6_odds 70 = .ok (.goto 12, 3) := by decide +kernel
theorem dX6_odds_73 : decode cX6_odds 73 = .ok (.aload_n 0, 1) := by decide +kernel
theorem dX6_odds_74 : decode cX6_odds 74 = .ok (.getfield 46, 3) := by decide +kernel
theorem dX6_odds_77 : decode cX6_odds 77 = .ok (.iload_n 1, 1) := by decide +kernel
theorem dX6_odds_78 : decode cX6_odds 78 = .ok (.iload_n 2, 1) := by decide +kernel
theorem dX6_odds_79 : decode cX6_odds 79 = .ok (.invokevirtual 155, 3) := by decide +kernel
theorem dX6_odds_82 : decode cX6_odds 82 = .ok (.istore 4, 2) := by decide +kernel
theorem dX6_odds_84 : decode cX6_odds 84 = .ok (.aload_n 0, 1) := by decide +kernel
theorem dX6_odds_85 : decode cX6_odds 85 = .ok (.getfield 46, 3) := by decide +kernel
theorem dX6_odds_88 : decode cX6_odds 88 = .ok (.invokevirtual 146, 3) := by decide +kernel
theorem dX6_odds_91 : decode cX6_odds 91 = .ok (.istore 5, 2) := by decide +kernel
theorem dX6_odds_93 : decode cX6_odds 93 = .ok (.iload 5, 2) := by decide +kernel
theorem dX6_odds_95 : decode cX6_odds 95 = .ok (.ifCond .ne 5, 3) := by decide +kernel
theorem dX6_odds_98 : decode cX6_odds 98 = .ok (.iload_n 3, 1) := by decide +kernel
theorem dX6_odds_99 : decode cX6_odds 99 = .ok (.ireturn, 1) := by decide +kernel
theorem dX6_odds_100 : decode cX6_odds 100 = .ok (.iload 4, 2) := by decide +kernel
theorem dX6_odds_102 : decode cX6_odds 102 = .ok (.iload 5, 2) := by decide +kernel
theorem dX6_odds_104 : decode cX6_odds 104 = .ok (.invokestatic 158, 3) := by decide +kernel
theorem dX6_odds_107 : decode cX6_odds 107 = .ok (.istore 6, 2) := by decide +kernel
theorem dX6_odds_109 : decode cX6_odds 109 = .ok (.iload_n 3, 1) := by decide +kernel
theorem dX6_odds_110 : decode cX6_odds 110 = .ok (.ifCond .ne 8, 3) := by decide +kernel
theorem dX6_odds_113 : decode cX6_odds 113 = .ok (.iload 4, 2) := by decide +kernel
theorem dX6_odds_115 : decode cX6_odds 115 = .ok (.goto 5, 3) := by decide +kernel
theorem dX6_odds_118 : decode cX6_odds 118 = .ok (.iload 5, 2) := by decide +kernel
theorem dX6_odds_120 : decode cX6_odds 120 = .ok (.iload 6, 2) := by decide +kernel
theorem dX6_odds_122 : decode cX6_odds 122 = .ok (.idiv, 1) := by decide +kernel
theorem dX6_odds_123 : decode cX6_odds 123 = .ok (.ireturn, 1) := by decide +kernel
theorem dX6_claim_0 : decode cX6_claim 0 = .ok (.aload_n 0, 1) := by decide +kernel
theorem dX6_claim_1 : decode cX6_claim 1 = .ok (.iload_n 1, 1) := by decide +kernel
theorem dX6_claim_2 : decode cX6_claim 2 = .ok (.iload_n 2, 1) := by decide +kernel
theorem dX6_claim_3 : decode cX6_claim 3 = .ok (.iload_n 3, 1) := by decide +kernel
theorem dX6_claim_4 : decode cX6_claim 4 = .ok (.invokevirtual 161, 3) := by decide +kernel
theorem dX6_claim_7 : decode cX6_claim 7 = .ok (.ifCond .ne 5, 3) := by decide +kernel
theorem dX6_claim_10 : decode cX6_claim 10 = .ok (.iconst (-1), 1) := by decide +kernel
theorem dX6_claim_11 : decode cX6_claim 11 = .ok (.ireturn, 1) := by decide +kernel
theorem dX6_claim_12 : decode cX6_claim 12 = .ok (.aload_n 0, 1) := by decide +kernel
theorem dX6_claim_13 : decode cX6_claim 13 = .ok (.getfield 46, 3) := by decide +kernel
theorem dX6_claim_16 : decode cX6_claim 16 = .ok (.aload_n 0, 1) := by decide +kernel
theorem dX6_claim_17 : decode cX6_claim 17 = .ok (.getfield 24, 3) := by decide +kernel
theorem dX6_claim_20 : decode cX6_claim 20 = .ok (.aload_n 0, 1) := by decide +kernel
theorem dX6_claim_21 : decode cX6_claim 21 = .ok (.getfield 31, 3) := by decide +kernel
theorem dX6_claim_24 : decode cX6_claim 24 = .ok (.invokevirtual 142, 3) := by decide +kernel
theorem dX6_claim_27 : decode cX6_claim 27 = .ok (.aload_n 0, 1) := by decide +kernel
theorem dX6_claim_28 : decode cX6_claim 28 = .ok (.getfield 46, 3) := by decide +kernel
theorem dX6_claim_31 : decode cX6_claim 31 = .ok (.iload_n 1, 1) := by decide +kernel
theorem dX6_claim_32 : decode cX6_claim 32 = .ok (.iload_n 2, 1) := by decide +kernel
theorem dX6_claim_33 : decode cX6_claim 33 = .ok (.iload_n 3, 1) := by decide +kernel
theorem dX6_claim_34 : decode cX6_claim 34 = .ok (.invokevirtual 164, 3) := by decide +kernel
theorem dX6_claim_37 : decode cX6_claim 37 = .ok (.ifCond .eq 7, 3) := by decide +kernel
theorem dX6_claim_40 : decode cX6_claim 40 = .ok (.iconst 1, 1) := by decide +kernel
theorem dX6_claim_41 : decode cX6_claim 41 = .ok (.goto 4, 3) := by decide +kernel
theorem dX6_claim_44 : decode cX6_claim 44 = .ok (.iconst 0, 1) := by decide +kernel
theorem dX6_claim_45 : decode cX6_claim 45 = .ok (.ireturn, 1) := by decide +kernel
theorem dX6_saves_0 : decode cX6_saves 0 = .ok (.aload_n 0, 1) := by decide +kernel
theorem dX6_saves_1 : decode cX6_saves 1 = .ok (.iload_n 1, 1) := by decide +kernel
theorem dX6_saves_2 : decode cX6_saves 2 = .ok (.iload_n 2, 1) := by decide +kernel
theorem dX6_saves_3 : decode cX6_saves 3 = .ok (.iload_n 3, 1) := by decide +kernel
theorem dX6_saves_4 : decode cX6_saves 4 = .ok (.invokevirtual 161, 3) := by decide +kernel
theorem dX6_saves_7 : decode cX6_saves 7 = .ok (.ifCond .ne 5, 3) := by decide +kernel
theorem dX6_saves_10 : decode cX6_saves 10 = .ok (.iconst (-1), 1) := by decide +kernel
theorem dX6_saves_11 : decode cX6_saves 11 = .ok (.ireturn, 1) := by decide +kernel
theorem dX6_saves_12 : decode cX6_saves 12 = .ok (.aload_n 0, 1) := by decide +kernel
theorem dX6_saves_13 : decode cX6_saves 13 = .ok (.getfield 46, 3) := by decide +kernel
theorem dX6_saves_16 : decode cX6_saves 16 = .ok (.aload_n 0, 1) := by decide +kernel
theorem dX6_saves_17 : decode cX6_saves 17 = .ok (.getfield 24, 3) := by decide +kernel
theorem dX6_saves_20 : decode cX6_saves 20 = .ok (.aload_n 0, 1) := by decide +kernel
theorem dX6_saves_21 : decode cX6_saves 21 = .ok (.getfield 31, 3) := by decide +kernel
theorem dX6_saves_24 : decode cX6_saves 24 = .ok (.invokevirtual 142, 3) := by decide +kernel
theorem dX6_saves_27 : decode cX6_saves 27 = .ok (.iconst 0, 1) := by decide +kernel
theorem dX6_saves_28 : decode cX6_saves 28 = .ok (.istore 4, 2) := by decide +kernel
theorem dX6_saves_30 : decode cX6_saves 30 = .ok (.iload 4, 2) := by decide +kernel
theorem dX6_saves_32 : decode cX6_saves 32 = .ok (.bipush 10, 2) := by decide +kernel
theorem dX6_saves_34 : decode cX6_saves 34 = .ok (.if_icmp .ge 68, 3) := by decide +kernel
theorem dX6_saves_37 : decode cX6_saves 37 = .ok (.iload_n 3, 1) := by decide +kernel
theorem dX6_saves_38 : decode cX6_saves 38 = .ok (.iload 4, 2) := by decide +kernel
theorem dX6_saves_40 : decode cX6_saves 40 = .ok (.isub, 1) := by decide +kernel
theorem dX6_saves_41 : decode cX6_saves 41 = .ok (.iconst 1, 1) := by decide +kernel
theorem dX6_saves_42 : decode cX6_saves 42 = .ok (.if_icmp .lt 24, 3) := by decide +kernel
theorem dX6_saves_45 : decode cX6_saves 45 = .ok (.aload_n 0, 1) := by decide +kernel
theorem dX6_saves_46 : decode cX6_saves 46 = .ok (.getfield 46, 3) := by decide +kernel
theorem dX6_saves_49 : decode cX6_saves 49 = .ok (.iload_n 1, 1) := by decide +kernel
theorem dX6_saves_50 : decode cX6_saves 50 = .ok (.iload_n 2, 1) := by decide +kernel
theorem dX6_saves_51 : decode cX6_saves 51 = .ok (.iload_n 3, 1) := by decide +kernel
theorem dX6_saves_52 : decode cX6_saves 52 = .ok (.iload 4, 2) := by decide +kernel
theorem dX6_saves_54 : decode cX6_saves 54 = .ok (.isub, 1) := by decide +kernel
theorem dX6_saves_55 : decode cX6_saves 55 = .ok (.invokevirtual 164, 3) := by decide +kernel
theorem dX6_saves_58 : decode cX6_saves 58 = .ok (.ifCond .eq 8, 3) := by decide +kernel
theorem dX6_saves_61 : decode cX6_saves 61 = .ok (.iload_n 3, 1) := by decide +kernel
theorem dX6_saves_62 : decode cX6_saves 62 = .ok (.iload 4, 2) := by decide +kernel
theorem dX6_saves_64 : decode cX6_saves 64 = .ok (.isub, 1) := by decide +kernel
theorem dX6_saves_65 : decode cX6_saves 65 = .ok (.ireturn, 1) := by decide +kernel
theorem dX6_saves_66 : decode cX6_saves 66 = .ok (.iload_n 3, 1) := by decide +kernel
theorem dX6_saves_67 : decode cX6_saves 67 = .ok (.iload 4, 2) := by decide +kernel
theorem dX6_saves_69 : decode cX6_saves 69 = .ok (.iadd, 1) := by decide +kernel
theorem dX6_saves_70 : decode cX6_saves 70 = .ok (.bipush 10, 2) := by decide +kernel
theorem dX6_saves_72 : decode cX6_saves 72 = .ok (.if_icmp .gt 24, 3) := by decide +kernel
theorem dX6_saves_75 : decode cX6_saves 75 = .ok (.aload_n 0, 1) := by decide +kernel
theorem dX6_saves_76 : decode cX6_saves 76 = .ok (.getfield 46, 3) := by decide +kernel
theorem dX6_saves_79 : decode cX6_saves 79 = .ok (.iload_n 1, 1) := by decide +kernel
theorem dX6_saves_80 : decode cX6_saves 80 = .ok (.iload_n 2, 1) := by decide +kernel
theorem dX6_saves_81 : decode cX6_saves 81 = .ok (.iload_n 3, 1) := by decide +kernel
theorem dX6_saves_82 : decode cX6_saves 82 = .ok (.iload 4, 2) := by decide +kernel
theorem dX6_saves_84 : decode cX6_saves 84 = .ok (.iadd, 1) := by decide +kernel
theorem dX6_saves_85 : decode cX6_saves 85 = .ok (.invokevirtual 164, 3) := by decide +kernel
theorem dX6_saves_88 : decode cX6_saves 88 = .ok (.ifCond .eq 8, 3) := by decide +kernel
theorem dX6_saves_91 : decode cX6_saves 91 = .ok (.iload_n 3, 1) := by decide +kernel
theorem dX6_saves_92 : decode cX6_saves 92 = .ok (.iload 4, 2) := by decide +kernel
theorem dX6_saves_94 : decode cX6_saves 94 = .ok (.iadd, 1) := by decide +kernel
theorem dX6_saves_95 : decode cX6_saves 95 = .ok (.ireturn, 1) := by decide +kernel
theorem dX6_saves_96 : decode cX6_saves 96 = .ok (.iinc 4 1, 3) := by decide +kernel
theorem dX6_saves_99 : decode cX6_saves 99 = .ok (.goto (-69), 3) := by decide +kernel
theorem dX6_saves_102 : decode cX6_saves 102 = .ok (.bipush (-9), 2) := by decide +kernel
theorem dX6_saves_104 : decode cX6_saves 104 = .ok (.ireturn, 1) := by decide +kernel
theorem dX6_scrape_0 : decode cX6_scrape 0 = .ok (.iload_n 1, 1) := by decide +kernel
theorem dX6_scrape_1 : decode cX6_scrape 1 = .ok (.iconst 0, 1) := by decide +kernel
theorem dX6_scrape_2 : decode cX6_scrape 2 = .ok (.iconst 1, 1) := by decide +kernel
theorem dX6_scrape_3 : decode cX6_scrape 3 = .ok (.invokestatic 61, 3) := by decide +kernel
theorem dX6_scrape_6 : decode cX6_scrape 6 = .ok (.ifCond .ne 5, 3) := by decide +kernel
theorem dX6_scrape_9 : decode cX6_scrape 9 = .ok (.iconst (-1), 1) := by decide +kernel
theorem dX6_scrape_10 : decode cX6_scrape 10 = .ok (.ireturn, 1) := by decide +kernel
theorem dX6_scrape_11 : decode cX6_scrape 11 = .ok (.aload_n 0, 1) := by decide +kernel
theorem dX6_scrape_12 : decode cX6_scrape 12 = .ok (.getfield 46, 3) := by decide +kernel
theorem dX6_scrape_15 : decode cX6_scrape 15 = .ok (.aload_n 0, 1) := by decide +kernel
theorem dX6_scrape_16 : decode cX6_scrape 16 = .ok (.getfield 24, 3) := by decide +kernel
theorem dX6_scrape_19 : decode cX6_scrape 19 = .ok (.aload_n 0, 1) := by decide +kernel
theorem dX6_scrape_20 : decode cX6_scrape 20 = .ok (.getfield 31, 3) := by decide +kernel
theorem dX6_scrape_23 : decode cX6_scrape 23 = .ok (.invokevirtual 142, 3) := by decide +kernel
theorem dX6_scrape_26 : decode cX6_scrape 26 = .ok (.aload_n 0, 1) := by decide +kernel
theorem dX6_scrape_27 : decode cX6_scrape 27 = .ok (.getfield 46, 3) := by decide +kernel
theorem dX6_scrape_30 : decode cX6_scrape 30 = .ok (.invokevirtual 146, 3) := by decide +kernel
theorem dX6_scrape_33 : decode cX6_scrape 33 = .ok (.ifCond .ne 6, 3) := by decide +kernel
theorem dX6_scrape_36 : decode cX6_scrape 36 = .ok (.bipush (-9), 2) := by decide +kernel
theorem dX6_scrape_38 : decode cX6_scrape 38 = .ok (.ireturn, 1) := by decide +kernel
theorem dX6_scrape_39 : decode cX6_scrape 39 = .ok (.bipush (-9), 2) := by decide +kernel
theorem dX6_scrape_41 : decode cX6_scrape 41 = .ok (.istore_n 2, 1) := by decide +kernel
theorem dX6_scrape_42 : decode cX6_scrape 42 = .ok (.bipush (-9), 2) := by decide +kernel
theorem dX6_scrape_44 : decode cX6_scrape 44 = .ok (.istore_n 3, 1) := by decide +kernel
theorem dX6_scrape_45 : decode cX6_scrape 45 = .ok (.iconst 0, 1) := by decide +kernel
theorem dX6_scrape_46 : decode cX6_scrape 46 = .ok (.istore 4, 2) := by decide +kernel
theorem dX6_scrape_48 : decode cX6_scrape 48 = .ok (.iload 4, 2) := by decide +kernel
theorem dX6_scrape_50 : decode cX6_scrape 50 = .ok (.aload_n 0, 1) := by decide +kernel
theorem dX6_scrape_51 : decode cX6_scrape 51 = .ok (.getfield 24, 3) := by decide +kernel
theorem dX6_scrape_54 : decode cX6_scrape 54 = .ok (.getfield 153, 3) := by decide +kernel
theorem dX6_scrape_57 : decode cX6_scrape 57 = .ok (.if_icmp .ge 53, 3) := by decide +kernel
theorem dX6_scrape_60 : decode cX6_scrape 60 = .ok (.aload_n 0, 1) := by decide +kernel
theorem dX6_scrape_61 : decode cX6_scrape 61 = .ok (.getfield 31, 3) := by decide +kernel
theorem dX6_scrape_64 : decode cX6_scrape 64 = .ok (.getfield 139, 3) := by decide +kernel
theorem dX6_scrape_67 : decode cX6_scrape 67 = .ok (.iload 4, 2) := by decide +kernel
theorem dX6_scrape_69 : decode cX6_scrape 69 = .ok (.iaload, 1) := by decide +kernel
theorem dX6_scrape_70 : decode cX6_scrape 70 = .ok (.bipush (-9), 2) := by decide +kernel
theorem dX6_scrape_72 : decode cX6_scrape 72 = .ok (.if_icmp .ne 32, 3) := by decide +kernel
theorem dX6_scrape_75 : decode cX6_scrape 75 = .ok (.aload_n 0, 1) := by decide +kernel
theorem dX6_scrape_76 : decode cX6_scrape 76 = .ok (.getfield 46, 3) := by decide +kernel
theorem dX6_scrape_79 : decode cX6_scrape 79 = .ok (.iload 4, 2) := by decide +kernel
theorem dX6_scrape_81 : decode cX6_scrape 81 = .ok (.invokevirtual 167, 3) := by decide +kernel
theorem dX6_scrape_84 : decode cX6_scrape 84 = .ok (.istore 5, 2) := by decide +kernel
theorem dX6_scrape_86 : decode cX6_scrape 86 = .ok (.iload_n 2, 1) := by decide +kernel
theorem dX6_scrape_87 : decode cX6_scrape 87 = .ok (.bipush (-9), 2) := by decide +kernel
theorem dX6_scrape_89 : decode cX6_scrape 89 = .ok (.if_icmp .eq 9, 3) := by decide +kernel
theorem dX6_scrape_92 : decode cX6_scrape 92 = .ok (.iload 5, 2) := by decide +kernel
theorem dX6_scrape_94 : decode cX6_scrape 94 = .ok (.iload_n 3, 1) := by decide +kernel
theorem dX6_scrape_95 : decode cX6_scrape 95 = .ok (.if_icmp .ge 9, 3) := by decide +kernel
theorem dX6_scrape_98 : decode cX6_scrape 98 = .ok (.iload 4, 2) := by decide +kernel
theorem dX6_scrape_100 : decode cX6_scrape 100 = .ok (.istore_n 2, 1) := by decide +kernel
theorem dX6_scrape_101 : decode cX6_scrape 101 = .ok (.iload 5, 2) := by decide +kernel
theorem dX6_scrape_103 : decode cX6_scrape 103 = .ok (.istore_n 3, 1) := by decide +kernel
theorem dX6_scrape_104 : decode cX6_scrape 104 = .ok (.iinc 4 1, 3) := by decide +kernel
theorem dX6_scrape_107 : decode cX6_scrape 107 = .ok (.goto (-59), 3) := by decide +kernel
theorem dX6_scrape_110 : decode cX6_scrape 110 = .ok (.iload_n 1, 1) := by decide +kernel
theorem dX6_scrape_111 : decode cX6_scrape 111 = .ok (.ifCond .ne 7, 3) := by decide +kernel
theorem dX6_scrape_114 : decode cX6_scrape 114 = .ok (.iload_n 2, 1) := by decide +kernel
theorem dX6_scrape_115 : decode cX6_scrape 115 = .ok (.goto 4, 3) := by decide +kernel
theorem dX6_scrape_118 : decode cX6_scrape 118 = .ok (.iload_n 3, 1) := by decide +kernel
theorem dX6_scrape_119 : decode cX6_scrape 119 = .ok (.ireturn, 1) := by decide +kernel
theorem dX6_swaps_0 : decode cX6_swaps 0 = .ok (.aload_n 0, 1) := by decide +kernel
theorem dX6_swaps_1 : decode cX6_swaps 1 = .ok (.getfield 53, 3) := by decide +kernel
theorem dX6_swaps_4 : decode cX6_swaps 4 = .ok (.iconst 0, 1) := by decide +kernel
theorem dX6_swaps_5 : decode cX6_swaps 5 = .ok (.putfield 170, 3) := by decide +kernel
theorem dX6_swaps_8 : decode cX6_swaps 8 = .ok (.iconst 0, 1) := by decide +kernel
theorem dX6_swaps_9 : decode cX6_swaps 9 = .ok (.istore_n 1, 1) := by decide +kernel
theorem dX6_swaps_10 : decode cX6_swaps 10 = .ok (.iload_n 1, 1) := by decide +kernel
theorem dX6_swaps_11 : decode cX6_swaps 11 = .ok (.aload_n 0, 1) := by decide +kernel
theorem dX6_swaps_12 : decode cX6_swaps 12 = .ok (.getfield 24, 3) := by decide +kernel
theorem dX6_swaps_15 : decode cX6_swaps 15 = .ok (.getfield 153, 3) := by decide +kernel
theorem dX6_swaps_18 : decode cX6_swaps 18 = .ok (.if_icmp .ge 46, 3) := by decide +kernel
theorem dX6_swaps_21 : decode cX6_swaps 21 = .ok (.aload_n 0, 1) := by decide +kernel
theorem dX6_swaps_22 : decode cX6_swaps 22 = .ok (.getfield 31, 3) := by decide +kernel
theorem dX6_swaps_25 : decode cX6_swaps 25 = .ok (.getfield 139, 3) := by decide +kernel
theorem dX6_swaps_28 : decode cX6_swaps 28 = .ok (.iload_n 1, 1) := by decide +kernel
theorem dX6_swaps_29 : decode cX6_swaps 29 = .ok (.iaload, 1) := by decide +kernel
theorem dX6_swaps_30 : decode cX6_swaps 30 = .ok (.bipush (-9), 2) := by decide +kernel
theorem dX6_swaps_32 : decode cX6_swaps 32 = .ok (.if_icmp .eq 26, 3) := by decide +kernel
theorem dX6_swaps_35 : decode cX6_swaps 35 = .ok (.aload_n 0, 1) := by decide +kernel
theorem dX6_swaps_36 : decode cX6_swaps 36 = .ok (.getfield 53, 3) := by decide +kernel
theorem dX6_swaps_39 : decode cX6_swaps 39 = .ok (.aload_n 0, 1) := by decide +kernel
theorem dX6_swaps_40 : decode cX6_swaps 40 = .ok (.iload_n 1, 1) := by decide +kernel
theorem dX6_swaps_41 : decode cX6_swaps 41 = .ok (.bipush 9, 2) := by decide +kernel
theorem dX6_swaps_43 : decode cX6_swaps 43 = .ok (.invokevirtual 135, 3) := by decide +kernel
theorem dX6_swaps_46 : decode cX6_swaps 46 = .ok (.aload_n 0, 1) := by decide +kernel
theorem dX6_swaps_47 : decode cX6_swaps 47 = .ok (.getfield 31, 3) := by decide +kernel
theorem dX6_swaps_50 : decode cX6_swaps 50 = .ok (.getfield 139, 3) := by decide +kernel
theorem dX6_swaps_53 : decode cX6_swaps 53 = .ok (.iload_n 1, 1) := by decide +kernel
theorem dX6_swaps_54 : decode cX6_swaps 54 = .ok (.iaload, 1) := by decide +kernel
theorem dX6_swaps_55 : decode cX6_swaps 55 = .ok (.invokevirtual 171, 3) := by decide +kernel
theorem dX6_swaps_58 : decode cX6_swaps 58 = .ok (.iinc 1 1, 3) := by decide +kernel
theorem dX6_swaps_61 : decode cX6_swaps 61 = .ok (.goto (-51), 3) := by decide +kernel
theorem dX6_swaps_64 : decode cX6_swaps 64 = .ok (.aload_n 0, 1) := by decide +kernel
theorem dX6_swaps_65 : decode cX6_swaps 65 = .ok (.getfield 53, 3) := by decide +kernel
theorem dX6_swaps_68 : decode cX6_swaps 68 = .ok (.invokevirtual 174, 3) := by decide +kernel
theorem dX6_swaps_71 : decode cX6_swaps 71 = .ok (.ireturn, 1) := by decide +kernel
theorem dX6_rate_0 : decode cX6_rate 0 = .ok (.aload_n 0, 1) := by decide +kernel
theorem dX6_rate_1 : decode cX6_rate 1 = .ok (.getfield 24, 3) := by decide +kernel
theorem dX6_rate_4 : decode cX6_rate 4 = .ok (.iload_n 2, 1) := by decide +kernel
theorem dX6_rate_5 : decode cX6_rate 5 = .ok (.invokevirtual 89, 3) := by decide +kernel
theorem dX6_rate_8 : decode cX6_rate 8 = .ok (.ifCond .ne 6, 3) := by decide +kernel
theorem dX6_rate_11 : decode cX6_rate 11 = .ok (.ldc 177, 2) := by decide +kernel
theorem dX6_rate_13 : decode cX6_rate 13 = .ok (.ireturn, 1) := by decide +kernel
theorem dX6_rate_14 : decode cX6_rate 14 = .ok (.iload_n 1, 1) := by decide +kernel
theorem dX6_rate_15 : decode cX6_rate 15 = .ok (.tableswitch 73 0 5 #[37, 43, 49, 55, 61, 67], 37) := by decide +kernel
theorem dX6_rate_52 : decode cX6_rate 52 = .ok (.aload_n 0, 1) := by decide +kernel
theorem dX6_rate_53 : decode cX6_rate 53 = .ok (.iload_n 2, 1) := by decide +kernel
theorem dX6_rate_54 : decode cX6_rate 54 = .ok (.invokevirtual 178, 3) := by decide +kernel
theorem dX6_rate_57 : decode cX6_rate 57 = .ok (.ireturn, 1) := by decide +kernel
theorem dX6_rate_58 : decode cX6_rate 58 = .ok (.aload_n 0, 1) := by decide +kernel
theorem dX6_rate_59 : decode cX6_rate 59 = .ok (.iload_n 2, 1) := by decide +kernel
theorem dX6_rate_60 : decode cX6_rate 60 = .ok (.invokevirtual 181, 3) := by decide +kernel
theorem dX6_rate_63 : decode cX6_rate 63 = .ok (.ireturn, 1) := by decide +kernel
theorem dX6_rate_64 : decode cX6_rate 64 = .ok (.aload_n 0, 1) := by decide +kernel
theorem dX6_rate_65 : decode cX6_rate 65 = .ok (.iload_n 2, 1) := by decide +kernel
theorem dX6_rate_66 : decode cX6_rate 66 = .ok (.invokevirtual 184, 3) := by decide +kernel
theorem dX6_rate_69 : decode cX6_rate 69 = .ok (.ireturn, 1) := by decide +kernel
theorem dX6_rate_70 : decode cX6_rate 70 = .ok (.aload_n 0, 1) := by decide +kernel
theorem dX6_rate_71 : decode cX6_rate 71 = .ok (.iload_n 2, 1) := by decide +kernel
theorem dX6_rate_72 : decode cX6_rate 72 = .ok (.invokevirtual 187, 3) := by decide +kernel
theorem dX6_rate_75 : decode cX6_rate 75 = .ok (.ireturn, 1) := by decide +kernel
theorem dX6_rate_76 : decode cX6_rate 76 = .ok (.aload_n 0, 1) := by decide +kernel
theorem dX6_rate_77 : decode cX6_rate 77 = .ok (.iload_n 2, 1) := by decide +kernel
theorem dX6_rate_78 : decode cX6_rate 78 = .ok (.invokevirtual 190, 3) := by decide +kernel
theorem dX6_rate_81 : decode cX6_rate 81 = .ok (.ireturn, 1) := by decide +kernel
theorem dX6_rate_82 : decode cX6_rate 82 = .ok (.aload_n 0, 1) := by decide +kernel
theorem dX6_rate_83 : decode cX6_rate 83 = .ok (.iload_n 2, 1) := by decide +kernel
theorem dX6_rate_84 : decode cX6_rate 84 = .ok (.invokevirtual 193, 3) := by decide +kernel
theorem dX6_rate_87 : decode cX6_rate 87 = .ok (.ireturn, 1) := by decide +kernel
theorem dX6_rate_88 : decode cX6_rate 88 = .ok (.ldc 177, 2) := by decide +kernel
theorem dX6_rate_90 : decode cX6_rate 90 = .ok (.ireturn, 1) := by decide +kernel
theorem dX6_keep_0 : decode cX6_keep 0 = .ok (.iload_n 1, 1) := by decide +kernel
theorem dX6_keep_1 : decode cX6_keep 1 = .ok (.iconst 0, 1) := by decide +kernel
theorem dX6_keep_2 : decode cX6_keep 2 = .ok (.iconst 1, 1) := by decide +kernel
theorem dX6_keep_3 : decode cX6_keep 3 = .ok (.invokestatic 61, 3) := by decide +kernel
theorem dX6_keep_6 : decode cX6_keep 6 = .ok (.ifCond .ne 5, 3) := by decide +kernel
theorem dX6_keep_9 : decode cX6_keep 9 = .ok (.iconst (-1), 1) := by decide +kernel
theorem dX6_keep_10 : decode cX6_keep 10 = .ok (.ireturn, 1) := by decide +kernel
theorem dX6_keep_11 : decode cX6_keep 11 = .ok (.aload_n 0, 1) := by decide +kernel
theorem dX6_keep_12 : decode cX6_keep 12 = .ok (.getfield 35, 3) := by decide +kernel
theorem dX6_keep_15 : decode cX6_keep 15 = .ok (.iload_n 1, 1) := by decide +kernel
theorem dX6_keep_16 : decode cX6_keep 16 = .ok (.aaload, 1) := by decide +kernel
theorem dX6_keep_17 : decode cX6_keep 17 = .ok (.aload_n 0, 1) := by decide +kernel
theorem dX6_keep_18 : decode cX6_keep 18 = .ok (.getfield 31, 3) := by decide +kernel
theorem dX6_keep_21 : decode cX6_keep 21 = .ok (.invokevirtual 196, 3) := by decide +kernel
theorem dX6_keep_24 : decode cX6_keep 24 = .ok (.aload_n 0, 1) := by decide +kernel
theorem dX6_keep_25 : decode cX6_keep 25 = .ok (.getfield 39, 3) := by decide +kernel
theorem dX6_keep_28 : decode cX6_keep 28 = .ok (.iload_n 1, 1) := by decide +kernel
theorem dX6_keep_29 : decode cX6_keep 29 = .ok (.iconst 1, 1) := by decide +kernel
theorem dX6_keep_30 : decode cX6_keep 30 = .ok (.bastore, 1) := by decide +kernel
theorem dX6_keep_31 : decode cX6_keep 31 = .ok (.aload_n 0, 1) := by decide +kernel
theorem dX6_keep_32 : decode cX6_keep 32 = .ok (.getfield 31, 3) := by decide +kernel
theorem dX6_keep_35 : decode cX6_keep 35 = .ok (.getfield 116, 3) := by decide +kernel
theorem dX6_keep_38 : decode cX6_keep 38 = .ok (.ireturn, 1) := by decide +kernel
theorem dX6_back_0 : decode cX6_back 0 = .ok (.iload_n 1, 1) := by decide +kernel
theorem dX6_back_1 : decode cX6_back 1 = .ok (.iconst 0, 1) := by decide +kernel
theorem dX6_back_2 : decode cX6_back 2 = .ok (.iconst 1, 1) := by decide +kernel
theorem dX6_back_3 : decode cX6_back 3 = .ok (.invokestatic 61, 3) := by decide +kernel
theorem dX6_back_6 : decode cX6_back 6 = .ok (.ifCond .ne 5, 3) := by decide +kernel
theorem dX6_back_9 : decode cX6_back 9 = .ok (.iconst (-1), 1) := by decide +kernel
theorem dX6_back_10 : decode cX6_back 10 = .ok (.ireturn, 1) := by decide +kernel
theorem dX6_back_11 : decode cX6_back 11 = .ok (.aload_n 0, 1) := by decide +kernel
theorem dX6_back_12 : decode cX6_back 12 = .ok (.getfield 39, 3) := by decide +kernel
theorem dX6_back_15 : decode cX6_back 15 = .ok (.iload_n 1, 1) := by decide +kernel
theorem dX6_back_16 : decode cX6_back 16 = .ok (.baload, 1) := by decide +kernel
theorem dX6_back_17 : decode cX6_back 17 = .ok (.ifCond .ne 6, 3) := by decide +kernel
theorem dX6_back_20 : decode cX6_back 20 = .ok (.bipush (-2), 2) := by decide +kernel
theorem dX6_back_22 : decode cX6_back 22 = .ok (.ireturn, 1) := by decide +kernel
theorem dX6_back_23 : decode cX6_back 23 = .ok (.aload_n 0, 1) := by decide +kernel
theorem dX6_back_24 : decode cX6_back 24 = .ok (.getfield 31, 3) := by decide +kernel
theorem dX6_back_27 : decode cX6_back 27 = .ok (.aload_n 0, 1) := by decide +kernel
theorem dX6_back_28 : decode cX6_back 28 = .ok (.getfield 35, 3) := by decide +kernel
theorem dX6_back_31 : decode cX6_back 31 = .ok (.iload_n 1, 1) := by decide +kernel
theorem dX6_back_32 : decode cX6_back 32 = .ok (.aaload, 1) := by decide +kernel
theorem dX6_back_33 : decode cX6_back 33 = .ok (.invokevirtual 196, 3) := by decide +kernel
theorem dX6_back_36 : decode cX6_back 36 = .ok (.aload_n 0, 1) := by decide +kernel
theorem dX6_back_37 : decode cX6_back 37 = .ok (.getfield 31, 3) := by decide +kernel
theorem dX6_back_40 : decode cX6_back 40 = .ok (.getfield 116, 3) := by decide +kernel
theorem dX6_back_43 : decode cX6_back 43 = .ok (.ireturn, 1) := by decide +kernel
theorem dX6_count_0 : decode cX6_count 0 = .ok (.iload_n 1, 1) := by decide +kernel
theorem dX6_count_1 : decode cX6_count 1 = .ok (.tableswitch 87 0 5 #[39, 47, 55, 63, 71, 79], 39) := by decide +kernel
theorem dX6_count_40 : decode cX6_count 40 = .ok (.aload_n 0, 1) := by decide +kernel
theorem dX6_count_41 : decode cX6_count 41 = .ok (.getfield 24, 3) := by decide +kernel
theorem dX6_count_44 : decode cX6_count 44 = .ok (.getfield 153, 3) := by decide +kernel
theorem dX6_count_47 : decode cX6_count 47 = .ok (.ireturn, 1) := by decide +kernel
theorem dX6_count_48 : decode cX6_count 48 = .ok (.aload_n 0, 1) := by decide +kernel
theorem dX6_count_49 : decode cX6_count 49 = .ok (.getfield 24, 3) := by decide +kernel
theorem dX6_count_52 : decode cX6_count 52 = .ok (.getfield 199, 3) := by decide +kernel
theorem dX6_count_55 : decode cX6_count 55 = .ok (.ireturn, 1) := by decide +kernel
theorem dX6_count_56 : decode cX6_count 56 = .ok (.aload_n 0, 1) := by decide +kernel
theorem dX6_count_57 : decode cX6_count 57 = .ok (.getfield 24, 3) := by decide +kernel
theorem dX6_count_60 : decode cX6_count 60 = .ok (.getfield 201, 3) := by decide +kernel
theorem dX6_count_63 : decode cX6_count 63 = .ok (.ireturn, 1) := by decide +kernel
theorem dX6_count_64 : decode cX6_count 64 = .ok (.aload_n 0, 1) := by decide +kernel
theorem dX6_count_65 : decode cX6_count 65 = .ok (.getfield 31, 3) := by decide +kernel
theorem dX6_count_68 : decode cX6_count 68 = .ok (.getfield 116, 3) := by decide +kernel
theorem dX6_count_71 : decode cX6_count 71 = .ok (.ireturn, 1) := by decide +kernel
theorem dX6_count_72 : decode cX6_count 72 = .ok (.aload_n 0, 1) := by decide +kernel
theorem dX6_count_73 : decode cX6_count 73 = .ok (.getfield 31, 3) := by decide +kernel
theorem dX6_count_76 : decode cX6_count 76 = .ok (.invokevirtual 204, 3) := by decide +kernel
theorem dX6_count_79 : decode cX6_count 79 = .ok (.ireturn, 1) := by decide +kernel
theorem dX6_count_80 : decode cX6_count 80 = .ok (.aload_n 0, 1) := by decide +kernel
theorem dX6_count_81 : decode cX6_count 81 = .ok (.getfield 20, 3) := by decide +kernel
theorem dX6_count_84 : decode cX6_count 84 = .ok (.getfield 65, 3) := by decide +kernel
theorem dX6_count_87 : decode cX6_count 87 = .ok (.ireturn, 1) := by decide +kernel
theorem dX6_count_88 : decode cX6_count 88 = .ok (.iconst (-1), 1) := by decide +kernel
theorem dX6_count_89 : decode cX6_count 89 = .ok (.ireturn, 1) := by decide +kernel
theorem dX6_trace_0 : decode cX6_trace 0 = .ok (.aload_n 0, 1) := by decide +kernel
theorem dX6_trace_1 : decode cX6_trace 1 = .ok (.getfield 57, 3) := by decide +kernel
theorem dX6_trace_4 : decode cX6_trace 4 = .ok (.lreturn, 1) := by decide +kernel
theorem dX6_within_0 : decode cX6_within 0 = .ok (.iload_n 0, 1) := by decide +kernel
theorem dX6_within_1 : decode cX6_within 1 = .ok (.iload_n 1, 1) := by decide +kernel
theorem dX6_within_2 : decode cX6_within 2 = .ok (.if_icmp .lt 12, 3) := by decide +kernel
theorem dX6_within_5 : decode cX6_within 5 = .ok (.iload_n 0, 1) := by decide +kernel
theorem dX6_within_6 : decode cX6_within 6 = .ok (.iload_n 2, 1) := by decide +kernel
theorem dX6_within_7 : decode cX6_within 7 = .ok (.if_icmp .gt 7, 3) := by decide +kernel
theorem dX6_within_10 : decode cX6_within 10 = .ok (.iconst 1, 1) := by decide +kernel
theorem dX6_within_11 : decode cX6_within 11 = .ok (.goto 4, 3) := by decide +kernel
theorem dX6_within_14 : decode cX6_within 14 = .ok (.iconst 0, 1) := by decide +kernel
theorem dX6_within_15 : decode cX6_within 15 = .ok (.ireturn, 1) := by decide +kernel
theorem dX6_isYear_0 : decode cX6_isYear 0 = .ok (.iload_n 0, 1) := by decide +kernel
theorem dX6_isYear_1 : decode cX6_isYear 1 = .ok (.iconst 0, 1) := by decide +kernel
theorem dX6_isYear_2 : decode cX6_isYear 2 = .ok (.bipush 9, 2) := by decide +kernel
theorem dX6_isYear_4 : decode cX6_isYear 4 = .ok (.invokestatic 61, 3) := by decide +kernel
theorem dX6_isYear_7 : decode cX6_isYear 7 = .ok (.ireturn, 1) := by decide +kernel
theorem dX6_isClaim_0 : decode cX6_isClaim 0 = .ok (.aload_n 0, 1) := by decide +kernel
theorem dX6_isClaim_1 : decode cX6_isClaim 1 = .ok (.getfield 24, 3) := by decide +kernel
theorem dX6_isClaim_4 : decode cX6_isClaim 4 = .ok (.iload_n 1, 1) := by decide +kernel
theorem dX6_isClaim_5 : decode cX6_isClaim 5 = .ok (.invokevirtual 97, 3) := by decide +kernel
theorem dX6_isClaim_8 : decode cX6_isClaim 8 = .ok (.ifCond .eq 28, 3) := by decide +kernel
theorem dX6_isClaim_11 : decode cX6_isClaim 11 = .ok (.aload_n 0, 1) := by decide +kernel
theorem dX6_isClaim_12 : decode cX6_isClaim 12 = .ok (.getfield 24, 3) := by decide +kernel
theorem dX6_isClaim_15 : decode cX6_isClaim 15 = .ok (.iload_n 2, 1) := by decide +kernel
theorem dX6_isClaim_16 : decode cX6_isClaim 16 = .ok (.invokevirtual 89, 3) := by decide +kernel
theorem dX6_isClaim_19 : decode cX6_isClaim 19 = .ok (.ifCond .eq 17, 3) := by decide +kernel
theorem dX6_isClaim_22 : decode cX6_isClaim 22 = .ok (.iload_n 3, 1) := by decide +kernel
theorem dX6_isClaim_23 : decode cX6_isClaim 23 = .ok (.iconst 1, 1) := by decide +kernel
theorem dX6_isClaim_24 : decode cX6_isClaim 24 = .ok (.bipush 10, 2) := by decide +kernel
theorem dX6_isClaim_26 : decode cX6_isClaim 26 = .ok (.invokestatic 61, 3) := by decide +kernel
theorem dX6_isClaim_29 : decode cX6_isClaim 29 = .ok (.ifCond .eq 7, 3) := by decide +kernel
theorem dX6_isClaim_32 : decode cX6_isClaim 32 = .ok (.iconst 1, 1) := by decide +kernel
theorem dX6_isClaim_33 : decode cX6_isClaim 33 = .ok (.goto 4, 3) := by decide +kernel
theorem dX6_isClaim_36 : decode cX6_isClaim 36 = .ok (.iconst 0, 1) := by decide +kernel
theorem dX6_isClaim_37 : decode cX6_isClaim 37 = .ok (.ireturn, 1) := by decide +kernel
theorem dX6_rustByHolds_0 : decode cX6_rustByHolds 0 = .ok (.aload_n 0, 1) := by decide +kernel
theorem dX6_rustByHolds_1 : decode cX6_rustByHolds 1 = .ok (.getfield 24, 3) := by decide +kernel
theorem dX6_rustByHolds_4 : decode cX6_rustByHolds 4 = .ok (.iload_n 1, 1) := by decide +kernel
theorem dX6_rustByHolds_5 : decode cX6_rustByHolds 5 = .ok (.iload_n 2, 1) := by decide +kernel
theorem dX6_rustByHolds_6 : decode cX6_rustByHolds 6 = .ok (.invokevirtual 207, 3) := by decide +kernel
theorem dX6_rustByHolds_9 : decode cX6_rustByHolds 9 = .ok (.istore_n 3, 1) := by decide +kernel
theorem dX6_rustByHolds_10 : decode cX6_rustByHolds 10 = .ok (.iconst 0, 1) := by decide +kernel
theorem dX6_rustByHolds_11 : decode cX6_rustByHolds 11 = .ok (.istore 4, 2) := by decide +kernel
theorem dX6_rustByHolds_13 : decode cX6_rustByHolds 13 = .ok (.iload 4, 2) := by decide +kernel
theorem dX6_rustByHolds_15 : decode cX6_rustByHolds 15 = .ok (.aload_n 0, 1) := by decide +kernel
theorem dX6_rustByHolds_16 : decode cX6_rustByHolds 16 = .ok (.getfield 31, 3) := by decide +kernel
theorem dX6_rustByHolds_19 : decode cX6_rustByHolds 19 = .ok (.getfield 116, 3) := by decide +kernel
theorem dX6_rustByHolds_22 : decode cX6_rustByHolds 22 = .ok (.if_icmp .ge 94, 3) := by decide +kernel
theorem dX6_rustByHolds_25 : decode cX6_rustByHolds 25 = .ok (.aload_n 0, 1) := by decide +kernel
theorem dX6_rustByHolds_26 : decode cX6_rustByHolds 26 = .ok (.getfield 31, 3) := by decide +kernel
theorem dX6_rustByHolds_29 : decode cX6_rustByHolds 29 = .ok (.getfield 126, 3) := by decide +kernel
theorem dX6_rustByHolds_32 : decode cX6_rustByHolds 32 = .ok (.iload 4, 2) := by decide +kernel
theorem dX6_rustByHolds_34 : decode cX6_rustByHolds 34 = .ok (.iaload, 1) := by decide +kernel
theorem dX6_rustByHolds_35 : decode cX6_rustByHolds 35 = .ok (.iload_n 1, 1) := by decide +kernel
theorem dX6_rustByHolds_36 : decode cX6_rustByHolds 36 = .ok (.if_icmp .ne 74, 3) := by decide +kernel
theorem dX6_rustByHolds_39 : decode cX6_rustByHolds 39 = .ok (.iload_n 2, 1) := by decide +kernel
theorem dX6_rustByHolds_40 : decode cX6_rustByHolds 40 = .ok (.aload_n 0, 1) := by decide +kernel
theorem dX6_rustByHolds_41 : decode cX6_rustByHolds 41 = .ok (.getfield 31, 3) := by decide +kernel
theorem dX6_rustByHolds_44 : decode cX6_rustByHolds 44 = .ok (.getfield 129, 3) := by decide +kernel
theorem dX6_rustByHolds_47 : decode cX6_rustByHolds 47 = .ok (.iload 4, 2) := by decide +kernel
theorem dX6_rustByHolds_49 : decode cX6_rustByHolds 49 = .ok (.iaload, 1) := by decide +kernel
theorem dX6_rustByHolds_50 : decode cX6_rustByHolds 50 = .ok (.aload_n 0, 1) := by decide +kernel
theorem dX6_rustByHolds_51 : decode cX6_rustByHolds 51 = .ok (.getfield 31, 3) := by decide +kernel
theorem dX6_rustByHolds_54 : decode cX6_rustByHolds 54 = .ok (.getfield 132, 3) := by decide +kernel
theorem dX6_rustByHolds_57 : decode cX6_rustByHolds 57 = .ok (.iload 4, 2) := by decide +kernel
theorem dX6_rustByHolds_59 : decode cX6_rustByHolds 59 = .ok (.iaload, 1) := by decide +kernel
theorem dX6_rustByHolds_60 : decode cX6_rustByHolds 60 = .ok (.iadd, 1) := by decide +kernel
theorem dX6_rustByHolds_61 : decode cX6_rustByHolds 61 = .ok (.iconst 1, 1) := by decide +kernel
theorem dX6_rustByHolds_62 : decode cX6_rustByHolds 62 = .ok (.isub, 1) := by decide +kernel
theorem dX6_rustByHolds_63 : decode cX6_rustByHolds 63 = .ok (.invokestatic 210, 3) := by decide +kernel
theorem dX6_rustByHolds_66 : decode cX6_rustByHolds 66 = .ok (.istore 5, 2) := by decide +kernel
theorem dX6_rustByHolds_68 : decode cX6_rustByHolds 68 = .ok (.iload_n 3, 1) := by decide +kernel
theorem dX6_rustByHolds_69 : decode cX6_rustByHolds 69 = .ok (.aload_n 0, 1) := by decide +kernel
theorem dX6_rustByHolds_70 : decode cX6_rustByHolds 70 = .ok (.getfield 24, 3) := by decide +kernel
theorem dX6_rustByHolds_73 : decode cX6_rustByHolds 73 = .ok (.getfield 100, 3) := by decide +kernel
theorem dX6_rustByHolds_76 : decode cX6_rustByHolds 76 = .ok (.aload_n 0, 1) := by decide +kernel
theorem dX6_rustByHolds_77 : decode cX6_rustByHolds 77 = .ok (.getfield 31, 3) := by decide +kernel
theorem dX6_rustByHolds_80 : decode cX6_rustByHolds 80 = .ok (.getfield 123, 3) := by decide +kernel
theorem dX6_rustByHolds_83 : decode cX6_rustByHolds 83 = .ok (.iload 4, 2) := by decide +kernel
theorem dX6_rustByHolds_85 : decode cX6_rustByHolds 85 = .ok (.iaload, 1) := by decide +kernel
theorem dX6_rustByHolds_86 : decode cX6_rustByHolds 86 = .ok (.iaload, 1) := by decide +kernel
theorem dX6_rustByHolds_87 : decode cX6_rustByHolds 87 = .ok (.aload_n 0, 1) := by decide +kernel
theorem dX6_rustByHolds_88 : decode cX6_rustByHolds 88 = .ok (.getfield 24, 3) := by decide +kernel
theorem dX6_rustByHolds_91 : decode cX6_rustByHolds 91 = .ok (.iload_n 1, 1) := by decide +kernel
theorem dX6_rustByHolds_92 : decode cX6_rustByHolds 92 = .ok (.aload_n 0, 1) := by decide +kernel
theorem dX6_rustByHolds_93 : decode cX6_rustByHolds 93 = .ok (.getfield 31, 3) := by decide +kernel
theorem dX6_rustByHolds_96 : decode cX6_rustByHolds 96 = .ok (.getfield 129, 3) := by decide +kernel
theorem dX6_rustByHolds_99 : decode cX6_rustByHolds 99 = .ok (.iload 4, 2) := by decide +kernel
theorem dX6_rustByHolds_101 : decode cX6_rustByHolds 101 = .ok (.iaload, 1) := by decide +kernel
theorem dX6_rustByHolds_102 : decode cX6_rustByHolds 102 = .ok (.iload 5, 2) := by decide +kernel
theorem dX6_rustByHolds_104 : decode cX6_rustByHolds 104 = .ok (.invokevirtual 215, 3) := by decide +kernel
theorem dX6_rustByHolds_107 : decode cX6_rustByHolds 107 = .ok (.imul, 1) := by decide +kernel
theorem dX6_rustByHolds_108 : decode cX6_rustByHolds 108 = .ok (.iadd, 1) := by decide +kernel
theorem dX6_rustByHolds_109 : decode cX6_rustByHolds 109 = .ok (.istore_n 3, 1) := by decide +kernel
theorem dX6_rustByHolds_110 : decode cX6_rustByHolds 110 = .ok (.iinc 4 1, 3) := by decide +kernel
theorem dX6_rustByHolds_113 : decode cX6_rustByHolds 113 = .ok (.goto (-100), 3) := by decide +kernel
theorem dX6_rustByHolds_116 : decode cX6_rustByHolds 116 = .ok (.iload_n 3, 1) := by decide +kernel
theorem dX6_rustByHolds_117 : decode cX6_rustByHolds 117 = .ok (.ireturn, 1) := by decide +kernel
theorem dX6_commonDivisor_0 : decode cX6_commonDivisor 0 = .ok (.iload_n 1, 1) := by decide +kernel
theorem dX6_commonDivisor_1 : decode cX6_commonDivisor 1 = .ok (.istore_n 2, 1) := by decide +kernel
theorem dX6_commonDivisor_2 : decode cX6_commonDivisor 2 = .ok (.iload_n 0, 1) := by decide +kernel
theorem dX6_commonDivisor_3 : decode cX6_commonDivisor 3 = .ok (.istore_n 3, 1) := by decide +kernel
theorem dX6_commonDivisor_4 : decode cX6_commonDivisor 4 = .ok (.iconst 0, 1) := by decide +kernel
theorem dX6_commonDivisor_5 : decode cX6_commonDivisor 5 = .ok (.istore 4, 2) := by decide +kernel
theorem dX6_commonDivisor_7 : decode cX6_commonDivisor 7 = .ok (.iload 4, 2) := by decide +kernel
theorem dX6_commonDivisor_9 : decode cX6_commonDivisor 9 = .ok (.bipush 64, 2) := by decide +kernel
theorem dX6_commonDivisor_11 : decode cX6_commonDivisor 11 = .ok (.if_icmp .ge 23, 3) := by decide +kernel
theorem dX6_commonDivisor_14 : decode cX6_commonDivisor 14 = .ok (.iload_n 3, 1) := by decide +kernel
theorem dX6_commonDivisor_15 : decode cX6_commonDivisor 15 = .ok (.ifCond .eq 19, 3) := by decide +kernel
theorem dX6_commonDivisor_18 : decode cX6_commonDivisor 18 = .ok (.iload_n 2, 1) := by decide +kernel
theorem dX6_commonDivisor_19 : decode cX6_commonDivisor 19 = .ok (.iload_n 3, 1) := by decide +kernel
theorem dX6_commonDivisor_20 : decode cX6_commonDivisor 20 = .ok (.irem, 1) := by decide +kernel
theorem dX6_commonDivisor_21 : decode cX6_commonDivisor 21 = .ok (.istore 5, 2) := by decide +kernel
theorem dX6_commonDivisor_23 : decode cX6_commonDivisor 23 = .ok (.iload_n 3, 1) := by decide +kernel
theorem dX6_commonDivisor_24 : decode cX6_commonDivisor 24 = .ok (.istore_n 2, 1) := by decide +kernel
theorem dX6_commonDivisor_25 : decode cX6_commonDivisor 25 = .ok (.iload 5, 2) := by decide +kernel
theorem dX6_commonDivisor_27 : decode cX6_commonDivisor 27 = .ok (.istore_n 3, 1) := by decide +kernel
theorem dX6_commonDivisor_28 : decode cX6_commonDivisor 28 = .ok (.iinc 4 1, 3) := by decide +kernel
theorem dX6_commonDivisor_31 : decode cX6_commonDivisor 31 = .ok (.goto (-24), 3) := by decide +kernel
theorem dX6_commonDivisor_34 : decode cX6_commonDivisor 34 = .ok (.iload_n 2, 1) := by decide +kernel
theorem dX6_commonDivisor_35 : decode cX6_commonDivisor 35 = .ok (.ireturn, 1) := by decide +kernel
theorem dX6_rateOfBar_0 : decode cX6_rateOfBar 0 = .ok (.aload_n 0, 1) := by decide +kernel
theorem dX6_rateOfBar_1 : decode cX6_rateOfBar 1 = .ok (.dup, 1) := by decide +kernel
theorem dX6_rateOfBar_2 : decode cX6_rateOfBar 2 = .ok (.getfield 57, 3) := by decide +kernel
theorem dX6_rateOfBar_5 : decode cX6_rateOfBar 5 = .ok (.lconst 1, 1) := by decide +kernel
theorem dX6_rateOfBar_6 : decode cX6_rateOfBar 6 = .ok (.ladd, 1) := by decide +kernel
theorem dX6_rateOfBar_7 : decode cX6_rateOfBar 7 = .ok (.putfield 57, 3) := by decide +kernel
theorem dX6_rateOfBar_10 : decode cX6_rateOfBar 10 = .ok (.aload_n 0, 1) := by decide +kernel
theorem dX6_rateOfBar_11 : decode cX6_rateOfBar 11 = .ok (.getfield 24, 3) := by decide +kernel
theorem dX6_rateOfBar_14 : decode cX6_rateOfBar 14 = .ok (.getfield 93, 3) := by decide +kernel
theorem dX6_rateOfBar_17 : decode cX6_rateOfBar 17 = .ok (.iload_n 1, 1) := by decide +kernel
theorem dX6_rateOfBar_18 : decode cX6_rateOfBar 18 = .ok (.iaload, 1) := by decide +kernel
theorem dX6_rateOfBar_19 : decode cX6_rateOfBar 19 = .ok (.ireturn, 1) := by decide +kernel
theorem dX6_rateOfRail_0 : decode cX6_rateOfRail 0 = .ok (.aload_n 0, 1) := by decide +kernel
theorem dX6_rateOfRail_1 : decode cX6_rateOfRail 1 = .ok (.dup, 1) := by decide +kernel
theorem dX6_rateOfRail_2 : decode cX6_rateOfRail 2 = .ok (.getfield 57, 3) := by decide +kernel
theorem dX6_rateOfRail_5 : decode cX6_rateOfRail 5 = .ok (.ldc2_w 219, 3) := by decide +kernel
theorem dX6_rateOfRail_8 : decode cX6_rateOfRail 8 = .ok (.ladd, 1) := by decide +kernel
theorem dX6_rateOfRail_9 : decode cX6_rateOfRail 9 = .ok (.putfield 57, 3) := by decide +kernel
theorem dX6_rateOfRail_12 : decode cX6_rateOfRail 12 = .ok (.aload_n 0, 1) := by decide +kernel
theorem dX6_rateOfRail_13 : decode cX6_rateOfRail 13 = .ok (.iload_n 1, 1) := by decide +kernel
theorem dX6_rateOfRail_14 : decode cX6_rateOfRail 14 = .ok (.invokevirtual 178, 3) := by decide +kernel
theorem dX6_rateOfRail_17 : decode cX6_rateOfRail 17 = .ok (.aload_n 0, 1) := by decide +kernel
theorem dX6_rateOfRail_18 : decode cX6_rateOfRail 18 = .ok (.getfield 24, 3) := by decide +kernel
theorem dX6_rateOfRail_21 : decode cX6_rateOfRail 21 = .ok (.iload_n 1, 1) := by decide +kernel
theorem dX6_rateOfRail_22 : decode cX6_rateOfRail 22 = .ok (.invokevirtual 221, 3) := by decide +kernel
theorem dX6_rateOfRail_25 : decode cX6_rateOfRail 25 = .ok (.iadd, 1) := by decide +kernel
theorem dX6_rateOfRail_26 : decode cX6_rateOfRail 26 = .ok (.ireturn, 1) := by decide +kernel
theorem dX6_rateOfSpike_0 : decode cX6_rateOfSpike 0 = .ok (.aload_n 0, 1) := by decide +kernel
theorem dX6_rateOfSpike_1 : decode cX6_rateOfSpike 1 = .ok (.dup, 1) := by decide +kernel
theorem dX6_rateOfSpike_2 : decode cX6_rateOfSpike 2 = .ok (.getfield 57, 3) := by decide +kernel
theorem dX6_rateOfSpike_5 : decode cX6_rateOfSpike 5 = .ok (.ldc2_w 224, 3) := by decide +kernel
theorem dX6_rateOfSpike_8 : decode cX6_rateOfSpike 8 = .ok (.ladd, 1) := by decide +kernel
theorem dX6_rateOfSpike_9 : decode cX6_rateOfSpike 9 = .ok (.putfield 57, 3) := by decide +kernel
theorem dX6_rateOfSpike_12 : decode cX6_rateOfSpike 12 = .ok (.aload_n 0, 1) := by decide +kernel
theorem dX6_rateOfSpike_13 : decode cX6_rateOfSpike 13 = .ok (.iload_n 1, 1) := by decide +kernel
theorem dX6_rateOfSpike_14 : decode cX6_rateOfSpike 14 = .ok (.invokevirtual 178, 3) := by decide +kernel
theorem dX6_rateOfSpike_17 : decode cX6_rateOfSpike 17 = .ok (.aload_n 0, 1) := by decide +kernel
theorem dX6_rateOfSpike_18 : decode cX6_rateOfSpike 18 = .ok (.getfield 31, 3) := by decide +kernel
theorem dX6_rateOfSpike_21 : decode cX6_rateOfSpike 21 = .ok (.iload_n 1, 1) := by decide +kernel
theorem dX6_rateOfSpike_22 : decode cX6_rateOfSpike 22 = .ok (.invokevirtual 226, 3) := by decide +kernel
theorem dX6_rateOfSpike_25 : decode cX6_rateOfSpike 25 = .ok (.isub, 1) := by decide +kernel
theorem dX6_rateOfSpike_26 : decode cX6_rateOfSpike 26 = .ok (.ireturn, 1) := by decide +kernel
theorem dX6_rateOfGate_0 : decode cX6_rateOfGate 0 = .ok (.aload_n 0, 1) := by decide +kernel
theorem dX6_rateOfGate_1 : decode cX6_rateOfGate 1 = .ok (.dup, 1) := by decide +kernel
theorem dX6_rateOfGate_2 : decode cX6_rateOfGate 2 = .ok (.getfield 57, 3) := by decide +kernel
theorem dX6_rateOfGate_5 : decode cX6_rateOfGate 5 = .ok (.ldc2_w 229, 3) := by decide +kernel
theorem dX6_rateOfGate_8 : decode cX6_rateOfGate 8 = .ok (.ladd, 1) := by decide +kernel
theorem dX6_rateOfGate_9 : decode cX6_rateOfGate 9 = .ok (.putfield 57, 3) := by decide +kernel
theorem dX6_rateOfGate_12 : decode cX6_rateOfGate 12 = .ok (.iconst 2, 1) := by decide +kernel
theorem dX6_rateOfGate_13 : decode cX6_rateOfGate 13 = .ok (.aload_n 0, 1) := by decide +kernel
theorem dX6_rateOfGate_14 : decode cX6_rateOfGate 14 = .ok (.iload_n 1, 1) := by decide +kernel
theorem dX6_rateOfGate_15 : decode cX6_rateOfGate 15 = .ok (.invokevirtual 181, 3) := by decide +kernel
theorem dX6_rateOfGate_18 : decode cX6_rateOfGate 18 = .ok (.imul, 1) := by decide +kernel
theorem dX6_rateOfGate_19 : decode cX6_rateOfGate 19 = .ok (.ireturn, 1) := by decide +kernel
theorem dX6_rateOfFinial_0 : decode cX6_rateOfFinial 0 = .ok (.aload_n 0, 1) := by decide +kernel
theorem dX6_rateOfFinial_1 : decode cX6_rateOfFinial 1 = .ok (.dup, 1) := by decide +kernel
theorem dX6_rateOfFinial_2 : decode cX6_rateOfFinial 2 = .ok (.getfield 57, 3) := by decide +kernel
theorem dX6_rateOfFinial_5 : decode cX6_rateOfFinial 5 = .ok (.ldc2_w 231, 3) := by decide +kernel
theorem dX6_rateOfFinial_8 : decode cX6_rateOfFinial 8 = .ok (.ladd, 1) := by decide +kernel
theorem dX6_rateOfFinial_9 : decode cX6_rateOfFinial 9 = .ok (.putfield 57, 3) := by decide +kernel
theorem dX6_rateOfFinial_12 : decode cX6_rateOfFinial 12 = .ok (.aload_n 0, 1) := by decide +kernel
theorem dX6_rateOfFinial_13 : decode cX6_rateOfFinial 13 = .ok (.iload_n 1, 1) := by decide +kernel
theorem dX6_rateOfFinial_14 : decode cX6_rateOfFinial 14 = .ok (.invokevirtual 184, 3) := by decide +kernel
theorem dX6_rateOfFinial_17 : decode cX6_rateOfFinial 17 = .ok (.iload_n 1, 1) := by decide +kernel
theorem dX6_rateOfFinial_18 : decode cX6_rateOfFinial 18 = .ok (.iadd, 1) := by decide +kernel
theorem dX6_rateOfFinial_19 : decode cX6_rateOfFinial 19 = .ok (.ireturn, 1) := by decide +kernel
theorem dX6_rateOfNewOne_0 : decode cX6_rateOfNewOne 0 = .ok (.aload_n 0, 1) := by decide +kernel
theorem dX6_rateOfNewOne_1 : decode cX6_rateOfNewOne 1 = .ok (.dup, 1) := by decide +kernel
theorem dX6_rateOfNewOne_2 : decode cX6_rateOfNewOne 2 = .ok (.getfield 57, 3) := by decide +kernel
theorem dX6_rateOfNewOne_5 : decode cX6_rateOfNewOne 5 = .ok (.ldc2_w 233, 3) := by decide +kernel
theorem dX6_rateOfNewOne_8 : decode cX6_rateOfNewOne 8 = .ok (.ladd, 1) := by decide +kernel
theorem dX6_rateOfNewOne_9 : decode cX6_rateOfNewOne 9 = .ok (.putfield 57, 3) := by decide +kernel
theorem dX6_rateOfNewOne_12 : decode cX6_rateOfNewOne 12 = .ok (.aload_n 0, 1) := by decide +kernel
theorem dX6_rateOfNewOne_13 : decode cX6_rateOfNewOne 13 = .ok (.iload_n 1, 1) := by decide +kernel
theorem dX6_rateOfNewOne_14 : decode cX6_rateOfNewOne 14 = .ok (.invokevirtual 178, 3) := by decide +kernel
theorem dX6_rateOfNewOne_17 : decode cX6_rateOfNewOne 17 = .ok (.aload_n 0, 1) := by decide +kernel
theorem dX6_rateOfNewOne_18 : decode cX6_rateOfNewOne 18 = .ok (.iload_n 1, 1) := by decide +kernel
theorem dX6_rateOfNewOne_19 : decode cX6_rateOfNewOne 19 = .ok (.bipush 9, 2) := by decide +kernel
theorem dX6_rateOfNewOne_21 : decode cX6_rateOfNewOne 21 = .ok (.invokevirtual 135, 3) := by decide +kernel
theorem dX6_rateOfNewOne_24 : decode cX6_rateOfNewOne 24 = .ok (.iadd, 1) := by decide +kernel
theorem dX6_rateOfNewOne_25 : decode cX6_rateOfNewOne 25 = .ok (.ireturn, 1) := by decide +kernel
theorem dX7_init_0 : decode cX7_init 0 = .ok (.aload_n 0, 1) := by decide +kernel
theorem dX7_init_1 : decode cX7_init 1 = .ok (.invokespecial 1, 3) := by decide +kernel
theorem dX7_init_4 : decode cX7_init 4 = .ok (.aload_n 0, 1) := by decide +kernel
theorem dX7_init_5 : decode cX7_init 5 = .ok (.sipush 300, 3) := by decide +kernel
theorem dX7_init_8 : decode cX7_init 8 = .ok (.newarray .int, 2) := by decide +kernel
theorem dX7_init_10 : decode cX7_init 10 = .ok (.putfield 7, 3) := by decide +kernel
theorem dX7_init_13 : decode cX7_init 13 = .ok (.aload_n 0, 1) := by decide +kernel
theorem dX7_init_14 : decode cX7_init 14 = .ok (.bipush 47, 2) := by decide +kernel
theorem dX7_init_16 : decode cX7_init 16 = .ok (.newarray .int, 2) := by decide +kernel
theorem dX7_init_18 : decode cX7_init 18 = .ok (.putfield 13, 3) := by decide +kernel
theorem dX7_init_21 : decode cX7_init 21 = .ok (.aload_n 0, 1) := by decide +kernel
theorem dX7_init_22 : decode cX7_init 22 = .ok (.bipush 47, 2) := by decide +kernel
theorem dX7_init_24 : decode cX7_init 24 = .ok (.newarray .int, 2) := by decide +kernel
theorem dX7_init_26 : decode cX7_init 26 = .ok (.putfield 16, 3) := by decide +kernel
theorem dX7_init_29 : decode cX7_init 29 = .ok (.aload_n 0, 1) := by decide +kernel
theorem dX7_init_30 : decode cX7_init 30 = .ok (.bipush 55, 2) := by decide +kernel
theorem dX7_init_32 : decode cX7_init 32 = .ok (.newarray .int, 2) := by decide +kernel
theorem dX7_init_34 : decode cX7_init 34 = .ok (.putfield 19, 3) := by decide +kernel
theorem dX7_init_37 : decode cX7_init 37 = .ok (.aload_n 0, 1) := by decide +kernel
theorem dX7_init_38 : decode cX7_init 38 = .ok (.bipush 110, 2) := by decide +kernel
theorem dX7_init_40 : decode cX7_init 40 = .ok (.newarray .int, 2) := by decide +kernel
theorem dX7_init_42 : decode cX7_init 42 = .ok (.putfield 22, 3) := by decide +kernel
theorem dX7_init_45 : decode cX7_init 45 = .ok (.aload_n 0, 1) := by decide +kernel
theorem dX7_init_46 : decode cX7_init 46 = .ok (.iconst 2, 1) := by decide +kernel
theorem dX7_init_47 : decode cX7_init 47 = .ok (.newarray .boolean, 2) := by decide +kernel
theorem dX7_init_49 : decode cX7_init 49 = .ok (.putfield 25, 3) := by decide +kernel
theorem dX7_init_52 : decode cX7_init 52 = .ok (.aload_n 0, 1) := by decide +kernel
theorem dX7_init_53 : decode cX7_init 53 = .ok (.bipush 6, 2) := by decide +kernel
theorem dX7_init_55 : decode cX7_init 55 = .ok (.newarray .int, 2) := by decide +kernel
theorem dX7_init_57 : decode cX7_init 57 = .ok (.putfield 29, 3) := by decide +kernel
theorem dX7_init_60 : decode cX7_init 60 = .ok (.aload_n 0, 1) := by decide +kernel
theorem dX7_init_61 : decode cX7_init 61 = .ok (.bipush 60, 2) := by decide +kernel
theorem dX7_init_63 : decode cX7_init 63 = .ok (.newarray .int, 2) := by decide +kernel
theorem dX7_init_65 : decode cX7_init 65 = .ok (.putfield 32, 3) := by decide +kernel
theorem dX7_init_68 : decode cX7_init 68 = .ok (.aload_n 0, 1) := by decide +kernel
theorem dX7_init_69 : decode cX7_init 69 = .ok (.bipush 6, 2) := by decide +kernel
theorem dX7_init_71 : decode cX7_init 71 = .ok (.newarray .int, 2) := by decide +kernel
theorem dX7_init_73 : decode cX7_init 73 = .ok (.putfield 35, 3) := by decide +kernel
theorem dX7_init_76 : decode cX7_init 76 = .ok (.aload_n 0, 1) := by decide +kernel
theorem dX7_init_77 : decode cX7_init 77 = .ok (.sipush 2400, 3) := by decide +kernel
theorem dX7_init_80 : decode cX7_init 80 = .ok (.newarray .int, 2) := by decide +kernel
theorem dX7_init_82 : decode cX7_init 82 = .ok (.putfield 38, 3) := by decide +kernel
theorem dX7_init_85 : decode cX7_init 85 = .ok (.aload_n 0, 1) := by decide +kernel
theorem dX7_init_86 : decode cX7_init 86 = .ok (.bipush 6, 2) := by decide +kernel
theorem dX7_init_88 : decode cX7_init 88 = .ok (.newarray .int, 2) := by decide +kernel
theorem dX7_init_90 : decode cX7_init 90 = .ok (.putfield 41, 3) := by decide +kernel
theorem dX7_init_93 : decode cX7_init 93 = .ok (.aload_n 0, 1) := by decide +kernel
theorem dX7_init_94 : decode cX7_init 94 = .ok (.bipush 6, 2) := by decide +kernel
theorem dX7_init_96 : decode cX7_init 96 = .ok (.newarray .int, 2) := by decide +kernel
theorem dX7_init_98 : decode cX7_init 98 = .ok (.putfield 44, 3) := by decide +kernel
theorem dX7_init_101 : decode cX7_init 101 = .ok (.aload_n 0, 1) := by decide +kernel
theorem dX7_init_102 : decode cX7_init 102 = .ok (.invokevirtual 47, 3) := by decide +kernel
theorem dX7_init_105 : decode cX7_init 105 = .ok (.pop, 1) := by decide +kernel
theorem dX7_init_106 : decode cX7_init 106 = .ok (.aload_n 0, 1) := by decide +kernel
theorem dX7_init_107 : decode cX7_init 107 = .ok (.invokevirtual 51, 3) := by decide +kernel
theorem dX7_init_110 : decode cX7_init 110 = .ok (.return_, 1) := by decide +kernel
theorem dX7_in_0 : decode cX7_in 0 = .ok (.iload_n 0, 1) := by decide +kernel
theorem dX7_in_1 : decode cX7_in 1 = .ok (.iload_n 1, 1) := by decide +kernel
theorem dX7_in_2 : decode cX7_in 2 = .ok (.if_icmp .lt 12, 3) := by decide +kernel
theorem dX7_in_5 : decode cX7_in 5 = .ok (.iload_n 0, 1) := by decide +kernel
theorem dX7_in_6 : decode cX7_in 6 = .ok (.iload_n 2, 1) := by decide +kernel
theorem dX7_in_7 : decode cX7_in 7 = .ok (.if_icmp .gt 7, 3) := by decide +kernel
theorem dX7_in_10 : decode cX7_in 10 = .ok (.iconst 1, 1) := by decide +kernel
theorem dX7_in_11 : decode cX7_in 11 = .ok (.goto 4, 3) := by decide +kernel
theorem dX7_in_14 : decode cX7_in 14 = .ok (.iconst 0, 1) := by decide +kernel
theorem dX7_in_15 : decode cX7_in 15 = .ok (.ireturn, 1) := by decide +kernel
theorem dX7_isBar_0 : decode cX7_isBar 0 = .ok (.iload_n 1, 1) := by decide +kernel
theorem dX7_isBar_1 : decode cX7_isBar 1 = .ok (.iconst 0, 1) := by decide +kernel
theorem dX7_isBar_2 : decode cX7_isBar 2 = .ok (.aload_n 0, 1) := by decide +kernel
theorem dX7_isBar_3 : decode cX7_isBar 3 = .ok (.getfield 13, 3) := by decide +kernel
theorem dX7_isBar_6 : decode cX7_isBar 6 = .ok (.iconst 0, 1) := by decide +kernel
theorem dX7_isBar_7 : decode cX7_isBar 7 = .ok (.iaload, 1) := by decide +kernel
theorem dX7_isBar_8 : decode cX7_isBar 8 = .ok (.iconst 1, 1) := by decide +kernel
theorem dX7_isBar_9 : decode cX7_isBar 9 = .ok (.isub, 1) := by decide +kernel
theorem dX7_isBar_10 : decode cX7_isBar 10 = .ok (.invokestatic 54, 3) := by decide +kernel
theorem dX7_isBar_13 : decode cX7_isBar 13 = .ok (.ireturn, 1) := by decide +kernel
theorem dX7_isPerson_0 : decode cX7_isPerson 0 = .ok (.iload_n 1, 1) := by decide +kernel
theorem dX7_isPerson_1 : decode cX7_isPerson 1 = .ok (.iconst 0, 1) := by decide +kernel
theorem dX7_isPerson_2 : decode cX7_isPerson 2 = .ok (.aload_n 0, 1) := by decide +kernel
theorem dX7_isPerson_3 : decode cX7_isPerson 3 = .ok (.getfield 13, 3) := by decide +kernel
theorem dX7_isPerson_6 : decode cX7_isPerson 6 = .ok (.iconst 1, 1) := by decide +kernel
theorem dX7_isPerson_7 : decode cX7_isPerson 7 = .ok (.iaload, 1) := by decide +kernel
theorem dX7_isPerson_8 : decode cX7_isPerson 8 = .ok (.iconst 1, 1) := by decide +kernel
theorem dX7_isPerson_9 : decode cX7_isPerson 9 = .ok (.isub, 1) := by decide +kernel
theorem dX7_isPerson_10 : decode cX7_isPerson 10 = .ok (.invokestatic 54, 3) := by decide +kernel
theorem dX7_isPerson_13 : decode cX7_isPerson 13 = .ok (.ireturn, 1) := by decide +kernel
theorem dX7_type_0 : decode cX7_type 0 = .ok (.iload_n 3, 1) := by decide +kernel
theorem dX7_type_1 : decode cX7_type 1 = .ok (.iconst 1, 1) := by decide +kernel
theorem dX7_type_2 : decode cX7_type 2 = .ok (.bipush 8, 2) := by decide +kernel
theorem dX7_type_4 : decode cX7_type 4 = .ok (.invokestatic 54, 3) := by decide +kernel
theorem dX7_type_7 : decode cX7_type 7 = .ok (.ifCond .ne 5, 3) := by decide +kernel
theorem dX7_type_10 : decode cX7_type 10 = .ok (.iconst (-1), 1) := by decide +kernel
theorem dX7_type_11 : decode cX7_type 11 = .ok (.ireturn, 1) := by decide +kernel
theorem dX7_type_12 : decode cX7_type 12 = .ok (.aload_n 0, 1) := by decide +kernel
theorem dX7_type_13 : decode cX7_type 13 = .ok (.getfield 58, 3) := by decide +kernel
theorem dX7_type_16 : decode cX7_type 16 = .ok (.iload_n 3, 1) := by decide +kernel
theorem dX7_type_17 : decode cX7_type 17 = .ok (.iadd, 1) := by decide +kernel
theorem dX7_type_18 : decode cX7_type 18 = .ok (.sipush 300, 3) := by decide +kernel
theorem dX7_type_21 : decode cX7_type 21 = .ok (.if_icmp .le 6, 3) := by decide +kernel
theorem dX7_type_24 : decode cX7_type 24 = .ok (.bipush (-3), 2) := by decide +kernel
theorem dX7_type_26 : decode cX7_type 26 = .ok (.ireturn, 1) := by decide +kernel
theorem dX7_type_27 : decode cX7_type 27 = .ok (.iload_n 3, 1) := by decide +kernel
theorem dX7_type_28 : decode cX7_type 28 = .ok (.iconst 1, 1) := by decide +kernel
theorem dX7_type_29 : decode cX7_type 29 = .ok (.isub, 1) := by decide +kernel
theorem dX7_type_30 : decode cX7_type 30 = .ok (.istore 4, 2) := by decide +kernel
theorem dX7_type_32 : decode cX7_type 32 = .ok (.iload 4, 2) := by decide +kernel
theorem dX7_type_34 : decode cX7_type 34 = .ok (.ifCond .lt 40, 3) := by decide +kernel
theorem dX7_type_37 : decode cX7_type 37 = .ok (.aload_n 0, 1) := by decide +kernel
theorem dX7_type_38 : decode cX7_type 38 = .ok (.getfield 7, 3) := by decide +kernel
theorem dX7_type_41 : decode cX7_type 41 = .ok (.aload_n 0, 1) := by decide +kernel
theorem dX7_type_42 : decode cX7_type 42 = .ok (.getfield 58, 3) := by decide +kernel
theorem dX7_type_45 : decode cX7_type 45 = .ok (.lload_n 1, 1) := by decide +kernel
theorem dX7_type_46 : decode cX7_type 46 = .ok (.bipush 8, 2) := by decide +kernel
theorem dX7_type_48 : decode cX7_type 48 = .ok (.iload 4, 2) := by decide +kernel
theorem dX7_type_50 : decode cX7_type 50 = .ok (.imul, 1) := by decide +kernel
theorem dX7_type_51 : decode cX7_type 51 = .ok (.lshr, 1) := by decide +kernel
theorem dX7_type_52 : decode cX7_type 52 = .ok (.ldc2_w 62, 3) := by decide +kernel
theorem dX7_type_55 : decode cX7_type 55 = .ok (.land, 1) := by decide +kernel
theorem dX7_type_56 : decode cX7_type 56 = .ok (.l2i, 1) := by decide +kernel
theorem dX7_type_57 : decode cX7_type 57 = .ok (.iastore, 1) := by decide +kernel
theorem dX7_type_58 : decode cX7_type 58 = .ok (.aload_n 0, 1) := by decide +kernel
theorem dX7_type_59 : decode cX7_type 59 = .ok (.dup, 1) := by decide +kernel
theorem dX7_type_60 : decode cX7_type 60 = .ok (.getfield 58, 3) := by decide +kernel
theorem dX7_type_63 : decode cX7_type 63 = .ok (.iconst 1, 1) := by decide +kernel
theorem dX7_type_64 : decode cX7_type 64 = .ok (.iadd, 1) := by decide +kernel
theorem dX7_type_65 : decode cX7_type 65 = .ok (.putfield 58, 3) := by decide +kernel
theorem dX7_type_68 : decode cX7_type 68 = .ok (.iinc 4 (-1), 3) := by decide +kernel
theorem dX7_type_71 : decode cX7_type 71 = .ok (.goto (-39), 3) := by decide +kernel
theorem dX7_type_74 : decode cX7_type 74 = .ok (.aload_n 0, 1) := by decide +kernel
theorem dX7_type_75 : decode cX7_type 75 = .ok (.getfield 58, 3) := by decide +kernel
theorem dX7_type_78 : decode cX7_type 78 = .ok (.ireturn, 1) := by decide +kernel
theorem dX7_clear_0 : decode cX7_clear 0 = .ok (.aload_n 0, 1) := by decide +kernel
theorem dX7_clear_1 : decode cX7_clear 1 = .ok (.getfield 58, 3) := by decide +kernel
theorem dX7_clear_4 : decode cX7_clear 4 = .ok (.istore_n 1, 1) := by decide +kernel
theorem dX7_clear_5 : decode cX7_clear 5 = .ok (.aload_n 0, 1) := by decide +kernel
theorem dX7_clear_6 : decode cX7_clear 6 = .ok (.iconst 0, 1) := by decide +kernel
theorem dX7_clear_7 : decode cX7_clear 7 = .ok (.putfield 58, 3) := by decide +kernel
theorem dX7_clear_10 : decode cX7_clear 10 = .ok (.iload_n 1, 1) := by decide +kernel
theorem dX7_clear_11 : decode cX7_clear 11 = .ok (.ireturn, 1) := by decide +kernel
theorem dX7_byteAt_0 : decode cX7_byteAt 0 = .ok (.iload_n 1, 1) := by decide +kernel
theorem dX7_byteAt_1 : decode cX7_byteAt 1 = .ok (.aload_n 0, 1) := by decide +kernel
theorem dX7_byteAt_2 : decode cX7_byteAt 2 = .ok (.getfield 58, 3) := by decide +kernel
theorem dX7_byteAt_5 : decode cX7_byteAt 5 = .ok (.if_icmp .ge 12, 3) := by decide +kernel
theorem dX7_byteAt_8 : decode cX7_byteAt 8 = .ok (.aload_n 0, 1) := by decide +kernel
theorem dX7_byteAt_9 : decode cX7_byteAt 9 = .ok (.getfield 7, 3) := by decide +kernel
theorem dX7_byteAt_12 : decode cX7_byteAt 12 = .ok (.iload_n 1, 1) := by decide +kernel
theorem dX7_byteAt_13 : decode cX7_byteAt 13 = .ok (.iaload, 1) := by decide +kernel
theorem dX7_byteAt_14 : decode cX7_byteAt 14 = .ok (.goto 4, 3) := by decide +kernel
theorem dX7_byteAt_17 : decode cX7_byteAt 17 = .ok (.iconst (-1), 1) := by decide +kernel
theorem dX7_byteAt_18 : decode cX7_byteAt 18 = .ok (.ireturn, 1) := by decide +kernel
theorem dX7_sortOf_0 : decode cX7_sortOf 0 = .ok (.iload_n 0, 1) := by decide +kernel
theorem dX7_sortOf_1 : decode cX7_sortOf 1 = .ok (.ifCond .ge 7, 3) := by decide +kernel
theorem dX7_sortOf_4 : decode cX7_sortOf 4 = .ok (.iconst 0, 1) := by decide +kernel
theorem dX7_sortOf_5 : decode cX7_sortOf 5 = .ok (.goto 44, 3) := by decide +kernel
theorem dX7_sortOf_8 : decode cX7_sortOf 8 = .ok (.iload_n 0, 1) := by decide +kernel
theorem dX7_sortOf_9 : decode cX7_sortOf 9 = .ok (.bipush 97, 2) := by decide +kernel
theorem dX7_sortOf_11 : decode cX7_sortOf 11 = .ok (.bipush 122, 2) := by decide +kernel
theorem dX7_sortOf_13 : decode cX7_sortOf 13 = .ok (.invokestatic 54, 3) := by decide +kernel
theorem dX7_sortOf_16 : decode cX7_sortOf 16 = .ok (.ifCond .eq 7, 3) := by decide +kernel
theorem dX7_sortOf_19 : decode cX7_sortOf 19 = .ok (.iconst 1, 1) := by decide +kernel
theorem dX7_sortOf_20 : decode cX7_sortOf 20 = .ok (.goto 29, 3) := by decide +kernel
theorem dX7_sortOf_23 : decode cX7_sortOf 23 = .ok (.iload_n 0, 1) := by decide +kernel
theorem dX7_sortOf_24 : decode cX7_sortOf 24 = .ok (.bipush 48, 2) := by decide +kernel
theorem dX7_sortOf_26 : decode cX7_sortOf 26 = .ok (.bipush 57, 2) := by decide +kernel
theorem dX7_sortOf_28 : decode cX7_sortOf 28 = .ok (.invokestatic 54, 3) := by decide +kernel
theorem dX7_sortOf_31 : decode cX7_sortOf 31 = .ok (.ifCond .eq 7, 3) := by decide +kernel
theorem dX7_sortOf_34 : decode cX7_sortOf 34 = .ok (.iconst 2, 1) := by decide +kernel
theorem dX7_sortOf_35 : decode cX7_sortOf 35 = .ok (.goto 14, 3) := by decide +kernel
theorem dX7_sortOf_38 : decode cX7_sortOf 38 = .ok (.iload_n 0, 1) := by decide +kernel
theorem dX7_sortOf_39 : decode cX7_sortOf 39 = .ok (.bipush 59, 2) := by decide +kernel
theorem dX7_sortOf_41 : decode cX7_sortOf 41 = .ok (.if_icmp .ne 7, 3) := by decide +kernel
theorem dX7_sortOf_44 : decode cX7_sortOf 44 = .ok (.iconst 3, 1) := by decide +kernel
theorem dX7_sortOf_45 : decode cX7_sortOf 45 = .ok (.goto 4, 3) := by decide +kernel
theorem dX7_sortOf_48 : decode cX7_sortOf 48 = .ok (.iconst 4, 1) := by decide +kernel
theorem dX7_sortOf_49 : decode cX7_sortOf 49 = .ok (.ireturn, 1) := by decide +kernel
theorem dX7_token_0 : decode cX7_token 0 = .ok (.aload_n 0, 1) := by decide +kernel
theorem dX7_token_1 : decode cX7_token 1 = .ok (.aload_n 0, 1) := by decide +kernel
theorem dX7_token_2 : decode cX7_token 2 = .ok (.getfield 64, 3) := by decide +kernel
theorem dX7_token_5 : decode cX7_token 5 = .ok (.invokevirtual 67, 3) := by decide +kernel
theorem dX7_token_8 : decode cX7_token 8 = .ok (.bipush 32, 2) := by decide +kernel
theorem dX7_token_10 : decode cX7_token 10 = .ok (.if_icmp .ne 16, 3) := by decide +kernel
theorem dX7_token_13 : decode cX7_token 13 = .ok (.aload_n 0, 1) := by decide +kernel
theorem dX7_token_14 : decode cX7_token 14 = .ok (.dup, 1) := by decide +kernel
theorem dX7_token_15 : decode cX7_token 15 = .ok (.getfield 64, 3) := by decide +kernel
theorem dX7_token_18 : decode cX7_token 18 = .ok (.iconst 1, 1) := by decide +kernel
theorem dX7_token_19 : decode cX7_token 19 = .ok (.iadd, 1) := by decide +kernel
theorem dX7_token_20 : decode cX7_token 20 = .ok (.putfield 64, 3) := by decide +kernel
theorem dX7_token_23 : decode cX7_token 23 = .ok (.goto (-23), 3) := by decide +kernel
theorem dX7_token_26 : decode cX7_token 26 = .ok (.aload_n 0, 1) := by decide +kernel
theorem dX7_token_27 : decode cX7_token 27 = .ok (.aload_n 0, 1) := by decide +kernel
theorem dX7_token_28 : decode cX7_token 28 = .ok (.getfield 64, 3) := by decide +kernel
theorem dX7_token_31 : decode cX7_token 31 = .ok (.putfield 71, 3) := by decide +kernel
theorem dX7_token_34 : decode cX7_token 34 = .ok (.aload_n 0, 1) := by decide +kernel
theorem dX7_token_35 : decode cX7_token 35 = .ok (.aload_n 0, 1) := by decide +kernel
theorem dX7_token_36 : decode cX7_token 36 = .ok (.aload_n 0, 1) := by decide +kernel
theorem dX7_token_37 : decode cX7_token 37 = .ok (.getfield 64, 3) := by decide +kernel
theorem dX7_token_40 : decode cX7_token 40 = .ok (.invokevirtual 67, 3) := by decide +kernel
theorem dX7_token_43 : decode cX7_token 43 = .ok (.invokestatic 74, 3) := by decide +kernel
theorem dX7_token_46 : decode cX7_token 46 = .ok (.putfield 77, 3) := by decide +kernel
theorem dX7_token_49 : decode cX7_token 49 = .ok (.aload_n 0, 1) := by decide +kernel
theorem dX7_token_50 : decode cX7_token 50 = .ok (.iconst 0, 1) := by decide +kernel
theorem dX7_token_51 : decode cX7_token 51 = .ok (.putfield 80, 3) := by decide +kernel
theorem dX7_token_54 : decode cX7_token 54 = .ok (.aload_n 0, 1) := by decide +kernel
theorem dX7_token_55 : decode cX7_token 55 = .ok (.getfield 80, 3) := by decide +kernel
theorem dX7_token_58 : decode cX7_token 58 = .ok (.ifCond .ne 10, 3) := by decide +kernel
theorem dX7_token_61 : decode cX7_token 61 = .ok (.aload_n 0, 1) := by decide +kernel
theorem dX7_token_62 : decode cX7_token 62 = .ok (.getfield 77, 3) := by decide +kernel
theorem dX7_token_65 : decode cX7_token 65 = .ok (.ifCond .ne 37, 3) := by decide +kernel
theorem dX7_token_68 : decode cX7_token 68 = .ok (.aload_n 0, 1) := by decide +kernel
theorem dX7_token_69 : decode cX7_token 69 = .ok (.getfield 77, 3) := by decide +kernel
theorem dX7_token_72 : decode cX7_token 72 = .ok (.iconst 1, 1) := by decide +kernel
theorem dX7_token_73 : decode cX7_token 73 = .ok (.if_icmp .eq 11, 3) := by decide +kernel
theorem dX7_token_76 : decode cX7_token 76 = .ok (.aload_n 0, 1) := by decide +kernel
theorem dX7_token_77 : decode cX7_token 77 = .ok (.getfield 77, 3) := by decide +kernel
theorem dX7_token_80 : decode cX7_token 80 = .ok (.iconst 2, 1) := by decide +kernel
theorem dX7_token_81 : decode cX7_token 81 = .ok (.if_icmp .ne 44, 3) := by decide +kernel
theorem dX7_token_84 : decode cX7_token 84 = .ok (.aload_n 0, 1) := by decide +kernel
theorem dX7_token_85 : decode cX7_token 85 = .ok (.aload_n 0, 1) := by decide +kernel
theorem dX7_token_86 : decode cX7_token 86 = .ok (.getfield 64, 3) := by decide +kernel
theorem dX7_token_89 : decode cX7_token 89 = .ok (.invokevirtual 67, 3) := by decide +kernel
theorem dX7_token_92 : decode cX7_token 92 = .ok (.invokestatic 74, 3) := by decide +kernel
theorem dX7_token_95 : decode cX7_token 95 = .ok (.aload_n 0, 1) := by decide +kernel
theorem dX7_token_96 : decode cX7_token 96 = .ok (.getfield 77, 3) := by decide +kernel
theorem dX7_token_99 : decode cX7_token 99 = .ok (.if_icmp .ne 26, 3) := by decide +kernel
theorem dX7_token_102 : decode cX7_token 102 = .ok (.aload_n 0, 1) := by decide +kernel
theorem dX7_token_103 : decode cX7_token 103 = .ok (.dup, 1) := by decide +kernel
theorem dX7_token_104 : decode cX7_token 104 = .ok (.getfield 64, 3) := by decide +kernel
theorem dX7_token_107 : decode cX7_token 107 = .ok (.iconst 1, 1) := by decide +kernel
theorem dX7_token_108 : decode cX7_token 108 = .ok (.iadd, 1) := by decide +kernel
theorem dX7_token_109 : decode cX7_token 109 = .ok (.putfield 64, 3) := by decide +kernel
theorem dX7_token_112 : decode cX7_token 112 = .ok (.aload_n 0, 1) := by decide +kernel
theorem dX7_token_113 : decode cX7_token 113 = .ok (.dup, 1) := by decide +kernel
theorem dX7_token_114 : decode cX7_token 114 = .ok (.getfield 80, 3) := by decide +kernel
theorem dX7_token_117 : decode cX7_token 117 = .ok (.iconst 1, 1) := by decide +kernel
theorem dX7_token_118 : decode cX7_token 118 = .ok (.iadd, 1) := by decide +kernel
theorem dX7_token_119 : decode cX7_token 119 = .ok (.putfield 80, 3) := by decide +kernel
theorem dX7_token_122 : decode cX7_token 122 = .ok (.goto (-68), 3) := by decide +kernel
theorem dX7_token_125 : decode cX7_token 125 = .ok (.return_, 1) := by decide +kernel
theorem dX7_verb_0 : decode cX7_verb 0 = .ok (.lconst 0, 1) := by decide +kernel
theorem dX7_verb_1 : decode cX7_verb 1 = .ok (.lstore_n 1, 1) := by decide +kernel
theorem dX7_verb_2 : decode cX7_verb 2 = .ok (.iconst 0, 1) := by decide +kernel
theorem dX7_verb_3 : decode cX7_verb 3 = .ok (.istore_n 3, 1) := by decide +kernel
theorem dX7_verb_4 : decode cX7_verb 4 = .ok (.iload_n 3, 1) := by decide +kernel
theorem dX7_verb_5 : decode cX7_verb 5 = .ok (.aload_n 0, 1) := by decide +kernel
theorem dX7_verb_6 : decode cX7_verb 6 = .ok (.getfield 80, 3) := by decide +kernel
theorem dX7_verb_9 : decode cX7_verb 9 = .ok (.if_icmp .ge 44, 3) := by decide +kernel
theorem dX7_verb_12 : decode cX7_verb 12 = .ok (.aload_n 0, 1) := by decide +kernel
theorem dX7_verb_13 : decode cX7_verb 13 = .ok (.getfield 80, 3) := by decide +kernel
theorem dX7_verb_16 : decode cX7_verb 16 = .ok (.bipush 7, 2) := by decide +kernel
theorem dX7_verb_18 : decode cX7_verb 18 = .ok (.if_icmp .ge 35, 3) := by decide +kernel
theorem dX7_verb_21 : decode cX7_verb 21 = .ok (.aload_n 0, 1) := by decide +kernel
theorem dX7_verb_22 : decode cX7_verb 22 = .ok (.getfield 77, 3) := by decide +kernel
theorem dX7_verb_25 : decode cX7_verb 25 = .ok (.iconst 1, 1) := by decide +kernel
theorem dX7_verb_26 : decode cX7_verb 26 = .ok (.if_icmp .ne 27, 3) := by decide +kernel
theorem dX7_verb_29 : decode cX7_verb 29 = .ok (.ldc2_w 83, 3) := by decide +kernel
theorem dX7_verb_32 : decode cX7_verb 32 = .ok (.lload_n 1, 1) := by decide +kernel
theorem dX7_verb_33 : decode cX7_verb 33 = .ok (.lmul, 1) := by decide +kernel
theorem dX7_verb_34 : decode cX7_verb 34 = .ok (.aload_n 0, 1) := by decide +kernel
theorem dX7_verb_35 : decode cX7_verb 35 = .ok (.aload_n 0, 1) := by decide +kernel
theorem dX7_verb_36 : decode cX7_verb 36 = .ok (.getfield 71, 3) := by decide +kernel
theorem dX7_verb_39 : decode cX7_verb 39 = .ok (.iload_n 3, 1) := by decide +kernel
theorem dX7_verb_40 : decode cX7_verb 40 = .ok (.iadd, 1) := by decide +kernel
theorem dX7_verb_41 : decode cX7_verb 41 = .ok (.invokevirtual 67, 3) := by decide +kernel
theorem dX7_verb_44 : decode cX7_verb 44 = .ok (.i2l, 1) := by decide +kernel
theorem dX7_verb_45 : decode cX7_verb 45 = .ok (.ladd, 1) := by decide +kernel
theorem dX7_verb_46 : decode cX7_verb 46 = .ok (.lstore_n 1, 1) := by decide +kernel
theorem dX7_verb_47 : decode cX7_verb 47 = .ok (.iinc 3 1, 3) := by decide +kernel
theorem dX7_verb_50 : decode cX7_verb 50 = .ok (.goto (-46), 3) := by decide +kernel
theorem dX7_verb_53 : decode cX7_verb 53 = .ok (.lload_n 1, 1) := by decide +kernel
theorem dX7_verb_54 : decode cX7_verb 54 = .ok (.ldc2_w 85, 3) := by decide +kernel
theorem dX7_verb_57 : decode cX7_verb 57 = .ok (.lcmp, 1) := by decide +kernel
theorem dX7_verb_58 : decode cX7_verb 58 = .ok (.ifCond .ne 7, 3) := by decide +kernel
theorem dX7_verb_61 : decode cX7_verb 61 = .ok (.iconst 0, 1) := by decide +kernel
theorem dX7_verb_62 : decode cX7_verb 62 = .ok (.goto 41, 3) := by decide +kernel
theorem dX7_verb_65 : decode cX7_verb 65 = .ok (.lload_n 1, 1) := by decide +kernel
theorem dX7_verb_66 : decode cX7_verb 66 = .ok (.ldc2_w 87, 3) := by decide +kernel
theorem dX7_verb_69 : decode cX7_verb 69 = .ok (.lcmp, 1) := by decide +kernel
theorem dX7_verb_70 : decode cX7_verb 70 = .ok (.ifCond .ne 7, 3) := by decide +kernel
theorem dX7_verb_73 : decode cX7_verb 73 = .ok (.iconst 1, 1) := by decide +kernel
theorem dX7_verb_74 : decode cX7_verb 74 = .ok (.goto 29, 3) := by decide +kernel
theorem dX7_verb_77 : decode cX7_verb 77 = .ok (.lload_n 1, 1) := by decide +kernel
theorem dX7_verb_78 : decode cX7_verb 78 = .ok (.ldc2_w 89, 3) := by decide +kernel
theorem dX7_verb_81 : decode cX7_verb 81 = .ok (.lcmp, 1) := by decide +kernel
theorem dX7_verb_82 : decode cX7_verb 82 = .ok (.ifCond .ne 7, 3) := by decide +kernel
theorem dX7_verb_85 : decode cX7_verb 85 = .ok (.iconst 2, 1) := by decide +kernel
theorem dX7_verb_86 : decode cX7_verb 86 = .ok (.goto 17, 3) := by decide +kernel
theorem dX7_verb_89 : decode cX7_verb 89 = .ok (.lload_n 1, 1) := by decide +kernel
theorem dX7_verb_90 : decode cX7_verb 90 = .ok (.ldc2_w 91, 3) := by decide +kernel
theorem dX7_verb_93 : decode cX7_verb 93 = .ok (.lcmp, 1) := by decide +kernel
theorem dX7_verb_94 : decode cX7_verb 94 = .ok (.ifCond .ne 7, 3) := by decide +kernel
theorem dX7_verb_97 : decode cX7_verb 97 = .ok (.iconst 3, 1) := by decide +kernel
theorem dX7_verb_98 : decode cX7_verb 98 = .ok (.goto 5, 3) := by decide +kernel
theorem dX7_verb_101 : decode cX7_verb 101 = .ok (.bipush (-9), 2) := by decide +kernel
theorem dX7_verb_103 : decode cX7_verb 103 = .ok (.ireturn, 1) := by decide +kernel
theorem dX7_figure_0 : decode cX7_figure 0 = .ok (.aload_n 0, 1) := by decide +kernel
theorem dX7_figure_1 : decode cX7_figure 1 = .ok (.invokevirtual 93, 3) := by decide +kernel
theorem dX7_figure_4 : decode cX7_figure 4 = .ok (.aload_n 0, 1) := by decide +kernel
theorem dX7_figure_5 : decode cX7_figure 5 = .ok (.aload_n 0, 1) := by decide +kernel
theorem dX7_figure_6 : decode cX7_figure 6 = .ok (.getfield 71, 3) := by decide +kernel
theorem dX7_figure_9 : decode cX7_figure 9 = .ok (.invokevirtual 67, 3) := by decide +kernel
theorem dX7_figure_12 : decode cX7_figure 12 = .ok (.bipush 48, 2) := by decide +kernel
theorem dX7_figure_14 : decode cX7_figure 14 = .ok (.isub, 1) := by decide +kernel
theorem dX7_figure_15 : decode cX7_figure 15 = .ok (.istore_n 3, 1) := by decide +kernel
theorem dX7_figure_16 : decode cX7_figure 16 = .ok (.aload_n 0, 1) := by decide +kernel
theorem dX7_figure_17 : decode cX7_figure 17 = .ok (.getfield 77, 3) := by decide +kernel
theorem dX7_figure_20 : decode cX7_figure 20 = .ok (.iconst 2, 1) := by decide +kernel
theorem dX7_figure_21 : decode cX7_figure 21 = .ok (.if_icmp .ne 24, 3) := by decide +kernel
theorem dX7_figure_24 : decode cX7_figure 24 = .ok (.aload_n 0, 1) := by decide +kernel
theorem dX7_figure_25 : decode cX7_figure 25 = .ok (.getfield 80, 3) := by decide +kernel
theorem dX7_figure_28 : decode cX7_figure 28 = .ok (.iconst 1, 1) := by decide +kernel
theorem dX7_figure_29 : decode cX7_figure 29 = .ok (.if_icmp .ne 16, 3) := by decide +kernel
theorem dX7_figure_32 : decode cX7_figure 32 = .ok (.iload_n 3, 1) := by decide +kernel
theorem dX7_figure_33 : decode cX7_figure 33 = .ok (.iload_n 1, 1) := by decide +kernel
theorem dX7_figure_34 : decode cX7_figure 34 = .ok (.iload_n 2, 1) := by decide +kernel
theorem dX7_figure_35 : decode cX7_figure 35 = .ok (.invokestatic 54, 3) := by decide +kernel
theorem dX7_figure_38 : decode cX7_figure 38 = .ok (.ifCond .eq 7, 3) := by decide +kernel
theorem dX7_figure_41 : decode cX7_figure 41 = .ok (.iload_n 3, 1) := by decide +kernel
theorem dX7_figure_42 : decode cX7_figure 42 = .ok (.goto 5, 3) := by decide +kernel
theorem dX7_figure_45 : decode cX7_figure 45 = .ok (.bipush (-9), 2) := by decide +kernel
theorem dX7_figure_47 : decode cX7_figure 47 = .ok (.ireturn, 1) := by decide +kernel
theorem dX7_readsBar_0 : decode cX7_readsBar 0 = .ok (.aload_n 0, 1) := by decide +kernel
theorem dX7_readsBar_1 : decode cX7_readsBar 1 = .ok (.getfield 16, 3) := by decide +kernel
theorem dX7_readsBar_4 : decode cX7_readsBar 4 = .ok (.iconst 0, 1) := by decide +kernel
theorem dX7_readsBar_5 : decode cX7_readsBar 5 = .ok (.iaload, 1) := by decide +kernel
theorem dX7_readsBar_6 : decode cX7_readsBar 6 = .ok (.bipush 6, 2) := by decide +kernel
theorem dX7_readsBar_8 : decode cX7_readsBar 8 = .ok (.if_icmp .ne 8, 3) := by decide +kernel
theorem dX7_readsBar_11 : decode cX7_readsBar 11 = .ok (.bipush (-9), 2) := by decide +kernel
theorem dX7_readsBar_13 : decode cX7_readsBar 13 = .ok (.goto 9, 3) := by decide +kernel
theorem dX7_readsBar_16 : decode cX7_readsBar 16 = .ok (.aload_n 0, 1) := by decide +kernel
theorem dX7_readsBar_17 : decode cX7_readsBar 17 = .ok (.iconst 1, 1) := by decide +kernel
theorem dX7_readsBar_18 : decode cX7_readsBar 18 = .ok (.iconst 3, 1) := by decide +kernel
theorem dX7_readsBar_19 : decode cX7_readsBar 19 = .ok (.invokevirtual 96, 3) := by decide +kernel
theorem dX7_readsBar_22 : decode cX7_readsBar 22 = .ok (.istore_n 1, 1) := by decide +kernel
theorem dX7_readsBar_23 : decode cX7_readsBar 23 = .ok (.iload_n 1, 1) := by decide +kernel
theorem dX7_readsBar_24 : decode cX7_readsBar 24 = .ok (.bipush (-9), 2) := by decide +kernel
theorem dX7_readsBar_26 : decode cX7_readsBar 26 = .ok (.if_icmp .ne 5, 3) := by decide +kernel
theorem dX7_readsBar_29 : decode cX7_readsBar 29 = .ok (.iconst 0, 1) := by decide +kernel
theorem dX7_readsBar_30 : decode cX7_readsBar 30 = .ok (.ireturn, 1) := by decide +kernel
theorem dX7_readsBar_31 : decode cX7_readsBar 31 = .ok (.aload_n 0, 1) := by decide +kernel
theorem dX7_readsBar_32 : decode cX7_readsBar 32 = .ok (.getfield 16, 3) := by decide +kernel
theorem dX7_readsBar_35 : decode cX7_readsBar 35 = .ok (.iconst 4, 1) := by decide +kernel
theorem dX7_readsBar_36 : decode cX7_readsBar 36 = .ok (.aload_n 0, 1) := by decide +kernel
theorem dX7_readsBar_37 : decode cX7_readsBar 37 = .ok (.getfield 16, 3) := by decide +kernel
theorem dX7_readsBar_40 : decode cX7_readsBar 40 = .ok (.iconst 0, 1) := by decide +kernel
theorem dX7_readsBar_41 : decode cX7_readsBar 41 = .ok (.iaload, 1) := by decide +kernel
theorem dX7_readsBar_42 : decode cX7_readsBar 42 = .ok (.iadd, 1) := by decide +kernel
theorem dX7_readsBar_43 : decode cX7_readsBar 43 = .ok (.iload_n 1, 1) := by decide +kernel
theorem dX7_readsBar_44 : decode cX7_readsBar 44 = .ok (.iastore, 1) := by decide +kernel
theorem dX7_readsBar_45 : decode cX7_readsBar 45 = .ok (.aload_n 0, 1) := by decide +kernel
theorem dX7_readsBar_46 : decode cX7_readsBar 46 = .ok (.getfield 16, 3) := by decide +kernel
theorem dX7_readsBar_49 : decode cX7_readsBar 49 = .ok (.iconst 0, 1) := by decide +kernel
theorem dX7_readsBar_50 : decode cX7_readsBar 50 = .ok (.dup2, 1) := by decide +kernel
theorem dX7_readsBar_51 : decode cX7_readsBar 51 = .ok (.iaload, 1) := by decide +kernel
theorem dX7_readsBar_52 : decode cX7_readsBar 52 = .ok (.iconst 1, 1) := by decide +kernel
theorem dX7_readsBar_53 : decode cX7_readsBar 53 = .ok (.iadd, 1) := by decide +kernel
theorem dX7_readsBar_54 : decode cX7_readsBar 54 = .ok (.iastore, 1) := by decide +kernel
theorem dX7_readsBar_55 : decode cX7_readsBar 55 = .ok (.iconst 1, 1) := by decide +kernel
theorem dX7_readsBar_56 : decode cX7_readsBar 56 = .ok (.ireturn, 1) := by decide +kernel
theorem dX7_readsPerson_0 : decode cX7_readsPerson 0 = .ok (.aload_n 0, 1) := by decide +kernel
theorem dX7_readsPerson_1 : decode cX7_readsPerson 1 = .ok (.getfield 16, 3) := by decide +kernel
theorem dX7_readsPerson_4 : decode cX7_readsPerson 4 = .ok (.iconst 1, 1) := by decide +kernel
theorem dX7_readsPerson_5 : decode cX7_readsPerson 5 = .ok (.iaload, 1) := by decide +kernel
theorem dX7_readsPerson_6 : decode cX7_readsPerson 6 = .ok (.iconst 3, 1) := by decide +kernel
theorem dX7_readsPerson_7 : decode cX7_readsPerson 7 = .ok (.if_icmp .ne 8, 3) := by decide +kernel
theorem dX7_readsPerson_10 : decode cX7_readsPerson 10 = .ok (.bipush (-9), 2) := by decide +kernel
theorem dX7_readsPerson_12 : decode cX7_readsPerson 12 = .ok (.goto 10, 3) := by decide +kernel
theorem dX7_readsPerson_15 : decode cX7_readsPerson 15 = .ok (.aload_n 0, 1) := by decide +kernel
theorem dX7_readsPerson_16 : decode cX7_readsPerson 16 = .ok (.iconst 1, 1) := by decide +kernel
theorem dX7_readsPerson_17 : decode cX7_readsPerson 17 = .ok (.bipush 9, 2) := by decide +kernel
theorem dX7_readsPerson_19 : decode cX7_readsPerson 19 = .ok (.invokevirtual 96, 3) := by decide +kernel
theorem dX7_readsPerson_22 : decode cX7_readsPerson 22 = .ok (.istore_n 1, 1) := by decide +kernel
theorem dX7_readsPerson_23 : decode cX7_readsPerson 23 = .ok (.iload_n 1, 1) := by decide +kernel
theorem dX7_readsPerson_24 : decode cX7_readsPerson 24 = .ok (.bipush (-9), 2) := by decide +kernel
theorem dX7_readsPerson_26 : decode cX7_readsPerson 26 = .ok (.if_icmp .ne 5, 3) := by decide +kernel
theorem dX7_readsPerson_29 : decode cX7_readsPerson 29 = .ok (.iconst 0, 1) := by decide +kernel
theorem dX7_readsPerson_30 : decode cX7_readsPerson 30 = .ok (.ireturn, 1) := by decide +kernel
theorem dX7_readsPerson_31 : decode cX7_readsPerson 31 = .ok (.aload_n 0, 1) := by decide +kernel
theorem dX7_readsPerson_32 : decode cX7_readsPerson 32 = .ok (.getfield 16, 3) := by decide +kernel
theorem dX7_readsPerson_35 : decode cX7_readsPerson 35 = .ok (.bipush 10, 2) := by decide +kernel
theorem dX7_readsPerson_37 : decode cX7_readsPerson 37 = .ok (.aload_n 0, 1) := by decide +kernel
theorem dX7_readsPerson_38 : decode cX7_readsPerson 38 = .ok (.getfield 16, 3) := by decide +kernel
theorem dX7_readsPerson_41 : decode cX7_readsPerson 41 = .ok (.iconst 1, 1) := by decide +kernel
theorem dX7_readsPerson_42 : decode cX7_readsPerson 42 = .ok (.iaload, 1) := by decide +kernel
theorem dX7_readsPerson_43 : decode cX7_readsPerson 43 = .ok (.iadd, 1) := by decide +kernel
theorem dX7_readsPerson_44 : decode cX7_readsPerson 44 = .ok (.iload_n 1, 1) := by decide +kernel
theorem dX7_readsPerson_45 : decode cX7_readsPerson 45 = .ok (.iastore, 1) := by decide +kernel
theorem dX7_readsPerson_46 : decode cX7_readsPerson 46 = .ok (.aload_n 0, 1) := by decide +kernel
theorem dX7_readsPerson_47 : decode cX7_readsPerson 47 = .ok (.getfield 16, 3) := by decide +kernel
theorem dX7_readsPerson_50 : decode cX7_readsPerson 50 = .ok (.iconst 1, 1) := by decide +kernel
theorem dX7_readsPerson_51 : decode cX7_readsPerson 51 = .ok (.dup2, 1) := by decide +kernel
theorem dX7_readsPerson_52 : decode cX7_readsPerson 52 = .ok (.iaload, 1) := by decide +kernel
theorem dX7_readsPerson_53 : decode cX7_readsPerson 53 = .ok (.iconst 1, 1) := by decide +kernel
theorem dX7_readsPerson_54 : decode cX7_readsPerson 54 = .ok (.iadd, 1) := by decide +kernel
theorem dX7_readsPerson_55 : decode cX7_readsPerson 55 = .ok (.iastore, 1) := by decide +kernel
theorem dX7_readsPerson_56 : decode cX7_readsPerson 56 = .ok (.iconst 1, 1) := by decide +kernel
theorem dX7_readsPerson_57 : decode cX7_readsPerson 57 = .ok (.ireturn, 1) := by decide +kernel
theorem dX7_readsRain_0 : decode cX7_readsRain 0 = .ok (.aload_n 0, 1) := by decide +kernel
theorem dX7_readsRain_1 : decode cX7_readsRain 1 = .ok (.iconst 0, 1) := by decide +kernel
theorem dX7_readsRain_2 : decode cX7_readsRain 2 = .ok (.bipush 9, 2) := by decide +kernel
theorem dX7_readsRain_4 : decode cX7_readsRain 4 = .ok (.invokevirtual 96, 3) := by decide +kernel
theorem dX7_readsRain_7 : decode cX7_readsRain 7 = .ok (.istore_n 1, 1) := by decide +kernel
theorem dX7_readsRain_8 : decode cX7_readsRain 8 = .ok (.iload_n 1, 1) := by decide +kernel
theorem dX7_readsRain_9 : decode cX7_readsRain 9 = .ok (.bipush (-9), 2) := by decide +kernel
theorem dX7_readsRain_11 : decode cX7_readsRain 11 = .ok (.if_icmp .ne 8, 3) := by decide +kernel
theorem dX7_readsRain_14 : decode cX7_readsRain 14 = .ok (.bipush (-9), 2) := by decide +kernel
theorem dX7_readsRain_16 : decode cX7_readsRain 16 = .ok (.goto 9, 3) := by decide +kernel
theorem dX7_readsRain_19 : decode cX7_readsRain 19 = .ok (.aload_n 0, 1) := by decide +kernel
theorem dX7_readsRain_20 : decode cX7_readsRain 20 = .ok (.iconst 0, 1) := by decide +kernel
theorem dX7_readsRain_21 : decode cX7_readsRain 21 = .ok (.iconst 3, 1) := by decide +kernel
theorem dX7_readsRain_22 : decode cX7_readsRain 22 = .ok (.invokevirtual 96, 3) := by decide +kernel
theorem dX7_readsRain_25 : decode cX7_readsRain 25 = .ok (.istore_n 2, 1) := by decide +kernel
theorem dX7_readsRain_26 : decode cX7_readsRain 26 = .ok (.iload_n 2, 1) := by decide +kernel
theorem dX7_readsRain_27 : decode cX7_readsRain 27 = .ok (.bipush (-9), 2) := by decide +kernel
theorem dX7_readsRain_29 : decode cX7_readsRain 29 = .ok (.if_icmp .ne 5, 3) := by decide +kernel
theorem dX7_readsRain_32 : decode cX7_readsRain 32 = .ok (.iconst 0, 1) := by decide +kernel
theorem dX7_readsRain_33 : decode cX7_readsRain 33 = .ok (.ireturn, 1) := by decide +kernel
theorem dX7_readsRain_34 : decode cX7_readsRain 34 = .ok (.aload_n 0, 1) := by decide +kernel
theorem dX7_readsRain_35 : decode cX7_readsRain 35 = .ok (.getfield 16, 3) := by decide +kernel
theorem dX7_readsRain_38 : decode cX7_readsRain 38 = .ok (.bipush 13, 2) := by decide +kernel
theorem dX7_readsRain_40 : decode cX7_readsRain 40 = .ok (.iload_n 1, 1) := by decide +kernel
theorem dX7_readsRain_41 : decode cX7_readsRain 41 = .ok (.iadd, 1) := by decide +kernel
theorem dX7_readsRain_42 : decode cX7_readsRain 42 = .ok (.iload_n 2, 1) := by decide +kernel
theorem dX7_readsRain_43 : decode cX7_readsRain 43 = .ok (.iastore, 1) := by decide +kernel
theorem dX7_readsRain_44 : decode cX7_readsRain 44 = .ok (.iconst 1, 1) := by decide +kernel
theorem dX7_readsRain_45 : decode cX7_readsRain 45 = .ok (.ireturn, 1) := by decide +kernel
theorem dX7_readsPaint_0 : decode cX7_readsPaint 0 = .ok (.aload_n 0, 1) := by decide +kernel
theorem dX7_readsPaint_1 : decode cX7_readsPaint 1 = .ok (.getfield 16, 3) := by decide +kernel
theorem dX7_readsPaint_4 : decode cX7_readsPaint 4 = .ok (.iconst 2, 1) := by decide +kernel
theorem dX7_readsPaint_5 : decode cX7_readsPaint 5 = .ok (.iaload, 1) := by decide +kernel
theorem dX7_readsPaint_6 : decode cX7_readsPaint 6 = .ok (.istore_n 1, 1) := by decide +kernel
theorem dX7_readsPaint_7 : decode cX7_readsPaint 7 = .ok (.iload_n 1, 1) := by decide +kernel
theorem dX7_readsPaint_8 : decode cX7_readsPaint 8 = .ok (.bipush 8, 2) := by decide +kernel
theorem dX7_readsPaint_10 : decode cX7_readsPaint 10 = .ok (.if_icmp .ne 8, 3) := by decide +kernel
theorem dX7_readsPaint_13 : decode cX7_readsPaint 13 = .ok (.bipush (-9), 2) := by decide +kernel
theorem dX7_readsPaint_15 : decode cX7_readsPaint 15 = .ok (.goto 16, 3) := by decide +kernel
theorem dX7_readsPaint_18 : decode cX7_readsPaint 18 = .ok (.aload_n 0, 1) := by decide +kernel
theorem dX7_readsPaint_19 : decode cX7_readsPaint 19 = .ok (.iconst 0, 1) := by decide +kernel
theorem dX7_readsPaint_20 : decode cX7_readsPaint 20 = .ok (.aload_n 0, 1) := by decide +kernel
theorem dX7_readsPaint_21 : decode cX7_readsPaint 21 = .ok (.getfield 16, 3) := by decide +kernel
theorem dX7_readsPaint_24 : decode cX7_readsPaint 24 = .ok (.iconst 0, 1) := by decide +kernel
theorem dX7_readsPaint_25 : decode cX7_readsPaint 25 = .ok (.iaload, 1) := by decide +kernel
theorem dX7_readsPaint_26 : decode cX7_readsPaint 26 = .ok (.iconst 1, 1) := by decide +kernel
theorem dX7_readsPaint_27 : decode cX7_readsPaint 27 = .ok (.isub, 1) := by decide +kernel
theorem dX7_readsPaint_28 : decode cX7_readsPaint 28 = .ok (.invokevirtual 96, 3) := by decide +kernel
theorem dX7_readsPaint_31 : decode cX7_readsPaint 31 = .ok (.istore_n 2, 1) := by decide +kernel
theorem dX7_readsPaint_32 : decode cX7_readsPaint 32 = .ok (.iload_n 2, 1) := by decide +kernel
theorem dX7_readsPaint_33 : decode cX7_readsPaint 33 = .ok (.bipush (-9), 2) := by decide +kernel
theorem dX7_readsPaint_35 : decode cX7_readsPaint 35 = .ok (.if_icmp .ne 8, 3) := by decide +kernel
theorem dX7_readsPaint_38 : decode cX7_readsPaint 38 = .ok (.bipush (-9), 2) := by decide +kernel
theorem dX7_readsPaint_40 : decode cX7_readsPaint 40 = .ok (.goto 10, 3) := by decide +kernel
theorem dX7_readsPaint_43 : decode cX7_readsPaint 43 = .ok (.aload_n 0, 1) := by decide +kernel
theorem dX7_readsPaint_44 : decode cX7_readsPaint 44 = .ok (.iconst 0, 1) := by decide +kernel
theorem dX7_readsPaint_45 : decode cX7_readsPaint 45 = .ok (.bipush 9, 2) := by decide +kernel
theorem dX7_readsPaint_47 : decode cX7_readsPaint 47 = .ok (.invokevirtual 96, 3) := by decide +kernel
theorem dX7_readsPaint_50 : decode cX7_readsPaint 50 = .ok (.istore_n 3, 1) := by decide +kernel
theorem dX7_readsPaint_51 : decode cX7_readsPaint 51 = .ok (.iload_n 3, 1) := by decide +kernel
theorem dX7_readsPaint_52 : decode cX7_readsPaint 52 = .ok (.bipush (-9), 2) := by decide +kernel
theorem dX7_readsPaint_54 : decode cX7_readsPaint 54 = .ok (.if_icmp .ne 8, 3) := by decide +kernel
theorem dX7_readsPaint_57 : decode cX7_readsPaint 57 = .ok (.bipush (-9), 2) := by decide +kernel
theorem dX7_readsPaint_59 : decode cX7_readsPaint 59 = .ok (.goto 9, 3) := by decide +kernel
theorem dX7_readsPaint_62 : decode cX7_readsPaint 62 = .ok (.aload_n 0, 1) := by decide +kernel
theorem dX7_readsPaint_63 : decode cX7_readsPaint 63 = .ok (.iconst 1, 1) := by decide +kernel
theorem dX7_readsPaint_64 : decode cX7_readsPaint 64 = .ok (.iconst 5, 1) := by decide +kernel
theorem dX7_readsPaint_65 : decode cX7_readsPaint 65 = .ok (.invokevirtual 96, 3) := by decide +kernel
theorem dX7_readsPaint_68 : decode cX7_readsPaint 68 = .ok (.istore 4, 2) := by decide +kernel
theorem dX7_readsPaint_70 : decode cX7_readsPaint 70 = .ok (.iload 4, 2) := by decide +kernel
theorem dX7_readsPaint_72 : decode cX7_readsPaint 72 = .ok (.bipush (-9), 2) := by decide +kernel
theorem dX7_readsPaint_74 : decode cX7_readsPaint 74 = .ok (.if_icmp .ne 5, 3) := by decide +kernel
theorem dX7_readsPaint_77 : decode cX7_readsPaint 77 = .ok (.iconst 0, 1) := by decide +kernel
theorem dX7_readsPaint_78 : decode cX7_readsPaint 78 = .ok (.ireturn, 1) := by decide +kernel
theorem dX7_readsPaint_79 : decode cX7_readsPaint 79 = .ok (.aload_n 0, 1) := by decide +kernel
theorem dX7_readsPaint_80 : decode cX7_readsPaint 80 = .ok (.getfield 16, 3) := by decide +kernel
theorem dX7_readsPaint_83 : decode cX7_readsPaint 83 = .ok (.bipush 23, 2) := by decide +kernel
theorem dX7_readsPaint_85 : decode cX7_readsPaint 85 = .ok (.iload_n 1, 1) := by decide +kernel
theorem dX7_readsPaint_86 : decode cX7_readsPaint 86 = .ok (.iadd, 1) := by decide +kernel
theorem dX7_readsPaint_87 : decode cX7_readsPaint 87 = .ok (.iload_n 2, 1) := by decide +kernel
theorem dX7_readsPaint_88 : decode cX7_readsPaint 88 = .ok (.iastore, 1) := by decide +kernel
theorem dX7_readsPaint_89 : decode cX7_readsPaint 89 = .ok (.aload_n 0, 1) := by decide +kernel
theorem dX7_readsPaint_90 : decode cX7_readsPaint 90 = .ok (.getfield 16, 3) := by decide +kernel
theorem dX7_readsPaint_93 : decode cX7_readsPaint 93 = .ok (.bipush 31, 2) := by decide +kernel
theorem dX7_readsPaint_95 : decode cX7_readsPaint 95 = .ok (.iload_n 1, 1) := by decide +kernel
theorem dX7_readsPaint_96 : decode cX7_readsPaint 96 = .ok (.iadd, 1) := by decide +kernel
theorem dX7_readsPaint_97 : decode cX7_readsPaint 97 = .ok (.iload_n 3, 1) := by decide +kernel
theorem dX7_readsPaint_98 : decode cX7_readsPaint 98 = .ok (.iastore, 1) := by decide +kernel
theorem dX7_readsPaint_99 : decode cX7_readsPaint 99 = .ok (.aload_n 0, 1) := by decide +kernel
theorem dX7_readsPaint_100 : decode cX7_readsPaint 100 = .ok (.getfield 16, 3) := by decide +kernel
theorem dX7_readsPaint_103 : decode cX7_readsPaint 103 = .ok (.bipush 39, 2) := by decide +kernel
theorem dX7_readsPaint_105 : decode cX7_readsPaint 105 = .ok (.iload_n 1, 1) := by decide +kernel
theorem dX7_readsPaint_106 : decode cX7_readsPaint 106 = .ok (.iadd, 1) := by decide +kernel
theorem dX7_readsPaint_107 : decode cX7_readsPaint 107 = .ok (.iload 4, 2) := by decide +kernel
theorem dX7_readsPaint_109 : decode cX7_readsPaint 109 = .ok (.iastore, 1) := by decide +kernel
theorem dX7_readsPaint_110 : decode cX7_readsPaint 110 = .ok (.aload_n 0, 1) := by decide +kernel
theorem dX7_readsPaint_111 : decode cX7_readsPaint 111 = .ok (.getfield 16, 3) := by decide +kernel
theorem dX7_readsPaint_114 : decode cX7_readsPaint 114 = .ok (.iconst 2, 1) := by decide +kernel
theorem dX7_readsPaint_115 : decode cX7_readsPaint 115 = .ok (.dup2, 1) := by decide +kernel
theorem dX7_readsPaint_116 : decode cX7_readsPaint 116 = .ok (.iaload, 1) := by decide +kernel
theorem dX7_readsPaint_117 : decode cX7_readsPaint 117 = .ok (.iconst 1, 1) := by decide +kernel
theorem dX7_readsPaint_118 : decode cX7_readsPaint 118 = .ok (.iadd, 1) := by decide +kernel
theorem dX7_readsPaint_119 : decode cX7_readsPaint 119 = .ok (.iastore, 1) := by decide +kernel
theorem dX7_readsPaint_120 : decode cX7_readsPaint 120 = .ok (.iconst 1, 1) := by decide +kernel
theorem dX7_readsPaint_121 : decode cX7_readsPaint 121 = .ok (.ireturn, 1) := by decide +kernel
theorem dX7_readsItem_0 : decode cX7_readsItem 0 = .ok (.iload_n 1, 1) := by decide +kernel
theorem dX7_readsItem_1 : decode cX7_readsItem 1 = .ok (.ifCond .ne 10, 3) := by decide +kernel
theorem dX7_readsItem_4 : decode cX7_readsItem 4 = .ok (.aload_n 0, 1) := by decide +kernel
theorem dX7_readsItem_5 : decode cX7_readsItem 5 = .ok (.invokevirtual 100, 3) := by decide +kernel
theorem dX7_readsItem_8 : decode cX7_readsItem 8 = .ok (.goto 44, 3) := by decide +kernel
theorem dX7_readsItem_11 : decode cX7_readsItem 11 = .ok (.iload_n 1, 1) := by decide +kernel
theorem dX7_readsItem_12 : decode cX7_readsItem 12 = .ok (.iconst 1, 1) := by decide +kernel
theorem dX7_readsItem_13 : decode cX7_readsItem 13 = .ok (.if_icmp .ne 10, 3) := by decide +kernel
theorem dX7_readsItem_16 : decode cX7_readsItem 16 = .ok (.aload_n 0, 1) := by decide +kernel
theorem dX7_readsItem_17 : decode cX7_readsItem 17 = .ok (.invokevirtual 103, 3) := by decide +kernel
theorem dX7_readsItem_20 : decode cX7_readsItem 20 = .ok (.goto 32, 3) := by decide +kernel
theorem dX7_readsItem_23 : decode cX7_readsItem 23 = .ok (.iload_n 1, 1) := by decide +kernel
theorem dX7_readsItem_24 : decode cX7_readsItem 24 = .ok (.iconst 2, 1) := by decide +kernel
theorem dX7_readsItem_25 : decode cX7_readsItem 25 = .ok (.if_icmp .ne 10, 3) := by decide +kernel
theorem dX7_readsItem_28 : decode cX7_readsItem 28 = .ok (.aload_n 0, 1) := by decide +kernel
theorem dX7_readsItem_29 : decode cX7_readsItem 29 = .ok (.invokevirtual 106, 3) := by decide +kernel
theorem dX7_readsItem_32 : decode cX7_readsItem 32 = .ok (.goto 20, 3) := by decide +kernel
theorem dX7_readsItem_35 : decode cX7_readsItem 35 = .ok (.iload_n 1, 1) := by decide +kernel
theorem dX7_readsItem_36 : decode cX7_readsItem 36 = .ok (.iconst 3, 1) := by decide +kernel
theorem dX7_readsItem_37 : decode cX7_readsItem 37 = .ok (.if_icmp .ne 14, 3) := by decide +kernel
theorem dX7_readsItem_40 : decode cX7_readsItem 40 = .ok (.aload_n 0, 1) := by decide +kernel
theorem dX7_readsItem_41 : decode cX7_readsItem 41 = .ok (.invokevirtual 109, 3) := by decide +kernel
theorem dX7_readsItem_44 : decode cX7_readsItem 44 = .ok (.ifCond .eq 7, 3) := by decide +kernel
theorem dX7_readsItem_47 : decode cX7_readsItem 47 = .ok (.iconst 1, 1) := by decide +kernel
theorem dX7_readsItem_48 : decode cX7_readsItem 48 = .ok (.goto 4, 3) := by decide +kernel
theorem dX7_readsItem_51 : decode cX7_readsItem 51 = .ok (.iconst 0, 1) := by decide +kernel
theorem dX7_readsItem_52 : decode cX7_readsItem 52 = .ok (.ireturn, 1) := by decide +kernel
theorem dX7_reads_0 : decode cX7_reads 0 = .ok (.iconst 0, 1) := by decide +kernel
theorem dX7_reads_1 : decode cX7_reads 1 = .ok (.istore_n 1, 1) := by decide +kernel
theorem dX7_reads_2 : decode cX7_reads 2 = .ok (.iload_n 1, 1) := by decide +kernel
theorem dX7_reads_3 : decode cX7_reads 3 = .ok (.bipush 47, 2) := by decide +kernel
theorem dX7_reads_5 : decode cX7_reads 5 = .ok (.if_icmp .ge 31, 3) := by decide +kernel
theorem dX7_reads_8 : decode cX7_reads 8 = .ok (.aload_n 0, 1) := by decide +kernel
theorem dX7_reads_9 : decode cX7_reads 9 = .ok (.getfield 16, 3) := by decide +kernel
theorem dX7_reads_12 : decode cX7_reads 12 = .ok (.iload_n 1, 1) := by decide +kernel
theorem dX7_reads_13 : decode cX7_reads 13 = .ok (.iload_n 1, 1) := by decide +kernel
theorem dX7_reads_14 : decode cX7_reads 14 = .ok (.bipush 13, 2) := by decide +kernel
theorem dX7_reads_16 : decode cX7_reads 16 = .ok (.bipush 22, 2) := by decide +kernel
theorem dX7_reads_18 : decode cX7_reads 18 = .ok (.invokestatic 54, 3) := by decide +kernel
theorem dX7_reads_21 : decode cX7_reads 21 = .ok (.ifCond .eq 7, 3) := by decide +kernel
theorem dX7_reads_24 : decode cX7_reads 24 = .ok (.iconst 1, 1) := by decide +kernel
theorem dX7_reads_25 : decode cX7_reads 25 = .ok (.goto 4, 3) := by decide +kernel
theorem dX7_reads_28 : decode cX7_reads 28 = .ok (.iconst 0, 1) := by decide +kernel
theorem dX7_reads_29 : decode cX7_reads 29 = .ok (.iastore, 1) := by decide +kernel
theorem dX7_reads_30 : decode cX7_reads 30 = .ok (.iinc 1 1, 3) := by decide +kernel
theorem dX7_reads_33 : decode cX7_reads 33 = .ok (.goto (-31), 3) := by decide +kernel
theorem dX7_reads_36 : decode cX7_reads 36 = .ok (.aload_n 0, 1) := by decide +kernel
theorem dX7_reads_37 : decode cX7_reads 37 = .ok (.iconst 0, 1) := by decide +kernel
theorem dX7_reads_38 : decode cX7_reads 38 = .ok (.putfield 64, 3) := by decide +kernel
theorem dX7_reads_41 : decode cX7_reads 41 = .ok (.aload_n 0, 1) := by decide +kernel
theorem dX7_reads_42 : decode cX7_reads 42 = .ok (.invokevirtual 93, 3) := by decide +kernel
theorem dX7_reads_45 : decode cX7_reads 45 = .ok (.aload_n 0, 1) := by decide +kernel
theorem dX7_reads_46 : decode cX7_reads 46 = .ok (.getfield 77, 3) := by decide +kernel
theorem dX7_reads_49 : decode cX7_reads 49 = .ok (.ifCond .eq 47, 3) := by decide +kernel
theorem dX7_reads_52 : decode cX7_reads 52 = .ok (.aload_n 0, 1) := by decide +kernel
theorem dX7_reads_53 : decode cX7_reads 53 = .ok (.aload_n 0, 1) := by decide +kernel
theorem dX7_reads_54 : decode cX7_reads 54 = .ok (.invokevirtual 112, 3) := by decide +kernel
theorem dX7_reads_57 : decode cX7_reads 57 = .ok (.invokevirtual 116, 3) := by decide +kernel
theorem dX7_reads_60 : decode cX7_reads 60 = .ok (.ifCond .ne 5, 3) := by decide +kernel
theorem dX7_reads_63 : decode cX7_reads 63 = .ok (.iconst 0, 1) := by decide +kernel
theorem dX7_reads_64 : decode cX7_reads 64 = .ok (.ireturn, 1) := by decide +kernel
theorem dX7_reads_65 : decode cX7_reads 65 = .ok (.aload_n 0, 1) := by decide +kernel
theorem dX7_reads_66 : decode cX7_reads 66 = .ok (.invokevirtual 93, 3) := by decide +kernel
theorem dX7_reads_69 : decode cX7_reads 69 = .ok (.aload_n 0, 1) := by decide +kernel
theorem dX7_reads_70 : decode cX7_reads 70 = .ok (.getfield 77, 3) := by decide +kernel
theorem dX7_reads_73 : decode cX7_reads 73 = .ok (.iconst 3, 1) := by decide +kernel
theorem dX7_reads_74 : decode cX7_reads 74 = .ok (.if_icmp .eq 5, 3) := by decide +kernel
theorem dX7_reads_77 : decode cX7_reads 77 = .ok (.iconst 0, 1) := by decide +kernel
theorem dX7_reads_78 : decode cX7_reads 78 = .ok (.ireturn, 1) := by decide +kernel
theorem dX7_reads_79 : decode cX7_reads 79 = .ok (.aload_n 0, 1) := by decide +kernel
theorem dX7_reads_80 : decode cX7_reads 80 = .ok (.getfield 16, 3) := by decide +kernel
theorem dX7_reads_83 : decode cX7_reads 83 = .ok (.iconst 3, 1) := by decide +kernel
theorem dX7_reads_84 : decode cX7_reads 84 = .ok (.dup2, 1) := by decide +kernel
theorem dX7_reads_85 : decode cX7_reads 85 = .ok (.iaload, 1) := by decide +kernel
theorem dX7_reads_86 : decode cX7_reads 86 = .ok (.iconst 1, 1) := by decide +kernel
theorem dX7_reads_87 : decode cX7_reads 87 = .ok (.iadd, 1) := by decide +kernel
theorem dX7_reads_88 : decode cX7_reads 88 = .ok (.iastore, 1) := by decide +kernel
theorem dX7_reads_89 : decode cX7_reads 89 = .ok (.aload_n 0, 1) := by decide +kernel
theorem dX7_reads_90 : decode cX7_reads 90 = .ok (.invokevirtual 93, 3) := by decide +kernel
theorem dX7_reads_93 : decode cX7_reads 93 = .ok (.goto (-48), 3) := by decide +kernel
theorem dX7_reads_96 : decode cX7_reads 96 = .ok (.iconst 1, 1) := by decide +kernel
theorem dX7_reads_97 : decode cX7_reads 97 = .ok (.ireturn, 1) := by decide +kernel
theorem dX7_tells_0 : decode cX7_tells 0 = .ok (.iconst 0, 1) := by decide +kernel
theorem dX7_tells_1 : decode cX7_tells 1 = .ok (.istore_n 1, 1) := by decide +kernel
theorem dX7_tells_2 : decode cX7_tells 2 = .ok (.iload_n 1, 1) := by decide +kernel
theorem dX7_tells_3 : decode cX7_tells 3 = .ok (.bipush 47, 2) := by decide +kernel
theorem dX7_tells_5 : decode cX7_tells 5 = .ok (.if_icmp .ge 21, 3) := by decide +kernel
theorem dX7_tells_8 : decode cX7_tells 8 = .ok (.aload_n 0, 1) := by decide +kernel
theorem dX7_tells_9 : decode cX7_tells 9 = .ok (.getfield 13, 3) := by decide +kernel
theorem dX7_tells_12 : decode cX7_tells 12 = .ok (.iload_n 1, 1) := by decide +kernel
theorem dX7_tells_13 : decode cX7_tells 13 = .ok (.aload_n 0, 1) := by decide +kernel
theorem dX7_tells_14 : decode cX7_tells 14 = .ok (.getfield 16, 3) := by decide +kernel
theorem dX7_tells_17 : decode cX7_tells 17 = .ok (.iload_n 1, 1) := by decide +kernel
theorem dX7_tells_18 : decode cX7_tells 18 = .ok (.iaload, 1) := by decide +kernel
theorem dX7_tells_19 : decode cX7_tells 19 = .ok (.iastore, 1) := by decide +kernel
theorem dX7_tells_20 : decode cX7_tells 20 = .ok (.iinc 1 1, 3) := by decide +kernel
theorem dX7_tells_23 : decode cX7_tells 23 = .ok (.goto (-21), 3) := by decide +kernel
theorem dX7_tells_26 : decode cX7_tells 26 = .ok (.aload_n 0, 1) := by decide +kernel
theorem dX7_tells_27 : decode cX7_tells 27 = .ok (.getfield 19, 3) := by decide +kernel
theorem dX7_tells_30 : decode cX7_tells 30 = .ok (.iconst 0, 1) := by decide +kernel
theorem dX7_tells_31 : decode cX7_tells 31 = .ok (.iconst 0, 1) := by decide +kernel
theorem dX7_tells_32 : decode cX7_tells 32 = .ok (.iastore, 1) := by decide +kernel
theorem dX7_tells_33 : decode cX7_tells 33 = .ok (.iconst 0, 1) := by decide +kernel
theorem dX7_tells_34 : decode cX7_tells 34 = .ok (.istore_n 1, 1) := by decide +kernel
theorem dX7_tells_35 : decode cX7_tells 35 = .ok (.iload_n 1, 1) := by decide +kernel
theorem dX7_tells_36 : decode cX7_tells 36 = .ok (.bipush 6, 2) := by decide +kernel
theorem dX7_tells_38 : decode cX7_tells 38 = .ok (.if_icmp .ge 20, 3) := by decide +kernel
theorem dX7_tells_41 : decode cX7_tells 41 = .ok (.aload_n 0, 1) := by decide +kernel
theorem dX7_tells_42 : decode cX7_tells 42 = .ok (.getfield 19, 3) := by decide +kernel
theorem dX7_tells_45 : decode cX7_tells 45 = .ok (.bipush 49, 2) := by decide +kernel
theorem dX7_tells_47 : decode cX7_tells 47 = .ok (.iload_n 1, 1) := by decide +kernel
theorem dX7_tells_48 : decode cX7_tells 48 = .ok (.iadd, 1) := by decide +kernel
theorem dX7_tells_49 : decode cX7_tells 49 = .ok (.bipush (-9), 2) := by decide +kernel
theorem dX7_tells_51 : decode cX7_tells 51 = .ok (.iastore, 1) := by decide +kernel
theorem dX7_tells_52 : decode cX7_tells 52 = .ok (.iinc 1 1, 3) := by decide +kernel
theorem dX7_tells_55 : decode cX7_tells 55 = .ok (.goto (-20), 3) := by decide +kernel
theorem dX7_tells_58 : decode cX7_tells 58 = .ok (.aload_n 0, 1) := by decide +kernel
theorem dX7_tells_59 : decode cX7_tells 59 = .ok (.getfield 25, 3) := by decide +kernel
theorem dX7_tells_62 : decode cX7_tells 62 = .ok (.iconst 0, 1) := by decide +kernel
theorem dX7_tells_63 : decode cX7_tells 63 = .ok (.iconst 0, 1) := by decide +kernel
theorem dX7_tells_64 : decode cX7_tells 64 = .ok (.bastore, 1) := by decide +kernel
theorem dX7_tells_65 : decode cX7_tells 65 = .ok (.aload_n 0, 1) := by decide +kernel
theorem dX7_tells_66 : decode cX7_tells 66 = .ok (.getfield 25, 3) := by decide +kernel
theorem dX7_tells_69 : decode cX7_tells 69 = .ok (.iconst 1, 1) := by decide +kernel
theorem dX7_tells_70 : decode cX7_tells 70 = .ok (.iconst 0, 1) := by decide +kernel
theorem dX7_tells_71 : decode cX7_tells 71 = .ok (.bastore, 1) := by decide +kernel
theorem dX7_tells_72 : decode cX7_tells 72 = .ok (.return_, 1) := by decide +kernel
theorem dX7_square_0 : decode cX7_square 0 = .ok (.aload_n 0, 1) := by decide +kernel
theorem dX7_square_1 : decode cX7_square 1 = .ok (.invokevirtual 47, 3) := by decide +kernel
theorem dX7_square_4 : decode cX7_square 4 = .ok (.ifCond .ne 11, 3) := by decide +kernel
theorem dX7_square_7 : decode cX7_square 7 = .ok (.bipush (-10), 2) := by decide +kernel
theorem dX7_square_9 : decode cX7_square 9 = .ok (.aload_n 0, 1) := by decide +kernel
theorem dX7_square_10 : decode cX7_square 10 = .ok (.getfield 71, 3) := by decide +kernel
theorem dX7_square_13 : decode cX7_square 13 = .ok (.isub, 1) := by decide +kernel
theorem dX7_square_14 : decode cX7_square 14 = .ok (.ireturn, 1) := by decide +kernel
theorem dX7_square_15 : decode cX7_square 15 = .ok (.aload_n 0, 1) := by decide +kernel
theorem dX7_square_16 : decode cX7_square 16 = .ok (.invokevirtual 51, 3) := by decide +kernel
theorem dX7_square_19 : decode cX7_square 19 = .ok (.aload_n 0, 1) := by decide +kernel
theorem dX7_square_20 : decode cX7_square 20 = .ok (.iconst 0, 1) := by decide +kernel
theorem dX7_square_21 : decode cX7_square 21 = .ok (.putfield 58, 3) := by decide +kernel
theorem dX7_square_24 : decode cX7_square 24 = .ok (.aload_n 0, 1) := by decide +kernel
theorem dX7_square_25 : decode cX7_square 25 = .ok (.getfield 13, 3) := by decide +kernel
theorem dX7_square_28 : decode cX7_square 28 = .ok (.iconst 3, 1) := by decide +kernel
theorem dX7_square_29 : decode cX7_square 29 = .ok (.iaload, 1) := by decide +kernel
theorem dX7_square_30 : decode cX7_square 30 = .ok (.ireturn, 1) := by decide +kernel
theorem dX7_bar_0 : decode cX7_bar 0 = .ok (.aload_n 0, 1) := by decide +kernel
theorem dX7_bar_1 : decode cX7_bar 1 = .ok (.iload_n 1, 1) := by decide +kernel
theorem dX7_bar_2 : decode cX7_bar 2 = .ok (.invokevirtual 120, 3) := by decide +kernel
theorem dX7_bar_5 : decode cX7_bar 5 = .ok (.ifCond .eq 14, 3) := by decide +kernel
theorem dX7_bar_8 : decode cX7_bar 8 = .ok (.aload_n 0, 1) := by decide +kernel
theorem dX7_bar_9 : decode cX7_bar 9 = .ok (.getfield 13, 3) := by decide +kernel
theorem dX7_bar_12 : decode cX7_bar 12 = .ok (.iconst 4, 1) := by decide +kernel
theorem dX7_bar_13 : decode cX7_bar 13 = .ok (.iload_n 1, 1) := by decide +kernel
theorem dX7_bar_14 : decode cX7_bar 14 = .ok (.iadd, 1) := by decide +kernel
theorem dX7_bar_15 : decode cX7_bar 15 = .ok (.iaload, 1) := by decide +kernel
theorem dX7_bar_16 : decode cX7_bar 16 = .ok (.goto 4, 3) := by decide +kernel
theorem dX7_bar_19 : decode cX7_bar 19 = .ok (.iconst (-1), 1) := by decide +kernel
theorem dX7_bar_20 : decode cX7_bar 20 = .ok (.ireturn, 1) := by decide +kernel
theorem dX7_person_0 : decode cX7_person 0 = .ok (.aload_n 0, 1) := by decide +kernel
theorem dX7_person_1 : decode cX7_person 1 = .ok (.iload_n 1, 1) := by decide +kernel
theorem dX7_person_2 : decode cX7_person 2 = .ok (.invokevirtual 123, 3) := by decide +kernel
theorem dX7_person_5 : decode cX7_person 5 = .ok (.ifCond .eq 15, 3) := by decide +kernel
theorem dX7_person_8 : decode cX7_person 8 = .ok (.aload_n 0, 1) := by decide +kernel
theorem dX7_person_9 : decode cX7_person 9 = .ok (.getfield 13, 3) := by decide +kernel
theorem dX7_person_12 : decode cX7_person 12 = .ok (.bipush 10, 2) := by decide +kernel
theorem dX7_person_14 : decode cX7_person 14 = .ok (.iload_n 1, 1) := by decide +kernel
theorem dX7_person_15 : decode cX7_person 15 = .ok (.iadd, 1) := by decide +kernel
theorem dX7_person_16 : decode cX7_person 16 = .ok (.iaload, 1) := by decide +kernel
theorem dX7_person_17 : decode cX7_person 17 = .ok (.goto 4, 3) := by decide +kernel
theorem dX7_person_20 : decode cX7_person 20 = .ok (.iconst (-1), 1) := by decide +kernel
theorem dX7_person_21 : decode cX7_person 21 = .ok (.ireturn, 1) := by decide +kernel
theorem dX7_rain_0 : decode cX7_rain 0 = .ok (.iload_n 1, 1) := by decide +kernel
theorem dX7_rain_1 : decode cX7_rain 1 = .ok (.iconst 0, 1) := by decide +kernel
theorem dX7_rain_2 : decode cX7_rain 2 = .ok (.bipush 9, 2) := by decide +kernel
theorem dX7_rain_4 : decode cX7_rain 4 = .ok (.invokestatic 54, 3) := by decide +kernel
theorem dX7_rain_7 : decode cX7_rain 7 = .ok (.ifCond .eq 15, 3) := by decide +kernel
theorem dX7_rain_10 : decode cX7_rain 10 = .ok (.aload_n 0, 1) := by decide +kernel
theorem dX7_rain_11 : decode cX7_rain 11 = .ok (.getfield 13, 3) := by decide +kernel
theorem dX7_rain_14 : decode cX7_rain 14 = .ok (.bipush 13, 2) := by decide +kernel
theorem dX7_rain_16 : decode cX7_rain 16 = .ok (.iload_n 1, 1) := by decide +kernel
theorem dX7_rain_17 : decode cX7_rain 17 = .ok (.iadd, 1) := by decide +kernel
theorem dX7_rain_18 : decode cX7_rain 18 = .ok (.iaload, 1) := by decide +kernel
theorem dX7_rain_19 : decode cX7_rain 19 = .ok (.goto 4, 3) := by decide +kernel
theorem dX7_rain_22 : decode cX7_rain 22 = .ok (.iconst (-1), 1) := by decide +kernel
theorem dX7_rain_23 : decode cX7_rain 23 = .ok (.ireturn, 1) := by decide +kernel
theorem dX7_paintOf_0 : decode cX7_paintOf 0 = .ok (.iconst 0, 1) := by decide +kernel
theorem dX7_paintOf_1 : decode cX7_paintOf 1 = .ok (.istore_n 3, 1) := by decide +kernel
theorem dX7_paintOf_2 : decode cX7_paintOf 2 = .ok (.iconst 0, 1) := by decide +kernel
theorem dX7_paintOf_3 : decode cX7_paintOf 3 = .ok (.istore 4, 2) := by decide +kernel
theorem dX7_paintOf_5 : decode cX7_paintOf 5 = .ok (.iload 4, 2) := by decide +kernel
theorem dX7_paintOf_7 : decode cX7_paintOf 7 = .ok (.aload_n 0, 1) := by decide +kernel
theorem dX7_paintOf_8 : decode cX7_paintOf 8 = .ok (.getfield 13, 3) := by decide +kernel
theorem dX7_paintOf_11 : decode cX7_paintOf 11 = .ok (.iconst 2, 1) := by decide +kernel
theorem dX7_paintOf_12 : decode cX7_paintOf 12 = .ok (.iaload, 1) := by decide +kernel
theorem dX7_paintOf_13 : decode cX7_paintOf 13 = .ok (.if_icmp .ge 80, 3) := by decide +kernel
theorem dX7_paintOf_16 : decode cX7_paintOf 16 = .ok (.aload_n 0, 1) := by decide +kernel
theorem dX7_paintOf_17 : decode cX7_paintOf 17 = .ok (.getfield 13, 3) := by decide +kernel
theorem dX7_paintOf_20 : decode cX7_paintOf 20 = .ok (.bipush 23, 2) := by decide +kernel
theorem dX7_paintOf_22 : decode cX7_paintOf 22 = .ok (.iload 4, 2) := by decide +kernel
theorem dX7_paintOf_24 : decode cX7_paintOf 24 = .ok (.iadd, 1) := by decide +kernel
theorem dX7_paintOf_25 : decode cX7_paintOf 25 = .ok (.iaload, 1) := by decide +kernel
theorem dX7_paintOf_26 : decode cX7_paintOf 26 = .ok (.iload_n 1, 1) := by decide +kernel
theorem dX7_paintOf_27 : decode cX7_paintOf 27 = .ok (.if_icmp .ne 18, 3) := by decide +kernel
theorem dX7_paintOf_30 : decode cX7_paintOf 30 = .ok (.iload_n 2, 1) := by decide +kernel
theorem dX7_paintOf_31 : decode cX7_paintOf 31 = .ok (.aload_n 0, 1) := by decide +kernel
theorem dX7_paintOf_32 : decode cX7_paintOf 32 = .ok (.getfield 13, 3) := by decide +kernel
theorem dX7_paintOf_35 : decode cX7_paintOf 35 = .ok (.bipush 31, 2) := by decide +kernel
theorem dX7_paintOf_37 : decode cX7_paintOf 37 = .ok (.iload 4, 2) := by decide +kernel
theorem dX7_paintOf_39 : decode cX7_paintOf 39 = .ok (.iadd, 1) := by decide +kernel
theorem dX7_paintOf_40 : decode cX7_paintOf 40 = .ok (.iaload, 1) := by decide +kernel
theorem dX7_paintOf_41 : decode cX7_paintOf 41 = .ok (.isub, 1) := by decide +kernel
theorem dX7_paintOf_42 : decode cX7_paintOf 42 = .ok (.goto 4, 3) := by decide +kernel
theorem dX7_paintOf_45 : decode cX7_paintOf 45 = .ok (.iconst (-1), 1) := by decide +kernel
theorem dX7_paintOf_46 : decode cX7_paintOf 46 = .ok (.istore 5, 2) := by decide +kernel
theorem dX7_paintOf_48 : decode cX7_paintOf 48 = .ok (.iload 5, 2) := by decide +kernel
theorem dX7_paintOf_50 : decode cX7_paintOf 50 = .ok (.ifCond .ne 7, 3) := by decide +kernel
theorem dX7_paintOf_53 : decode cX7_paintOf 53 = .ok (.iconst 2, 1) := by decide +kernel
theorem dX7_paintOf_54 : decode cX7_paintOf 54 = .ok (.goto 32, 3) := by decide +kernel
theorem dX7_paintOf_57 : decode cX7_paintOf 57 = .ok (.iload_n 3, 1) := by decide +kernel
theorem dX7_paintOf_58 : decode cX7_paintOf 58 = .ok (.ifCond .ne 27, 3) := by decide +kernel
theorem dX7_paintOf_61 : decode cX7_paintOf 61 = .ok (.iload 5, 2) := by decide +kernel
theorem dX7_paintOf_63 : decode cX7_paintOf 63 = .ok (.ifCond .le 22, 3) := by decide +kernel
theorem dX7_paintOf_66 : decode cX7_paintOf 66 = .ok (.iload 5, 2) := by decide +kernel
theorem dX7_paintOf_68 : decode cX7_paintOf 68 = .ok (.aload_n 0, 1) := by decide +kernel
theorem dX7_paintOf_69 : decode cX7_paintOf 69 = .ok (.getfield 13, 3) := by decide +kernel
theorem dX7_paintOf_72 : decode cX7_paintOf 72 = .ok (.bipush 39, 2) := by decide +kernel
theorem dX7_paintOf_74 : decode cX7_paintOf 74 = .ok (.iload 4, 2) := by decide +kernel
theorem dX7_paintOf_76 : decode cX7_paintOf 76 = .ok (.iadd, 1) := by decide +kernel
theorem dX7_paintOf_77 : decode cX7_paintOf 77 = .ok (.iaload, 1) := by decide +kernel
theorem dX7_paintOf_78 : decode cX7_paintOf 78 = .ok (.if_icmp .ge 7, 3) := by decide +kernel
theorem dX7_paintOf_81 : decode cX7_paintOf 81 = .ok (.iconst 1, 1) := by decide +kernel
theorem dX7_paintOf_82 : decode cX7_paintOf 82 = .ok (.goto 4, 3) := by decide +kernel
theorem dX7_paintOf_85 : decode cX7_paintOf 85 = .ok (.iload_n 3, 1) := by decide +kernel
theorem dX7_paintOf_86 : decode cX7_paintOf 86 = .ok (.istore_n 3, 1) := by decide +kernel
theorem dX7_paintOf_87 : decode cX7_paintOf 87 = .ok (.iinc 4 1, 3) := by decide +kernel
theorem dX7_paintOf_90 : decode cX7_paintOf 90 = .ok (.goto (-85), 3) := by decide +kernel
theorem dX7_paintOf_93 : decode cX7_paintOf 93 = .ok (.iload_n 3, 1) := by decide +kernel
theorem dX7_paintOf_94 : decode cX7_paintOf 94 = .ok (.ireturn, 1) := by decide +kernel
theorem dX7_paint_0 : decode cX7_paint 0 = .ok (.aload_n 0, 1) := by decide +kernel
theorem dX7_paint_1 : decode cX7_paint 1 = .ok (.iload_n 1, 1) := by decide +kernel
theorem dX7_paint_2 : decode cX7_paint 2 = .ok (.invokevirtual 120, 3) := by decide +kernel
theorem dX7_paint_5 : decode cX7_paint 5 = .ok (.ifCond .eq 22, 3) := by decide +kernel
theorem dX7_paint_8 : decode cX7_paint 8 = .ok (.iload_n 2, 1) := by decide +kernel
theorem dX7_paint_9 : decode cX7_paint 9 = .ok (.iconst 0, 1) := by decide +kernel
theorem dX7_paint_10 : decode cX7_paint 10 = .ok (.bipush 9, 2) := by decide +kernel
theorem dX7_paint_12 : decode cX7_paint 12 = .ok (.invokestatic 54, 3) := by decide +kernel
theorem dX7_paint_15 : decode cX7_paint 15 = .ok (.ifCond .eq 12, 3) := by decide +kernel
theorem dX7_paint_18 : decode cX7_paint 18 = .ok (.aload_n 0, 1) := by decide +kernel
theorem dX7_paint_19 : decode cX7_paint 19 = .ok (.iload_n 1, 1) := by decide +kernel
theorem dX7_paint_20 : decode cX7_paint 20 = .ok (.iload_n 2, 1) := by decide +kernel
theorem dX7_paint_21 : decode cX7_paint 21 = .ok (.invokevirtual 126, 3) := by decide +kernel
theorem dX7_paint_24 : decode cX7_paint 24 = .ok (.goto 4, 3) := by decide +kernel
theorem dX7_paint_27 : decode cX7_paint 27 = .ok (.iconst (-1), 1) := by decide +kernel
theorem dX7_paint_28 : decode cX7_paint 28 = .ok (.ireturn, 1) := by decide +kernel
theorem dX7_holds_0 : decode cX7_holds 0 = .ok (.aload_n 0, 1) := by decide +kernel
theorem dX7_holds_1 : decode cX7_holds 1 = .ok (.iload_n 1, 1) := by decide +kernel
theorem dX7_holds_2 : decode cX7_holds 2 = .ok (.invokevirtual 123, 3) := by decide +kernel
theorem dX7_holds_5 : decode cX7_holds 5 = .ok (.ifCond .eq 34, 3) := by decide +kernel
theorem dX7_holds_8 : decode cX7_holds 8 = .ok (.aload_n 0, 1) := by decide +kernel
theorem dX7_holds_9 : decode cX7_holds 9 = .ok (.iload_n 2, 1) := by decide +kernel
theorem dX7_holds_10 : decode cX7_holds 10 = .ok (.invokevirtual 120, 3) := by decide +kernel
theorem dX7_holds_13 : decode cX7_holds 13 = .ok (.ifCond .eq 26, 3) := by decide +kernel
theorem dX7_holds_16 : decode cX7_holds 16 = .ok (.iload_n 3, 1) := by decide +kernel
theorem dX7_holds_17 : decode cX7_holds 17 = .ok (.iconst 0, 1) := by decide +kernel
theorem dX7_holds_18 : decode cX7_holds 18 = .ok (.bipush 9, 2) := by decide +kernel
theorem dX7_holds_20 : decode cX7_holds 20 = .ok (.invokestatic 54, 3) := by decide +kernel
theorem dX7_holds_23 : decode cX7_holds 23 = .ok (.ifCond .eq 16, 3) := by decide +kernel
theorem dX7_holds_26 : decode cX7_holds 26 = .ok (.iload 4, 2) := by decide +kernel
theorem dX7_holds_28 : decode cX7_holds 28 = .ok (.iconst 1, 1) := by decide +kernel
theorem dX7_holds_29 : decode cX7_holds 29 = .ok (.bipush 10, 2) := by decide +kernel
theorem dX7_holds_31 : decode cX7_holds 31 = .ok (.iload_n 3, 1) := by decide +kernel
theorem dX7_holds_32 : decode cX7_holds 32 = .ok (.isub, 1) := by decide +kernel
theorem dX7_holds_33 : decode cX7_holds 33 = .ok (.invokestatic 54, 3) := by decide +kernel
theorem dX7_holds_36 : decode cX7_holds 36 = .ok (.ifCond .ne 5, 3) := by decide +kernel
theorem dX7_holds_39 : decode cX7_holds 39 = .ok (.iconst (-1), 1) := by decide +kernel
theorem dX7_holds_40 : decode cX7_holds 40 = .ok (.ireturn, 1) := by decide +kernel
theorem dX7_holds_41 : decode cX7_holds 41 = .ok (.aload_n 0, 1) := by decide +kernel
theorem dX7_holds_42 : decode cX7_holds 42 = .ok (.getfield 19, 3) := by decide +kernel
theorem dX7_holds_45 : decode cX7_holds 45 = .ok (.iconst 0, 1) := by decide +kernel
theorem dX7_holds_46 : decode cX7_holds 46 = .ok (.iaload, 1) := by decide +kernel
theorem dX7_holds_47 : decode cX7_holds 47 = .ok (.bipush 12, 2) := by decide +kernel
theorem dX7_holds_49 : decode cX7_holds 49 = .ok (.if_icmp .ne 6, 3) := by decide +kernel
theorem dX7_holds_52 : decode cX7_holds 52 = .ok (.bipush (-3), 2) := by decide +kernel
theorem dX7_holds_54 : decode cX7_holds 54 = .ok (.ireturn, 1) := by decide +kernel
theorem dX7_holds_55 : decode cX7_holds 55 = .ok (.aload_n 0, 1) := by decide +kernel
theorem dX7_holds_56 : decode cX7_holds 56 = .ok (.getfield 19, 3) := by decide +kernel
theorem dX7_holds_59 : decode cX7_holds 59 = .ok (.iconst 0, 1) := by decide +kernel
theorem dX7_holds_60 : decode cX7_holds 60 = .ok (.iaload, 1) := by decide +kernel
theorem dX7_holds_61 : decode cX7_holds 61 = .ok (.istore 5, 2) := by decide +kernel
theorem dX7_holds_63 : decode cX7_holds 63 = .ok (.aload_n 0, 1) := by decide +kernel
theorem dX7_holds_64 : decode cX7_holds 64 = .ok (.getfield 19, 3) := by decide +kernel
theorem dX7_holds_67 : decode cX7_holds 67 = .ok (.iconst 1, 1) := by decide +kernel
theorem dX7_holds_68 : decode cX7_holds 68 = .ok (.iload 5, 2) := by decide +kernel
theorem dX7_holds_70 : decode cX7_holds 70 = .ok (.iadd, 1) := by decide +kernel
theorem dX7_holds_71 : decode cX7_holds 71 = .ok (.iload_n 1, 1) := by decide +kernel
theorem dX7_holds_72 : decode cX7_holds 72 = .ok (.iastore, 1) := by decide +kernel
theorem dX7_holds_73 : decode cX7_holds 73 = .ok (.aload_n 0, 1) := by decide +kernel
theorem dX7_holds_74 : decode cX7_holds 74 = .ok (.getfield 19, 3) := by decide +kernel
theorem dX7_holds_77 : decode cX7_holds 77 = .ok (.bipush 13, 2) := by decide +kernel
theorem dX7_holds_79 : decode cX7_holds 79 = .ok (.iload 5, 2) := by decide +kernel
theorem dX7_holds_81 : decode cX7_holds 81 = .ok (.iadd, 1) := by decide +kernel
theorem dX7_holds_82 : decode cX7_holds 82 = .ok (.iload_n 2, 1) := by decide +kernel
theorem dX7_holds_83 : decode cX7_holds 83 = .ok (.iastore, 1) := by decide +kernel
theorem dX7_holds_84 : decode cX7_holds 84 = .ok (.aload_n 0, 1) := by decide +kernel
theorem dX7_holds_85 : decode cX7_holds 85 = .ok (.getfield 19, 3) := by decide +kernel
theorem dX7_holds_88 : decode cX7_holds 88 = .ok (.bipush 25, 2) := by decide +kernel
theorem dX7_holds_90 : decode cX7_holds 90 = .ok (.iload 5, 2) := by decide +kernel
theorem dX7_holds_92 : decode cX7_holds 92 = .ok (.iadd, 1) := by decide +kernel
theorem dX7_holds_93 : decode cX7_holds 93 = .ok (.iload_n 3, 1) := by decide +kernel
theorem dX7_holds_94 : decode cX7_holds 94 = .ok (.iastore, 1) := by decide +kernel
theorem dX7_holds_95 : decode cX7_holds 95 = .ok (.aload_n 0, 1) := by decide +kernel
theorem dX7_holds_96 : decode cX7_holds 96 = .ok (.getfield 19, 3) := by decide +kernel
theorem dX7_holds_99 : decode cX7_holds 99 = .ok (.bipush 37, 2) := by decide +kernel
theorem dX7_holds_101 : decode cX7_holds 101 = .ok (.iload 5, 2) := by decide +kernel
theorem dX7_holds_103 : decode cX7_holds 103 = .ok (.iadd, 1) := by decide +kernel
theorem dX7_holds_104 : decode cX7_holds 104 = .ok (.iload 4, 2) := by decide +kernel
theorem dX7_holds_106 : decode cX7_holds 106 = .ok (.iastore, 1) := by decide +kernel
theorem dX7_holds_107 : decode cX7_holds 107 = .ok (.aload_n 0, 1) := by decide +kernel
theorem dX7_holds_108 : decode cX7_holds 108 = .ok (.getfield 19, 3) := by decide +kernel
theorem dX7_holds_111 : decode cX7_holds 111 = .ok (.iconst 0, 1) := by decide +kernel
theorem dX7_holds_112 : decode cX7_holds 112 = .ok (.dup2, 1) := by decide +kernel
theorem dX7_holds_113 : decode cX7_holds 113 = .ok (.iaload, 1) := by decide +kernel
theorem dX7_holds_114 : decode cX7_holds 114 = .ok (.iconst 1, 1) := by decide +kernel
theorem dX7_holds_115 : decode cX7_holds 115 = .ok (.iadd, 1) := by decide +kernel
theorem dX7_holds_116 : decode cX7_holds 116 = .ok (.iastore, 1) := by decide +kernel
theorem dX7_holds_117 : decode cX7_holds 117 = .ok (.aload_n 0, 1) := by decide +kernel
theorem dX7_holds_118 : decode cX7_holds 118 = .ok (.getfield 19, 3) := by decide +kernel
theorem dX7_holds_121 : decode cX7_holds 121 = .ok (.iconst 0, 1) := by decide +kernel
theorem dX7_holds_122 : decode cX7_holds 122 = .ok (.iaload, 1) := by decide +kernel
theorem dX7_holds_123 : decode cX7_holds 123 = .ok (.ireturn, 1) := by decide +kernel
theorem dX7_undo_0 : decode cX7_undo 0 = .ok (.aload_n 0, 1) := by decide +kernel
theorem dX7_undo_1 : decode cX7_undo 1 = .ok (.getfield 19, 3) := by decide +kernel
theorem dX7_undo_4 : decode cX7_undo 4 = .ok (.iconst 0, 1) := by decide +kernel
theorem dX7_undo_5 : decode cX7_undo 5 = .ok (.iaload, 1) := by decide +kernel
theorem dX7_undo_6 : decode cX7_undo 6 = .ok (.ifCond .ne 6, 3) := by decide +kernel
theorem dX7_undo_9 : decode cX7_undo 9 = .ok (.bipush (-2), 2) := by decide +kernel
theorem dX7_undo_11 : decode cX7_undo 11 = .ok (.ireturn, 1) := by decide +kernel
theorem dX7_undo_12 : decode cX7_undo 12 = .ok (.aload_n 0, 1) := by decide +kernel
theorem dX7_undo_13 : decode cX7_undo 13 = .ok (.getfield 19, 3) := by decide +kernel
theorem dX7_undo_16 : decode cX7_undo 16 = .ok (.iconst 0, 1) := by decide +kernel
theorem dX7_undo_17 : decode cX7_undo 17 = .ok (.dup2, 1) := by decide +kernel
theorem dX7_undo_18 : decode cX7_undo 18 = .ok (.iaload, 1) := by decide +kernel
theorem dX7_undo_19 : decode cX7_undo 19 = .ok (.iconst 1, 1) := by decide +kernel
theorem dX7_undo_20 : decode cX7_undo 20 = .ok (.isub, 1) := by decide +kernel
theorem dX7_undo_21 : decode cX7_undo 21 = .ok (.iastore, 1) := by decide +kernel
theorem dX7_undo_22 : decode cX7_undo 22 = .ok (.aload_n 0, 1) := by decide +kernel
theorem dX7_undo_23 : decode cX7_undo 23 = .ok (.getfield 19, 3) := by decide +kernel
theorem dX7_undo_26 : decode cX7_undo 26 = .ok (.iconst 0, 1) := by decide +kernel
theorem dX7_undo_27 : decode cX7_undo 27 = .ok (.iaload, 1) := by decide +kernel
theorem dX7_undo_28 : decode cX7_undo 28 = .ok (.ireturn, 1) := by decide +kernel
theorem dX7_held_0 : decode cX7_held 0 = .ok (.iload_n 1, 1) := by decide +kernel
theorem dX7_held_1 : decode cX7_held 1 = .ok (.iconst 0, 1) := by decide +kernel
theorem dX7_held_2 : decode cX7_held 2 = .ok (.aload_n 0, 1) := by decide +kernel
theorem dX7_held_3 : decode cX7_held 3 = .ok (.getfield 19, 3) := by decide +kernel
theorem dX7_held_6 : decode cX7_held 6 = .ok (.iconst 0, 1) := by decide +kernel
theorem dX7_held_7 : decode cX7_held 7 = .ok (.iaload, 1) := by decide +kernel
theorem dX7_held_8 : decode cX7_held 8 = .ok (.iconst 1, 1) := by decide +kernel
theorem dX7_held_9 : decode cX7_held 9 = .ok (.isub, 1) := by decide +kernel
theorem dX7_held_10 : decode cX7_held 10 = .ok (.invokestatic 54, 3) := by decide +kernel
theorem dX7_held_13 : decode cX7_held 13 = .ok (.ifCond .eq 12, 3) := by decide +kernel
theorem dX7_held_16 : decode cX7_held 16 = .ok (.iload_n 2, 1) := by decide +kernel
theorem dX7_held_17 : decode cX7_held 17 = .ok (.iconst 0, 1) := by decide +kernel
theorem dX7_held_18 : decode cX7_held 18 = .ok (.iconst 3, 1) := by decide +kernel
theorem dX7_held_19 : decode cX7_held 19 = .ok (.invokestatic 54, 3) := by decide +kernel
theorem dX7_held_22 : decode cX7_held 22 = .ok (.ifCond .ne 5, 3) := by decide +kernel
theorem dX7_held_25 : decode cX7_held 25 = .ok (.iconst (-1), 1) := by decide +kernel
theorem dX7_held_26 : decode cX7_held 26 = .ok (.ireturn, 1) := by decide +kernel
theorem dX7_held_27 : decode cX7_held 27 = .ok (.aload_n 0, 1) := by decide +kernel
theorem dX7_held_28 : decode cX7_held 28 = .ok (.getfield 19, 3) := by decide +kernel
theorem dX7_held_31 : decode cX7_held 31 = .ok (.iconst 1, 1) := by decide +kernel
theorem dX7_held_32 : decode cX7_held 32 = .ok (.bipush 12, 2) := by decide +kernel
theorem dX7_held_34 : decode cX7_held 34 = .ok (.iload_n 2, 1) := by decide +kernel
theorem dX7_held_35 : decode cX7_held 35 = .ok (.imul, 1) := by decide +kernel
theorem dX7_held_36 : decode cX7_held 36 = .ok (.iadd, 1) := by decide +kernel
theorem dX7_held_37 : decode cX7_held 37 = .ok (.iload_n 1, 1) := by decide +kernel
theorem dX7_held_38 : decode cX7_held 38 = .ok (.iadd, 1) := by decide +kernel
theorem dX7_held_39 : decode cX7_held 39 = .ok (.iaload, 1) := by decide +kernel
theorem dX7_held_40 : decode cX7_held 40 = .ok (.ireturn, 1) := by decide +kernel
theorem dX7_plain_0 : decode cX7_plain 0 = .ok (.iconst 0, 1) := by decide +kernel
theorem dX7_plain_1 : decode cX7_plain 1 = .ok (.istore_n 3, 1) := by decide +kernel
theorem dX7_plain_2 : decode cX7_plain 2 = .ok (.iconst 0, 1) := by decide +kernel
theorem dX7_plain_3 : decode cX7_plain 3 = .ok (.istore 4, 2) := by decide +kernel
theorem dX7_plain_5 : decode cX7_plain 5 = .ok (.iload 4, 2) := by decide +kernel
theorem dX7_plain_7 : decode cX7_plain 7 = .ok (.iload_n 2, 1) := by decide +kernel
theorem dX7_plain_8 : decode cX7_plain 8 = .ok (.if_icmp .gt 45, 3) := by decide +kernel
theorem dX7_plain_11 : decode cX7_plain 11 = .ok (.iload_n 3, 1) := by decide +kernel
theorem dX7_plain_12 : decode cX7_plain 12 = .ok (.aload_n 0, 1) := by decide +kernel
theorem dX7_plain_13 : decode cX7_plain 13 = .ok (.iload_n 1, 1) := by decide +kernel
theorem dX7_plain_14 : decode cX7_plain 14 = .ok (.iload 4, 2) := by decide +kernel
theorem dX7_plain_16 : decode cX7_plain 16 = .ok (.invokevirtual 126, 3) := by decide +kernel
theorem dX7_plain_19 : decode cX7_plain 19 = .ok (.ifCond .ne 25, 3) := by decide +kernel
theorem dX7_plain_22 : decode cX7_plain 22 = .ok (.aload_n 0, 1) := by decide +kernel
theorem dX7_plain_23 : decode cX7_plain 23 = .ok (.getfield 13, 3) := by decide +kernel
theorem dX7_plain_26 : decode cX7_plain 26 = .ok (.bipush 13, 2) := by decide +kernel
theorem dX7_plain_28 : decode cX7_plain 28 = .ok (.iload 4, 2) := by decide +kernel
theorem dX7_plain_30 : decode cX7_plain 30 = .ok (.iadd, 1) := by decide +kernel
theorem dX7_plain_31 : decode cX7_plain 31 = .ok (.iaload, 1) := by decide +kernel
theorem dX7_plain_32 : decode cX7_plain 32 = .ok (.aload_n 0, 1) := by decide +kernel
theorem dX7_plain_33 : decode cX7_plain 33 = .ok (.getfield 13, 3) := by decide +kernel
theorem dX7_plain_36 : decode cX7_plain 36 = .ok (.iconst 4, 1) := by decide +kernel
theorem dX7_plain_37 : decode cX7_plain 37 = .ok (.iload_n 1, 1) := by decide +kernel
theorem dX7_plain_38 : decode cX7_plain 38 = .ok (.iadd, 1) := by decide +kernel
theorem dX7_plain_39 : decode cX7_plain 39 = .ok (.iaload, 1) := by decide +kernel
theorem dX7_plain_40 : decode cX7_plain 40 = .ok (.imul, 1) := by decide +kernel
theorem dX7_plain_41 : decode cX7_plain 41 = .ok (.goto 4, 3) := by decide +kernel
theorem dX7_plain_44 : decode cX7_plain 44 = .ok (.iconst 0, 1) := by decide +kernel
theorem dX7_plain_45 : decode cX7_plain 45 = .ok (.iadd, 1) := by decide +kernel
theorem dX7_plain_46 : decode cX7_plain 46 = .ok (.istore_n 3, 1) := by decide +kernel
theorem dX7_plain_47 : decode cX7_plain 47 = .ok (.iinc 4 1, 3) := by decide +kernel
theorem dX7_plain_50 : decode cX7_plain 50 = .ok (.goto (-45), 3) := by decide +kernel
theorem dX7_plain_53 : decode cX7_plain 53 = .ok (.iload_n 3, 1) := by decide +kernel
theorem dX7_plain_54 : decode cX7_plain 54 = .ok (.ireturn, 1) := by decide +kernel
theorem dX7_rustOf_0 : decode cX7_rustOf 0 = .ok (.aload_n 0, 1) := by decide +kernel
theorem dX7_rustOf_1 : decode cX7_rustOf 1 = .ok (.iload_n 1, 1) := by decide +kernel
theorem dX7_rustOf_2 : decode cX7_rustOf 2 = .ok (.iload_n 2, 1) := by decide +kernel
theorem dX7_rustOf_3 : decode cX7_rustOf 3 = .ok (.invokevirtual 129, 3) := by decide +kernel
theorem dX7_rustOf_6 : decode cX7_rustOf 6 = .ok (.istore_n 3, 1) := by decide +kernel
theorem dX7_rustOf_7 : decode cX7_rustOf 7 = .ok (.iconst 0, 1) := by decide +kernel
theorem dX7_rustOf_8 : decode cX7_rustOf 8 = .ok (.istore 4, 2) := by decide +kernel
theorem dX7_rustOf_10 : decode cX7_rustOf 10 = .ok (.iload 4, 2) := by decide +kernel
theorem dX7_rustOf_12 : decode cX7_rustOf 12 = .ok (.aload_n 0, 1) := by decide +kernel
theorem dX7_rustOf_13 : decode cX7_rustOf 13 = .ok (.getfield 19, 3) := by decide +kernel
theorem dX7_rustOf_16 : decode cX7_rustOf 16 = .ok (.iconst 0, 1) := by decide +kernel
theorem dX7_rustOf_17 : decode cX7_rustOf 17 = .ok (.iaload, 1) := by decide +kernel
theorem dX7_rustOf_18 : decode cX7_rustOf 18 = .ok (.if_icmp .ge 103, 3) := by decide +kernel
theorem dX7_rustOf_21 : decode cX7_rustOf 21 = .ok (.iconst 0, 1) := by decide +kernel
theorem dX7_rustOf_22 : decode cX7_rustOf 22 = .ok (.istore 5, 2) := by decide +kernel
theorem dX7_rustOf_24 : decode cX7_rustOf 24 = .ok (.iload 5, 2) := by decide +kernel
theorem dX7_rustOf_26 : decode cX7_rustOf 26 = .ok (.aload_n 0, 1) := by decide +kernel
theorem dX7_rustOf_27 : decode cX7_rustOf 27 = .ok (.getfield 19, 3) := by decide +kernel
theorem dX7_rustOf_30 : decode cX7_rustOf 30 = .ok (.bipush 37, 2) := by decide +kernel
theorem dX7_rustOf_32 : decode cX7_rustOf 32 = .ok (.iload 4, 2) := by decide +kernel
theorem dX7_rustOf_34 : decode cX7_rustOf 34 = .ok (.iadd, 1) := by decide +kernel
theorem dX7_rustOf_35 : decode cX7_rustOf 35 = .ok (.iaload, 1) := by decide +kernel
theorem dX7_rustOf_36 : decode cX7_rustOf 36 = .ok (.if_icmp .ge 79, 3) := by decide +kernel
theorem dX7_rustOf_39 : decode cX7_rustOf 39 = .ok (.aload_n 0, 1) := by decide +kernel
theorem dX7_rustOf_40 : decode cX7_rustOf 40 = .ok (.getfield 19, 3) := by decide +kernel
theorem dX7_rustOf_43 : decode cX7_rustOf 43 = .ok (.bipush 25, 2) := by decide +kernel
theorem dX7_rustOf_45 : decode cX7_rustOf 45 = .ok (.iload 4, 2) := by decide +kernel
theorem dX7_rustOf_47 : decode cX7_rustOf 47 = .ok (.iadd, 1) := by decide +kernel
theorem dX7_rustOf_48 : decode cX7_rustOf 48 = .ok (.iaload, 1) := by decide +kernel
theorem dX7_rustOf_49 : decode cX7_rustOf 49 = .ok (.iload 5, 2) := by decide +kernel
theorem dX7_rustOf_51 : decode cX7_rustOf 51 = .ok (.iadd, 1) := by decide +kernel
theorem dX7_rustOf_52 : decode cX7_rustOf 52 = .ok (.istore 6, 2) := by decide +kernel
theorem dX7_rustOf_54 : decode cX7_rustOf 54 = .ok (.iload_n 3, 1) := by decide +kernel
theorem dX7_rustOf_55 : decode cX7_rustOf 55 = .ok (.aload_n 0, 1) := by decide +kernel
theorem dX7_rustOf_56 : decode cX7_rustOf 56 = .ok (.getfield 19, 3) := by decide +kernel
theorem dX7_rustOf_59 : decode cX7_rustOf 59 = .ok (.bipush 13, 2) := by decide +kernel
theorem dX7_rustOf_61 : decode cX7_rustOf 61 = .ok (.iload 4, 2) := by decide +kernel
theorem dX7_rustOf_63 : decode cX7_rustOf 63 = .ok (.iadd, 1) := by decide +kernel
theorem dX7_rustOf_64 : decode cX7_rustOf 64 = .ok (.iaload, 1) := by decide +kernel
theorem dX7_rustOf_65 : decode cX7_rustOf 65 = .ok (.iload_n 1, 1) := by decide +kernel
theorem dX7_rustOf_66 : decode cX7_rustOf 66 = .ok (.if_icmp .ne 40, 3) := by decide +kernel
theorem dX7_rustOf_69 : decode cX7_rustOf 69 = .ok (.iload 6, 2) := by decide +kernel
theorem dX7_rustOf_71 : decode cX7_rustOf 71 = .ok (.iload_n 2, 1) := by decide +kernel
theorem dX7_rustOf_72 : decode cX7_rustOf 72 = .ok (.if_icmp .gt 34, 3) := by decide +kernel
theorem dX7_rustOf_75 : decode cX7_rustOf 75 = .ok (.aload_n 0, 1) := by decide +kernel
theorem dX7_rustOf_76 : decode cX7_rustOf 76 = .ok (.iload_n 1, 1) := by decide +kernel
theorem dX7_rustOf_77 : decode cX7_rustOf 77 = .ok (.iload 6, 2) := by decide +kernel
theorem dX7_rustOf_79 : decode cX7_rustOf 79 = .ok (.invokevirtual 126, 3) := by decide +kernel
theorem dX7_rustOf_82 : decode cX7_rustOf 82 = .ok (.iconst 2, 1) := by decide +kernel
theorem dX7_rustOf_83 : decode cX7_rustOf 83 = .ok (.if_icmp .eq 23, 3) := by decide +kernel
theorem dX7_rustOf_86 : decode cX7_rustOf 86 = .ok (.aload_n 0, 1) := by decide +kernel
theorem dX7_rustOf_87 : decode cX7_rustOf 87 = .ok (.getfield 13, 3) := by decide +kernel
theorem dX7_rustOf_90 : decode cX7_rustOf 90 = .ok (.bipush 10, 2) := by decide +kernel
theorem dX7_rustOf_92 : decode cX7_rustOf 92 = .ok (.aload_n 0, 1) := by decide +kernel
theorem dX7_rustOf_93 : decode cX7_rustOf 93 = .ok (.getfield 19, 3) := by decide +kernel
theorem dX7_rustOf_96 : decode cX7_rustOf 96 = .ok (.iconst 1, 1) := by decide +kernel
theorem dX7_rustOf_97 : decode cX7_rustOf 97 = .ok (.iload 4, 2) := by decide +kernel
theorem dX7_rustOf_99 : decode cX7_rustOf 99 = .ok (.iadd, 1) := by decide +kernel
theorem dX7_rustOf_100 : decode cX7_rustOf 100 = .ok (.iaload, 1) := by decide +kernel
theorem dX7_rustOf_101 : decode cX7_rustOf 101 = .ok (.iadd, 1) := by decide +kernel
theorem dX7_rustOf_102 : decode cX7_rustOf 102 = .ok (.iaload, 1) := by decide +kernel
theorem dX7_rustOf_103 : decode cX7_rustOf 103 = .ok (.goto 4, 3) := by decide +kernel
theorem dX7_rustOf_106 : decode cX7_rustOf 106 = .ok (.iconst 0, 1) := by decide +kernel
theorem dX7_rustOf_107 : decode cX7_rustOf 107 = .ok (.iadd, 1) := by decide +kernel
theorem dX7_rustOf_108 : decode cX7_rustOf 108 = .ok (.istore_n 3, 1) := by decide +kernel
theorem dX7_rustOf_109 : decode cX7_rustOf 109 = .ok (.iinc 5 1, 3) := by decide +kernel
theorem dX7_rustOf_112 : decode cX7_rustOf 112 = .ok (.goto (-88), 3) := by decide +kernel
theorem dX7_rustOf_115 : decode cX7_rustOf 115 = .ok (.iinc 4 1, 3) := by decide +kernel
theorem dX7_rustOf_118 : decode cX7_rustOf 118 = .ok (.goto (-108), 3) := by decide +kernel
theorem dX7_rustOf_121 : decode cX7_rustOf 121 = .ok (.iload_n 3, 1) := by decide +kernel
theorem dX7_rustOf_122 : decode cX7_rustOf 122 = .ok (.ireturn, 1) := by decide +kernel
theorem dX7_rust_0 : decode cX7_rust 0 = .ok (.aload_n 0, 1) := by decide +kernel
theorem dX7_rust_1 : decode cX7_rust 1 = .ok (.iload_n 1, 1) := by decide +kernel
theorem dX7_rust_2 : decode cX7_rust 2 = .ok (.invokevirtual 120, 3) := by decide +kernel
theorem dX7_rust_5 : decode cX7_rust 5 = .ok (.ifCond .eq 22, 3) := by decide +kernel
theorem dX7_rust_8 : decode cX7_rust 8 = .ok (.iload_n 2, 1) := by decide +kernel
theorem dX7_rust_9 : decode cX7_rust 9 = .ok (.iconst 0, 1) := by decide +kernel
theorem dX7_rust_10 : decode cX7_rust 10 = .ok (.bipush 9, 2) := by decide +kernel
theorem dX7_rust_12 : decode cX7_rust 12 = .ok (.invokestatic 54, 3) := by decide +kernel
theorem dX7_rust_15 : decode cX7_rust 15 = .ok (.ifCond .eq 12, 3) := by decide +kernel
theorem dX7_rust_18 : decode cX7_rust 18 = .ok (.aload_n 0, 1) := by decide +kernel
theorem dX7_rust_19 : decode cX7_rust 19 = .ok (.iload_n 1, 1) := by decide +kernel
theorem dX7_rust_20 : decode cX7_rust 20 = .ok (.iload_n 2, 1) := by decide +kernel
theorem dX7_rust_21 : decode cX7_rust 21 = .ok (.invokevirtual 132, 3) := by decide +kernel
theorem dX7_rust_24 : decode cX7_rust 24 = .ok (.goto 4, 3) := by decide +kernel
theorem dX7_rust_27 : decode cX7_rust 27 = .ok (.iconst (-1), 1) := by decide +kernel
theorem dX7_rust_28 : decode cX7_rust 28 = .ok (.ireturn, 1) := by decide +kernel
theorem dX7_saw_0 : decode cX7_saw 0 = .ok (.aload_n 0, 1) := by decide +kernel
theorem dX7_saw_1 : decode cX7_saw 1 = .ok (.iload_n 1, 1) := by decide +kernel
theorem dX7_saw_2 : decode cX7_saw 2 = .ok (.invokevirtual 120, 3) := by decide +kernel
theorem dX7_saw_5 : decode cX7_saw 5 = .ok (.ifCond .eq 14, 3) := by decide +kernel
theorem dX7_saw_8 : decode cX7_saw 8 = .ok (.iload_n 2, 1) := by decide +kernel
theorem dX7_saw_9 : decode cX7_saw 9 = .ok (.iconst 0, 1) := by decide +kernel
theorem dX7_saw_10 : decode cX7_saw 10 = .ok (.sipush 999, 3) := by decide +kernel
theorem dX7_saw_13 : decode cX7_saw 13 = .ok (.invokestatic 54, 3) := by decide +kernel
theorem dX7_saw_16 : decode cX7_saw 16 = .ok (.ifCond .ne 5, 3) := by decide +kernel
theorem dX7_saw_19 : decode cX7_saw 19 = .ok (.iconst (-1), 1) := by decide +kernel
theorem dX7_saw_20 : decode cX7_saw 20 = .ok (.ireturn, 1) := by decide +kernel
theorem dX7_saw_21 : decode cX7_saw 21 = .ok (.aload_n 0, 1) := by decide +kernel
theorem dX7_saw_22 : decode cX7_saw 22 = .ok (.getfield 19, 3) := by decide +kernel
theorem dX7_saw_25 : decode cX7_saw 25 = .ok (.bipush 49, 2) := by decide +kernel
theorem dX7_saw_27 : decode cX7_saw 27 = .ok (.iload_n 1, 1) := by decide +kernel
theorem dX7_saw_28 : decode cX7_saw 28 = .ok (.iadd, 1) := by decide +kernel
theorem dX7_saw_29 : decode cX7_saw 29 = .ok (.iaload, 1) := by decide +kernel
theorem dX7_saw_30 : decode cX7_saw 30 = .ok (.istore_n 3, 1) := by decide +kernel
theorem dX7_saw_31 : decode cX7_saw 31 = .ok (.aload_n 0, 1) := by decide +kernel
theorem dX7_saw_32 : decode cX7_saw 32 = .ok (.getfield 19, 3) := by decide +kernel
theorem dX7_saw_35 : decode cX7_saw 35 = .ok (.bipush 49, 2) := by decide +kernel
theorem dX7_saw_37 : decode cX7_saw 37 = .ok (.iload_n 1, 1) := by decide +kernel
theorem dX7_saw_38 : decode cX7_saw 38 = .ok (.iadd, 1) := by decide +kernel
theorem dX7_saw_39 : decode cX7_saw 39 = .ok (.iload_n 2, 1) := by decide +kernel
theorem dX7_saw_40 : decode cX7_saw 40 = .ok (.iastore, 1) := by decide +kernel
theorem dX7_saw_41 : decode cX7_saw 41 = .ok (.iload_n 3, 1) := by decide +kernel
theorem dX7_saw_42 : decode cX7_saw 42 = .ok (.ireturn, 1) := by decide +kernel
theorem dX7_hide_0 : decode cX7_hide 0 = .ok (.aload_n 0, 1) := by decide +kernel
theorem dX7_hide_1 : decode cX7_hide 1 = .ok (.iload_n 1, 1) := by decide +kernel
theorem dX7_hide_2 : decode cX7_hide 2 = .ok (.invokevirtual 120, 3) := by decide +kernel
theorem dX7_hide_5 : decode cX7_hide 5 = .ok (.ifCond .ne 5, 3) := by decide +kernel
theorem dX7_hide_8 : decode cX7_hide 8 = .ok (.iconst (-1), 1) := by decide +kernel
theorem dX7_hide_9 : decode cX7_hide 9 = .ok (.ireturn, 1) := by decide +kernel
theorem dX7_hide_10 : decode cX7_hide 10 = .ok (.aload_n 0, 1) := by decide +kernel
theorem dX7_hide_11 : decode cX7_hide 11 = .ok (.getfield 19, 3) := by decide +kernel
theorem dX7_hide_14 : decode cX7_hide 14 = .ok (.bipush 49, 2) := by decide +kernel
theorem dX7_hide_16 : decode cX7_hide 16 = .ok (.iload_n 1, 1) := by decide +kernel
theorem dX7_hide_17 : decode cX7_hide 17 = .ok (.iadd, 1) := by decide +kernel
theorem dX7_hide_18 : decode cX7_hide 18 = .ok (.iaload, 1) := by decide +kernel
theorem dX7_hide_19 : decode cX7_hide 19 = .ok (.bipush (-9), 2) := by decide +kernel
theorem dX7_hide_21 : decode cX7_hide 21 = .ok (.if_icmp .ne 6, 3) := by decide +kernel
theorem dX7_hide_24 : decode cX7_hide 24 = .ok (.bipush (-2), 2) := by decide +kernel
theorem dX7_hide_26 : decode cX7_hide 26 = .ok (.ireturn, 1) := by decide +kernel
theorem dX7_hide_27 : decode cX7_hide 27 = .ok (.aload_n 0, 1) := by decide +kernel
theorem dX7_hide_28 : decode cX7_hide 28 = .ok (.getfield 19, 3) := by decide +kernel
theorem dX7_hide_31 : decode cX7_hide 31 = .ok (.bipush 49, 2) := by decide +kernel
theorem dX7_hide_33 : decode cX7_hide 33 = .ok (.iload_n 1, 1) := by decide +kernel
theorem dX7_hide_34 : decode cX7_hide 34 = .ok (.iadd, 1) := by decide +kernel
theorem dX7_hide_35 : decode cX7_hide 35 = .ok (.iaload, 1) := by decide +kernel
theorem dX7_hide_36 : decode cX7_hide 36 = .ok (.istore_n 2, 1) := by decide +kernel
theorem dX7_hide_37 : decode cX7_hide 37 = .ok (.aload_n 0, 1) := by decide +kernel
theorem dX7_hide_38 : decode cX7_hide 38 = .ok (.getfield 19, 3) := by decide +kernel
theorem dX7_hide_41 : decode cX7_hide 41 = .ok (.bipush 49, 2) := by decide +kernel
theorem dX7_hide_43 : decode cX7_hide 43 = .ok (.iload_n 1, 1) := by decide +kernel
theorem dX7_hide_44 : decode cX7_hide 44 = .ok (.iadd, 1) := by decide +kernel
theorem dX7_hide_45 : decode cX7_hide 45 = .ok (.bipush (-9), 2) := by decide +kernel
theorem dX7_hide_47 : decode cX7_hide 47 = .ok (.iastore, 1) := by decide +kernel
theorem dX7_hide_48 : decode cX7_hide 48 = .ok (.iload_n 2, 1) := by decide +kernel
theorem dX7_hide_49 : decode cX7_hide 49 = .ok (.ireturn, 1) := by decide +kernel
theorem dX7_seen_0 : decode cX7_seen 0 = .ok (.aload_n 0, 1) := by decide +kernel
theorem dX7_seen_1 : decode cX7_seen 1 = .ok (.iload_n 1, 1) := by decide +kernel
theorem dX7_seen_2 : decode cX7_seen 2 = .ok (.invokevirtual 120, 3) := by decide +kernel
theorem dX7_seen_5 : decode cX7_seen 5 = .ok (.ifCond .eq 15, 3) := by decide +kernel
theorem dX7_seen_8 : decode cX7_seen 8 = .ok (.aload_n 0, 1) := by decide +kernel
theorem dX7_seen_9 : decode cX7_seen 9 = .ok (.getfield 19, 3) := by decide +kernel
theorem dX7_seen_12 : decode cX7_seen 12 = .ok (.bipush 49, 2) := by decide +kernel
theorem dX7_seen_14 : decode cX7_seen 14 = .ok (.iload_n 1, 1) := by decide +kernel
theorem dX7_seen_15 : decode cX7_seen 15 = .ok (.iadd, 1) := by decide +kernel
theorem dX7_seen_16 : decode cX7_seen 16 = .ok (.iaload, 1) := by decide +kernel
theorem dX7_seen_17 : decode cX7_seen 17 = .ok (.goto 4, 3) := by decide +kernel
theorem dX7_seen_20 : decode cX7_seen 20 = .ok (.iconst (-1), 1) := by decide +kernel
theorem dX7_seen_21 : decode cX7_seen 21 = .ok (.ireturn, 1) := by decide +kernel
theorem dX7_lays_0 : decode cX7_lays 0 = .ok (.iconst 0, 1) := by decide +kernel
theorem dX7_lays_1 : decode cX7_lays 1 = .ok (.istore_n 1, 1) := by decide +kernel
theorem dX7_lays_2 : decode cX7_lays 2 = .ok (.iload_n 1, 1) := by decide +kernel
theorem dX7_lays_3 : decode cX7_lays 3 = .ok (.aload_n 0, 1) := by decide +kernel
theorem dX7_lays_4 : decode cX7_lays 4 = .ok (.getfield 13, 3) := by decide +kernel
theorem dX7_lays_7 : decode cX7_lays 7 = .ok (.iconst 0, 1) := by decide +kernel
theorem dX7_lays_8 : decode cX7_lays 8 = .ok (.iaload, 1) := by decide +kernel
theorem dX7_lays_9 : decode cX7_lays 9 = .ok (.if_icmp .ge 68, 3) := by decide +kernel
theorem dX7_lays_12 : decode cX7_lays 12 = .ok (.aload_n 0, 1) := by decide +kernel
theorem dX7_lays_13 : decode cX7_lays 13 = .ok (.getfield 29, 3) := by decide +kernel
theorem dX7_lays_16 : decode cX7_lays 16 = .ok (.iload_n 1, 1) := by decide +kernel
theorem dX7_lays_17 : decode cX7_lays 17 = .ok (.aload_n 0, 1) := by decide +kernel
theorem dX7_lays_18 : decode cX7_lays 18 = .ok (.iload_n 1, 1) := by decide +kernel
theorem dX7_lays_19 : decode cX7_lays 19 = .ok (.bipush 9, 2) := by decide +kernel
theorem dX7_lays_21 : decode cX7_lays 21 = .ok (.invokevirtual 129, 3) := by decide +kernel
theorem dX7_lays_24 : decode cX7_lays 24 = .ok (.iastore, 1) := by decide +kernel
theorem dX7_lays_25 : decode cX7_lays 25 = .ok (.iconst 0, 1) := by decide +kernel
theorem dX7_lays_26 : decode cX7_lays 26 = .ok (.istore_n 2, 1) := by decide +kernel
theorem dX7_lays_27 : decode cX7_lays 27 = .ok (.iconst 0, 1) := by decide +kernel
theorem dX7_lays_28 : decode cX7_lays 28 = .ok (.istore_n 3, 1) := by decide +kernel
theorem dX7_lays_29 : decode cX7_lays 29 = .ok (.iload_n 3, 1) := by decide +kernel
theorem dX7_lays_30 : decode cX7_lays 30 = .ok (.bipush 10, 2) := by decide +kernel
theorem dX7_lays_32 : decode cX7_lays 32 = .ok (.if_icmp .ge 39, 3) := by decide +kernel
theorem dX7_lays_35 : decode cX7_lays 35 = .ok (.iload_n 2, 1) := by decide +kernel
theorem dX7_lays_36 : decode cX7_lays 36 = .ok (.aload_n 0, 1) := by decide +kernel
theorem dX7_lays_37 : decode cX7_lays 37 = .ok (.iload_n 1, 1) := by decide +kernel
theorem dX7_lays_38 : decode cX7_lays 38 = .ok (.iload_n 3, 1) := by decide +kernel
theorem dX7_lays_39 : decode cX7_lays 39 = .ok (.invokevirtual 126, 3) := by decide +kernel
theorem dX7_lays_42 : decode cX7_lays 42 = .ok (.iconst 2, 1) := by decide +kernel
theorem dX7_lays_43 : decode cX7_lays 43 = .ok (.if_icmp .ne 7, 3) := by decide +kernel
theorem dX7_lays_46 : decode cX7_lays 46 = .ok (.iconst 0, 1) := by decide +kernel
theorem dX7_lays_47 : decode cX7_lays 47 = .ok (.goto 4, 3) := by decide +kernel
theorem dX7_lays_50 : decode cX7_lays 50 = .ok (.iconst 1, 1) := by decide +kernel
theorem dX7_lays_51 : decode cX7_lays 51 = .ok (.iadd, 1) := by decide +kernel
theorem dX7_lays_52 : decode cX7_lays 52 = .ok (.istore_n 2, 1) := by decide +kernel
theorem dX7_lays_53 : decode cX7_lays 53 = .ok (.aload_n 0, 1) := by decide +kernel
theorem dX7_lays_54 : decode cX7_lays 54 = .ok (.getfield 32, 3) := by decide +kernel
theorem dX7_lays_57 : decode cX7_lays 57 = .ok (.bipush 10, 2) := by decide +kernel
theorem dX7_lays_59 : decode cX7_lays 59 = .ok (.iload_n 1, 1) := by decide +kernel
theorem dX7_lays_60 : decode cX7_lays 60 = .ok (.imul, 1) := by decide +kernel
theorem dX7_lays_61 : decode cX7_lays 61 = .ok (.iload_n 3, 1) := by decide +kernel
theorem dX7_lays_62 : decode cX7_lays 62 = .ok (.iadd, 1) := by decide +kernel
theorem dX7_lays_63 : decode cX7_lays 63 = .ok (.iload_n 2, 1) := by decide +kernel
theorem dX7_lays_64 : decode cX7_lays 64 = .ok (.iastore, 1) := by decide +kernel
theorem dX7_lays_65 : decode cX7_lays 65 = .ok (.iinc 3 1, 3) := by decide +kernel
theorem dX7_lays_68 : decode cX7_lays 68 = .ok (.goto (-39), 3) := by decide +kernel
theorem dX7_lays_71 : decode cX7_lays 71 = .ok (.iinc 1 1, 3) := by decide +kernel
theorem dX7_lays_74 : decode cX7_lays 74 = .ok (.goto (-72), 3) := by decide +kernel
theorem dX7_lays_77 : decode cX7_lays 77 = .ok (.aload_n 0, 1) := by decide +kernel
theorem dX7_lays_78 : decode cX7_lays 78 = .ok (.iconst 1, 1) := by decide +kernel
theorem dX7_lays_79 : decode cX7_lays 79 = .ok (.putfield 135, 3) := by decide +kernel
theorem dX7_lays_82 : decode cX7_lays 82 = .ok (.iconst 0, 1) := by decide +kernel
theorem dX7_lays_83 : decode cX7_lays 83 = .ok (.istore_n 1, 1) := by decide +kernel
theorem dX7_lays_84 : decode cX7_lays 84 = .ok (.iload_n 1, 1) := by decide +kernel
theorem dX7_lays_85 : decode cX7_lays 85 = .ok (.aload_n 0, 1) := by decide +kernel
theorem dX7_lays_86 : decode cX7_lays 86 = .ok (.getfield 13, 3) := by decide +kernel
theorem dX7_lays_89 : decode cX7_lays 89 = .ok (.iconst 1, 1) := by decide +kernel
theorem dX7_lays_90 : decode cX7_lays 90 = .ok (.iaload, 1) := by decide +kernel
theorem dX7_lays_91 : decode cX7_lays 91 = .ok (.if_icmp .ge 29, 3) := by decide +kernel
theorem dX7_lays_94 : decode cX7_lays 94 = .ok (.aload_n 0, 1) := by decide +kernel
theorem dX7_lays_95 : decode cX7_lays 95 = .ok (.dup, 1) := by decide +kernel
theorem dX7_lays_96 : decode cX7_lays 96 = .ok (.getfield 135, 3) := by decide +kernel
theorem dX7_lays_99 : decode cX7_lays 99 = .ok (.iconst 1, 1) := by decide +kernel
theorem dX7_lays_100 : decode cX7_lays 100 = .ok (.bipush 10, 2) := by decide +kernel
theorem dX7_lays_102 : decode cX7_lays 102 = .ok (.aload_n 0, 1) := by decide +kernel
theorem dX7_lays_103 : decode cX7_lays 103 = .ok (.getfield 13, 3) := by decide +kernel
theorem dX7_lays_106 : decode cX7_lays 106 = .ok (.iconst 0, 1) := by decide +kernel
theorem dX7_lays_107 : decode cX7_lays 107 = .ok (.iaload, 1) := by decide +kernel
theorem dX7_lays_108 : decode cX7_lays 108 = .ok (.imul, 1) := by decide +kernel
theorem dX7_lays_109 : decode cX7_lays 109 = .ok (.iadd, 1) := by decide +kernel
theorem dX7_lays_110 : decode cX7_lays 110 = .ok (.imul, 1) := by decide +kernel
theorem dX7_lays_111 : decode cX7_lays 111 = .ok (.putfield 135, 3) := by decide +kernel
theorem dX7_lays_114 : decode cX7_lays 114 = .ok (.iinc 1 1, 3) := by decide +kernel
theorem dX7_lays_117 : decode cX7_lays 117 = .ok (.goto (-33), 3) := by decide +kernel
theorem dX7_lays_120 : decode cX7_lays 120 = .ok (.return_, 1) := by decide +kernel
theorem dX7_figureOf_0 : decode cX7_figureOf 0 = .ok (.iload_n 1, 1) := by decide +kernel
theorem dX7_figureOf_1 : decode cX7_figureOf 1 = .ok (.istore_n 3, 1) := by decide +kernel
theorem dX7_figureOf_2 : decode cX7_figureOf 2 = .ok (.iconst 0, 1) := by decide +kernel
theorem dX7_figureOf_3 : decode cX7_figureOf 3 = .ok (.istore 4, 2) := by decide +kernel
theorem dX7_figureOf_5 : decode cX7_figureOf 5 = .ok (.iload 4, 2) := by decide +kernel
theorem dX7_figureOf_7 : decode cX7_figureOf 7 = .ok (.iload_n 2, 1) := by decide +kernel
theorem dX7_figureOf_8 : decode cX7_figureOf 8 = .ok (.if_icmp .ge 23, 3) := by decide +kernel
theorem dX7_figureOf_11 : decode cX7_figureOf 11 = .ok (.iload_n 3, 1) := by decide +kernel
theorem dX7_figureOf_12 : decode cX7_figureOf 12 = .ok (.iconst 1, 1) := by decide +kernel
theorem dX7_figureOf_13 : decode cX7_figureOf 13 = .ok (.bipush 10, 2) := by decide +kernel
theorem dX7_figureOf_15 : decode cX7_figureOf 15 = .ok (.aload_n 0, 1) := by decide +kernel
theorem dX7_figureOf_16 : decode cX7_figureOf 16 = .ok (.getfield 13, 3) := by decide +kernel
theorem dX7_figureOf_19 : decode cX7_figureOf 19 = .ok (.iconst 0, 1) := by decide +kernel
theorem dX7_figureOf_20 : decode cX7_figureOf 20 = .ok (.iaload, 1) := by decide +kernel
theorem dX7_figureOf_21 : decode cX7_figureOf 21 = .ok (.imul, 1) := by decide +kernel
theorem dX7_figureOf_22 : decode cX7_figureOf 22 = .ok (.iadd, 1) := by decide +kernel
theorem dX7_figureOf_23 : decode cX7_figureOf 23 = .ok (.idiv, 1) := by decide +kernel
theorem dX7_figureOf_24 : decode cX7_figureOf 24 = .ok (.istore_n 3, 1) := by decide +kernel
theorem dX7_figureOf_25 : decode cX7_figureOf 25 = .ok (.iinc 4 1, 3) := by decide +kernel
theorem dX7_figureOf_28 : decode cX7_figureOf 28 = .ok (.goto (-23), 3) := by decide +kernel
theorem dX7_figureOf_31 : decode cX7_figureOf 31 = .ok (.iload_n 3, 1) := by decide +kernel
theorem dX7_figureOf_32 : decode cX7_figureOf 32 = .ok (.iconst 1, 1) := by decide +kernel
theorem dX7_figureOf_33 : decode cX7_figureOf 33 = .ok (.bipush 10, 2) := by decide +kernel
theorem dX7_figureOf_35 : decode cX7_figureOf 35 = .ok (.aload_n 0, 1) := by decide +kernel
theorem dX7_figureOf_36 : decode cX7_figureOf 36 = .ok (.getfield 13, 3) := by decide +kernel
theorem dX7_figureOf_39 : decode cX7_figureOf 39 = .ok (.iconst 0, 1) := by decide +kernel
theorem dX7_figureOf_40 : decode cX7_figureOf 40 = .ok (.iaload, 1) := by decide +kernel
theorem dX7_figureOf_41 : decode cX7_figureOf 41 = .ok (.imul, 1) := by decide +kernel
theorem dX7_figureOf_42 : decode cX7_figureOf 42 = .ok (.iadd, 1) := by decide +kernel
theorem dX7_figureOf_43 : decode cX7_figureOf 43 = .ok (.irem, 1) := by decide +kernel
theorem dX7_figureOf_44 : decode cX7_figureOf 44 = .ok (.ireturn, 1) := by decide +kernel
theorem dX7_isWay_0 : decode cX7_isWay 0 = .ok (.iconst 0, 1) := by decide +kernel
theorem dX7_isWay_1 : decode cX7_isWay 1 = .ok (.istore_n 2, 1) := by decide +kernel
theorem dX7_isWay_2 : decode cX7_isWay 2 = .ok (.iload_n 2, 1) := by decide +kernel
theorem dX7_isWay_3 : decode cX7_isWay 3 = .ok (.aload_n 0, 1) := by decide +kernel
theorem dX7_isWay_4 : decode cX7_isWay 4 = .ok (.getfield 13, 3) := by decide +kernel
theorem dX7_isWay_7 : decode cX7_isWay 7 = .ok (.iconst 0, 1) := by decide +kernel
theorem dX7_isWay_8 : decode cX7_isWay 8 = .ok (.iaload, 1) := by decide +kernel
theorem dX7_isWay_9 : decode cX7_isWay 9 = .ok (.if_icmp .ge 21, 3) := by decide +kernel
theorem dX7_isWay_12 : decode cX7_isWay 12 = .ok (.aload_n 0, 1) := by decide +kernel
theorem dX7_isWay_13 : decode cX7_isWay 13 = .ok (.getfield 35, 3) := by decide +kernel
theorem dX7_isWay_16 : decode cX7_isWay 16 = .ok (.iload_n 2, 1) := by decide +kernel
theorem dX7_isWay_17 : decode cX7_isWay 17 = .ok (.aload_n 0, 1) := by decide +kernel
theorem dX7_isWay_18 : decode cX7_isWay 18 = .ok (.getfield 29, 3) := by decide +kernel
theorem dX7_isWay_21 : decode cX7_isWay 21 = .ok (.iload_n 2, 1) := by decide +kernel
theorem dX7_isWay_22 : decode cX7_isWay 22 = .ok (.iaload, 1) := by decide +kernel
theorem dX7_isWay_23 : decode cX7_isWay 23 = .ok (.iastore, 1) := by decide +kernel
theorem dX7_isWay_24 : decode cX7_isWay 24 = .ok (.iinc 2 1, 3) := by decide +kernel
theorem dX7_isWay_27 : decode cX7_isWay 27 = .ok (.goto (-25), 3) := by decide +kernel
theorem dX7_isWay_30 : decode cX7_isWay 30 = .ok (.iconst 0, 1) := by decide +kernel
theorem dX7_isWay_31 : decode cX7_isWay 31 = .ok (.istore_n 2, 1) := by decide +kernel
theorem dX7_isWay_32 : decode cX7_isWay 32 = .ok (.iload_n 2, 1) := by decide +kernel
theorem dX7_isWay_33 : decode cX7_isWay 33 = .ok (.aload_n 0, 1) := by decide +kernel
theorem dX7_isWay_34 : decode cX7_isWay 34 = .ok (.getfield 13, 3) := by decide +kernel
theorem dX7_isWay_37 : decode cX7_isWay 37 = .ok (.iconst 1, 1) := by decide +kernel
theorem dX7_isWay_38 : decode cX7_isWay 38 = .ok (.iaload, 1) := by decide +kernel
theorem dX7_isWay_39 : decode cX7_isWay 39 = .ok (.if_icmp .ge 52, 3) := by decide +kernel
theorem dX7_isWay_42 : decode cX7_isWay 42 = .ok (.aload_n 0, 1) := by decide +kernel
theorem dX7_isWay_43 : decode cX7_isWay 43 = .ok (.iload_n 1, 1) := by decide +kernel
theorem dX7_isWay_44 : decode cX7_isWay 44 = .ok (.iload_n 2, 1) := by decide +kernel
theorem dX7_isWay_45 : decode cX7_isWay 45 = .ok (.invokevirtual 138, 3) := by decide +kernel
theorem dX7_isWay_48 : decode cX7_isWay 48 = .ok (.istore_n 3, 1) := by decide +kernel
theorem dX7_isWay_49 : decode cX7_isWay 49 = .ok (.iload_n 3, 1) := by decide +kernel
theorem dX7_isWay_50 : decode cX7_isWay 50 = .ok (.ifCond .le 35, 3) := by decide +kernel
theorem dX7_isWay_53 : decode cX7_isWay 53 = .ok (.aload_n 0, 1) := by decide +kernel
theorem dX7_isWay_54 : decode cX7_isWay 54 = .ok (.getfield 35, 3) := by decide +kernel
theorem dX7_isWay_57 : decode cX7_isWay 57 = .ok (.iload_n 3, 1) := by decide +kernel
theorem dX7_isWay_58 : decode cX7_isWay 58 = .ok (.iconst 1, 1) := by decide +kernel
theorem dX7_isWay_59 : decode cX7_isWay 59 = .ok (.isub, 1) := by decide +kernel
theorem dX7_isWay_60 : decode cX7_isWay 60 = .ok (.bipush 10, 2) := by decide +kernel
theorem dX7_isWay_62 : decode cX7_isWay 62 = .ok (.idiv, 1) := by decide +kernel
theorem dX7_isWay_63 : decode cX7_isWay 63 = .ok (.dup2, 1) := by decide +kernel
theorem dX7_isWay_64 : decode cX7_isWay 64 = .ok (.iaload, 1) := by decide +kernel
theorem dX7_isWay_65 : decode cX7_isWay 65 = .ok (.aload_n 0, 1) := by decide +kernel
theorem dX7_isWay_66 : decode cX7_isWay 66 = .ok (.getfield 13, 3) := by decide +kernel
theorem dX7_isWay_69 : decode cX7_isWay 69 = .ok (.bipush 10, 2) := by decide +kernel
theorem dX7_isWay_71 : decode cX7_isWay 71 = .ok (.iload_n 2, 1) := by decide +kernel
theorem dX7_isWay_72 : decode cX7_isWay 72 = .ok (.iadd, 1) := by decide +kernel
theorem dX7_isWay_73 : decode cX7_isWay 73 = .ok (.iaload, 1) := by decide +kernel
theorem dX7_isWay_74 : decode cX7_isWay 74 = .ok (.aload_n 0, 1) := by decide +kernel
theorem dX7_isWay_75 : decode cX7_isWay 75 = .ok (.getfield 32, 3) := by decide +kernel
theorem dX7_isWay_78 : decode cX7_isWay 78 = .ok (.iload_n 3, 1) := by decide +kernel
theorem dX7_isWay_79 : decode cX7_isWay 79 = .ok (.iconst 1, 1) := by decide +kernel
theorem dX7_isWay_80 : decode cX7_isWay 80 = .ok (.isub, 1) := by decide +kernel
theorem dX7_isWay_81 : decode cX7_isWay 81 = .ok (.iaload, 1) := by decide +kernel
theorem dX7_isWay_82 : decode cX7_isWay 82 = .ok (.imul, 1) := by decide +kernel
theorem dX7_isWay_83 : decode cX7_isWay 83 = .ok (.iadd, 1) := by decide +kernel
theorem dX7_isWay_84 : decode cX7_isWay 84 = .ok (.iastore, 1) := by decide +kernel
theorem dX7_isWay_85 : decode cX7_isWay 85 = .ok (.iinc 2 1, 3) := by decide +kernel
theorem dX7_isWay_88 : decode cX7_isWay 88 = .ok (.goto (-56), 3) := by decide +kernel
theorem dX7_isWay_91 : decode cX7_isWay 91 = .ok (.iconst 1, 1) := by decide +kernel
theorem dX7_isWay_92 : decode cX7_isWay 92 = .ok (.istore_n 2, 1) := by decide +kernel
theorem dX7_isWay_93 : decode cX7_isWay 93 = .ok (.iconst 0, 1) := by decide +kernel
theorem dX7_isWay_94 : decode cX7_isWay 94 = .ok (.istore_n 3, 1) := by decide +kernel
theorem dX7_isWay_95 : decode cX7_isWay 95 = .ok (.iload_n 3, 1) := by decide +kernel
theorem dX7_isWay_96 : decode cX7_isWay 96 = .ok (.aload_n 0, 1) := by decide +kernel
theorem dX7_isWay_97 : decode cX7_isWay 97 = .ok (.getfield 13, 3) := by decide +kernel
theorem dX7_isWay_100 : decode cX7_isWay 100 = .ok (.iconst 0, 1) := by decide +kernel
theorem dX7_isWay_101 : decode cX7_isWay 101 = .ok (.iaload, 1) := by decide +kernel
theorem dX7_isWay_102 : decode cX7_isWay 102 = .ok (.if_icmp .ge 51, 3) := by decide +kernel
theorem dX7_isWay_105 : decode cX7_isWay 105 = .ok (.iload_n 2, 1) := by decide +kernel
theorem dX7_isWay_106 : decode cX7_isWay 106 = .ok (.ifCond .eq 39, 3) := by decide +kernel
theorem dX7_isWay_109 : decode cX7_isWay 109 = .ok (.aload_n 0, 1) := by decide +kernel
theorem dX7_isWay_110 : decode cX7_isWay 110 = .ok (.getfield 19, 3) := by decide +kernel
theorem dX7_isWay_113 : decode cX7_isWay 113 = .ok (.bipush 49, 2) := by decide +kernel
theorem dX7_isWay_115 : decode cX7_isWay 115 = .ok (.iload_n 3, 1) := by decide +kernel
theorem dX7_isWay_116 : decode cX7_isWay 116 = .ok (.iadd, 1) := by decide +kernel
theorem dX7_isWay_117 : decode cX7_isWay 117 = .ok (.iaload, 1) := by decide +kernel
theorem dX7_isWay_118 : decode cX7_isWay 118 = .ok (.bipush (-9), 2) := by decide +kernel
theorem dX7_isWay_120 : decode cX7_isWay 120 = .ok (.if_icmp .eq 21, 3) := by decide +kernel
theorem dX7_isWay_123 : decode cX7_isWay 123 = .ok (.aload_n 0, 1) := by decide +kernel
theorem dX7_isWay_124 : decode cX7_isWay 124 = .ok (.getfield 19, 3) := by decide +kernel
theorem dX7_isWay_127 : decode cX7_isWay 127 = .ok (.bipush 49, 2) := by decide +kernel
theorem dX7_isWay_129 : decode cX7_isWay 129 = .ok (.iload_n 3, 1) := by decide +kernel
theorem dX7_isWay_130 : decode cX7_isWay 130 = .ok (.iadd, 1) := by decide +kernel
theorem dX7_isWay_131 : decode cX7_isWay 131 = .ok (.iaload, 1) := by decide +kernel
theorem dX7_isWay_132 : decode cX7_isWay 132 = .ok (.aload_n 0, 1) := by decide +kernel
theorem dX7_isWay_133 : decode cX7_isWay 133 = .ok (.getfield 35, 3) := by decide +kernel
theorem dX7_isWay_136 : decode cX7_isWay 136 = .ok (.iload_n 3, 1) := by decide +kernel
theorem dX7_isWay_137 : decode cX7_isWay 137 = .ok (.iaload, 1) := by decide +kernel
theorem dX7_isWay_138 : decode cX7_isWay 138 = .ok (.if_icmp .ne 7, 3) := by decide +kernel
theorem dX7_isWay_141 : decode cX7_isWay 141 = .ok (.iconst 1, 1) := by decide +kernel
theorem dX7_isWay_142 : decode cX7_isWay 142 = .ok (.goto 4, 3) := by decide +kernel
theorem dX7_isWay_145 : decode cX7_isWay 145 = .ok (.iconst 0, 1) := by decide +kernel
theorem dX7_isWay_146 : decode cX7_isWay 146 = .ok (.istore_n 2, 1) := by decide +kernel
theorem dX7_isWay_147 : decode cX7_isWay 147 = .ok (.iinc 3 1, 3) := by decide +kernel
theorem dX7_isWay_150 : decode cX7_isWay 150 = .ok (.goto (-55), 3) := by decide +kernel
theorem dX7_isWay_153 : decode cX7_isWay 153 = .ok (.iload_n 2, 1) := by decide +kernel
theorem dX7_isWay_154 : decode cX7_isWay 154 = .ok (.ireturn, 1) := by decide +kernel
theorem dX7_barOf_0 : decode cX7_barOf 0 = .ok (.iload_n 0, 1) := by decide +kernel
theorem dX7_barOf_1 : decode cX7_barOf 1 = .ok (.ifCond .ne 8, 3) := by decide +kernel
theorem dX7_barOf_4 : decode cX7_barOf 4 = .ok (.bipush (-4), 2) := by decide +kernel
theorem dX7_barOf_6 : decode cX7_barOf 6 = .ok (.goto 9, 3) := by decide +kernel
theorem dX7_barOf_9 : decode cX7_barOf 9 = .ok (.iload_n 0, 1) := by decide +kernel
theorem dX7_barOf_10 : decode cX7_barOf 10 = .ok (.iconst 1, 1) := by decide +kernel
theorem dX7_barOf_11 : decode cX7_barOf 11 = .ok (.isub, 1) := by decide +kernel
theorem dX7_barOf_12 : decode cX7_barOf 12 = .ok (.bipush 10, 2) := by decide +kernel
theorem dX7_barOf_14 : decode cX7_barOf 14 = .ok (.idiv, 1) := by decide +kernel
theorem dX7_barOf_15 : decode cX7_barOf 15 = .ok (.ireturn, 1) := by decide +kernel
theorem dX7_fits_0 : decode cX7_fits 0 = .ok (.aload_n 0, 1) := by decide +kernel
theorem dX7_fits_1 : decode cX7_fits 1 = .ok (.invokevirtual 141, 3) := by decide +kernel
theorem dX7_fits_4 : decode cX7_fits 4 = .ok (.iconst 0, 1) := by decide +kernel
theorem dX7_fits_5 : decode cX7_fits 5 = .ok (.istore_n 1, 1) := by decide +kernel
theorem dX7_fits_6 : decode cX7_fits 6 = .ok (.iconst 0, 1) := by decide +kernel
theorem dX7_fits_7 : decode cX7_fits 7 = .ok (.istore_n 2, 1) := by decide +kernel
theorem dX7_fits_8 : decode cX7_fits 8 = .ok (.iload_n 2, 1) := by decide +kernel
theorem dX7_fits_9 : decode cX7_fits 9 = .ok (.aload_n 0, 1) := by decide +kernel
theorem dX7_fits_10 : decode cX7_fits 10 = .ok (.getfield 135, 3) := by decide +kernel
theorem dX7_fits_13 : decode cX7_fits 13 = .ok (.if_icmp .ge 25, 3) := by decide +kernel
theorem dX7_fits_16 : decode cX7_fits 16 = .ok (.iload_n 1, 1) := by decide +kernel
theorem dX7_fits_17 : decode cX7_fits 17 = .ok (.aload_n 0, 1) := by decide +kernel
theorem dX7_fits_18 : decode cX7_fits 18 = .ok (.iload_n 2, 1) := by decide +kernel
theorem dX7_fits_19 : decode cX7_fits 19 = .ok (.invokevirtual 144, 3) := by decide +kernel
theorem dX7_fits_22 : decode cX7_fits 22 = .ok (.ifCond .eq 7, 3) := by decide +kernel
theorem dX7_fits_25 : decode cX7_fits 25 = .ok (.iconst 1, 1) := by decide +kernel
theorem dX7_fits_26 : decode cX7_fits 26 = .ok (.goto 4, 3) := by decide +kernel
theorem dX7_fits_29 : decode cX7_fits 29 = .ok (.iconst 0, 1) := by decide +kernel
theorem dX7_fits_30 : decode cX7_fits 30 = .ok (.iadd, 1) := by decide +kernel
theorem dX7_fits_31 : decode cX7_fits 31 = .ok (.istore_n 1, 1) := by decide +kernel
theorem dX7_fits_32 : decode cX7_fits 32 = .ok (.iinc 2 1, 3) := by decide +kernel
theorem dX7_fits_35 : decode cX7_fits 35 = .ok (.goto (-27), 3) := by decide +kernel
theorem dX7_fits_38 : decode cX7_fits 38 = .ok (.iload_n 1, 1) := by decide +kernel
theorem dX7_fits_39 : decode cX7_fits 39 = .ok (.ireturn, 1) := by decide +kernel
theorem dX7_sure_0 : decode cX7_sure 0 = .ok (.aload_n 0, 1) := by decide +kernel
theorem dX7_sure_1 : decode cX7_sure 1 = .ok (.iload_n 1, 1) := by decide +kernel
theorem dX7_sure_2 : decode cX7_sure 2 = .ok (.invokevirtual 123, 3) := by decide +kernel
theorem dX7_sure_5 : decode cX7_sure 5 = .ok (.ifCond .ne 5, 3) := by decide +kernel
theorem dX7_sure_8 : decode cX7_sure 8 = .ok (.iconst (-1), 1) := by decide +kernel
theorem dX7_sure_9 : decode cX7_sure 9 = .ok (.ireturn, 1) := by decide +kernel
theorem dX7_sure_10 : decode cX7_sure 10 = .ok (.aload_n 0, 1) := by decide +kernel
theorem dX7_sure_11 : decode cX7_sure 11 = .ok (.invokevirtual 141, 3) := by decide +kernel
theorem dX7_sure_14 : decode cX7_sure 14 = .ok (.bipush (-9), 2) := by decide +kernel
theorem dX7_sure_16 : decode cX7_sure 16 = .ok (.istore_n 2, 1) := by decide +kernel
theorem dX7_sure_17 : decode cX7_sure 17 = .ok (.iconst 0, 1) := by decide +kernel
theorem dX7_sure_18 : decode cX7_sure 18 = .ok (.istore_n 3, 1) := by decide +kernel
theorem dX7_sure_19 : decode cX7_sure 19 = .ok (.iload_n 3, 1) := by decide +kernel
theorem dX7_sure_20 : decode cX7_sure 20 = .ok (.aload_n 0, 1) := by decide +kernel
theorem dX7_sure_21 : decode cX7_sure 21 = .ok (.getfield 135, 3) := by decide +kernel
theorem dX7_sure_24 : decode cX7_sure 24 = .ok (.if_icmp .ge 48, 3) := by decide +kernel
theorem dX7_sure_27 : decode cX7_sure 27 = .ok (.aload_n 0, 1) := by decide +kernel
theorem dX7_sure_28 : decode cX7_sure 28 = .ok (.iload_n 3, 1) := by decide +kernel
theorem dX7_sure_29 : decode cX7_sure 29 = .ok (.invokevirtual 144, 3) := by decide +kernel
theorem dX7_sure_32 : decode cX7_sure 32 = .ok (.ifCond .eq 34, 3) := by decide +kernel
theorem dX7_sure_35 : decode cX7_sure 35 = .ok (.aload_n 0, 1) := by decide +kernel
theorem dX7_sure_36 : decode cX7_sure 36 = .ok (.iload_n 3, 1) := by decide +kernel
theorem dX7_sure_37 : decode cX7_sure 37 = .ok (.iload_n 1, 1) := by decide +kernel
theorem dX7_sure_38 : decode cX7_sure 38 = .ok (.invokevirtual 138, 3) := by decide +kernel
theorem dX7_sure_41 : decode cX7_sure 41 = .ok (.invokestatic 147, 3) := by decide +kernel
theorem dX7_sure_44 : decode cX7_sure 44 = .ok (.istore 4, 2) := by decide +kernel
end
section
theorem dX7_sure_46 : decode cX7_sure 46 = .ok (.iload_n 2, 1) := by decide +kernel
theorem dX7_sure_47 : decode cX7_sure 47 = .ok (.bipush (-9), 2) := by decide +kernel
theorem dX7_sure_49 : decode cX7_sure 49 = .ok (.if_icmp .eq 9, 3) := by decide +kernel
theorem dX7_sure_52 : decode cX7_sure 52 = .ok (.iload_n 2, 1) := by decide +kernel
theorem dX7_sure_53 : decode cX7_sure 53 = .ok (.iload 4, 2) := by decide +kernel
theorem dX7_sure_55 : decode cX7_sure 55 = .ok (.if_icmp .ne 8, 3) := by decide +kernel
theorem dX7_sure_58 : decode cX7_sure 58 = .ok (.iload 4, 2) := by decide +kernel
theorem dX7_sure_60 : decode cX7_sure 60 = .ok (.goto 5, 3) := by decide +kernel
theorem dX7_sure_63 : decode cX7_sure 63 = .ok (.bipush (-5), 2) := by decide +kernel
theorem dX7_sure_65 : decode cX7_sure 65 = .ok (.istore_n 2, 1) := by decide +kernel
theorem dX7_sure_66 : decode cX7_sure 66 = .ok (.iinc 3 1, 3) := by decide +kernel
theorem dX7_sure_69 : decode cX7_sure 69 = .ok (.goto (-50), 3) := by decide +kernel
theorem dX7_sure_72 : decode cX7_sure 72 = .ok (.iload_n 2, 1) := by decide +kernel
theorem dX7_sure_73 : decode cX7_sure 73 = .ok (.ireturn, 1) := by decide +kernel
theorem dX7_odds_0 : decode cX7_odds 0 = .ok (.aload_n 0, 1) := by decide +kernel
theorem dX7_odds_1 : decode cX7_odds 1 = .ok (.iload_n 1, 1) := by decide +kernel
theorem dX7_odds_2 : decode cX7_odds 2 = .ok (.invokevirtual 123, 3) := by decide +kernel
theorem dX7_odds_5 : decode cX7_odds 5 = .ok (.ifCond .eq 26, 3) := by decide +kernel
theorem dX7_odds_8 : decode cX7_odds 8 = .ok (.iload_n 2, 1) := by decide +kernel
theorem dX7_odds_9 : decode cX7_odds 9 = .ok (.bipush (-4), 2) := by decide +kernel
theorem dX7_odds_11 : decode cX7_odds 11 = .ok (.if_icmp .eq 11, 3) := by decide +kernel
theorem dX7_odds_14 : decode cX7_odds 14 = .ok (.aload_n 0, 1) := by decide +kernel
theorem dX7_odds_15 : decode cX7_odds 15 = .ok (.iload_n 2, 1) := by decide +kernel
theorem dX7_odds_16 : decode cX7_odds 16 = .ok (.invokevirtual 120, 3) := by decide +kernel
theorem dX7_odds_19 : decode cX7_odds 19 = .ok (.ifCond .eq 12, 3) := by decide +kernel
theorem dX7_odds_22 : decode cX7_odds 22 = .ok (.iload_n 3, 1) := by decide +kernel
theorem dX7_odds_23 : decode cX7_odds 23 = .ok (.iconst 0, 1) := by decide +kernel
theorem dX7_odds_24 : decode cX7_odds 24 = .ok (.iconst 1, 1) := by decide +kernel
theorem dX7_odds_25 : decode cX7_odds 25 = .ok (.invokestatic 54, 3) := by decide +kernel
theorem dX7_odds_28 : decode cX7_odds 28 = .ok (.ifCond .ne 5, 3) := by decide +kernel
theorem dX7_odds_31 : decode cX7_odds 31 = .ok (.iconst (-1), 1) := by decide +kernel
theorem dX7_odds_32 : decode cX7_odds 32 = .ok (.ireturn, 1) := by decide +kernel
theorem dX7_odds_33 : decode cX7_odds 33 = .ok (.aload_n 0, 1) := by decide +kernel
theorem dX7_odds_34 : decode cX7_odds 34 = .ok (.invokevirtual 141, 3) := by decide +kernel
theorem dX7_odds_37 : decode cX7_odds 37 = .ok (.iconst 0, 1) := by decide +kernel
theorem dX7_odds_38 : decode cX7_odds 38 = .ok (.istore 4, 2) := by decide +kernel
theorem dX7_odds_40 : decode cX7_odds 40 = .ok (.iconst 0, 1) := by decide +kernel
theorem dX7_odds_41 : decode cX7_odds 41 = .ok (.istore 5, 2) := by decide +kernel
theorem dX7_odds_43 : decode cX7_odds 43 = .ok (.iconst 0, 1) := by decide +kernel
theorem dX7_odds_44 : decode cX7_odds 44 = .ok (.istore 6, 2) := by decide +kernel
theorem dX7_odds_46 : decode cX7_odds 46 = .ok (.iload 6, 2) := by decide +kernel
theorem dX7_odds_48 : decode cX7_odds 48 = .ok (.aload_n 0, 1) := by decide +kernel
theorem dX7_odds_49 : decode cX7_odds 49 = .ok (.getfield 135, 3) := by decide +kernel
theorem dX7_odds_52 : decode cX7_odds 52 = .ok (.if_icmp .ge 45, 3) := by decide +kernel
theorem dX7_odds_55 : decode cX7_odds 55 = .ok (.aload_n 0, 1) := by decide +kernel
theorem dX7_odds_56 : decode cX7_odds 56 = .ok (.iload 6, 2) := by decide +kernel
theorem dX7_odds_58 : decode cX7_odds 58 = .ok (.invokevirtual 144, 3) := by decide +kernel
theorem dX7_odds_61 : decode cX7_odds 61 = .ok (.ifCond .eq 30, 3) := by decide +kernel
theorem dX7_odds_64 : decode cX7_odds 64 = .ok (.iinc 4 1, 3) := by decide +kernel
theorem dX7_odds_67 : decode cX7_odds 67 = .ok (.iload 5, 2) := by decide +kernel
theorem dX7_odds_69 : decode cX7_odds 69 = .ok (.aload_n 0, 1) := by decide +kernel
theorem dX7_odds_70 : decode cX7_odds 70 = .ok (.iload 6, 2) := by decide +kernel
theorem dX7_odds_72 : decode cX7_odds 72 = .ok (.iload_n 1, 1) := by decide +kernel
theorem dX7_odds_73 : decode cX7_odds 73 = .ok (.invokevirtual 138, 3) := by decide +kernel
theorem dX7_odds_76 : decode cX7_odds 76 = .ok (.invokestatic 147, 3) := by decide +kernel
theorem dX7_odds_79 : decode cX7_odds 79 = .ok (.iload_n 2, 1) := by decide +kernel
theorem dX7_odds_80 : decode cX7_odds 80 = .ok (.if_icmp .ne 7, 3) := by decide +kernel
theorem dX7_odds_83 : decode cX7_odds 83 = .ok (.iconst 1, 1) := by decide +kernel
theorem dX7_odds_84 : decode cX7_odds 84 = .ok (.goto 4, 3) := by decide +kernel
theorem dX7_odds_87 : decode cX7_odds 87 = .ok (.iconst 0, 1) := by decide +kernel
theorem dX7_odds_88 : decode cX7_odds 88 = .ok (.iadd, 1) := by decide +kernel
theorem dX7_odds_89 : decode cX7_odds 89 = .ok (.istore 5, 2) := by decide +kernel
theorem dX7_odds_91 : decode cX7_odds 91 = .ok (.iinc 6 1, 3) := by decide +kernel
theorem dX7_odds_94 : decode cX7_odds 94 = .ok (.goto (-48), 3) := by decide +kernel
theorem dX7_odds_97 : decode cX7_odds 97 = .ok (.iload 5, 2) := by decide +kernel
theorem dX7_odds_99 : decode cX7_odds 99 = .ok (.istore 6, 2) := by decide +kernel
theorem dX7_odds_101 : decode cX7_odds 101 = .ok (.iload 4, 2) := by decide +kernel
theorem dX7_odds_103 : decode cX7_odds 103 = .ok (.istore 7, 2) := by decide +kernel
theorem dX7_odds_105 : decode cX7_odds 105 = .ok (.iload 7, 2) := by decide +kernel
theorem dX7_odds_107 : decode cX7_odds 107 = .ok (.ifCond .le 21, 3) := by decide +kernel
theorem dX7_odds_110 : decode cX7_odds 110 = .ok (.iload 6, 2) := by decide +kernel
theorem dX7_odds_112 : decode cX7_odds 112 = .ok (.iload 7, 2) := by decide +kernel
theorem dX7_odds_114 : decode cX7_odds 114 = .ok (.irem, 1) := by decide +kernel
theorem dX7_odds_115 : decode cX7_odds 115 = .ok (.istore 8, 2) := by decide +kernel
theorem dX7_odds_117 : decode cX7_odds 117 = .ok (.iload 7, 2) := by decide +kernel
theorem dX7_odds_119 : decode cX7_odds 119 = .ok (.istore 6, 2) := by decide +kernel
theorem dX7_odds_121 : decode cX7_odds 121 = .ok (.iload 8, 2) := by decide +kernel
theorem dX7_odds_123 : decode cX7_odds 123 = .ok (.istore 7, 2) := by decide +kernel
theorem dX7_odds_125 : decode cX7_odds 125 = .ok (.goto (-20), 3) := by decide +kernel
theorem dX7_odds_128 : decode cX7_odds 128 = .ok (.iload 5, 2) := by decide +kernel
theorem dX7_odds_130 : decode cX7_odds 130 = .ok (.ifCond .ne 7, 3) := by decide +kernel
theorem dX7_odds_133 : decode cX7_odds 133 = .ok (.iload_n 3, 1) := by decide +kernel
theorem dX7_odds_134 : decode cX7_odds 134 = .ok (.goto 20, 3) := by decide +kernel
theorem dX7_odds_137 : decode cX7_odds 137 = .ok (.iload_n 3, 1) := by decide +kernel
theorem dX7_odds_138 : decode cX7_odds 138 = .ok (.ifCond .ne 11, 3) := by decide +kernel
theorem dX7_odds_141 : decode cX7_odds 141 = .ok (.iload 5, 2) := by decide +kernel
theorem dX7_odds_143 : decode cX7_odds 143 = .ok (.iload 6, 2) := by decide +kernel
theorem dX7_odds_145 : decode cX7_odds 145 = .ok (.idiv, 1) := by decide +kernel
theorem dX7_odds_146 : decode cX7_odds 146 = .ok (.goto 8, 3) := by decide +kernel
theorem dX7_odds_149 : decode cX7_odds 149 = .ok (.iload 4, 2) := by decide +kernel
theorem dX7_odds_151 : decode cX7_odds 151 = .ok (.iload 6, 2) := by decide +kernel
theorem dX7_odds_153 : decode cX7_odds 153 = .ok (.idiv, 1) := by decide +kernel
theorem dX7_odds_154 : decode cX7_odds 154 = .ok (.ireturn, 1) := by decide +kernel
theorem dX7_claims_0 : decode cX7_claims 0 = .ok (.aload_n 0, 1) := by decide +kernel
theorem dX7_claims_1 : decode cX7_claims 1 = .ok (.invokevirtual 141, 3) := by decide +kernel
theorem dX7_claims_4 : decode cX7_claims 4 = .ok (.iconst 0, 1) := by decide +kernel
theorem dX7_claims_5 : decode cX7_claims 5 = .ok (.istore_n 3, 1) := by decide +kernel
theorem dX7_claims_6 : decode cX7_claims 6 = .ok (.iconst 0, 1) := by decide +kernel
theorem dX7_claims_7 : decode cX7_claims 7 = .ok (.istore 4, 2) := by decide +kernel
theorem dX7_claims_9 : decode cX7_claims 9 = .ok (.iload 4, 2) := by decide +kernel
theorem dX7_claims_11 : decode cX7_claims 11 = .ok (.aload_n 0, 1) := by decide +kernel
theorem dX7_claims_12 : decode cX7_claims 12 = .ok (.getfield 135, 3) := by decide +kernel
theorem dX7_claims_15 : decode cX7_claims 15 = .ok (.if_icmp .ge 66, 3) := by decide +kernel
theorem dX7_claims_18 : decode cX7_claims 18 = .ok (.aload_n 0, 1) := by decide +kernel
theorem dX7_claims_19 : decode cX7_claims 19 = .ok (.iload 4, 2) := by decide +kernel
theorem dX7_claims_21 : decode cX7_claims 21 = .ok (.iload_n 1, 1) := by decide +kernel
theorem dX7_claims_22 : decode cX7_claims 22 = .ok (.invokevirtual 138, 3) := by decide +kernel
theorem dX7_claims_25 : decode cX7_claims 25 = .ok (.istore 5, 2) := by decide +kernel
theorem dX7_claims_27 : decode cX7_claims 27 = .ok (.iload 5, 2) := by decide +kernel
theorem dX7_claims_29 : decode cX7_claims 29 = .ok (.invokestatic 147, 3) := by decide +kernel
theorem dX7_claims_32 : decode cX7_claims 32 = .ok (.iload_n 2, 1) := by decide +kernel
theorem dX7_claims_33 : decode cX7_claims 33 = .ok (.if_icmp .ne 16, 3) := by decide +kernel
theorem dX7_claims_36 : decode cX7_claims 36 = .ok (.aload_n 0, 1) := by decide +kernel
theorem dX7_claims_37 : decode cX7_claims 37 = .ok (.iload 4, 2) := by decide +kernel
theorem dX7_claims_39 : decode cX7_claims 39 = .ok (.invokevirtual 144, 3) := by decide +kernel
theorem dX7_claims_42 : decode cX7_claims 42 = .ok (.ifCond .eq 7, 3) := by decide +kernel
theorem dX7_claims_45 : decode cX7_claims 45 = .ok (.iconst 1, 1) := by decide +kernel
theorem dX7_claims_46 : decode cX7_claims 46 = .ok (.goto 4, 3) := by decide +kernel
theorem dX7_claims_49 : decode cX7_claims 49 = .ok (.iconst 0, 1) := by decide +kernel
theorem dX7_claims_50 : decode cX7_claims 50 = .ok (.istore 6, 2) := by decide +kernel
theorem dX7_claims_52 : decode cX7_claims 52 = .ok (.iload_n 3, 1) := by decide +kernel
theorem dX7_claims_53 : decode cX7_claims 53 = .ok (.iload 6, 2) := by decide +kernel
theorem dX7_claims_55 : decode cX7_claims 55 = .ok (.ifCond .eq 17, 3) := by decide +kernel
theorem dX7_claims_58 : decode cX7_claims 58 = .ok (.iconst 1, 1) := by decide +kernel
theorem dX7_claims_59 : decode cX7_claims 59 = .ok (.iload 5, 2) := by decide +kernel
theorem dX7_claims_61 : decode cX7_claims 61 = .ok (.iconst 1, 1) := by decide +kernel
theorem dX7_claims_62 : decode cX7_claims 62 = .ok (.isub, 1) := by decide +kernel
theorem dX7_claims_63 : decode cX7_claims 63 = .ok (.bipush 10, 2) := by decide +kernel
theorem dX7_claims_65 : decode cX7_claims 65 = .ok (.irem, 1) := by decide +kernel
theorem dX7_claims_66 : decode cX7_claims 66 = .ok (.iconst 1, 1) := by decide +kernel
theorem dX7_claims_67 : decode cX7_claims 67 = .ok (.iadd, 1) := by decide +kernel
theorem dX7_claims_68 : decode cX7_claims 68 = .ok (.ishl, 1) := by decide +kernel
theorem dX7_claims_69 : decode cX7_claims 69 = .ok (.goto 4, 3) := by decide +kernel
theorem dX7_claims_72 : decode cX7_claims 72 = .ok (.iconst 0, 1) := by decide +kernel
theorem dX7_claims_73 : decode cX7_claims 73 = .ok (.ior, 1) := by decide +kernel
theorem dX7_claims_74 : decode cX7_claims 74 = .ok (.istore_n 3, 1) := by decide +kernel
theorem dX7_claims_75 : decode cX7_claims 75 = .ok (.iinc 4 1, 3) := by decide +kernel
theorem dX7_claims_78 : decode cX7_claims 78 = .ok (.goto (-69), 3) := by decide +kernel
theorem dX7_claims_81 : decode cX7_claims 81 = .ok (.iload_n 3, 1) := by decide +kernel
theorem dX7_claims_82 : decode cX7_claims 82 = .ok (.ireturn, 1) := by decide +kernel
theorem dX7_isClaim_0 : decode cX7_isClaim 0 = .ok (.aload_n 0, 1) := by decide +kernel
theorem dX7_isClaim_1 : decode cX7_isClaim 1 = .ok (.iload_n 1, 1) := by decide +kernel
theorem dX7_isClaim_2 : decode cX7_isClaim 2 = .ok (.invokevirtual 123, 3) := by decide +kernel
theorem dX7_isClaim_5 : decode cX7_isClaim 5 = .ok (.ifCond .eq 25, 3) := by decide +kernel
theorem dX7_isClaim_8 : decode cX7_isClaim 8 = .ok (.aload_n 0, 1) := by decide +kernel
theorem dX7_isClaim_9 : decode cX7_isClaim 9 = .ok (.iload_n 2, 1) := by decide +kernel
theorem dX7_isClaim_10 : decode cX7_isClaim 10 = .ok (.invokevirtual 120, 3) := by decide +kernel
theorem dX7_isClaim_13 : decode cX7_isClaim 13 = .ok (.ifCond .eq 17, 3) := by decide +kernel
theorem dX7_isClaim_16 : decode cX7_isClaim 16 = .ok (.iload_n 3, 1) := by decide +kernel
theorem dX7_isClaim_17 : decode cX7_isClaim 17 = .ok (.iconst 1, 1) := by decide +kernel
theorem dX7_isClaim_18 : decode cX7_isClaim 18 = .ok (.bipush 10, 2) := by decide +kernel
theorem dX7_isClaim_20 : decode cX7_isClaim 20 = .ok (.invokestatic 54, 3) := by decide +kernel
theorem dX7_isClaim_23 : decode cX7_isClaim 23 = .ok (.ifCond .eq 7, 3) := by decide +kernel
theorem dX7_isClaim_26 : decode cX7_isClaim 26 = .ok (.iconst 1, 1) := by decide +kernel
theorem dX7_isClaim_27 : decode cX7_isClaim 27 = .ok (.goto 4, 3) := by decide +kernel
theorem dX7_isClaim_30 : decode cX7_isClaim 30 = .ok (.iconst 0, 1) := by decide +kernel
theorem dX7_isClaim_31 : decode cX7_isClaim 31 = .ok (.ireturn, 1) := by decide +kernel
theorem dX7_claim_0 : decode cX7_claim 0 = .ok (.aload_n 0, 1) := by decide +kernel
theorem dX7_claim_1 : decode cX7_claim 1 = .ok (.iload_n 1, 1) := by decide +kernel
theorem dX7_claim_2 : decode cX7_claim 2 = .ok (.iload_n 2, 1) := by decide +kernel
theorem dX7_claim_3 : decode cX7_claim 3 = .ok (.iload_n 3, 1) := by decide +kernel
theorem dX7_claim_4 : decode cX7_claim 4 = .ok (.invokevirtual 150, 3) := by decide +kernel
theorem dX7_claim_7 : decode cX7_claim 7 = .ok (.ifCond .eq 16, 3) := by decide +kernel
theorem dX7_claim_10 : decode cX7_claim 10 = .ok (.aload_n 0, 1) := by decide +kernel
theorem dX7_claim_11 : decode cX7_claim 11 = .ok (.iload_n 1, 1) := by decide +kernel
theorem dX7_claim_12 : decode cX7_claim 12 = .ok (.iload_n 2, 1) := by decide +kernel
theorem dX7_claim_13 : decode cX7_claim 13 = .ok (.invokevirtual 153, 3) := by decide +kernel
theorem dX7_claim_16 : decode cX7_claim 16 = .ok (.iload_n 3, 1) := by decide +kernel
theorem dX7_claim_17 : decode cX7_claim 17 = .ok (.ishr, 1) := by decide +kernel
theorem dX7_claim_18 : decode cX7_claim 18 = .ok (.iconst 1, 1) := by decide +kernel
theorem dX7_claim_19 : decode cX7_claim 19 = .ok (.iand, 1) := by decide +kernel
theorem dX7_claim_20 : decode cX7_claim 20 = .ok (.goto 4, 3) := by decide +kernel
theorem dX7_claim_23 : decode cX7_claim 23 = .ok (.iconst (-1), 1) := by decide +kernel
theorem dX7_claim_24 : decode cX7_claim 24 = .ok (.ireturn, 1) := by decide +kernel
theorem dX7_saves_0 : decode cX7_saves 0 = .ok (.aload_n 0, 1) := by decide +kernel
theorem dX7_saves_1 : decode cX7_saves 1 = .ok (.iload_n 1, 1) := by decide +kernel
theorem dX7_saves_2 : decode cX7_saves 2 = .ok (.iload_n 2, 1) := by decide +kernel
theorem dX7_saves_3 : decode cX7_saves 3 = .ok (.iload_n 3, 1) := by decide +kernel
theorem dX7_saves_4 : decode cX7_saves 4 = .ok (.invokevirtual 150, 3) := by decide +kernel
theorem dX7_saves_7 : decode cX7_saves 7 = .ok (.ifCond .ne 5, 3) := by decide +kernel
theorem dX7_saves_10 : decode cX7_saves 10 = .ok (.iconst (-1), 1) := by decide +kernel
theorem dX7_saves_11 : decode cX7_saves 11 = .ok (.ireturn, 1) := by decide +kernel
theorem dX7_saves_12 : decode cX7_saves 12 = .ok (.aload_n 0, 1) := by decide +kernel
theorem dX7_saves_13 : decode cX7_saves 13 = .ok (.iload_n 1, 1) := by decide +kernel
theorem dX7_saves_14 : decode cX7_saves 14 = .ok (.iload_n 2, 1) := by decide +kernel
theorem dX7_saves_15 : decode cX7_saves 15 = .ok (.invokevirtual 153, 3) := by decide +kernel
theorem dX7_saves_18 : decode cX7_saves 18 = .ok (.istore 4, 2) := by decide +kernel
theorem dX7_saves_20 : decode cX7_saves 20 = .ok (.iconst 0, 1) := by decide +kernel
theorem dX7_saves_21 : decode cX7_saves 21 = .ok (.istore 5, 2) := by decide +kernel
theorem dX7_saves_23 : decode cX7_saves 23 = .ok (.iload 5, 2) := by decide +kernel
theorem dX7_saves_25 : decode cX7_saves 25 = .ok (.bipush 10, 2) := by decide +kernel
theorem dX7_saves_27 : decode cX7_saves 27 = .ok (.if_icmp .ge 51, 3) := by decide +kernel
theorem dX7_saves_30 : decode cX7_saves 30 = .ok (.iload_n 3, 1) := by decide +kernel
theorem dX7_saves_31 : decode cX7_saves 31 = .ok (.iload 5, 2) := by decide +kernel
theorem dX7_saves_33 : decode cX7_saves 33 = .ok (.if_icmp .le 21, 3) := by decide +kernel
theorem dX7_saves_36 : decode cX7_saves 36 = .ok (.iload 4, 2) := by decide +kernel
theorem dX7_saves_38 : decode cX7_saves 38 = .ok (.iload_n 3, 1) := by decide +kernel
theorem dX7_saves_39 : decode cX7_saves 39 = .ok (.iload 5, 2) := by decide +kernel
theorem dX7_saves_41 : decode cX7_saves 41 = .ok (.isub, 1) := by decide +kernel
theorem dX7_saves_42 : decode cX7_saves 42 = .ok (.ishr, 1) := by decide +kernel
theorem dX7_saves_43 : decode cX7_saves 43 = .ok (.iconst 1, 1) := by decide +kernel
theorem dX7_saves_44 : decode cX7_saves 44 = .ok (.iand, 1) := by decide +kernel
theorem dX7_saves_45 : decode cX7_saves 45 = .ok (.iconst 1, 1) := by decide +kernel
theorem dX7_saves_46 : decode cX7_saves 46 = .ok (.if_icmp .ne 8, 3) := by decide +kernel
theorem dX7_saves_49 : decode cX7_saves 49 = .ok (.iload_n 3, 1) := by decide +kernel
theorem dX7_saves_50 : decode cX7_saves 50 = .ok (.iload 5, 2) := by decide +kernel
theorem dX7_saves_52 : decode cX7_saves 52 = .ok (.isub, 1) := by decide +kernel
theorem dX7_saves_53 : decode cX7_saves 53 = .ok (.ireturn, 1) := by decide +kernel
theorem dX7_saves_54 : decode cX7_saves 54 = .ok (.iload 4, 2) := by decide +kernel
theorem dX7_saves_56 : decode cX7_saves 56 = .ok (.iload_n 3, 1) := by decide +kernel
theorem dX7_saves_57 : decode cX7_saves 57 = .ok (.iload 5, 2) := by decide +kernel
theorem dX7_saves_59 : decode cX7_saves 59 = .ok (.iadd, 1) := by decide +kernel
theorem dX7_saves_60 : decode cX7_saves 60 = .ok (.ishr, 1) := by decide +kernel
theorem dX7_saves_61 : decode cX7_saves 61 = .ok (.iconst 1, 1) := by decide +kernel
theorem dX7_saves_62 : decode cX7_saves 62 = .ok (.iand, 1) := by decide +kernel
theorem dX7_saves_63 : decode cX7_saves 63 = .ok (.iconst 1, 1) := by decide +kernel
theorem dX7_saves_64 : decode cX7_saves 64 = .ok (.if_icmp .ne 8, 3) := by decide +kernel
theorem dX7_saves_67 : decode cX7_saves 67 = .ok (.iload_n 3, 1) := by decide +kernel
theorem dX7_saves_68 : decode cX7_saves 68 = .ok (.iload 5, 2) := by decide +kernel
theorem dX7_saves_70 : decode cX7_saves 70 = .ok (.iadd, 1) := by decide +kernel
theorem dX7_saves_71 : decode cX7_saves 71 = .ok (.ireturn, 1) := by decide +kernel
theorem dX7_saves_72 : decode cX7_saves 72 = .ok (.iinc 5 1, 3) := by decide +kernel
theorem dX7_saves_75 : decode cX7_saves 75 = .ok (.goto (-52), 3) := by decide +kernel
theorem dX7_saves_78 : decode cX7_saves 78 = .ok (.bipush (-9), 2) := by decide +kernel
theorem dX7_saves_80 : decode cX7_saves 80 = .ok (.ireturn, 1) := by decide +kernel
theorem dX7_scrape_0 : decode cX7_scrape 0 = .ok (.iload_n 1, 1) := by decide +kernel
theorem dX7_scrape_1 : decode cX7_scrape 1 = .ok (.iconst 0, 1) := by decide +kernel
theorem dX7_scrape_2 : decode cX7_scrape 2 = .ok (.iconst 1, 1) := by decide +kernel
theorem dX7_scrape_3 : decode cX7_scrape 3 = .ok (.invokestatic 54, 3) := by decide +kernel
theorem dX7_scrape_6 : decode cX7_scrape 6 = .ok (.ifCond .ne 5, 3) := by decide +kernel
theorem dX7_scrape_9 : decode cX7_scrape 9 = .ok (.iconst (-1), 1) := by decide +kernel
theorem dX7_scrape_10 : decode cX7_scrape 10 = .ok (.ireturn, 1) := by decide +kernel
theorem dX7_scrape_11 : decode cX7_scrape 11 = .ok (.aload_n 0, 1) := by decide +kernel
theorem dX7_scrape_12 : decode cX7_scrape 12 = .ok (.invokevirtual 141, 3) := by decide +kernel
theorem dX7_scrape_15 : decode cX7_scrape 15 = .ok (.iconst 0, 1) := by decide +kernel
theorem dX7_scrape_16 : decode cX7_scrape 16 = .ok (.istore_n 2, 1) := by decide +kernel
theorem dX7_scrape_17 : decode cX7_scrape 17 = .ok (.iload_n 2, 1) := by decide +kernel
theorem dX7_scrape_18 : decode cX7_scrape 18 = .ok (.sipush 2400, 3) := by decide +kernel
theorem dX7_scrape_21 : decode cX7_scrape 21 = .ok (.if_icmp .ge 16, 3) := by decide +kernel
theorem dX7_scrape_24 : decode cX7_scrape 24 = .ok (.aload_n 0, 1) := by decide +kernel
theorem dX7_scrape_25 : decode cX7_scrape 25 = .ok (.getfield 38, 3) := by decide +kernel
theorem dX7_scrape_28 : decode cX7_scrape 28 = .ok (.iload_n 2, 1) := by decide +kernel
theorem dX7_scrape_29 : decode cX7_scrape 29 = .ok (.iconst 0, 1) := by decide +kernel
theorem dX7_scrape_30 : decode cX7_scrape 30 = .ok (.iastore, 1) := by decide +kernel
theorem dX7_scrape_31 : decode cX7_scrape 31 = .ok (.iinc 2 1, 3) := by decide +kernel
theorem dX7_scrape_34 : decode cX7_scrape 34 = .ok (.goto (-17), 3) := by decide +kernel
theorem dX7_scrape_37 : decode cX7_scrape 37 = .ok (.iconst 0, 1) := by decide +kernel
theorem dX7_scrape_38 : decode cX7_scrape 38 = .ok (.istore_n 2, 1) := by decide +kernel
theorem dX7_scrape_39 : decode cX7_scrape 39 = .ok (.iload_n 2, 1) := by decide +kernel
theorem dX7_scrape_40 : decode cX7_scrape 40 = .ok (.aload_n 0, 1) := by decide +kernel
theorem dX7_scrape_41 : decode cX7_scrape 41 = .ok (.getfield 135, 3) := by decide +kernel
theorem dX7_scrape_44 : decode cX7_scrape 44 = .ok (.if_icmp .ge 62, 3) := by decide +kernel
theorem dX7_scrape_47 : decode cX7_scrape 47 = .ok (.aload_n 0, 1) := by decide +kernel
theorem dX7_scrape_48 : decode cX7_scrape 48 = .ok (.iload_n 2, 1) := by decide +kernel
theorem dX7_scrape_49 : decode cX7_scrape 49 = .ok (.invokevirtual 144, 3) := by decide +kernel
theorem dX7_scrape_52 : decode cX7_scrape 52 = .ok (.istore_n 3, 1) := by decide +kernel
theorem dX7_scrape_53 : decode cX7_scrape 53 = .ok (.iconst 0, 1) := by decide +kernel
theorem dX7_scrape_54 : decode cX7_scrape 54 = .ok (.istore 4, 2) := by decide +kernel
theorem dX7_scrape_56 : decode cX7_scrape 56 = .ok (.iload 4, 2) := by decide +kernel
theorem dX7_scrape_58 : decode cX7_scrape 58 = .ok (.aload_n 0, 1) := by decide +kernel
theorem dX7_scrape_59 : decode cX7_scrape 59 = .ok (.getfield 13, 3) := by decide +kernel
theorem dX7_scrape_62 : decode cX7_scrape 62 = .ok (.iconst 0, 1) := by decide +kernel
theorem dX7_scrape_63 : decode cX7_scrape 63 = .ok (.iaload, 1) := by decide +kernel
theorem dX7_scrape_64 : decode cX7_scrape 64 = .ok (.if_icmp .ge 36, 3) := by decide +kernel
theorem dX7_scrape_67 : decode cX7_scrape 67 = .ok (.iload_n 3, 1) := by decide +kernel
theorem dX7_scrape_68 : decode cX7_scrape 68 = .ok (.ifCond .eq 32, 3) := by decide +kernel
theorem dX7_scrape_71 : decode cX7_scrape 71 = .ok (.aload_n 0, 1) := by decide +kernel
theorem dX7_scrape_72 : decode cX7_scrape 72 = .ok (.getfield 38, 3) := by decide +kernel
theorem dX7_scrape_75 : decode cX7_scrape 75 = .ok (.sipush 400, 3) := by decide +kernel
theorem dX7_scrape_78 : decode cX7_scrape 78 = .ok (.iload 4, 2) := by decide +kernel
theorem dX7_scrape_80 : decode cX7_scrape 80 = .ok (.imul, 1) := by decide +kernel
theorem dX7_scrape_81 : decode cX7_scrape 81 = .ok (.aload_n 0, 1) := by decide +kernel
theorem dX7_scrape_82 : decode cX7_scrape 82 = .ok (.getfield 35, 3) := by decide +kernel
theorem dX7_scrape_85 : decode cX7_scrape 85 = .ok (.iload 4, 2) := by decide +kernel
theorem dX7_scrape_87 : decode cX7_scrape 87 = .ok (.iaload, 1) := by decide +kernel
theorem dX7_scrape_88 : decode cX7_scrape 88 = .ok (.iadd, 1) := by decide +kernel
theorem dX7_scrape_89 : decode cX7_scrape 89 = .ok (.dup2, 1) := by decide +kernel
theorem dX7_scrape_90 : decode cX7_scrape 90 = .ok (.iaload, 1) := by decide +kernel
theorem dX7_scrape_91 : decode cX7_scrape 91 = .ok (.iconst 1, 1) := by decide +kernel
theorem dX7_scrape_92 : decode cX7_scrape 92 = .ok (.iadd, 1) := by decide +kernel
theorem dX7_scrape_93 : decode cX7_scrape 93 = .ok (.iastore, 1) := by decide +kernel
theorem dX7_scrape_94 : decode cX7_scrape 94 = .ok (.iinc 4 1, 3) := by decide +kernel
theorem dX7_scrape_97 : decode cX7_scrape 97 = .ok (.goto (-41), 3) := by decide +kernel
theorem dX7_scrape_100 : decode cX7_scrape 100 = .ok (.iinc 2 1, 3) := by decide +kernel
theorem dX7_scrape_103 : decode cX7_scrape 103 = .ok (.goto (-64), 3) := by decide +kernel
theorem dX7_scrape_106 : decode cX7_scrape 106 = .ok (.bipush (-9), 2) := by decide +kernel
theorem dX7_scrape_108 : decode cX7_scrape 108 = .ok (.istore_n 2, 1) := by decide +kernel
theorem dX7_scrape_109 : decode cX7_scrape 109 = .ok (.iconst 0, 1) := by decide +kernel
theorem dX7_scrape_110 : decode cX7_scrape 110 = .ok (.istore_n 3, 1) := by decide +kernel
theorem dX7_scrape_111 : decode cX7_scrape 111 = .ok (.iconst 0, 1) := by decide +kernel
theorem dX7_scrape_112 : decode cX7_scrape 112 = .ok (.istore 4, 2) := by decide +kernel
theorem dX7_scrape_114 : decode cX7_scrape 114 = .ok (.iload 4, 2) := by decide +kernel
theorem dX7_scrape_116 : decode cX7_scrape 116 = .ok (.aload_n 0, 1) := by decide +kernel
theorem dX7_scrape_117 : decode cX7_scrape 117 = .ok (.getfield 13, 3) := by decide +kernel
theorem dX7_scrape_120 : decode cX7_scrape 120 = .ok (.iconst 0, 1) := by decide +kernel
theorem dX7_scrape_121 : decode cX7_scrape 121 = .ok (.iaload, 1) := by decide +kernel
theorem dX7_scrape_122 : decode cX7_scrape 122 = .ok (.if_icmp .ge 132, 3) := by decide +kernel
theorem dX7_scrape_125 : decode cX7_scrape 125 = .ok (.iconst 0, 1) := by decide +kernel
theorem dX7_scrape_126 : decode cX7_scrape 126 = .ok (.istore 5, 2) := by decide +kernel
theorem dX7_scrape_128 : decode cX7_scrape 128 = .ok (.iconst 0, 1) := by decide +kernel
theorem dX7_scrape_129 : decode cX7_scrape 129 = .ok (.istore 6, 2) := by decide +kernel
theorem dX7_scrape_131 : decode cX7_scrape 131 = .ok (.iload 6, 2) := by decide +kernel
theorem dX7_scrape_133 : decode cX7_scrape 133 = .ok (.sipush 400, 3) := by decide +kernel
theorem dX7_scrape_136 : decode cX7_scrape 136 = .ok (.if_icmp .ge 64, 3) := by decide +kernel
theorem dX7_scrape_139 : decode cX7_scrape 139 = .ok (.aload_n 0, 1) := by decide +kernel
theorem dX7_scrape_140 : decode cX7_scrape 140 = .ok (.getfield 19, 3) := by decide +kernel
theorem dX7_scrape_143 : decode cX7_scrape 143 = .ok (.bipush 49, 2) := by decide +kernel
theorem dX7_scrape_145 : decode cX7_scrape 145 = .ok (.iload 4, 2) := by decide +kernel
theorem dX7_scrape_147 : decode cX7_scrape 147 = .ok (.iadd, 1) := by decide +kernel
theorem dX7_scrape_148 : decode cX7_scrape 148 = .ok (.iaload, 1) := by decide +kernel
theorem dX7_scrape_149 : decode cX7_scrape 149 = .ok (.bipush (-9), 2) := by decide +kernel
theorem dX7_scrape_151 : decode cX7_scrape 151 = .ok (.if_icmp .ne 49, 3) := by decide +kernel
theorem dX7_scrape_154 : decode cX7_scrape 154 = .ok (.aload_n 0, 1) := by decide +kernel
theorem dX7_scrape_155 : decode cX7_scrape 155 = .ok (.getfield 38, 3) := by decide +kernel
theorem dX7_scrape_158 : decode cX7_scrape 158 = .ok (.sipush 400, 3) := by decide +kernel
theorem dX7_scrape_161 : decode cX7_scrape 161 = .ok (.iload 4, 2) := by decide +kernel
theorem dX7_scrape_163 : decode cX7_scrape 163 = .ok (.imul, 1) := by decide +kernel
theorem dX7_scrape_164 : decode cX7_scrape 164 = .ok (.iload 6, 2) := by decide +kernel
theorem dX7_scrape_166 : decode cX7_scrape 166 = .ok (.iadd, 1) := by decide +kernel
theorem dX7_scrape_167 : decode cX7_scrape 167 = .ok (.iaload, 1) := by decide +kernel
theorem dX7_scrape_168 : decode cX7_scrape 168 = .ok (.iload 5, 2) := by decide +kernel
theorem dX7_scrape_170 : decode cX7_scrape 170 = .ok (.if_icmp .le 20, 3) := by decide +kernel
theorem dX7_scrape_173 : decode cX7_scrape 173 = .ok (.aload_n 0, 1) := by decide +kernel
theorem dX7_scrape_174 : decode cX7_scrape 174 = .ok (.getfield 38, 3) := by decide +kernel
theorem dX7_scrape_177 : decode cX7_scrape 177 = .ok (.sipush 400, 3) := by decide +kernel
theorem dX7_scrape_180 : decode cX7_scrape 180 = .ok (.iload 4, 2) := by decide +kernel
theorem dX7_scrape_182 : decode cX7_scrape 182 = .ok (.imul, 1) := by decide +kernel
theorem dX7_scrape_183 : decode cX7_scrape 183 = .ok (.iload 6, 2) := by decide +kernel
theorem dX7_scrape_185 : decode cX7_scrape 185 = .ok (.iadd, 1) := by decide +kernel
theorem dX7_scrape_186 : decode cX7_scrape 186 = .ok (.iaload, 1) := by decide +kernel
theorem dX7_scrape_187 : decode cX7_scrape 187 = .ok (.goto 5, 3) := by decide +kernel
theorem dX7_scrape_190 : decode cX7_scrape 190 = .ok (.iload 5, 2) := by decide +kernel
theorem dX7_scrape_192 : decode cX7_scrape 192 = .ok (.istore 5, 2) := by decide +kernel
theorem dX7_scrape_194 : decode cX7_scrape 194 = .ok (.iinc 6 1, 3) := by decide +kernel
theorem dX7_scrape_197 : decode cX7_scrape 197 = .ok (.goto (-66), 3) := by decide +kernel
theorem dX7_scrape_200 : decode cX7_scrape 200 = .ok (.iload 5, 2) := by decide +kernel
theorem dX7_scrape_202 : decode cX7_scrape 202 = .ok (.ifCond .le 19, 3) := by decide +kernel
theorem dX7_scrape_205 : decode cX7_scrape 205 = .ok (.iload_n 2, 1) := by decide +kernel
theorem dX7_scrape_206 : decode cX7_scrape 206 = .ok (.bipush (-9), 2) := by decide +kernel
theorem dX7_scrape_208 : decode cX7_scrape 208 = .ok (.if_icmp .eq 9, 3) := by decide +kernel
theorem dX7_scrape_211 : decode cX7_scrape 211 = .ok (.iload 5, 2) := by decide +kernel
theorem dX7_scrape_213 : decode cX7_scrape 213 = .ok (.iload_n 3, 1) := by decide +kernel
theorem dX7_scrape_214 : decode cX7_scrape 214 = .ok (.if_icmp .ge 7, 3) := by decide +kernel
theorem dX7_scrape_217 : decode cX7_scrape 217 = .ok (.iconst 1, 1) := by decide +kernel
theorem dX7_scrape_218 : decode cX7_scrape 218 = .ok (.goto 4, 3) := by decide +kernel
theorem dX7_scrape_221 : decode cX7_scrape 221 = .ok (.iconst 0, 1) := by decide +kernel
theorem dX7_scrape_222 : decode cX7_scrape 222 = .ok (.istore 6, 2) := by decide +kernel
theorem dX7_scrape_224 : decode cX7_scrape 224 = .ok (.iload 6, 2) := by decide +kernel
theorem dX7_scrape_226 : decode cX7_scrape 226 = .ok (.ifCond .eq 8, 3) := by decide +kernel
theorem dX7_scrape_229 : decode cX7_scrape 229 = .ok (.iload 4, 2) := by decide +kernel
theorem dX7_scrape_231 : decode cX7_scrape 231 = .ok (.goto 4, 3) := by decide +kernel
theorem dX7_scrape_234 : decode cX7_scrape 234 = .ok (.iload_n 2, 1) := by decide +kernel
theorem dX7_scrape_235 : decode cX7_scrape 235 = .ok (.istore_n 2, 1) := by decide +kernel
theorem dX7_scrape_236 : decode cX7_scrape 236 = .ok (.iload 6, 2) := by decide +kernel
theorem dX7_scrape_238 : decode cX7_scrape 238 = .ok (.ifCond .eq 8, 3) := by decide +kernel
theorem dX7_scrape_241 : decode cX7_scrape 241 = .ok (.iload 5, 2) := by decide +kernel
theorem dX7_scrape_243 : decode cX7_scrape 243 = .ok (.goto 4, 3) := by decide +kernel
theorem dX7_scrape_246 : decode cX7_scrape 246 = .ok (.iload_n 3, 1) := by decide +kernel
theorem dX7_scrape_247 : decode cX7_scrape 247 = .ok (.istore_n 3, 1) := by decide +kernel
theorem dX7_scrape_248 : decode cX7_scrape 248 = .ok (.iinc 4 1, 3) := by decide +kernel
theorem dX7_scrape_251 : decode cX7_scrape 251 = .ok (.goto (-137), 3) := by decide +kernel
theorem dX7_scrape_254 : decode cX7_scrape 254 = .ok (.iload_n 1, 1) := by decide +kernel
theorem dX7_scrape_255 : decode cX7_scrape 255 = .ok (.ifCond .eq 9, 3) := by decide +kernel
theorem dX7_scrape_258 : decode cX7_scrape 258 = .ok (.iload_n 2, 1) := by decide +kernel
theorem dX7_scrape_259 : decode cX7_scrape 259 = .ok (.bipush (-9), 2) := by decide +kernel
theorem dX7_scrape_261 : decode cX7_scrape 261 = .ok (.if_icmp .ne 7, 3) := by decide +kernel
theorem dX7_scrape_264 : decode cX7_scrape 264 = .ok (.iload_n 2, 1) := by decide +kernel
theorem dX7_scrape_265 : decode cX7_scrape 265 = .ok (.goto 4, 3) := by decide +kernel
theorem dX7_scrape_268 : decode cX7_scrape 268 = .ok (.iload_n 3, 1) := by decide +kernel
theorem dX7_scrape_269 : decode cX7_scrape 269 = .ok (.ireturn, 1) := by decide +kernel
theorem dX7_exchanges_0 : decode cX7_exchanges 0 = .ok (.iconst 0, 1) := by decide +kernel
theorem dX7_exchanges_1 : decode cX7_exchanges 1 = .ok (.istore_n 2, 1) := by decide +kernel
theorem dX7_exchanges_2 : decode cX7_exchanges 2 = .ok (.iconst 0, 1) := by decide +kernel
theorem dX7_exchanges_3 : decode cX7_exchanges 3 = .ok (.istore_n 3, 1) := by decide +kernel
theorem dX7_exchanges_4 : decode cX7_exchanges 4 = .ok (.iconst 0, 1) := by decide +kernel
theorem dX7_exchanges_5 : decode cX7_exchanges 5 = .ok (.istore 4, 2) := by decide +kernel
theorem dX7_exchanges_7 : decode cX7_exchanges 7 = .ok (.iload 4, 2) := by decide +kernel
theorem dX7_exchanges_9 : decode cX7_exchanges 9 = .ok (.iload_n 1, 1) := by decide +kernel
theorem dX7_exchanges_10 : decode cX7_exchanges 10 = .ok (.if_icmp .ge 58, 3) := by decide +kernel
theorem dX7_exchanges_13 : decode cX7_exchanges 13 = .ok (.iload_n 3, 1) := by decide +kernel
theorem dX7_exchanges_14 : decode cX7_exchanges 14 = .ok (.iload_n 2, 1) := by decide +kernel
theorem dX7_exchanges_15 : decode cX7_exchanges 15 = .ok (.iload 4, 2) := by decide +kernel
theorem dX7_exchanges_17 : decode cX7_exchanges 17 = .ok (.ishr, 1) := by decide +kernel
theorem dX7_exchanges_18 : decode cX7_exchanges 18 = .ok (.iconst 1, 1) := by decide +kernel
theorem dX7_exchanges_19 : decode cX7_exchanges 19 = .ok (.iand, 1) := by decide +kernel
theorem dX7_exchanges_20 : decode cX7_exchanges 20 = .ok (.ifCond .ne 7, 3) := by decide +kernel
theorem dX7_exchanges_23 : decode cX7_exchanges 23 = .ok (.iconst 1, 1) := by decide +kernel
theorem dX7_exchanges_24 : decode cX7_exchanges 24 = .ok (.goto 4, 3) := by decide +kernel
theorem dX7_exchanges_27 : decode cX7_exchanges 27 = .ok (.iconst 0, 1) := by decide +kernel
theorem dX7_exchanges_28 : decode cX7_exchanges 28 = .ok (.iadd, 1) := by decide +kernel
theorem dX7_exchanges_29 : decode cX7_exchanges 29 = .ok (.istore_n 3, 1) := by decide +kernel
theorem dX7_exchanges_30 : decode cX7_exchanges 30 = .ok (.iload 4, 2) := by decide +kernel
theorem dX7_exchanges_32 : decode cX7_exchanges 32 = .ok (.istore 5, 2) := by decide +kernel
theorem dX7_exchanges_34 : decode cX7_exchanges 34 = .ok (.iload_n 2, 1) := by decide +kernel
theorem dX7_exchanges_35 : decode cX7_exchanges 35 = .ok (.iload 5, 2) := by decide +kernel
theorem dX7_exchanges_37 : decode cX7_exchanges 37 = .ok (.ishr, 1) := by decide +kernel
theorem dX7_exchanges_38 : decode cX7_exchanges 38 = .ok (.iconst 1, 1) := by decide +kernel
theorem dX7_exchanges_39 : decode cX7_exchanges 39 = .ok (.iand, 1) := by decide +kernel
theorem dX7_exchanges_40 : decode cX7_exchanges 40 = .ok (.ifCond .ne 22, 3) := by decide +kernel
theorem dX7_exchanges_43 : decode cX7_exchanges 43 = .ok (.iload_n 2, 1) := by decide +kernel
theorem dX7_exchanges_44 : decode cX7_exchanges 44 = .ok (.iconst 1, 1) := by decide +kernel
theorem dX7_exchanges_45 : decode cX7_exchanges 45 = .ok (.iload 5, 2) := by decide +kernel
theorem dX7_exchanges_47 : decode cX7_exchanges 47 = .ok (.ishl, 1) := by decide +kernel
theorem dX7_exchanges_48 : decode cX7_exchanges 48 = .ok (.ior, 1) := by decide +kernel
theorem dX7_exchanges_49 : decode cX7_exchanges 49 = .ok (.istore_n 2, 1) := by decide +kernel
theorem dX7_exchanges_50 : decode cX7_exchanges 50 = .ok (.aload_n 0, 1) := by decide +kernel
theorem dX7_exchanges_51 : decode cX7_exchanges 51 = .ok (.getfield 44, 3) := by decide +kernel
theorem dX7_exchanges_54 : decode cX7_exchanges 54 = .ok (.iload 5, 2) := by decide +kernel
theorem dX7_exchanges_56 : decode cX7_exchanges 56 = .ok (.iaload, 1) := by decide +kernel
theorem dX7_exchanges_57 : decode cX7_exchanges 57 = .ok (.istore 5, 2) := by decide +kernel
theorem dX7_exchanges_59 : decode cX7_exchanges 59 = .ok (.goto (-25), 3) := by decide +kernel
theorem dX7_exchanges_62 : decode cX7_exchanges 62 = .ok (.iinc 4 1, 3) := by decide +kernel
theorem dX7_exchanges_65 : decode cX7_exchanges 65 = .ok (.goto (-58), 3) := by decide +kernel
theorem dX7_exchanges_68 : decode cX7_exchanges 68 = .ok (.iload_n 1, 1) := by decide +kernel
theorem dX7_exchanges_69 : decode cX7_exchanges 69 = .ok (.iload_n 3, 1) := by decide +kernel
theorem dX7_exchanges_70 : decode cX7_exchanges 70 = .ok (.isub, 1) := by decide +kernel
theorem dX7_exchanges_71 : decode cX7_exchanges 71 = .ok (.ireturn, 1) := by decide +kernel
theorem dX7_swaps_0 : decode cX7_swaps 0 = .ok (.iconst 0, 1) := by decide +kernel
theorem dX7_swaps_1 : decode cX7_swaps 1 = .ok (.istore_n 1, 1) := by decide +kernel
theorem dX7_swaps_2 : decode cX7_swaps 2 = .ok (.iconst 0, 1) := by decide +kernel
theorem dX7_swaps_3 : decode cX7_swaps 3 = .ok (.istore_n 2, 1) := by decide +kernel
theorem dX7_swaps_4 : decode cX7_swaps 4 = .ok (.iload_n 2, 1) := by decide +kernel
theorem dX7_swaps_5 : decode cX7_swaps 5 = .ok (.aload_n 0, 1) := by decide +kernel
theorem dX7_swaps_6 : decode cX7_swaps 6 = .ok (.getfield 13, 3) := by decide +kernel
theorem dX7_swaps_9 : decode cX7_swaps 9 = .ok (.iconst 0, 1) := by decide +kernel
theorem dX7_swaps_10 : decode cX7_swaps 10 = .ok (.iaload, 1) := by decide +kernel
theorem dX7_swaps_11 : decode cX7_swaps 11 = .ok (.if_icmp .ge 33, 3) := by decide +kernel
theorem dX7_swaps_14 : decode cX7_swaps 14 = .ok (.aload_n 0, 1) := by decide +kernel
theorem dX7_swaps_15 : decode cX7_swaps 15 = .ok (.getfield 19, 3) := by decide +kernel
theorem dX7_swaps_18 : decode cX7_swaps 18 = .ok (.bipush 49, 2) := by decide +kernel
theorem dX7_swaps_20 : decode cX7_swaps 20 = .ok (.iload_n 2, 1) := by decide +kernel
theorem dX7_swaps_21 : decode cX7_swaps 21 = .ok (.iadd, 1) := by decide +kernel
theorem dX7_swaps_22 : decode cX7_swaps 22 = .ok (.iaload, 1) := by decide +kernel
theorem dX7_swaps_23 : decode cX7_swaps 23 = .ok (.bipush (-9), 2) := by decide +kernel
theorem dX7_swaps_25 : decode cX7_swaps 25 = .ok (.if_icmp .eq 13, 3) := by decide +kernel
theorem dX7_swaps_28 : decode cX7_swaps 28 = .ok (.aload_n 0, 1) := by decide +kernel
theorem dX7_swaps_29 : decode cX7_swaps 29 = .ok (.getfield 41, 3) := by decide +kernel
theorem dX7_swaps_32 : decode cX7_swaps 32 = .ok (.iload_n 1, 1) := by decide +kernel
theorem dX7_swaps_33 : decode cX7_swaps 33 = .ok (.iload_n 2, 1) := by decide +kernel
theorem dX7_swaps_34 : decode cX7_swaps 34 = .ok (.iastore, 1) := by decide +kernel
theorem dX7_swaps_35 : decode cX7_swaps 35 = .ok (.iinc 1 1, 3) := by decide +kernel
theorem dX7_swaps_38 : decode cX7_swaps 38 = .ok (.iinc 2 1, 3) := by decide +kernel
theorem dX7_swaps_41 : decode cX7_swaps 41 = .ok (.goto (-37), 3) := by decide +kernel
theorem dX7_swaps_44 : decode cX7_swaps 44 = .ok (.iconst 1, 1) := by decide +kernel
theorem dX7_swaps_45 : decode cX7_swaps 45 = .ok (.istore_n 2, 1) := by decide +kernel
theorem dX7_swaps_46 : decode cX7_swaps 46 = .ok (.iconst 0, 1) := by decide +kernel
theorem dX7_swaps_47 : decode cX7_swaps 47 = .ok (.istore_n 3, 1) := by decide +kernel
theorem dX7_swaps_48 : decode cX7_swaps 48 = .ok (.iload_n 3, 1) := by decide +kernel
theorem dX7_swaps_49 : decode cX7_swaps 49 = .ok (.iload_n 1, 1) := by decide +kernel
theorem dX7_swaps_50 : decode cX7_swaps 50 = .ok (.if_icmp .ge 13, 3) := by decide +kernel
theorem dX7_swaps_53 : decode cX7_swaps 53 = .ok (.iload_n 2, 1) := by decide +kernel
theorem dX7_swaps_54 : decode cX7_swaps 54 = .ok (.iload_n 1, 1) := by decide +kernel
theorem dX7_swaps_55 : decode cX7_swaps 55 = .ok (.imul, 1) := by decide +kernel
theorem dX7_swaps_56 : decode cX7_swaps 56 = .ok (.istore_n 2, 1) := by decide +kernel
theorem dX7_swaps_57 : decode cX7_swaps 57 = .ok (.iinc 3 1, 3) := by decide +kernel
theorem dX7_swaps_60 : decode cX7_swaps 60 = .ok (.goto (-12), 3) := by decide +kernel
theorem dX7_swaps_63 : decode cX7_swaps 63 = .ok (.bipush (-9), 2) := by decide +kernel
theorem dX7_swaps_65 : decode cX7_swaps 65 = .ok (.istore_n 3, 1) := by decide +kernel
theorem dX7_swaps_66 : decode cX7_swaps 66 = .ok (.iconst 0, 1) := by decide +kernel
theorem dX7_swaps_67 : decode cX7_swaps 67 = .ok (.istore 4, 2) := by decide +kernel
theorem dX7_swaps_69 : decode cX7_swaps 69 = .ok (.iload 4, 2) := by decide +kernel
theorem dX7_swaps_71 : decode cX7_swaps 71 = .ok (.iload_n 2, 1) := by decide +kernel
theorem dX7_swaps_72 : decode cX7_swaps 72 = .ok (.if_icmp .ge 106, 3) := by decide +kernel
theorem dX7_swaps_75 : decode cX7_swaps 75 = .ok (.iload 4, 2) := by decide +kernel
theorem dX7_swaps_77 : decode cX7_swaps 77 = .ok (.istore 5, 2) := by decide +kernel
theorem dX7_swaps_79 : decode cX7_swaps 79 = .ok (.iconst 0, 1) := by decide +kernel
theorem dX7_swaps_80 : decode cX7_swaps 80 = .ok (.istore 6, 2) := by decide +kernel
theorem dX7_swaps_82 : decode cX7_swaps 82 = .ok (.iconst 0, 1) := by decide +kernel
theorem dX7_swaps_83 : decode cX7_swaps 83 = .ok (.istore 7, 2) := by decide +kernel
theorem dX7_swaps_85 : decode cX7_swaps 85 = .ok (.iload 7, 2) := by decide +kernel
theorem dX7_swaps_87 : decode cX7_swaps 87 = .ok (.iload_n 1, 1) := by decide +kernel
theorem dX7_swaps_88 : decode cX7_swaps 88 = .ok (.if_icmp .ge 40, 3) := by decide +kernel
theorem dX7_swaps_91 : decode cX7_swaps 91 = .ok (.aload_n 0, 1) := by decide +kernel
theorem dX7_swaps_92 : decode cX7_swaps 92 = .ok (.getfield 44, 3) := by decide +kernel
theorem dX7_swaps_95 : decode cX7_swaps 95 = .ok (.iload 7, 2) := by decide +kernel
theorem dX7_swaps_97 : decode cX7_swaps 97 = .ok (.iload 5, 2) := by decide +kernel
theorem dX7_swaps_99 : decode cX7_swaps 99 = .ok (.iload_n 1, 1) := by decide +kernel
theorem dX7_swaps_100 : decode cX7_swaps 100 = .ok (.irem, 1) := by decide +kernel
theorem dX7_swaps_101 : decode cX7_swaps 101 = .ok (.iastore, 1) := by decide +kernel
theorem dX7_swaps_102 : decode cX7_swaps 102 = .ok (.iload 5, 2) := by decide +kernel
theorem dX7_swaps_104 : decode cX7_swaps 104 = .ok (.iload_n 1, 1) := by decide +kernel
theorem dX7_swaps_105 : decode cX7_swaps 105 = .ok (.idiv, 1) := by decide +kernel
theorem dX7_swaps_106 : decode cX7_swaps 106 = .ok (.istore 5, 2) := by decide +kernel
theorem dX7_swaps_108 : decode cX7_swaps 108 = .ok (.iload 6, 2) := by decide +kernel
theorem dX7_swaps_110 : decode cX7_swaps 110 = .ok (.iconst 1, 1) := by decide +kernel
theorem dX7_swaps_111 : decode cX7_swaps 111 = .ok (.aload_n 0, 1) := by decide +kernel
theorem dX7_swaps_112 : decode cX7_swaps 112 = .ok (.getfield 44, 3) := by decide +kernel
theorem dX7_swaps_115 : decode cX7_swaps 115 = .ok (.iload 7, 2) := by decide +kernel
theorem dX7_swaps_117 : decode cX7_swaps 117 = .ok (.iaload, 1) := by decide +kernel
theorem dX7_swaps_118 : decode cX7_swaps 118 = .ok (.ishl, 1) := by decide +kernel
theorem dX7_swaps_119 : decode cX7_swaps 119 = .ok (.ior, 1) := by decide +kernel
theorem dX7_swaps_120 : decode cX7_swaps 120 = .ok (.istore 6, 2) := by decide +kernel
theorem dX7_swaps_122 : decode cX7_swaps 122 = .ok (.iinc 7 1, 3) := by decide +kernel
theorem dX7_swaps_125 : decode cX7_swaps 125 = .ok (.goto (-40), 3) := by decide +kernel
theorem dX7_swaps_128 : decode cX7_swaps 128 = .ok (.iload 6, 2) := by decide +kernel
theorem dX7_swaps_130 : decode cX7_swaps 130 = .ok (.iconst 1, 1) := by decide +kernel
theorem dX7_swaps_131 : decode cX7_swaps 131 = .ok (.iload_n 1, 1) := by decide +kernel
theorem dX7_swaps_132 : decode cX7_swaps 132 = .ok (.ishl, 1) := by decide +kernel
theorem dX7_swaps_133 : decode cX7_swaps 133 = .ok (.iconst 1, 1) := by decide +kernel
theorem dX7_swaps_134 : decode cX7_swaps 134 = .ok (.isub, 1) := by decide +kernel
theorem dX7_swaps_135 : decode cX7_swaps 135 = .ok (.if_icmp .ne 37, 3) := by decide +kernel
theorem dX7_swaps_138 : decode cX7_swaps 138 = .ok (.aload_n 0, 1) := by decide +kernel
theorem dX7_swaps_139 : decode cX7_swaps 139 = .ok (.iload_n 1, 1) := by decide +kernel
theorem dX7_swaps_140 : decode cX7_swaps 140 = .ok (.invokevirtual 156, 3) := by decide +kernel
theorem dX7_swaps_143 : decode cX7_swaps 143 = .ok (.ifCond .eq 29, 3) := by decide +kernel
theorem dX7_swaps_146 : decode cX7_swaps 146 = .ok (.aload_n 0, 1) := by decide +kernel
theorem dX7_swaps_147 : decode cX7_swaps 147 = .ok (.iload_n 1, 1) := by decide +kernel
theorem dX7_swaps_148 : decode cX7_swaps 148 = .ok (.invokevirtual 159, 3) := by decide +kernel
theorem dX7_swaps_151 : decode cX7_swaps 151 = .ok (.istore 7, 2) := by decide +kernel
theorem dX7_swaps_153 : decode cX7_swaps 153 = .ok (.iload_n 3, 1) := by decide +kernel
theorem dX7_swaps_154 : decode cX7_swaps 154 = .ok (.bipush (-9), 2) := by decide +kernel
theorem dX7_swaps_156 : decode cX7_swaps 156 = .ok (.if_icmp .eq 9, 3) := by decide +kernel
theorem dX7_swaps_159 : decode cX7_swaps 159 = .ok (.iload 7, 2) := by decide +kernel
theorem dX7_swaps_161 : decode cX7_swaps 161 = .ok (.iload_n 3, 1) := by decide +kernel
theorem dX7_swaps_162 : decode cX7_swaps 162 = .ok (.if_icmp .ge 8, 3) := by decide +kernel
theorem dX7_swaps_165 : decode cX7_swaps 165 = .ok (.iload 7, 2) := by decide +kernel
theorem dX7_swaps_167 : decode cX7_swaps 167 = .ok (.goto 4, 3) := by decide +kernel
theorem dX7_swaps_170 : decode cX7_swaps 170 = .ok (.iload_n 3, 1) := by decide +kernel
theorem dX7_swaps_171 : decode cX7_swaps 171 = .ok (.istore_n 3, 1) := by decide +kernel
theorem dX7_swaps_172 : decode cX7_swaps 172 = .ok (.iinc 4 1, 3) := by decide +kernel
theorem dX7_swaps_175 : decode cX7_swaps 175 = .ok (.goto (-106), 3) := by decide +kernel
theorem dX7_swaps_178 : decode cX7_swaps 178 = .ok (.iload_n 3, 1) := by decide +kernel
theorem dX7_swaps_179 : decode cX7_swaps 179 = .ok (.ireturn, 1) := by decide +kernel
theorem dX7_comesOut_0 : decode cX7_comesOut 0 = .ok (.iconst 1, 1) := by decide +kernel
theorem dX7_comesOut_1 : decode cX7_comesOut 1 = .ok (.istore_n 2, 1) := by decide +kernel
theorem dX7_comesOut_2 : decode cX7_comesOut 2 = .ok (.iconst 0, 1) := by decide +kernel
theorem dX7_comesOut_3 : decode cX7_comesOut 3 = .ok (.istore_n 3, 1) := by decide +kernel
theorem dX7_comesOut_4 : decode cX7_comesOut 4 = .ok (.iload_n 3, 1) := by decide +kernel
theorem dX7_comesOut_5 : decode cX7_comesOut 5 = .ok (.iload_n 1, 1) := by decide +kernel
theorem dX7_comesOut_6 : decode cX7_comesOut 6 = .ok (.if_icmp .ge 53, 3) := by decide +kernel
theorem dX7_comesOut_9 : decode cX7_comesOut 9 = .ok (.iload_n 2, 1) := by decide +kernel
theorem dX7_comesOut_10 : decode cX7_comesOut 10 = .ok (.ifCond .eq 49, 3) := by decide +kernel
theorem dX7_comesOut_13 : decode cX7_comesOut 13 = .ok (.aload_n 0, 1) := by decide +kernel
theorem dX7_comesOut_14 : decode cX7_comesOut 14 = .ok (.aload_n 0, 1) := by decide +kernel
theorem dX7_comesOut_15 : decode cX7_comesOut 15 = .ok (.getfield 41, 3) := by decide +kernel
theorem dX7_comesOut_18 : decode cX7_comesOut 18 = .ok (.aload_n 0, 1) := by decide +kernel
theorem dX7_comesOut_19 : decode cX7_comesOut 19 = .ok (.getfield 44, 3) := by decide +kernel
theorem dX7_comesOut_22 : decode cX7_comesOut 22 = .ok (.iload_n 3, 1) := by decide +kernel
theorem dX7_comesOut_23 : decode cX7_comesOut 23 = .ok (.iaload, 1) := by decide +kernel
theorem dX7_comesOut_24 : decode cX7_comesOut 24 = .ok (.iaload, 1) := by decide +kernel
theorem dX7_comesOut_25 : decode cX7_comesOut 25 = .ok (.bipush 9, 2) := by decide +kernel
theorem dX7_comesOut_27 : decode cX7_comesOut 27 = .ok (.invokevirtual 132, 3) := by decide +kernel
theorem dX7_comesOut_30 : decode cX7_comesOut 30 = .ok (.aload_n 0, 1) := by decide +kernel
theorem dX7_comesOut_31 : decode cX7_comesOut 31 = .ok (.getfield 19, 3) := by decide +kernel
theorem dX7_comesOut_34 : decode cX7_comesOut 34 = .ok (.bipush 49, 2) := by decide +kernel
theorem dX7_comesOut_36 : decode cX7_comesOut 36 = .ok (.aload_n 0, 1) := by decide +kernel
theorem dX7_comesOut_37 : decode cX7_comesOut 37 = .ok (.getfield 41, 3) := by decide +kernel
theorem dX7_comesOut_40 : decode cX7_comesOut 40 = .ok (.iload_n 3, 1) := by decide +kernel
theorem dX7_comesOut_41 : decode cX7_comesOut 41 = .ok (.iaload, 1) := by decide +kernel
theorem dX7_comesOut_42 : decode cX7_comesOut 42 = .ok (.iadd, 1) := by decide +kernel
theorem dX7_comesOut_43 : decode cX7_comesOut 43 = .ok (.iaload, 1) := by decide +kernel
theorem dX7_comesOut_44 : decode cX7_comesOut 44 = .ok (.if_icmp .ne 7, 3) := by decide +kernel
theorem dX7_comesOut_47 : decode cX7_comesOut 47 = .ok (.iconst 1, 1) := by decide +kernel
theorem dX7_comesOut_48 : decode cX7_comesOut 48 = .ok (.goto 4, 3) := by decide +kernel
theorem dX7_comesOut_51 : decode cX7_comesOut 51 = .ok (.iconst 0, 1) := by decide +kernel
theorem dX7_comesOut_52 : decode cX7_comesOut 52 = .ok (.istore_n 2, 1) := by decide +kernel
theorem dX7_comesOut_53 : decode cX7_comesOut 53 = .ok (.iinc 3 1, 3) := by decide +kernel
theorem dX7_comesOut_56 : decode cX7_comesOut 56 = .ok (.goto (-52), 3) := by decide +kernel
theorem dX7_comesOut_59 : decode cX7_comesOut 59 = .ok (.iload_n 2, 1) := by decide +kernel
theorem dX7_comesOut_60 : decode cX7_comesOut 60 = .ok (.ireturn, 1) := by decide +kernel
theorem dX7_rate_0 : decode cX7_rate 0 = .ok (.iload_n 1, 1) := by decide +kernel
theorem dX7_rate_1 : decode cX7_rate 1 = .ok (.iconst 0, 1) := by decide +kernel
theorem dX7_rate_2 : decode cX7_rate 2 = .ok (.iconst 5, 1) := by decide +kernel
theorem dX7_rate_3 : decode cX7_rate 3 = .ok (.invokestatic 54, 3) := by decide +kernel
theorem dX7_rate_6 : decode cX7_rate 6 = .ok (.ifCond .eq 11, 3) := by decide +kernel
theorem dX7_rate_9 : decode cX7_rate 9 = .ok (.aload_n 0, 1) := by decide +kernel
theorem dX7_rate_10 : decode cX7_rate 10 = .ok (.iload_n 2, 1) := by decide +kernel
theorem dX7_rate_11 : decode cX7_rate 11 = .ok (.invokevirtual 120, 3) := by decide +kernel
theorem dX7_rate_14 : decode cX7_rate 14 = .ok (.ifCond .ne 6, 3) := by decide +kernel
theorem dX7_rate_17 : decode cX7_rate 17 = .ok (.ldc 162, 2) := by decide +kernel
theorem dX7_rate_19 : decode cX7_rate 19 = .ok (.ireturn, 1) := by decide +kernel
theorem dX7_rate_20 : decode cX7_rate 20 = .ok (.aload_n 0, 1) := by decide +kernel
theorem dX7_rate_21 : decode cX7_rate 21 = .ok (.dup, 1) := by decide +kernel
theorem dX7_rate_22 : decode cX7_rate 22 = .ok (.getfield 163, 3) := by decide +kernel
theorem dX7_rate_25 : decode cX7_rate 25 = .ok (.iload_n 1, 1) := by decide +kernel
theorem dX7_rate_26 : decode cX7_rate 26 = .ok (.ifCond .ne 7, 3) := by decide +kernel
theorem dX7_rate_29 : decode cX7_rate 29 = .ok (.lconst 1, 1) := by decide +kernel
theorem dX7_rate_30 : decode cX7_rate 30 = .ok (.goto 50, 3) := by decide +kernel
theorem dX7_rate_33 : decode cX7_rate 33 = .ok (.iload_n 1, 1) := by decide +kernel
theorem dX7_rate_34 : decode cX7_rate 34 = .ok (.iconst 1, 1) := by decide +kernel
theorem dX7_rate_35 : decode cX7_rate 35 = .ok (.if_icmp .ne 9, 3) := by decide +kernel
theorem dX7_rate_38 : decode cX7_rate 38 = .ok (.ldc2_w 167, 3) := by decide +kernel
theorem dX7_rate_41 : decode cX7_rate 41 = .ok (.goto 39, 3) := by decide +kernel
theorem dX7_rate_44 : decode cX7_rate 44 = .ok (.iload_n 1, 1) := by decide +kernel
theorem dX7_rate_45 : decode cX7_rate 45 = .ok (.iconst 2, 1) := by decide +kernel
theorem dX7_rate_46 : decode cX7_rate 46 = .ok (.if_icmp .ne 9, 3) := by decide +kernel
theorem dX7_rate_49 : decode cX7_rate 49 = .ok (.ldc2_w 169, 3) := by decide +kernel
theorem dX7_rate_52 : decode cX7_rate 52 = .ok (.goto 28, 3) := by decide +kernel
theorem dX7_rate_55 : decode cX7_rate 55 = .ok (.iload_n 1, 1) := by decide +kernel
theorem dX7_rate_56 : decode cX7_rate 56 = .ok (.iconst 3, 1) := by decide +kernel
theorem dX7_rate_57 : decode cX7_rate 57 = .ok (.if_icmp .ne 9, 3) := by decide +kernel
theorem dX7_rate_60 : decode cX7_rate 60 = .ok (.ldc2_w 171, 3) := by decide +kernel
theorem dX7_rate_63 : decode cX7_rate 63 = .ok (.goto 17, 3) := by decide +kernel
theorem dX7_rate_66 : decode cX7_rate 66 = .ok (.iload_n 1, 1) := by decide +kernel
theorem dX7_rate_67 : decode cX7_rate 67 = .ok (.iconst 4, 1) := by decide +kernel
theorem dX7_rate_68 : decode cX7_rate 68 = .ok (.if_icmp .ne 9, 3) := by decide +kernel
theorem dX7_rate_71 : decode cX7_rate 71 = .ok (.ldc2_w 173, 3) := by decide +kernel
theorem dX7_rate_74 : decode cX7_rate 74 = .ok (.goto 6, 3) := by decide +kernel
theorem dX7_rate_77 : decode cX7_rate 77 = .ok (.ldc2_w 175, 3) := by decide +kernel
theorem dX7_rate_80 : decode cX7_rate 80 = .ok (.ladd, 1) := by decide +kernel
theorem dX7_rate_81 : decode cX7_rate 81 = .ok (.putfield 163, 3) := by decide +kernel
theorem dX7_rate_84 : decode cX7_rate 84 = .ok (.aload_n 0, 1) := by decide +kernel
theorem dX7_rate_85 : decode cX7_rate 85 = .ok (.getfield 13, 3) := by decide +kernel
theorem dX7_rate_88 : decode cX7_rate 88 = .ok (.iconst 4, 1) := by decide +kernel
theorem dX7_rate_89 : decode cX7_rate 89 = .ok (.iload_n 2, 1) := by decide +kernel
theorem dX7_rate_90 : decode cX7_rate 90 = .ok (.iadd, 1) := by decide +kernel
theorem dX7_rate_91 : decode cX7_rate 91 = .ok (.iaload, 1) := by decide +kernel
theorem dX7_rate_92 : decode cX7_rate 92 = .ok (.istore_n 3, 1) := by decide +kernel
theorem dX7_rate_93 : decode cX7_rate 93 = .ok (.iconst 0, 1) := by decide +kernel
theorem dX7_rate_94 : decode cX7_rate 94 = .ok (.istore 4, 2) := by decide +kernel
theorem dX7_rate_96 : decode cX7_rate 96 = .ok (.iload 4, 2) := by decide +kernel
theorem dX7_rate_98 : decode cX7_rate 98 = .ok (.bipush 10, 2) := by decide +kernel
theorem dX7_rate_100 : decode cX7_rate 100 = .ok (.if_icmp .ge 27, 3) := by decide +kernel
theorem dX7_rate_103 : decode cX7_rate 103 = .ok (.iload_n 3, 1) := by decide +kernel
theorem dX7_rate_104 : decode cX7_rate 104 = .ok (.aload_n 0, 1) := by decide +kernel
theorem dX7_rate_105 : decode cX7_rate 105 = .ok (.iload_n 2, 1) := by decide +kernel
theorem dX7_rate_106 : decode cX7_rate 106 = .ok (.iload 4, 2) := by decide +kernel
theorem dX7_rate_108 : decode cX7_rate 108 = .ok (.invokevirtual 126, 3) := by decide +kernel
theorem dX7_rate_111 : decode cX7_rate 111 = .ok (.ifCond .le 7, 3) := by decide +kernel
theorem dX7_rate_114 : decode cX7_rate 114 = .ok (.iconst 1, 1) := by decide +kernel
theorem dX7_rate_115 : decode cX7_rate 115 = .ok (.goto 4, 3) := by decide +kernel
theorem dX7_rate_118 : decode cX7_rate 118 = .ok (.iconst 0, 1) := by decide +kernel
theorem dX7_rate_119 : decode cX7_rate 119 = .ok (.iadd, 1) := by decide +kernel
theorem dX7_rate_120 : decode cX7_rate 120 = .ok (.istore_n 3, 1) := by decide +kernel
theorem dX7_rate_121 : decode cX7_rate 121 = .ok (.iinc 4 1, 3) := by decide +kernel
theorem dX7_rate_124 : decode cX7_rate 124 = .ok (.goto (-28), 3) := by decide +kernel
theorem dX7_rate_127 : decode cX7_rate 127 = .ok (.aload_n 0, 1) := by decide +kernel
theorem dX7_rate_128 : decode cX7_rate 128 = .ok (.getfield 13, 3) := by decide +kernel
theorem dX7_rate_131 : decode cX7_rate 131 = .ok (.iconst 4, 1) := by decide +kernel
theorem dX7_rate_132 : decode cX7_rate 132 = .ok (.iload_n 2, 1) := by decide +kernel
theorem dX7_rate_133 : decode cX7_rate 133 = .ok (.iadd, 1) := by decide +kernel
theorem dX7_rate_134 : decode cX7_rate 134 = .ok (.iaload, 1) := by decide +kernel
theorem dX7_rate_135 : decode cX7_rate 135 = .ok (.istore 4, 2) := by decide +kernel
theorem dX7_rate_137 : decode cX7_rate 137 = .ok (.iconst 0, 1) := by decide +kernel
theorem dX7_rate_138 : decode cX7_rate 138 = .ok (.istore 5, 2) := by decide +kernel
theorem dX7_rate_140 : decode cX7_rate 140 = .ok (.iload 5, 2) := by decide +kernel
theorem dX7_rate_142 : decode cX7_rate 142 = .ok (.aload_n 0, 1) := by decide +kernel
theorem dX7_rate_143 : decode cX7_rate 143 = .ok (.getfield 19, 3) := by decide +kernel
theorem dX7_rate_146 : decode cX7_rate 146 = .ok (.iconst 0, 1) := by decide +kernel
theorem dX7_rate_147 : decode cX7_rate 147 = .ok (.iaload, 1) := by decide +kernel
theorem dX7_rate_148 : decode cX7_rate 148 = .ok (.if_icmp .ge 33, 3) := by decide +kernel
theorem dX7_rate_151 : decode cX7_rate 151 = .ok (.iload 4, 2) := by decide +kernel
theorem dX7_rate_153 : decode cX7_rate 153 = .ok (.aload_n 0, 1) := by decide +kernel
theorem dX7_rate_154 : decode cX7_rate 154 = .ok (.getfield 19, 3) := by decide +kernel
theorem dX7_rate_157 : decode cX7_rate 157 = .ok (.bipush 13, 2) := by decide +kernel
theorem dX7_rate_159 : decode cX7_rate 159 = .ok (.iload 5, 2) := by decide +kernel
theorem dX7_rate_161 : decode cX7_rate 161 = .ok (.iadd, 1) := by decide +kernel
theorem dX7_rate_162 : decode cX7_rate 162 = .ok (.iaload, 1) := by decide +kernel
theorem dX7_rate_163 : decode cX7_rate 163 = .ok (.iload_n 2, 1) := by decide +kernel
theorem dX7_rate_164 : decode cX7_rate 164 = .ok (.if_icmp .ne 7, 3) := by decide +kernel
theorem dX7_rate_167 : decode cX7_rate 167 = .ok (.iconst 1, 1) := by decide +kernel
theorem dX7_rate_168 : decode cX7_rate 168 = .ok (.goto 4, 3) := by decide +kernel
theorem dX7_rate_171 : decode cX7_rate 171 = .ok (.iconst 0, 1) := by decide +kernel
theorem dX7_rate_172 : decode cX7_rate 172 = .ok (.isub, 1) := by decide +kernel
theorem dX7_rate_173 : decode cX7_rate 173 = .ok (.istore 4, 2) := by decide +kernel
theorem dX7_rate_175 : decode cX7_rate 175 = .ok (.iinc 5 1, 3) := by decide +kernel
theorem dX7_rate_178 : decode cX7_rate 178 = .ok (.goto (-38), 3) := by decide +kernel
theorem dX7_rate_181 : decode cX7_rate 181 = .ok (.iload_n 1, 1) := by decide +kernel
theorem dX7_rate_182 : decode cX7_rate 182 = .ok (.ifCond .ne 14, 3) := by decide +kernel
theorem dX7_rate_185 : decode cX7_rate 185 = .ok (.aload_n 0, 1) := by decide +kernel
theorem dX7_rate_186 : decode cX7_rate 186 = .ok (.getfield 13, 3) := by decide +kernel
theorem dX7_rate_189 : decode cX7_rate 189 = .ok (.iconst 4, 1) := by decide +kernel
theorem dX7_rate_190 : decode cX7_rate 190 = .ok (.iload_n 2, 1) := by decide +kernel
theorem dX7_rate_191 : decode cX7_rate 191 = .ok (.iadd, 1) := by decide +kernel
theorem dX7_rate_192 : decode cX7_rate 192 = .ok (.iaload, 1) := by decide +kernel
theorem dX7_rate_193 : decode cX7_rate 193 = .ok (.goto 61, 3) := by decide +kernel
theorem dX7_rate_196 : decode cX7_rate 196 = .ok (.iload_n 1, 1) := by decide +kernel
theorem dX7_rate_197 : decode cX7_rate 197 = .ok (.iconst 1, 1) := by decide +kernel
theorem dX7_rate_198 : decode cX7_rate 198 = .ok (.if_icmp .ne 7, 3) := by decide +kernel
theorem dX7_rate_201 : decode cX7_rate 201 = .ok (.iload_n 3, 1) := by decide +kernel
theorem dX7_rate_202 : decode cX7_rate 202 = .ok (.goto 52, 3) := by decide +kernel
theorem dX7_rate_205 : decode cX7_rate 205 = .ok (.iload_n 1, 1) := by decide +kernel
theorem dX7_rate_206 : decode cX7_rate 206 = .ok (.iconst 2, 1) := by decide +kernel
theorem dX7_rate_207 : decode cX7_rate 207 = .ok (.if_icmp .ne 8, 3) := by decide +kernel
theorem dX7_rate_210 : decode cX7_rate 210 = .ok (.iload 4, 2) := by decide +kernel
theorem dX7_rate_212 : decode cX7_rate 212 = .ok (.goto 42, 3) := by decide +kernel
theorem dX7_rate_215 : decode cX7_rate 215 = .ok (.iload_n 1, 1) := by decide +kernel
theorem dX7_rate_216 : decode cX7_rate 216 = .ok (.iconst 3, 1) := by decide +kernel
theorem dX7_rate_217 : decode cX7_rate 217 = .ok (.if_icmp .ne 9, 3) := by decide +kernel
theorem dX7_rate_220 : decode cX7_rate 220 = .ok (.iconst 2, 1) := by decide +kernel
theorem dX7_rate_221 : decode cX7_rate 221 = .ok (.iload_n 3, 1) := by decide +kernel
theorem dX7_rate_222 : decode cX7_rate 222 = .ok (.imul, 1) := by decide +kernel
theorem dX7_rate_223 : decode cX7_rate 223 = .ok (.goto 31, 3) := by decide +kernel
theorem dX7_rate_226 : decode cX7_rate 226 = .ok (.iload_n 1, 1) := by decide +kernel
theorem dX7_rate_227 : decode cX7_rate 227 = .ok (.iconst 4, 1) := by decide +kernel
theorem dX7_rate_228 : decode cX7_rate 228 = .ok (.if_icmp .ne 10, 3) := by decide +kernel
theorem dX7_rate_231 : decode cX7_rate 231 = .ok (.iload 4, 2) := by decide +kernel
theorem dX7_rate_233 : decode cX7_rate 233 = .ok (.iload_n 2, 1) := by decide +kernel
theorem dX7_rate_234 : decode cX7_rate 234 = .ok (.iadd, 1) := by decide +kernel
theorem dX7_rate_235 : decode cX7_rate 235 = .ok (.goto 19, 3) := by decide +kernel
theorem dX7_rate_238 : decode cX7_rate 238 = .ok (.aload_n 0, 1) := by decide +kernel
theorem dX7_rate_239 : decode cX7_rate 239 = .ok (.getfield 13, 3) := by decide +kernel
theorem dX7_rate_242 : decode cX7_rate 242 = .ok (.iconst 4, 1) := by decide +kernel
theorem dX7_rate_243 : decode cX7_rate 243 = .ok (.iload_n 2, 1) := by decide +kernel
theorem dX7_rate_244 : decode cX7_rate 244 = .ok (.iadd, 1) := by decide +kernel
theorem dX7_rate_245 : decode cX7_rate 245 = .ok (.iaload, 1) := by decide +kernel
theorem dX7_rate_246 : decode cX7_rate 246 = .ok (.aload_n 0, 1) := by decide +kernel
theorem dX7_rate_247 : decode cX7_rate 247 = .ok (.iload_n 2, 1) := by decide +kernel
theorem dX7_rate_248 : decode cX7_rate 248 = .ok (.bipush 9, 2) := by decide +kernel
theorem dX7_rate_250 : decode cX7_rate 250 = .ok (.invokevirtual 132, 3) := by decide +kernel
theorem dX7_rate_253 : decode cX7_rate 253 = .ok (.iadd, 1) := by decide +kernel
theorem dX7_rate_254 : decode cX7_rate 254 = .ok (.ireturn, 1) := by decide +kernel
theorem dX7_keep_0 : decode cX7_keep 0 = .ok (.iload_n 1, 1) := by decide +kernel
theorem dX7_keep_1 : decode cX7_keep 1 = .ok (.iconst 0, 1) := by decide +kernel
theorem dX7_keep_2 : decode cX7_keep 2 = .ok (.iconst 1, 1) := by decide +kernel
theorem dX7_keep_3 : decode cX7_keep 3 = .ok (.invokestatic 54, 3) := by decide +kernel
theorem dX7_keep_6 : decode cX7_keep 6 = .ok (.ifCond .ne 5, 3) := by decide +kernel
theorem dX7_keep_9 : decode cX7_keep 9 = .ok (.iconst (-1), 1) := by decide +kernel
theorem dX7_keep_10 : decode cX7_keep 10 = .ok (.ireturn, 1) := by decide +kernel
theorem dX7_keep_11 : decode cX7_keep 11 = .ok (.iconst 0, 1) := by decide +kernel
theorem dX7_keep_12 : decode cX7_keep 12 = .ok (.istore_n 2, 1) := by decide +kernel
theorem dX7_keep_13 : decode cX7_keep 13 = .ok (.iload_n 2, 1) := by decide +kernel
theorem dX7_keep_14 : decode cX7_keep 14 = .ok (.bipush 55, 2) := by decide +kernel
theorem dX7_keep_16 : decode cX7_keep 16 = .ok (.if_icmp .ge 26, 3) := by decide +kernel
theorem dX7_keep_19 : decode cX7_keep 19 = .ok (.aload_n 0, 1) := by decide +kernel
theorem dX7_keep_20 : decode cX7_keep 20 = .ok (.getfield 22, 3) := by decide +kernel
theorem dX7_keep_23 : decode cX7_keep 23 = .ok (.bipush 55, 2) := by decide +kernel
theorem dX7_keep_25 : decode cX7_keep 25 = .ok (.iload_n 1, 1) := by decide +kernel
theorem dX7_keep_26 : decode cX7_keep 26 = .ok (.imul, 1) := by decide +kernel
theorem dX7_keep_27 : decode cX7_keep 27 = .ok (.iload_n 2, 1) := by decide +kernel
theorem dX7_keep_28 : decode cX7_keep 28 = .ok (.iadd, 1) := by decide +kernel
theorem dX7_keep_29 : decode cX7_keep 29 = .ok (.aload_n 0, 1) := by decide +kernel
theorem dX7_keep_30 : decode cX7_keep 30 = .ok (.getfield 19, 3) := by decide +kernel
theorem dX7_keep_33 : decode cX7_keep 33 = .ok (.iload_n 2, 1) := by decide +kernel
theorem dX7_keep_34 : decode cX7_keep 34 = .ok (.iaload, 1) := by decide +kernel
theorem dX7_keep_35 : decode cX7_keep 35 = .ok (.iastore, 1) := by decide +kernel
theorem dX7_keep_36 : decode cX7_keep 36 = .ok (.iinc 2 1, 3) := by decide +kernel
theorem dX7_keep_39 : decode cX7_keep 39 = .ok (.goto (-26), 3) := by decide +kernel
theorem dX7_keep_42 : decode cX7_keep 42 = .ok (.aload_n 0, 1) := by decide +kernel
theorem dX7_keep_43 : decode cX7_keep 43 = .ok (.getfield 25, 3) := by decide +kernel
theorem dX7_keep_46 : decode cX7_keep 46 = .ok (.iload_n 1, 1) := by decide +kernel
theorem dX7_keep_47 : decode cX7_keep 47 = .ok (.iconst 1, 1) := by decide +kernel
theorem dX7_keep_48 : decode cX7_keep 48 = .ok (.bastore, 1) := by decide +kernel
theorem dX7_keep_49 : decode cX7_keep 49 = .ok (.aload_n 0, 1) := by decide +kernel
theorem dX7_keep_50 : decode cX7_keep 50 = .ok (.getfield 19, 3) := by decide +kernel
theorem dX7_keep_53 : decode cX7_keep 53 = .ok (.iconst 0, 1) := by decide +kernel
theorem dX7_keep_54 : decode cX7_keep 54 = .ok (.iaload, 1) := by decide +kernel
theorem dX7_keep_55 : decode cX7_keep 55 = .ok (.ireturn, 1) := by decide +kernel
theorem dX7_back_0 : decode cX7_back 0 = .ok (.iload_n 1, 1) := by decide +kernel
theorem dX7_back_1 : decode cX7_back 1 = .ok (.iconst 0, 1) := by decide +kernel
theorem dX7_back_2 : decode cX7_back 2 = .ok (.iconst 1, 1) := by decide +kernel
theorem dX7_back_3 : decode cX7_back 3 = .ok (.invokestatic 54, 3) := by decide +kernel
theorem dX7_back_6 : decode cX7_back 6 = .ok (.ifCond .ne 5, 3) := by decide +kernel
theorem dX7_back_9 : decode cX7_back 9 = .ok (.iconst (-1), 1) := by decide +kernel
theorem dX7_back_10 : decode cX7_back 10 = .ok (.ireturn, 1) := by decide +kernel
theorem dX7_back_11 : decode cX7_back 11 = .ok (.aload_n 0, 1) := by decide +kernel
theorem dX7_back_12 : decode cX7_back 12 = .ok (.getfield 25, 3) := by decide +kernel
theorem dX7_back_15 : decode cX7_back 15 = .ok (.iload_n 1, 1) := by decide +kernel
theorem dX7_back_16 : decode cX7_back 16 = .ok (.baload, 1) := by decide +kernel
theorem dX7_back_17 : decode cX7_back 17 = .ok (.ifCond .ne 6, 3) := by decide +kernel
theorem dX7_back_20 : decode cX7_back 20 = .ok (.bipush (-2), 2) := by decide +kernel
theorem dX7_back_22 : decode cX7_back 22 = .ok (.ireturn, 1) := by decide +kernel
theorem dX7_back_23 : decode cX7_back 23 = .ok (.iconst 0, 1) := by decide +kernel
theorem dX7_back_24 : decode cX7_back 24 = .ok (.istore_n 2, 1) := by decide +kernel
theorem dX7_back_25 : decode cX7_back 25 = .ok (.iload_n 2, 1) := by decide +kernel
theorem dX7_back_26 : decode cX7_back 26 = .ok (.bipush 55, 2) := by decide +kernel
theorem dX7_back_28 : decode cX7_back 28 = .ok (.if_icmp .ge 26, 3) := by decide +kernel
theorem dX7_back_31 : decode cX7_back 31 = .ok (.aload_n 0, 1) := by decide +kernel
theorem dX7_back_32 : decode cX7_back 32 = .ok (.getfield 19, 3) := by decide +kernel
theorem dX7_back_35 : decode cX7_back 35 = .ok (.iload_n 2, 1) := by decide +kernel
theorem dX7_back_36 : decode cX7_back 36 = .ok (.aload_n 0, 1) := by decide +kernel
theorem dX7_back_37 : decode cX7_back 37 = .ok (.getfield 22, 3) := by decide +kernel
theorem dX7_back_40 : decode cX7_back 40 = .ok (.bipush 55, 2) := by decide +kernel
theorem dX7_back_42 : decode cX7_back 42 = .ok (.iload_n 1, 1) := by decide +kernel
theorem dX7_back_43 : decode cX7_back 43 = .ok (.imul, 1) := by decide +kernel
theorem dX7_back_44 : decode cX7_back 44 = .ok (.iload_n 2, 1) := by decide +kernel
theorem dX7_back_45 : decode cX7_back 45 = .ok (.iadd, 1) := by decide +kernel
theorem dX7_back_46 : decode cX7_back 46 = .ok (.iaload, 1) := by decide +kernel
theorem dX7_back_47 : decode cX7_back 47 = .ok (.iastore, 1) := by decide +kernel
theorem dX7_back_48 : decode cX7_back 48 = .ok (.iinc 2 1, 3) := by decide +kernel
theorem dX7_back_51 : decode cX7_back 51 = .ok (.goto (-26), 3) := by decide +kernel
theorem dX7_back_54 : decode cX7_back 54 = .ok (.aload_n 0, 1) := by decide +kernel
theorem dX7_back_55 : decode cX7_back 55 = .ok (.getfield 19, 3) := by decide +kernel
theorem dX7_back_58 : decode cX7_back 58 = .ok (.iconst 0, 1) := by decide +kernel
theorem dX7_back_59 : decode cX7_back 59 = .ok (.iaload, 1) := by decide +kernel
theorem dX7_back_60 : decode cX7_back 60 = .ok (.ireturn, 1) := by decide +kernel
theorem dX7_count_0 : decode cX7_count 0 = .ok (.iload_n 1, 1) := by decide +kernel
theorem dX7_count_1 : decode cX7_count 1 = .ok (.iconst 0, 1) := by decide +kernel
theorem dX7_count_2 : decode cX7_count 2 = .ok (.iconst 5, 1) := by decide +kernel
theorem dX7_count_3 : decode cX7_count 3 = .ok (.invokestatic 54, 3) := by decide +kernel
theorem dX7_count_6 : decode cX7_count 6 = .ok (.ifCond .ne 5, 3) := by decide +kernel
theorem dX7_count_9 : decode cX7_count 9 = .ok (.iconst (-1), 1) := by decide +kernel
theorem dX7_count_10 : decode cX7_count 10 = .ok (.ireturn, 1) := by decide +kernel
theorem dX7_count_11 : decode cX7_count 11 = .ok (.iconst 0, 1) := by decide +kernel
theorem dX7_count_12 : decode cX7_count 12 = .ok (.istore_n 2, 1) := by decide +kernel
theorem dX7_count_13 : decode cX7_count 13 = .ok (.iconst 0, 1) := by decide +kernel
theorem dX7_count_14 : decode cX7_count 14 = .ok (.istore_n 3, 1) := by decide +kernel
theorem dX7_count_15 : decode cX7_count 15 = .ok (.iload_n 3, 1) := by decide +kernel
theorem dX7_count_16 : decode cX7_count 16 = .ok (.aload_n 0, 1) := by decide +kernel
theorem dX7_count_17 : decode cX7_count 17 = .ok (.getfield 13, 3) := by decide +kernel
theorem dX7_count_20 : decode cX7_count 20 = .ok (.iconst 0, 1) := by decide +kernel
theorem dX7_count_21 : decode cX7_count 21 = .ok (.iaload, 1) := by decide +kernel
theorem dX7_count_22 : decode cX7_count 22 = .ok (.if_icmp .ge 36, 3) := by decide +kernel
theorem dX7_count_25 : decode cX7_count 25 = .ok (.iload_n 1, 1) := by decide +kernel
theorem dX7_count_26 : decode cX7_count 26 = .ok (.iconst 4, 1) := by decide +kernel
theorem dX7_count_27 : decode cX7_count 27 = .ok (.if_icmp .ne 31, 3) := by decide +kernel
theorem dX7_count_30 : decode cX7_count 30 = .ok (.iload_n 2, 1) := by decide +kernel
theorem dX7_count_31 : decode cX7_count 31 = .ok (.aload_n 0, 1) := by decide +kernel
theorem dX7_count_32 : decode cX7_count 32 = .ok (.getfield 19, 3) := by decide +kernel
theorem dX7_count_35 : decode cX7_count 35 = .ok (.bipush 49, 2) := by decide +kernel
theorem dX7_count_37 : decode cX7_count 37 = .ok (.iload_n 3, 1) := by decide +kernel
theorem dX7_count_38 : decode cX7_count 38 = .ok (.iadd, 1) := by decide +kernel
theorem dX7_count_39 : decode cX7_count 39 = .ok (.iaload, 1) := by decide +kernel
theorem dX7_count_40 : decode cX7_count 40 = .ok (.bipush (-9), 2) := by decide +kernel
theorem dX7_count_42 : decode cX7_count 42 = .ok (.if_icmp .ne 7, 3) := by decide +kernel
theorem dX7_count_45 : decode cX7_count 45 = .ok (.iconst 0, 1) := by decide +kernel
theorem dX7_count_46 : decode cX7_count 46 = .ok (.goto 4, 3) := by decide +kernel
theorem dX7_count_49 : decode cX7_count 49 = .ok (.iconst 1, 1) := by decide +kernel
theorem dX7_count_50 : decode cX7_count 50 = .ok (.iadd, 1) := by decide +kernel
theorem dX7_count_51 : decode cX7_count 51 = .ok (.istore_n 2, 1) := by decide +kernel
theorem dX7_count_52 : decode cX7_count 52 = .ok (.iinc 3 1, 3) := by decide +kernel
theorem dX7_count_55 : decode cX7_count 55 = .ok (.goto (-40), 3) := by decide +kernel
theorem dX7_count_58 : decode cX7_count 58 = .ok (.iload_n 1, 1) := by decide +kernel
theorem dX7_count_59 : decode cX7_count 59 = .ok (.iconst 3, 1) := by decide +kernel
theorem dX7_count_60 : decode cX7_count 60 = .ok (.if_icmp .ge 12, 3) := by decide +kernel
theorem dX7_count_63 : decode cX7_count 63 = .ok (.aload_n 0, 1) := by decide +kernel
theorem dX7_count_64 : decode cX7_count 64 = .ok (.getfield 13, 3) := by decide +kernel
theorem dX7_count_67 : decode cX7_count 67 = .ok (.iload_n 1, 1) := by decide +kernel
theorem dX7_count_68 : decode cX7_count 68 = .ok (.iaload, 1) := by decide +kernel
theorem dX7_count_69 : decode cX7_count 69 = .ok (.goto 30, 3) := by decide +kernel
theorem dX7_count_72 : decode cX7_count 72 = .ok (.iload_n 1, 1) := by decide +kernel
theorem dX7_count_73 : decode cX7_count 73 = .ok (.iconst 3, 1) := by decide +kernel
theorem dX7_count_74 : decode cX7_count 74 = .ok (.if_icmp .ne 12, 3) := by decide +kernel
theorem dX7_count_77 : decode cX7_count 77 = .ok (.aload_n 0, 1) := by decide +kernel
theorem dX7_count_78 : decode cX7_count 78 = .ok (.getfield 19, 3) := by decide +kernel
theorem dX7_count_81 : decode cX7_count 81 = .ok (.iconst 0, 1) := by decide +kernel
theorem dX7_count_82 : decode cX7_count 82 = .ok (.iaload, 1) := by decide +kernel
theorem dX7_count_83 : decode cX7_count 83 = .ok (.goto 16, 3) := by decide +kernel
theorem dX7_count_86 : decode cX7_count 86 = .ok (.iload_n 1, 1) := by decide +kernel
theorem dX7_count_87 : decode cX7_count 87 = .ok (.iconst 4, 1) := by decide +kernel
theorem dX7_count_88 : decode cX7_count 88 = .ok (.if_icmp .ne 7, 3) := by decide +kernel
theorem dX7_count_91 : decode cX7_count 91 = .ok (.iload_n 2, 1) := by decide +kernel
theorem dX7_count_92 : decode cX7_count 92 = .ok (.goto 7, 3) := by decide +kernel
theorem dX7_count_95 : decode cX7_count 95 = .ok (.aload_n 0, 1) := by decide +kernel
theorem dX7_count_96 : decode cX7_count 96 = .ok (.getfield 58, 3) := by decide +kernel
theorem dX7_count_99 : decode cX7_count 99 = .ok (.ireturn, 1) := by decide +kernel
theorem dX7_trace_0 : decode cX7_trace 0 = .ok (.aload_n 0, 1) := by decide +kernel
theorem dX7_trace_1 : decode cX7_trace 1 = .ok (.getfield 163, 3) := by decide +kernel
theorem dX7_trace_4 : decode cX7_trace 4 = .ok (.lreturn, 1) := by decide +kernel
theorem dJ9_max_7cf53_0 : decode cJ9_max_7cf53 0 = .ok (.iload_n 0, 1) := by decide +kernel
theorem dJ9_max_7cf53_1 : decode cJ9_max_7cf53 1 = .ok (.iload_n 1, 1) := by decide +kernel
theorem dJ9_max_7cf53_2 : decode cJ9_max_7cf53 2 = .ok (.if_icmp .lt 7, 3) := by decide +kernel
theorem dJ9_max_7cf53_5 : decode cJ9_max_7cf53 5 = .ok (.iload_n 0, 1) := by decide +kernel
theorem dJ9_max_7cf53_6 : decode cJ9_max_7cf53 6 = .ok (.goto 4, 3) := by decide +kernel
theorem dJ9_max_7cf53_9 : decode cJ9_max_7cf53 9 = .ok (.iload_n 1, 1) := by decide +kernel
theorem dJ9_max_7cf53_10 : decode cJ9_max_7cf53 10 = .ok (.ireturn, 1) := by decide +kernel
theorem dJ9_min_7cf53_0 : decode cJ9_min_7cf53 0 = .ok (.iload_n 0, 1) := by decide +kernel
theorem dJ9_min_7cf53_1 : decode cJ9_min_7cf53 1 = .ok (.iload_n 1, 1) := by decide +kernel
theorem dJ9_min_7cf53_2 : decode cJ9_min_7cf53 2 = .ok (.if_icmp .gt 7, 3) := by decide +kernel
theorem dJ9_min_7cf53_5 : decode cJ9_min_7cf53 5 = .ok (.iload_n 0, 1) := by decide +kernel
theorem dJ9_min_7cf53_6 : decode cJ9_min_7cf53 6 = .ok (.goto 4, 3) := by decide +kernel
theorem dJ9_min_7cf53_9 : decode cJ9_min_7cf53 9 = .ok (.iload_n 1, 1) := by decide +kernel
theorem dJ9_min_7cf53_10 : decode cJ9_min_7cf53 10 = .ok (.ireturn, 1) := by decide +kernel
theorem dJ0_length_8abf5_0 : decode cJ0_length_8abf5 0 = .ok (.aload_n 0, 1) := by decide +kernel
theorem dJ0_length_8abf5_1 : decode cJ0_length_8abf5 1 = .ok (.getfield 9, 3) := by decide +kernel
theorem dJ0_length_8abf5_4 : decode cJ0_length_8abf5 4 = .ok (.arraylength, 1) := by decide +kernel
theorem dJ0_length_8abf5_5 : decode cJ0_length_8abf5 5 = .ok (.aload_n 0, 1) := by decide +kernel
theorem dJ0_length_8abf5_6 : decode cJ0_length_8abf5 6 = .ok (.invokevirtual 335, 3) := by decide +kernel
theorem dJ0_length_8abf5_9 : decode cJ0_length_8abf5 9 = .ok (.ishr, 1) := by decide +kernel
theorem dJ0_length_8abf5_10 : decode cJ0_length_8abf5 10 = .ok (.ireturn, 1) := by decide +kernel
theorem dJ0_charAt_5068e_0 : decode cJ0_charAt_5068e 0 = .ok (.aload_n 0, 1) := by decide +kernel
theorem dJ0_charAt_5068e_1 : decode cJ0_charAt_5068e 1 = .ok (.invokevirtual 492, 3) := by decide +kernel
theorem dJ0_charAt_5068e_4 : decode cJ0_charAt_5068e 4 = .ok (.ifCond .eq 12, 3) := by decide +kernel
theorem dJ0_charAt_5068e_7 : decode cJ0_charAt_5068e 7 = .ok (.aload_n 0, 1) := by decide +kernel
theorem dJ0_charAt_5068e_8 : decode cJ0_charAt_5068e 8 = .ok (.getfield 9, 3) := by decide +kernel
theorem dJ0_charAt_5068e_11 : decode cJ0_charAt_5068e 11 = .ok (.iload_n 1, 1) := by decide +kernel
theorem dJ0_charAt_5068e_12 : decode cJ0_charAt_5068e 12 = .ok (.invokestatic 495, 3) := by decide +kernel
theorem dJ0_charAt_5068e_15 : decode cJ0_charAt_5068e 15 = .ok (.ireturn, 1) := by decide +kernel
theorem dJ0_charAt_5068e_16 : decode cJ0_charAt_5068e 16 = .ok (.aload_n 0, 1) := by decide +kernel
theorem dJ0_charAt_5068e_17 : decode cJ0_charAt_5068e 17 = .ok (.getfield 9, 3) := by decide +kernel
theorem dJ0_charAt_5068e_20 : decode cJ0_charAt_5068e 20 = .ok (.iload_n 1, 1) := by decide +kernel
theorem dJ0_charAt_5068e_21 : decode cJ0_charAt_5068e 21 = .ok (.invokestatic 498, 3) := by decide +kernel
theorem dJ0_charAt_5068e_24 : decode cJ0_charAt_5068e 24 = .ok (.ireturn, 1) := by decide +kernel
theorem dJ0_coder_7d493_0 : decode cJ0_coder_7d493 0 = .ok (.getstatic 38, 3) := by decide +kernel
theorem dJ0_coder_7d493_3 : decode cJ0_coder_7d493 3 = .ok (.ifCond .eq 10, 3) := by decide +kernel
theorem dJ0_coder_7d493_6 : decode cJ0_coder_7d493 6 = .ok (.aload_n 0, 1) := by decide +kernel
theorem dJ0_coder_7d493_7 : decode cJ0_coder_7d493 7 = .ok (.getfield 15, 3) := by decide +kernel
theorem dJ0_coder_7d493_10 : decode cJ0_coder_7d493 10 = .ok (.goto 4, 3) := by decide +kernel
theorem dJ0_coder_7d493_13 : decode cJ0_coder_7d493 13 = .ok (.iconst 1, 1) := by decide +kernel
theorem dJ0_coder_7d493_14 : decode cJ0_coder_7d493 14 = .ok (.ireturn, 1) := by decide +kernel
theorem dJ0_isLatin1_aae02_0 : decode cJ0_isLatin1_aae02 0 = .ok (.getstatic 38, 3) := by decide +kernel
theorem dJ0_isLatin1_aae02_3 : decode cJ0_isLatin1_aae02 3 = .ok (.ifCond .eq 14, 3) := by decide +kernel
theorem dJ0_isLatin1_aae02_6 : decode cJ0_isLatin1_aae02 6 = .ok (.aload_n 0, 1) := by decide +kernel
theorem dJ0_isLatin1_aae02_7 : decode cJ0_isLatin1_aae02 7 = .ok (.getfield 15, 3) := by decide +kernel
theorem dJ0_isLatin1_aae02_10 : decode cJ0_isLatin1_aae02 10 = .ok (.ifCond .ne 7, 3) := by decide +kernel
theorem dJ0_isLatin1_aae02_13 : decode cJ0_isLatin1_aae02 13 = .ok (.iconst 1, 1) := by decide +kernel
theorem dJ0_isLatin1_aae02_14 : decode cJ0_isLatin1_aae02 14 = .ok (.goto 4, 3) := by decide +kernel
theorem dJ0_isLatin1_aae02_17 : decode cJ0_isLatin1_aae02 17 = .ok (.iconst 0, 1) := by decide +kernel
theorem dJ0_isLatin1_aae02_18 : decode cJ0_isLatin1_aae02 18 = .ok (.ireturn, 1) := by decide +kernel
theorem dJ0_checkIndex_df160_0 : decode cJ0_checkIndex_df160 0 = .ok (.iload_n 0, 1) := by decide +kernel
theorem dJ0_checkIndex_df160_1 : decode cJ0_checkIndex_df160 1 = .ok (.iload_n 1, 1) := by decide +kernel
theorem dJ0_checkIndex_df160_2 : decode cJ0_checkIndex_df160 2 = .ok (.getstatic 1053, 3) := by decide +kernel
theorem dJ0_checkIndex_df160_5 : decode cJ0_checkIndex_df160 5 = .ok (.invokestatic 1059, 3) := by decide +kernel
theorem dJ0_checkIndex_df160_8 : decode cJ0_checkIndex_df160 8 = .ok (.pop, 1) := by decide +kernel
theorem dJ0_checkIndex_df160_9 : decode cJ0_checkIndex_df160 9 = .ok (.return_, 1) := by decide +kernel
theorem dJ1_charAt_3b067_0 : decode cJ1_charAt_3b067 0 = .ok (.iload_n 1, 1) := by decide +kernel
theorem dJ1_charAt_3b067_1 : decode cJ1_charAt_3b067 1 = .ok (.aload_n 0, 1) := by decide +kernel
theorem dJ1_charAt_3b067_2 : decode cJ1_charAt_3b067 2 = .ok (.arraylength, 1) := by decide +kernel
theorem dJ1_charAt_3b067_3 : decode cJ1_charAt_3b067 3 = .ok (.invokestatic 9, 3) := by decide +kernel
theorem dJ1_charAt_3b067_6 : decode cJ1_charAt_3b067 6 = .ok (.aload_n 0, 1) := by decide +kernel
theorem dJ1_charAt_3b067_7 : decode cJ1_charAt_3b067 7 = .ok (.iload_n 1, 1) := by decide +kernel
theorem dJ1_charAt_3b067_8 : decode cJ1_charAt_3b067 8 = .ok (.baload, 1) := by decide +kernel
theorem dJ1_charAt_3b067_9 : decode cJ1_charAt_3b067 9 = .ok (.sipush 255, 3) := by decide +kernel
theorem dJ1_charAt_3b067_12 : decode cJ1_charAt_3b067 12 = .ok (.iand, 1) := by decide +kernel
theorem dJ1_charAt_3b067_13 : decode cJ1_charAt_3b067 13 = .ok (.i2c, 1) := by decide +kernel
theorem dJ1_charAt_3b067_14 : decode cJ1_charAt_3b067 14 = .ok (.ireturn, 1) := by decide +kernel
theorem dJ2_getChar_3b067_0 : decode cJ2_getChar_3b067 0 = .ok (.getstatic 44, 3) := by decide +kernel
theorem dJ2_getChar_3b067_3 : decode cJ2_getChar_3b067 3 = .ok (.ifCond .ne 25, 3) := by decide +kernel
theorem dJ2_getChar_3b067_6 : decode cJ2_getChar_3b067 6 = .ok (.iload_n 1, 1) := by decide +kernel
theorem dJ2_getChar_3b067_7 : decode cJ2_getChar_3b067 7 = .ok (.ifCond .lt 11, 3) := by decide +kernel
theorem dJ2_getChar_3b067_10 : decode cJ2_getChar_3b067 10 = .ok (.iload_n 1, 1) := by decide +kernel
theorem dJ2_getChar_3b067_11 : decode cJ2_getChar_3b067 11 = .ok (.aload_n 0, 1) := by decide +kernel
theorem dJ2_getChar_3b067_12 : decode cJ2_getChar_3b067 12 = .ok (.invokestatic 48, 3) := by decide +kernel
theorem dJ2_getChar_3b067_15 : decode cJ2_getChar_3b067 15 = .ok (.if_icmp .lt 13, 3) := by decide +kernel
theorem dJ2_getChar_3b067_18 : decode cJ2_getChar_3b067 18 = .ok (.new 52, 3) := by decide +kernel
theorem dJ2_getChar_3b067_21 : decode cJ2_getChar_3b067 21 = .ok (.dup, 1) := by decide +kernel
theorem dJ2_getChar_3b067_22 : decode cJ2_getChar_3b067 22 = .ok (.ldc 54, 2) := by decide +kernel
theorem dJ2_getChar_3b067_24 : decode cJ2_getChar_3b067 24 = .ok (.invokespecial 56, 3) := by decide +kernel
theorem dJ2_getChar_3b067_27 : decode cJ2_getChar_3b067 27 = .ok (.athrow, 1) := by decide +kernel
theorem dJ2_getChar_3b067_28 : decode cJ2_getChar_3b067 28 = .ok (.iload_n 1, 1) := by decide +kernel
theorem dJ2_getChar_3b067_29 : decode cJ2_getChar_3b067 29 = .ok (.iconst 1, 1) := by decide +kernel
theorem dJ2_getChar_3b067_30 : decode cJ2_getChar_3b067 30 = .ok (.ishl, 1) := by decide +kernel
theorem dJ2_getChar_3b067_31 : decode cJ2_getChar_3b067 31 = .ok (.istore_n 1, 1) := by decide +kernel
theorem dJ2_getChar_3b067_32 : decode cJ2_getChar_3b067 32 = .ok (.aload_n 0, 1) := by decide +kernel
theorem dJ2_getChar_3b067_33 : decode cJ2_getChar_3b067 33 = .ok (.iload_n 1, 1) := by decide +kernel
theorem dJ2_getChar_3b067_34 : decode cJ2_getChar_3b067 34 = .ok (.iinc 1 1, 3) := by decide +kernel
theorem dJ2_getChar_3b067_37 : decode cJ2_getChar_3b067 37 = .ok (.baload, 1) := by decide +kernel
theorem dJ2_getChar_3b067_38 : decode cJ2_getChar_3b067 38 = .ok (.sipush 255, 3) := by decide +kernel
theorem dJ2_getChar_3b067_41 : decode cJ2_getChar_3b067 41 = .ok (.iand, 1) := by decide +kernel
theorem dJ2_getChar_3b067_42 : decode cJ2_getChar_3b067 42 = .ok (.getstatic 59, 3) := by decide +kernel
theorem dJ2_getChar_3b067_45 : decode cJ2_getChar_3b067 45 = .ok (.ishl, 1) := by decide +kernel
theorem dJ2_getChar_3b067_46 : decode cJ2_getChar_3b067 46 = .ok (.aload_n 0, 1) := by decide +kernel
theorem dJ2_getChar_3b067_47 : decode cJ2_getChar_3b067 47 = .ok (.iload_n 1, 1) := by decide +kernel
theorem dJ2_getChar_3b067_48 : decode cJ2_getChar_3b067 48 = .ok (.baload, 1) := by decide +kernel
theorem dJ2_getChar_3b067_49 : decode cJ2_getChar_3b067 49 = .ok (.sipush 255, 3) := by decide +kernel
theorem dJ2_getChar_3b067_52 : decode cJ2_getChar_3b067 52 = .ok (.iand, 1) := by decide +kernel
theorem dJ2_getChar_3b067_53 : decode cJ2_getChar_3b067 53 = .ok (.getstatic 63, 3) := by decide +kernel
theorem dJ2_getChar_3b067_56 : decode cJ2_getChar_3b067 56 = .ok (.ishl, 1) := by decide +kernel
theorem dJ2_getChar_3b067_57 : decode cJ2_getChar_3b067 57 = .ok (.ior, 1) := by decide +kernel
theorem dJ2_getChar_3b067_58 : decode cJ2_getChar_3b067 58 = .ok (.i2c, 1) := by decide +kernel
theorem dJ2_getChar_3b067_59 : decode cJ2_getChar_3b067 59 = .ok (.ireturn, 1) := by decide +kernel
theorem dJ2_length_9d52b_0 : decode cJ2_length_9d52b 0 = .ok (.aload_n 0, 1) := by decide +kernel
theorem dJ2_length_9d52b_1 : decode cJ2_length_9d52b 1 = .ok (.arraylength, 1) := by decide +kernel
theorem dJ2_length_9d52b_2 : decode cJ2_length_9d52b 2 = .ok (.iconst 1, 1) := by decide +kernel
theorem dJ2_length_9d52b_3 : decode cJ2_length_9d52b 3 = .ok (.ishr, 1) := by decide +kernel
theorem dJ2_length_9d52b_4 : decode cJ2_length_9d52b 4 = .ok (.ireturn, 1) := by decide +kernel
theorem dJ2_charAt_3b067_0 : decode cJ2_charAt_3b067 0 = .ok (.iload_n 1, 1) := by decide +kernel
theorem dJ2_charAt_3b067_1 : decode cJ2_charAt_3b067 1 = .ok (.aload_n 0, 1) := by decide +kernel
theorem dJ2_charAt_3b067_2 : decode cJ2_charAt_3b067 2 = .ok (.invokestatic 67, 3) := by decide +kernel
theorem dJ2_charAt_3b067_5 : decode cJ2_charAt_3b067 5 = .ok (.aload_n 0, 1) := by decide +kernel
theorem dJ2_charAt_3b067_6 : decode cJ2_charAt_3b067 6 = .ok (.iload_n 1, 1) := by decide +kernel
theorem dJ2_charAt_3b067_7 : decode cJ2_charAt_3b067 7 = .ok (.invokestatic 71, 3) := by decide +kernel
theorem dJ2_charAt_3b067_10 : decode cJ2_charAt_3b067 10 = .ok (.ireturn, 1) := by decide +kernel
theorem dJ2_checkIndex_2214a_0 : decode cJ2_checkIndex_2214a 0 = .ok (.iload_n 0, 1) := by decide +kernel
theorem dJ2_checkIndex_2214a_1 : decode cJ2_checkIndex_2214a 1 = .ok (.aload_n 1, 1) := by decide +kernel
theorem dJ2_checkIndex_2214a_2 : decode cJ2_checkIndex_2214a 2 = .ok (.invokestatic 48, 3) := by decide +kernel
theorem dJ2_checkIndex_2214a_5 : decode cJ2_checkIndex_2214a 5 = .ok (.invokestatic 414, 3) := by decide +kernel
theorem dJ2_checkIndex_2214a_8 : decode cJ2_checkIndex_2214a 8 = .ok (.return_, 1) := by decide +kernel
theorem dJ7_fill_53178_0 : decode cJ7_fill_53178 0 = .ok (.iconst 0, 1) := by decide +kernel
theorem dJ7_fill_53178_1 : decode cJ7_fill_53178 1 = .ok (.istore_n 2, 1) := by decide +kernel
theorem dJ7_fill_53178_2 : decode cJ7_fill_53178 2 = .ok (.aload_n 0, 1) := by decide +kernel
theorem dJ7_fill_53178_3 : decode cJ7_fill_53178 3 = .ok (.arraylength, 1) := by decide +kernel
theorem dJ7_fill_53178_4 : decode cJ7_fill_53178 4 = .ok (.istore_n 3, 1) := by decide +kernel
theorem dJ7_fill_53178_5 : decode cJ7_fill_53178 5 = .ok (.iload_n 2, 1) := by decide +kernel
theorem dJ7_fill_53178_6 : decode cJ7_fill_53178 6 = .ok (.iload_n 3, 1) := by decide +kernel
theorem dJ7_fill_53178_7 : decode cJ7_fill_53178 7 = .ok (.if_icmp .ge 13, 3) := by decide +kernel
theorem dJ7_fill_53178_10 : decode cJ7_fill_53178 10 = .ok (.aload_n 0, 1) := by decide +kernel
theorem dJ7_fill_53178_11 : decode cJ7_fill_53178 11 = .ok (.iload_n 2, 1) := by decide +kernel
theorem dJ7_fill_53178_12 : decode cJ7_fill_53178 12 = .ok (.iload_n 1, 1) := by decide +kernel
theorem dJ7_fill_53178_13 : decode cJ7_fill_53178 13 = .ok (.iastore, 1) := by decide +kernel
theorem dJ7_fill_53178_14 : decode cJ7_fill_53178 14 = .ok (.iinc 2 1, 3) := by decide +kernel
theorem dJ7_fill_53178_17 : decode cJ7_fill_53178 17 = .ok (.goto (-12), 3) := by decide +kernel
theorem dJ7_fill_53178_20 : decode cJ7_fill_53178 20 = .ok (.return_, 1) := by decide +kernel
theorem dJ3_checkIndex_8e157_0 : decode cJ3_checkIndex_8e157 0 = .ok (.iload_n 0, 1) := by decide +kernel
theorem dJ3_checkIndex_8e157_1 : decode cJ3_checkIndex_8e157 1 = .ok (.ifCond .lt 8, 3) := by decide +kernel
theorem dJ3_checkIndex_8e157_4 : decode cJ3_checkIndex_8e157 4 = .ok (.iload_n 0, 1) := by decide +kernel
theorem dJ3_checkIndex_8e157_5 : decode cJ3_checkIndex_8e157 5 = .ok (.iload_n 1, 1) := by decide +kernel
theorem dJ3_checkIndex_8e157_6 : decode cJ3_checkIndex_8e157 6 = .ok (.if_icmp .lt 10, 3) := by decide +kernel
theorem dJ3_checkIndex_8e157_9 : decode cJ3_checkIndex_8e157 9 = .ok (.aload_n 2, 1) := by decide +kernel
theorem dJ3_checkIndex_8e157_10 : decode cJ3_checkIndex_8e157 10 = .ok (.iload_n 0, 1) := by decide +kernel
theorem dJ3_checkIndex_8e157_11 : decode cJ3_checkIndex_8e157 11 = .ok (.iload_n 1, 1) := by decide +kernel
theorem dJ3_checkIndex_8e157_12 : decode cJ3_checkIndex_8e157 12 = .ok (.invokestatic 95, 3) := by decide +kernel
theorem dJ3_checkIndex_8e157_15 : decode cJ3_checkIndex_8e157 15 = .ok (.athrow, 1) := by decide +kernel
theorem dJ3_checkIndex_8e157_16 : decode cJ3_checkIndex_8e157 16 = .ok (.iload_n 0, 1) := by decide +kernel
theorem dJ3_checkIndex_8e157_17 : decode cJ3_checkIndex_8e157 17 = .ok (.ireturn, 1) := by decide +kernel
theorem dL_law_0 : decode cL_law 0 = .ok (.new 7, 3) := by decide +kernel
theorem dL_law_3 : decode cL_law 3 = .ok (.dup, 1) := by decide +kernel
theorem dL_law_4 : decode cL_law 4 = .ok (.invokespecial 9, 3) := by decide +kernel
theorem dL_law_7 : decode cL_law 7 = .ok (.astore_n 1, 1) := by decide +kernel
theorem dL_law_8 : decode cL_law 8 = .ok (.new 10, 3) := by decide +kernel
theorem dL_law_11 : decode cL_law 11 = .ok (.dup, 1) := by decide +kernel
theorem dL_law_12 : decode cL_law 12 = .ok (.invokespecial 12, 3) := by decide +kernel
theorem dL_law_15 : decode cL_law 15 = .ok (.astore_n 2, 1) := by decide +kernel
theorem dL_law_16 : decode cL_law 16 = .ok (.iconst 0, 1) := by decide +kernel
theorem dL_law_17 : decode cL_law 17 = .ok (.istore_n 3, 1) := by decide +kernel
theorem dL_law_18 : decode cL_law 18 = .ok (.iload_n 3, 1) := by decide +kernel
theorem dL_law_19 : decode cL_law 19 = .ok (.aload_n 0, 1) := by decide +kernel
theorem dL_law_20 : decode cL_law 20 = .ok (.arraylength, 1) := by decide +kernel
theorem dL_law_21 : decode cL_law 21 = .ok (.iconst 5, 1) := by decide +kernel
theorem dL_law_22 : decode cL_law 22 = .ok (.isub, 1) := by decide +kernel
theorem dL_law_23 : decode cL_law 23 = .ok (.if_icmp .gt 854, 3) := by decide +kernel
theorem dL_law_26 : decode cL_law 26 = .ok (.aload_n 0, 1) := by decide +kernel
theorem dL_law_27 : decode cL_law 27 = .ok (.iload_n 3, 1) := by decide +kernel
theorem dL_law_28 : decode cL_law 28 = .ok (.iaload, 1) := by decide +kernel
theorem dL_law_29 : decode cL_law 29 = .ok (.bipush 31, 2) := by decide +kernel
theorem dL_law_31 : decode cL_law 31 = .ok (.iand, 1) := by decide +kernel
theorem dL_law_32 : decode cL_law 32 = .ok (.tableswitch 839 0 25 #[120, 183, 196, 209, 232, 255, 278, 311, 364, 377, 410, 443, 476, 499, 522, 535, 558, 601, 644, 687, 710, 723, 756, 779, 802, 825], 120) := by decide +kernel
theorem dL_law_152 : decode cL_law 152 = .ok (.aload_n 1, 1) := by decide +kernel
theorem dL_law_153 : decode cL_law 153 = .ok (.aload_n 0, 1) := by decide +kernel
theorem dL_law_154 : decode cL_law 154 = .ok (.iload_n 3, 1) := by decide +kernel
theorem dL_law_155 : decode cL_law 155 = .ok (.iconst 1, 1) := by decide +kernel
theorem dL_law_156 : decode cL_law 156 = .ok (.iadd, 1) := by decide +kernel
theorem dL_law_157 : decode cL_law 157 = .ok (.iaload, 1) := by decide +kernel
theorem dL_law_158 : decode cL_law 158 = .ok (.i2l, 1) := by decide +kernel
theorem dL_law_159 : decode cL_law 159 = .ok (.bipush 32, 2) := by decide +kernel
theorem dL_law_161 : decode cL_law 161 = .ok (.lshl, 1) := by decide +kernel
theorem dL_law_162 : decode cL_law 162 = .ok (.aload_n 0, 1) := by decide +kernel
theorem dL_law_163 : decode cL_law 163 = .ok (.iload_n 3, 1) := by decide +kernel
theorem dL_law_164 : decode cL_law 164 = .ok (.iconst 2, 1) := by decide +kernel
theorem dL_law_165 : decode cL_law 165 = .ok (.iadd, 1) := by decide +kernel
theorem dL_law_166 : decode cL_law 166 = .ok (.iaload, 1) := by decide +kernel
theorem dL_law_167 : decode cL_law 167 = .ok (.i2l, 1) := by decide +kernel
theorem dL_law_168 : decode cL_law 168 = .ok (.ldc2_w 13, 3) := by decide +kernel
theorem dL_law_171 : decode cL_law 171 = .ok (.land, 1) := by decide +kernel
theorem dL_law_172 : decode cL_law 172 = .ok (.lor, 1) := by decide +kernel
theorem dL_law_173 : decode cL_law 173 = .ok (.aload_n 0, 1) := by decide +kernel
theorem dL_law_174 : decode cL_law 174 = .ok (.iload_n 3, 1) := by decide +kernel
theorem dL_law_175 : decode cL_law 175 = .ok (.iconst 3, 1) := by decide +kernel
theorem dL_law_176 : decode cL_law 176 = .ok (.iadd, 1) := by decide +kernel
theorem dL_law_177 : decode cL_law 177 = .ok (.iaload, 1) := by decide +kernel
theorem dL_law_178 : decode cL_law 178 = .ok (.invokevirtual 15, 3) := by decide +kernel
theorem dL_law_181 : decode cL_law 181 = .ok (.aload_n 2, 1) := by decide +kernel
theorem dL_law_182 : decode cL_law 182 = .ok (.aload_n 0, 1) := by decide +kernel
theorem dL_law_183 : decode cL_law 183 = .ok (.iload_n 3, 1) := by decide +kernel
theorem dL_law_184 : decode cL_law 184 = .ok (.iconst 1, 1) := by decide +kernel
theorem dL_law_185 : decode cL_law 185 = .ok (.iadd, 1) := by decide +kernel
theorem dL_law_186 : decode cL_law 186 = .ok (.iaload, 1) := by decide +kernel
theorem dL_law_187 : decode cL_law 187 = .ok (.i2l, 1) := by decide +kernel
theorem dL_law_188 : decode cL_law 188 = .ok (.bipush 32, 2) := by decide +kernel
theorem dL_law_190 : decode cL_law 190 = .ok (.lshl, 1) := by decide +kernel
theorem dL_law_191 : decode cL_law 191 = .ok (.aload_n 0, 1) := by decide +kernel
theorem dL_law_192 : decode cL_law 192 = .ok (.iload_n 3, 1) := by decide +kernel
theorem dL_law_193 : decode cL_law 193 = .ok (.iconst 2, 1) := by decide +kernel
theorem dL_law_194 : decode cL_law 194 = .ok (.iadd, 1) := by decide +kernel
theorem dL_law_195 : decode cL_law 195 = .ok (.iaload, 1) := by decide +kernel
theorem dL_law_196 : decode cL_law 196 = .ok (.i2l, 1) := by decide +kernel
theorem dL_law_197 : decode cL_law 197 = .ok (.ldc2_w 13, 3) := by decide +kernel
theorem dL_law_200 : decode cL_law 200 = .ok (.land, 1) := by decide +kernel
theorem dL_law_201 : decode cL_law 201 = .ok (.lor, 1) := by decide +kernel
theorem dL_law_202 : decode cL_law 202 = .ok (.aload_n 0, 1) := by decide +kernel
theorem dL_law_203 : decode cL_law 203 = .ok (.iload_n 3, 1) := by decide +kernel
theorem dL_law_204 : decode cL_law 204 = .ok (.iconst 3, 1) := by decide +kernel
theorem dL_law_205 : decode cL_law 205 = .ok (.iadd, 1) := by decide +kernel
theorem dL_law_206 : decode cL_law 206 = .ok (.iaload, 1) := by decide +kernel
theorem dL_law_207 : decode cL_law 207 = .ok (.invokevirtual 19, 3) := by decide +kernel
theorem dL_law_210 : decode cL_law 210 = .ok (.if_icmp .eq 661, 3) := by decide +kernel
theorem dL_law_213 : decode cL_law 213 = .ok (.iconst 0, 1) := by decide +kernel
theorem dL_law_214 : decode cL_law 214 = .ok (.ireturn, 1) := by decide +kernel
theorem dL_law_215 : decode cL_law 215 = .ok (.aload_n 1, 1) := by decide +kernel
theorem dL_law_216 : decode cL_law 216 = .ok (.invokevirtual 20, 3) := by decide +kernel
theorem dL_law_219 : decode cL_law 219 = .ok (.aload_n 2, 1) := by decide +kernel
theorem dL_law_220 : decode cL_law 220 = .ok (.invokevirtual 24, 3) := by decide +kernel
theorem dL_law_223 : decode cL_law 223 = .ok (.if_icmp .eq 648, 3) := by decide +kernel
theorem dL_law_226 : decode cL_law 226 = .ok (.iconst 0, 1) := by decide +kernel
theorem dL_law_227 : decode cL_law 227 = .ok (.ireturn, 1) := by decide +kernel
theorem dL_law_228 : decode cL_law 228 = .ok (.aload_n 1, 1) := by decide +kernel
theorem dL_law_229 : decode cL_law 229 = .ok (.invokevirtual 25, 3) := by decide +kernel
theorem dL_law_232 : decode cL_law 232 = .ok (.aload_n 2, 1) := by decide +kernel
theorem dL_law_233 : decode cL_law 233 = .ok (.invokevirtual 28, 3) := by decide +kernel
theorem dL_law_236 : decode cL_law 236 = .ok (.if_icmp .eq 635, 3) := by decide +kernel
theorem dL_law_239 : decode cL_law 239 = .ok (.iconst 0, 1) := by decide +kernel
theorem dL_law_240 : decode cL_law 240 = .ok (.ireturn, 1) := by decide +kernel
theorem dL_law_241 : decode cL_law 241 = .ok (.aload_n 1, 1) := by decide +kernel
theorem dL_law_242 : decode cL_law 242 = .ok (.aload_n 0, 1) := by decide +kernel
theorem dL_law_243 : decode cL_law 243 = .ok (.iload_n 3, 1) := by decide +kernel
theorem dL_law_244 : decode cL_law 244 = .ok (.iconst 1, 1) := by decide +kernel
theorem dL_law_245 : decode cL_law 245 = .ok (.iadd, 1) := by decide +kernel
theorem dL_law_246 : decode cL_law 246 = .ok (.iaload, 1) := by decide +kernel
theorem dL_law_247 : decode cL_law 247 = .ok (.invokevirtual 29, 3) := by decide +kernel
theorem dL_law_250 : decode cL_law 250 = .ok (.aload_n 2, 1) := by decide +kernel
theorem dL_law_251 : decode cL_law 251 = .ok (.aload_n 0, 1) := by decide +kernel
theorem dL_law_252 : decode cL_law 252 = .ok (.iload_n 3, 1) := by decide +kernel
theorem dL_law_253 : decode cL_law 253 = .ok (.iconst 1, 1) := by decide +kernel
theorem dL_law_254 : decode cL_law 254 = .ok (.iadd, 1) := by decide +kernel
theorem dL_law_255 : decode cL_law 255 = .ok (.iaload, 1) := by decide +kernel
theorem dL_law_256 : decode cL_law 256 = .ok (.invokevirtual 33, 3) := by decide +kernel
theorem dL_law_259 : decode cL_law 259 = .ok (.if_icmp .eq 612, 3) := by decide +kernel
theorem dL_law_262 : decode cL_law 262 = .ok (.iconst 0, 1) := by decide +kernel
theorem dL_law_263 : decode cL_law 263 = .ok (.ireturn, 1) := by decide +kernel
theorem dL_law_264 : decode cL_law 264 = .ok (.aload_n 1, 1) := by decide +kernel
theorem dL_law_265 : decode cL_law 265 = .ok (.aload_n 0, 1) := by decide +kernel
theorem dL_law_266 : decode cL_law 266 = .ok (.iload_n 3, 1) := by decide +kernel
theorem dL_law_267 : decode cL_law 267 = .ok (.iconst 1, 1) := by decide +kernel
theorem dL_law_268 : decode cL_law 268 = .ok (.iadd, 1) := by decide +kernel
theorem dL_law_269 : decode cL_law 269 = .ok (.iaload, 1) := by decide +kernel
theorem dL_law_270 : decode cL_law 270 = .ok (.invokevirtual 34, 3) := by decide +kernel
theorem dL_law_273 : decode cL_law 273 = .ok (.aload_n 2, 1) := by decide +kernel
theorem dL_law_274 : decode cL_law 274 = .ok (.aload_n 0, 1) := by decide +kernel
theorem dL_law_275 : decode cL_law 275 = .ok (.iload_n 3, 1) := by decide +kernel
theorem dL_law_276 : decode cL_law 276 = .ok (.iconst 1, 1) := by decide +kernel
theorem dL_law_277 : decode cL_law 277 = .ok (.iadd, 1) := by decide +kernel
theorem dL_law_278 : decode cL_law 278 = .ok (.iaload, 1) := by decide +kernel
theorem dL_law_279 : decode cL_law 279 = .ok (.invokevirtual 37, 3) := by decide +kernel
theorem dL_law_282 : decode cL_law 282 = .ok (.if_icmp .eq 589, 3) := by decide +kernel
theorem dL_law_285 : decode cL_law 285 = .ok (.iconst 0, 1) := by decide +kernel
theorem dL_law_286 : decode cL_law 286 = .ok (.ireturn, 1) := by decide +kernel
theorem dL_law_287 : decode cL_law 287 = .ok (.aload_n 1, 1) := by decide +kernel
theorem dL_law_288 : decode cL_law 288 = .ok (.aload_n 0, 1) := by decide +kernel
theorem dL_law_289 : decode cL_law 289 = .ok (.iload_n 3, 1) := by decide +kernel
theorem dL_law_290 : decode cL_law 290 = .ok (.iconst 1, 1) := by decide +kernel
theorem dL_law_291 : decode cL_law 291 = .ok (.iadd, 1) := by decide +kernel
theorem dL_law_292 : decode cL_law 292 = .ok (.iaload, 1) := by decide +kernel
theorem dL_law_293 : decode cL_law 293 = .ok (.invokevirtual 38, 3) := by decide +kernel
theorem dL_law_296 : decode cL_law 296 = .ok (.aload_n 2, 1) := by decide +kernel
theorem dL_law_297 : decode cL_law 297 = .ok (.aload_n 0, 1) := by decide +kernel
theorem dL_law_298 : decode cL_law 298 = .ok (.iload_n 3, 1) := by decide +kernel
theorem dL_law_299 : decode cL_law 299 = .ok (.iconst 1, 1) := by decide +kernel
theorem dL_law_300 : decode cL_law 300 = .ok (.iadd, 1) := by decide +kernel
theorem dL_law_301 : decode cL_law 301 = .ok (.iaload, 1) := by decide +kernel
theorem dL_law_302 : decode cL_law 302 = .ok (.invokevirtual 41, 3) := by decide +kernel
theorem dL_law_305 : decode cL_law 305 = .ok (.if_icmp .eq 566, 3) := by decide +kernel
theorem dL_law_308 : decode cL_law 308 = .ok (.iconst 0, 1) := by decide +kernel
theorem dL_law_309 : decode cL_law 309 = .ok (.ireturn, 1) := by decide +kernel
theorem dL_law_310 : decode cL_law 310 = .ok (.aload_n 1, 1) := by decide +kernel
theorem dL_law_311 : decode cL_law 311 = .ok (.aload_n 0, 1) := by decide +kernel
theorem dL_law_312 : decode cL_law 312 = .ok (.iload_n 3, 1) := by decide +kernel
theorem dL_law_313 : decode cL_law 313 = .ok (.iconst 1, 1) := by decide +kernel
theorem dL_law_314 : decode cL_law 314 = .ok (.iadd, 1) := by decide +kernel
theorem dL_law_315 : decode cL_law 315 = .ok (.iaload, 1) := by decide +kernel
theorem dL_law_316 : decode cL_law 316 = .ok (.aload_n 0, 1) := by decide +kernel
theorem dL_law_317 : decode cL_law 317 = .ok (.iload_n 3, 1) := by decide +kernel
theorem dL_law_318 : decode cL_law 318 = .ok (.iconst 2, 1) := by decide +kernel
theorem dL_law_319 : decode cL_law 319 = .ok (.iadd, 1) := by decide +kernel
theorem dL_law_320 : decode cL_law 320 = .ok (.iaload, 1) := by decide +kernel
theorem dL_law_321 : decode cL_law 321 = .ok (.invokevirtual 42, 3) := by decide +kernel
theorem dL_law_324 : decode cL_law 324 = .ok (.aload_n 2, 1) := by decide +kernel
theorem dL_law_325 : decode cL_law 325 = .ok (.aload_n 0, 1) := by decide +kernel
theorem dL_law_326 : decode cL_law 326 = .ok (.iload_n 3, 1) := by decide +kernel
theorem dL_law_327 : decode cL_law 327 = .ok (.iconst 1, 1) := by decide +kernel
theorem dL_law_328 : decode cL_law 328 = .ok (.iadd, 1) := by decide +kernel
theorem dL_law_329 : decode cL_law 329 = .ok (.iaload, 1) := by decide +kernel
theorem dL_law_330 : decode cL_law 330 = .ok (.aload_n 0, 1) := by decide +kernel
theorem dL_law_331 : decode cL_law 331 = .ok (.iload_n 3, 1) := by decide +kernel
theorem dL_law_332 : decode cL_law 332 = .ok (.iconst 2, 1) := by decide +kernel
theorem dL_law_333 : decode cL_law 333 = .ok (.iadd, 1) := by decide +kernel
theorem dL_law_334 : decode cL_law 334 = .ok (.iaload, 1) := by decide +kernel
theorem dL_law_335 : decode cL_law 335 = .ok (.invokevirtual 46, 3) := by decide +kernel
theorem dL_law_338 : decode cL_law 338 = .ok (.if_icmp .eq 533, 3) := by decide +kernel
theorem dL_law_341 : decode cL_law 341 = .ok (.iconst 0, 1) := by decide +kernel
theorem dL_law_342 : decode cL_law 342 = .ok (.ireturn, 1) := by decide +kernel
theorem dL_law_343 : decode cL_law 343 = .ok (.aload_n 1, 1) := by decide +kernel
theorem dL_law_344 : decode cL_law 344 = .ok (.aload_n 0, 1) := by decide +kernel
theorem dL_law_345 : decode cL_law 345 = .ok (.iload_n 3, 1) := by decide +kernel
theorem dL_law_346 : decode cL_law 346 = .ok (.iconst 1, 1) := by decide +kernel
theorem dL_law_347 : decode cL_law 347 = .ok (.iadd, 1) := by decide +kernel
theorem dL_law_348 : decode cL_law 348 = .ok (.iaload, 1) := by decide +kernel
theorem dL_law_349 : decode cL_law 349 = .ok (.aload_n 0, 1) := by decide +kernel
theorem dL_law_350 : decode cL_law 350 = .ok (.iload_n 3, 1) := by decide +kernel
theorem dL_law_351 : decode cL_law 351 = .ok (.iconst 2, 1) := by decide +kernel
theorem dL_law_352 : decode cL_law 352 = .ok (.iadd, 1) := by decide +kernel
theorem dL_law_353 : decode cL_law 353 = .ok (.iaload, 1) := by decide +kernel
theorem dL_law_354 : decode cL_law 354 = .ok (.aload_n 0, 1) := by decide +kernel
theorem dL_law_355 : decode cL_law 355 = .ok (.iload_n 3, 1) := by decide +kernel
theorem dL_law_356 : decode cL_law 356 = .ok (.iconst 3, 1) := by decide +kernel
theorem dL_law_357 : decode cL_law 357 = .ok (.iadd, 1) := by decide +kernel
theorem dL_law_358 : decode cL_law 358 = .ok (.iaload, 1) := by decide +kernel
theorem dL_law_359 : decode cL_law 359 = .ok (.aload_n 0, 1) := by decide +kernel
theorem dL_law_360 : decode cL_law 360 = .ok (.iload_n 3, 1) := by decide +kernel
theorem dL_law_361 : decode cL_law 361 = .ok (.iconst 4, 1) := by decide +kernel
theorem dL_law_362 : decode cL_law 362 = .ok (.iadd, 1) := by decide +kernel
theorem dL_law_363 : decode cL_law 363 = .ok (.iaload, 1) := by decide +kernel
theorem dL_law_364 : decode cL_law 364 = .ok (.invokevirtual 47, 3) := by decide +kernel
theorem dL_law_367 : decode cL_law 367 = .ok (.aload_n 2, 1) := by decide +kernel
theorem dL_law_368 : decode cL_law 368 = .ok (.aload_n 0, 1) := by decide +kernel
theorem dL_law_369 : decode cL_law 369 = .ok (.iload_n 3, 1) := by decide +kernel
theorem dL_law_370 : decode cL_law 370 = .ok (.iconst 1, 1) := by decide +kernel
theorem dL_law_371 : decode cL_law 371 = .ok (.iadd, 1) := by decide +kernel
theorem dL_law_372 : decode cL_law 372 = .ok (.iaload, 1) := by decide +kernel
theorem dL_law_373 : decode cL_law 373 = .ok (.aload_n 0, 1) := by decide +kernel
theorem dL_law_374 : decode cL_law 374 = .ok (.iload_n 3, 1) := by decide +kernel
theorem dL_law_375 : decode cL_law 375 = .ok (.iconst 2, 1) := by decide +kernel
theorem dL_law_376 : decode cL_law 376 = .ok (.iadd, 1) := by decide +kernel
theorem dL_law_377 : decode cL_law 377 = .ok (.iaload, 1) := by decide +kernel
theorem dL_law_378 : decode cL_law 378 = .ok (.aload_n 0, 1) := by decide +kernel
theorem dL_law_379 : decode cL_law 379 = .ok (.iload_n 3, 1) := by decide +kernel
theorem dL_law_380 : decode cL_law 380 = .ok (.iconst 3, 1) := by decide +kernel
theorem dL_law_381 : decode cL_law 381 = .ok (.iadd, 1) := by decide +kernel
theorem dL_law_382 : decode cL_law 382 = .ok (.iaload, 1) := by decide +kernel
theorem dL_law_383 : decode cL_law 383 = .ok (.aload_n 0, 1) := by decide +kernel
theorem dL_law_384 : decode cL_law 384 = .ok (.iload_n 3, 1) := by decide +kernel
theorem dL_law_385 : decode cL_law 385 = .ok (.iconst 4, 1) := by decide +kernel
theorem dL_law_386 : decode cL_law 386 = .ok (.iadd, 1) := by decide +kernel
theorem dL_law_387 : decode cL_law 387 = .ok (.iaload, 1) := by decide +kernel
theorem dL_law_388 : decode cL_law 388 = .ok (.invokevirtual 51, 3) := by decide +kernel
theorem dL_law_391 : decode cL_law 391 = .ok (.if_icmp .eq 480, 3) := by decide +kernel
theorem dL_law_394 : decode cL_law 394 = .ok (.iconst 0, 1) := by decide +kernel
theorem dL_law_395 : decode cL_law 395 = .ok (.ireturn, 1) := by decide +kernel
theorem dL_law_396 : decode cL_law 396 = .ok (.aload_n 1, 1) := by decide +kernel
theorem dL_law_397 : decode cL_law 397 = .ok (.invokevirtual 52, 3) := by decide +kernel
theorem dL_law_400 : decode cL_law 400 = .ok (.aload_n 2, 1) := by decide +kernel
theorem dL_law_401 : decode cL_law 401 = .ok (.invokevirtual 55, 3) := by decide +kernel
theorem dL_law_404 : decode cL_law 404 = .ok (.if_icmp .eq 467, 3) := by decide +kernel
theorem dL_law_407 : decode cL_law 407 = .ok (.iconst 0, 1) := by decide +kernel
theorem dL_law_408 : decode cL_law 408 = .ok (.ireturn, 1) := by decide +kernel
theorem dL_law_409 : decode cL_law 409 = .ok (.aload_n 1, 1) := by decide +kernel
theorem dL_law_410 : decode cL_law 410 = .ok (.aload_n 0, 1) := by decide +kernel
theorem dL_law_411 : decode cL_law 411 = .ok (.iload_n 3, 1) := by decide +kernel
theorem dL_law_412 : decode cL_law 412 = .ok (.iconst 1, 1) := by decide +kernel
theorem dL_law_413 : decode cL_law 413 = .ok (.iadd, 1) := by decide +kernel
theorem dL_law_414 : decode cL_law 414 = .ok (.iaload, 1) := by decide +kernel
theorem dL_law_415 : decode cL_law 415 = .ok (.aload_n 0, 1) := by decide +kernel
theorem dL_law_416 : decode cL_law 416 = .ok (.iload_n 3, 1) := by decide +kernel
theorem dL_law_417 : decode cL_law 417 = .ok (.iconst 2, 1) := by decide +kernel
theorem dL_law_418 : decode cL_law 418 = .ok (.iadd, 1) := by decide +kernel
theorem dL_law_419 : decode cL_law 419 = .ok (.iaload, 1) := by decide +kernel
theorem dL_law_420 : decode cL_law 420 = .ok (.invokevirtual 56, 3) := by decide +kernel
theorem dL_law_423 : decode cL_law 423 = .ok (.aload_n 2, 1) := by decide +kernel
theorem dL_law_424 : decode cL_law 424 = .ok (.aload_n 0, 1) := by decide +kernel
theorem dL_law_425 : decode cL_law 425 = .ok (.iload_n 3, 1) := by decide +kernel
theorem dL_law_426 : decode cL_law 426 = .ok (.iconst 1, 1) := by decide +kernel
theorem dL_law_427 : decode cL_law 427 = .ok (.iadd, 1) := by decide +kernel
theorem dL_law_428 : decode cL_law 428 = .ok (.iaload, 1) := by decide +kernel
theorem dL_law_429 : decode cL_law 429 = .ok (.aload_n 0, 1) := by decide +kernel
theorem dL_law_430 : decode cL_law 430 = .ok (.iload_n 3, 1) := by decide +kernel
theorem dL_law_431 : decode cL_law 431 = .ok (.iconst 2, 1) := by decide +kernel
theorem dL_law_432 : decode cL_law 432 = .ok (.iadd, 1) := by decide +kernel
theorem dL_law_433 : decode cL_law 433 = .ok (.iaload, 1) := by decide +kernel
theorem dL_law_434 : decode cL_law 434 = .ok (.invokevirtual 59, 3) := by decide +kernel
theorem dL_law_437 : decode cL_law 437 = .ok (.if_icmp .eq 434, 3) := by decide +kernel
theorem dL_law_440 : decode cL_law 440 = .ok (.iconst 0, 1) := by decide +kernel
theorem dL_law_441 : decode cL_law 441 = .ok (.ireturn, 1) := by decide +kernel
theorem dL_law_442 : decode cL_law 442 = .ok (.aload_n 1, 1) := by decide +kernel
theorem dL_law_443 : decode cL_law 443 = .ok (.aload_n 0, 1) := by decide +kernel
theorem dL_law_444 : decode cL_law 444 = .ok (.iload_n 3, 1) := by decide +kernel
theorem dL_law_445 : decode cL_law 445 = .ok (.iconst 1, 1) := by decide +kernel
theorem dL_law_446 : decode cL_law 446 = .ok (.iadd, 1) := by decide +kernel
theorem dL_law_447 : decode cL_law 447 = .ok (.iaload, 1) := by decide +kernel
theorem dL_law_448 : decode cL_law 448 = .ok (.aload_n 0, 1) := by decide +kernel
theorem dL_law_449 : decode cL_law 449 = .ok (.iload_n 3, 1) := by decide +kernel
theorem dL_law_450 : decode cL_law 450 = .ok (.iconst 2, 1) := by decide +kernel
theorem dL_law_451 : decode cL_law 451 = .ok (.iadd, 1) := by decide +kernel
theorem dL_law_452 : decode cL_law 452 = .ok (.iaload, 1) := by decide +kernel
theorem dL_law_453 : decode cL_law 453 = .ok (.invokevirtual 60, 3) := by decide +kernel
theorem dL_law_456 : decode cL_law 456 = .ok (.aload_n 2, 1) := by decide +kernel
theorem dL_law_457 : decode cL_law 457 = .ok (.aload_n 0, 1) := by decide +kernel
theorem dL_law_458 : decode cL_law 458 = .ok (.iload_n 3, 1) := by decide +kernel
theorem dL_law_459 : decode cL_law 459 = .ok (.iconst 1, 1) := by decide +kernel
theorem dL_law_460 : decode cL_law 460 = .ok (.iadd, 1) := by decide +kernel
theorem dL_law_461 : decode cL_law 461 = .ok (.iaload, 1) := by decide +kernel
theorem dL_law_462 : decode cL_law 462 = .ok (.aload_n 0, 1) := by decide +kernel
theorem dL_law_463 : decode cL_law 463 = .ok (.iload_n 3, 1) := by decide +kernel
theorem dL_law_464 : decode cL_law 464 = .ok (.iconst 2, 1) := by decide +kernel
theorem dL_law_465 : decode cL_law 465 = .ok (.iadd, 1) := by decide +kernel
theorem dL_law_466 : decode cL_law 466 = .ok (.iaload, 1) := by decide +kernel
theorem dL_law_467 : decode cL_law 467 = .ok (.invokevirtual 63, 3) := by decide +kernel
theorem dL_law_470 : decode cL_law 470 = .ok (.if_icmp .eq 401, 3) := by decide +kernel
theorem dL_law_473 : decode cL_law 473 = .ok (.iconst 0, 1) := by decide +kernel
theorem dL_law_474 : decode cL_law 474 = .ok (.ireturn, 1) := by decide +kernel
theorem dL_law_475 : decode cL_law 475 = .ok (.aload_n 1, 1) := by decide +kernel
theorem dL_law_476 : decode cL_law 476 = .ok (.aload_n 0, 1) := by decide +kernel
theorem dL_law_477 : decode cL_law 477 = .ok (.iload_n 3, 1) := by decide +kernel
theorem dL_law_478 : decode cL_law 478 = .ok (.iconst 1, 1) := by decide +kernel
theorem dL_law_479 : decode cL_law 479 = .ok (.iadd, 1) := by decide +kernel
theorem dL_law_480 : decode cL_law 480 = .ok (.iaload, 1) := by decide +kernel
theorem dL_law_481 : decode cL_law 481 = .ok (.aload_n 0, 1) := by decide +kernel
theorem dL_law_482 : decode cL_law 482 = .ok (.iload_n 3, 1) := by decide +kernel
theorem dL_law_483 : decode cL_law 483 = .ok (.iconst 2, 1) := by decide +kernel
theorem dL_law_484 : decode cL_law 484 = .ok (.iadd, 1) := by decide +kernel
theorem dL_law_485 : decode cL_law 485 = .ok (.iaload, 1) := by decide +kernel
theorem dL_law_486 : decode cL_law 486 = .ok (.invokevirtual 64, 3) := by decide +kernel
theorem dL_law_489 : decode cL_law 489 = .ok (.aload_n 2, 1) := by decide +kernel
theorem dL_law_490 : decode cL_law 490 = .ok (.aload_n 0, 1) := by decide +kernel
theorem dL_law_491 : decode cL_law 491 = .ok (.iload_n 3, 1) := by decide +kernel
theorem dL_law_492 : decode cL_law 492 = .ok (.iconst 1, 1) := by decide +kernel
theorem dL_law_493 : decode cL_law 493 = .ok (.iadd, 1) := by decide +kernel
theorem dL_law_494 : decode cL_law 494 = .ok (.iaload, 1) := by decide +kernel
theorem dL_law_495 : decode cL_law 495 = .ok (.aload_n 0, 1) := by decide +kernel
theorem dL_law_496 : decode cL_law 496 = .ok (.iload_n 3, 1) := by decide +kernel
theorem dL_law_497 : decode cL_law 497 = .ok (.iconst 2, 1) := by decide +kernel
theorem dL_law_498 : decode cL_law 498 = .ok (.iadd, 1) := by decide +kernel
theorem dL_law_499 : decode cL_law 499 = .ok (.iaload, 1) := by decide +kernel
theorem dL_law_500 : decode cL_law 500 = .ok (.invokevirtual 67, 3) := by decide +kernel
theorem dL_law_503 : decode cL_law 503 = .ok (.if_icmp .eq 368, 3) := by decide +kernel
theorem dL_law_506 : decode cL_law 506 = .ok (.iconst 0, 1) := by decide +kernel
theorem dL_law_507 : decode cL_law 507 = .ok (.ireturn, 1) := by decide +kernel
theorem dL_law_508 : decode cL_law 508 = .ok (.aload_n 1, 1) := by decide +kernel
theorem dL_law_509 : decode cL_law 509 = .ok (.aload_n 0, 1) := by decide +kernel
theorem dL_law_510 : decode cL_law 510 = .ok (.iload_n 3, 1) := by decide +kernel
theorem dL_law_511 : decode cL_law 511 = .ok (.iconst 1, 1) := by decide +kernel
theorem dL_law_512 : decode cL_law 512 = .ok (.iadd, 1) := by decide +kernel
theorem dL_law_513 : decode cL_law 513 = .ok (.iaload, 1) := by decide +kernel
theorem dL_law_514 : decode cL_law 514 = .ok (.invokevirtual 68, 3) := by decide +kernel
theorem dL_law_517 : decode cL_law 517 = .ok (.aload_n 2, 1) := by decide +kernel
theorem dL_law_518 : decode cL_law 518 = .ok (.aload_n 0, 1) := by decide +kernel
theorem dL_law_519 : decode cL_law 519 = .ok (.iload_n 3, 1) := by decide +kernel
theorem dL_law_520 : decode cL_law 520 = .ok (.iconst 1, 1) := by decide +kernel
theorem dL_law_521 : decode cL_law 521 = .ok (.iadd, 1) := by decide +kernel
theorem dL_law_522 : decode cL_law 522 = .ok (.iaload, 1) := by decide +kernel
theorem dL_law_523 : decode cL_law 523 = .ok (.invokevirtual 71, 3) := by decide +kernel
theorem dL_law_526 : decode cL_law 526 = .ok (.if_icmp .eq 345, 3) := by decide +kernel
theorem dL_law_529 : decode cL_law 529 = .ok (.iconst 0, 1) := by decide +kernel
theorem dL_law_530 : decode cL_law 530 = .ok (.ireturn, 1) := by decide +kernel
theorem dL_law_531 : decode cL_law 531 = .ok (.aload_n 1, 1) := by decide +kernel
theorem dL_law_532 : decode cL_law 532 = .ok (.aload_n 0, 1) := by decide +kernel
theorem dL_law_533 : decode cL_law 533 = .ok (.iload_n 3, 1) := by decide +kernel
theorem dL_law_534 : decode cL_law 534 = .ok (.iconst 1, 1) := by decide +kernel
theorem dL_law_535 : decode cL_law 535 = .ok (.iadd, 1) := by decide +kernel
theorem dL_law_536 : decode cL_law 536 = .ok (.iaload, 1) := by decide +kernel
theorem dL_law_537 : decode cL_law 537 = .ok (.invokevirtual 72, 3) := by decide +kernel
theorem dL_law_540 : decode cL_law 540 = .ok (.aload_n 2, 1) := by decide +kernel
theorem dL_law_541 : decode cL_law 541 = .ok (.aload_n 0, 1) := by decide +kernel
theorem dL_law_542 : decode cL_law 542 = .ok (.iload_n 3, 1) := by decide +kernel
theorem dL_law_543 : decode cL_law 543 = .ok (.iconst 1, 1) := by decide +kernel
theorem dL_law_544 : decode cL_law 544 = .ok (.iadd, 1) := by decide +kernel
theorem dL_law_545 : decode cL_law 545 = .ok (.iaload, 1) := by decide +kernel
theorem dL_law_546 : decode cL_law 546 = .ok (.invokevirtual 75, 3) := by decide +kernel
theorem dL_law_549 : decode cL_law 549 = .ok (.if_icmp .eq 322, 3) := by decide +kernel
theorem dL_law_552 : decode cL_law 552 = .ok (.iconst 0, 1) := by decide +kernel
theorem dL_law_553 : decode cL_law 553 = .ok (.ireturn, 1) := by decide +kernel
theorem dL_law_554 : decode cL_law 554 = .ok (.aload_n 1, 1) := by decide +kernel
theorem dL_law_555 : decode cL_law 555 = .ok (.invokevirtual 76, 3) := by decide +kernel
theorem dL_law_558 : decode cL_law 558 = .ok (.aload_n 2, 1) := by decide +kernel
theorem dL_law_559 : decode cL_law 559 = .ok (.invokevirtual 79, 3) := by decide +kernel
theorem dL_law_562 : decode cL_law 562 = .ok (.if_icmp .eq 309, 3) := by decide +kernel
theorem dL_law_565 : decode cL_law 565 = .ok (.iconst 0, 1) := by decide +kernel
theorem dL_law_566 : decode cL_law 566 = .ok (.ireturn, 1) := by decide +kernel
theorem dL_law_567 : decode cL_law 567 = .ok (.aload_n 1, 1) := by decide +kernel
theorem dL_law_568 : decode cL_law 568 = .ok (.aload_n 0, 1) := by decide +kernel
theorem dL_law_569 : decode cL_law 569 = .ok (.iload_n 3, 1) := by decide +kernel
theorem dL_law_570 : decode cL_law 570 = .ok (.iconst 1, 1) := by decide +kernel
theorem dL_law_571 : decode cL_law 571 = .ok (.iadd, 1) := by decide +kernel
theorem dL_law_572 : decode cL_law 572 = .ok (.iaload, 1) := by decide +kernel
theorem dL_law_573 : decode cL_law 573 = .ok (.invokevirtual 80, 3) := by decide +kernel
theorem dL_law_576 : decode cL_law 576 = .ok (.aload_n 2, 1) := by decide +kernel
theorem dL_law_577 : decode cL_law 577 = .ok (.aload_n 0, 1) := by decide +kernel
theorem dL_law_578 : decode cL_law 578 = .ok (.iload_n 3, 1) := by decide +kernel
theorem dL_law_579 : decode cL_law 579 = .ok (.iconst 1, 1) := by decide +kernel
theorem dL_law_580 : decode cL_law 580 = .ok (.iadd, 1) := by decide +kernel
theorem dL_law_581 : decode cL_law 581 = .ok (.iaload, 1) := by decide +kernel
theorem dL_law_582 : decode cL_law 582 = .ok (.invokevirtual 83, 3) := by decide +kernel
theorem dL_law_585 : decode cL_law 585 = .ok (.if_icmp .eq 286, 3) := by decide +kernel
theorem dL_law_588 : decode cL_law 588 = .ok (.iconst 0, 1) := by decide +kernel
theorem dL_law_589 : decode cL_law 589 = .ok (.ireturn, 1) := by decide +kernel
theorem dL_law_590 : decode cL_law 590 = .ok (.aload_n 1, 1) := by decide +kernel
theorem dL_law_591 : decode cL_law 591 = .ok (.aload_n 0, 1) := by decide +kernel
theorem dL_law_592 : decode cL_law 592 = .ok (.iload_n 3, 1) := by decide +kernel
theorem dL_law_593 : decode cL_law 593 = .ok (.iconst 1, 1) := by decide +kernel
theorem dL_law_594 : decode cL_law 594 = .ok (.iadd, 1) := by decide +kernel
theorem dL_law_595 : decode cL_law 595 = .ok (.iaload, 1) := by decide +kernel
theorem dL_law_596 : decode cL_law 596 = .ok (.aload_n 0, 1) := by decide +kernel
theorem dL_law_597 : decode cL_law 597 = .ok (.iload_n 3, 1) := by decide +kernel
theorem dL_law_598 : decode cL_law 598 = .ok (.iconst 2, 1) := by decide +kernel
theorem dL_law_599 : decode cL_law 599 = .ok (.iadd, 1) := by decide +kernel
theorem dL_law_600 : decode cL_law 600 = .ok (.iaload, 1) := by decide +kernel
theorem dL_law_601 : decode cL_law 601 = .ok (.aload_n 0, 1) := by decide +kernel
theorem dL_law_602 : decode cL_law 602 = .ok (.iload_n 3, 1) := by decide +kernel
theorem dL_law_603 : decode cL_law 603 = .ok (.iconst 3, 1) := by decide +kernel
theorem dL_law_604 : decode cL_law 604 = .ok (.iadd, 1) := by decide +kernel
theorem dL_law_605 : decode cL_law 605 = .ok (.iaload, 1) := by decide +kernel
theorem dL_law_606 : decode cL_law 606 = .ok (.invokevirtual 84, 3) := by decide +kernel
theorem dL_law_609 : decode cL_law 609 = .ok (.aload_n 2, 1) := by decide +kernel
theorem dL_law_610 : decode cL_law 610 = .ok (.aload_n 0, 1) := by decide +kernel
theorem dL_law_611 : decode cL_law 611 = .ok (.iload_n 3, 1) := by decide +kernel
theorem dL_law_612 : decode cL_law 612 = .ok (.iconst 1, 1) := by decide +kernel
theorem dL_law_613 : decode cL_law 613 = .ok (.iadd, 1) := by decide +kernel
theorem dL_law_614 : decode cL_law 614 = .ok (.iaload, 1) := by decide +kernel
theorem dL_law_615 : decode cL_law 615 = .ok (.aload_n 0, 1) := by decide +kernel
theorem dL_law_616 : decode cL_law 616 = .ok (.iload_n 3, 1) := by decide +kernel
theorem dL_law_617 : decode cL_law 617 = .ok (.iconst 2, 1) := by decide +kernel
theorem dL_law_618 : decode cL_law 618 = .ok (.iadd, 1) := by decide +kernel
theorem dL_law_619 : decode cL_law 619 = .ok (.iaload, 1) := by decide +kernel
theorem dL_law_620 : decode cL_law 620 = .ok (.aload_n 0, 1) := by decide +kernel
theorem dL_law_621 : decode cL_law 621 = .ok (.iload_n 3, 1) := by decide +kernel
theorem dL_law_622 : decode cL_law 622 = .ok (.iconst 3, 1) := by decide +kernel
theorem dL_law_623 : decode cL_law 623 = .ok (.iadd, 1) := by decide +kernel
theorem dL_law_624 : decode cL_law 624 = .ok (.iaload, 1) := by decide +kernel
theorem dL_law_625 : decode cL_law 625 = .ok (.invokevirtual 88, 3) := by decide +kernel
theorem dL_law_628 : decode cL_law 628 = .ok (.if_icmp .eq 243, 3) := by decide +kernel
theorem dL_law_631 : decode cL_law 631 = .ok (.iconst 0, 1) := by decide +kernel
theorem dL_law_632 : decode cL_law 632 = .ok (.ireturn, 1) := by decide +kernel
theorem dL_law_633 : decode cL_law 633 = .ok (.aload_n 1, 1) := by decide +kernel
theorem dL_law_634 : decode cL_law 634 = .ok (.aload_n 0, 1) := by decide +kernel
theorem dL_law_635 : decode cL_law 635 = .ok (.iload_n 3, 1) := by decide +kernel
theorem dL_law_636 : decode cL_law 636 = .ok (.iconst 1, 1) := by decide +kernel
theorem dL_law_637 : decode cL_law 637 = .ok (.iadd, 1) := by decide +kernel
theorem dL_law_638 : decode cL_law 638 = .ok (.iaload, 1) := by decide +kernel
theorem dL_law_639 : decode cL_law 639 = .ok (.aload_n 0, 1) := by decide +kernel
theorem dL_law_640 : decode cL_law 640 = .ok (.iload_n 3, 1) := by decide +kernel
theorem dL_law_641 : decode cL_law 641 = .ok (.iconst 2, 1) := by decide +kernel
theorem dL_law_642 : decode cL_law 642 = .ok (.iadd, 1) := by decide +kernel
theorem dL_law_643 : decode cL_law 643 = .ok (.iaload, 1) := by decide +kernel
theorem dL_law_644 : decode cL_law 644 = .ok (.aload_n 0, 1) := by decide +kernel
theorem dL_law_645 : decode cL_law 645 = .ok (.iload_n 3, 1) := by decide +kernel
theorem dL_law_646 : decode cL_law 646 = .ok (.iconst 3, 1) := by decide +kernel
theorem dL_law_647 : decode cL_law 647 = .ok (.iadd, 1) := by decide +kernel
theorem dL_law_648 : decode cL_law 648 = .ok (.iaload, 1) := by decide +kernel
theorem dL_law_649 : decode cL_law 649 = .ok (.invokevirtual 89, 3) := by decide +kernel
theorem dL_law_652 : decode cL_law 652 = .ok (.aload_n 2, 1) := by decide +kernel
theorem dL_law_653 : decode cL_law 653 = .ok (.aload_n 0, 1) := by decide +kernel
theorem dL_law_654 : decode cL_law 654 = .ok (.iload_n 3, 1) := by decide +kernel
theorem dL_law_655 : decode cL_law 655 = .ok (.iconst 1, 1) := by decide +kernel
theorem dL_law_656 : decode cL_law 656 = .ok (.iadd, 1) := by decide +kernel
theorem dL_law_657 : decode cL_law 657 = .ok (.iaload, 1) := by decide +kernel
theorem dL_law_658 : decode cL_law 658 = .ok (.aload_n 0, 1) := by decide +kernel
theorem dL_law_659 : decode cL_law 659 = .ok (.iload_n 3, 1) := by decide +kernel
theorem dL_law_660 : decode cL_law 660 = .ok (.iconst 2, 1) := by decide +kernel
theorem dL_law_661 : decode cL_law 661 = .ok (.iadd, 1) := by decide +kernel
theorem dL_law_662 : decode cL_law 662 = .ok (.iaload, 1) := by decide +kernel
theorem dL_law_663 : decode cL_law 663 = .ok (.aload_n 0, 1) := by decide +kernel
theorem dL_law_664 : decode cL_law 664 = .ok (.iload_n 3, 1) := by decide +kernel
theorem dL_law_665 : decode cL_law 665 = .ok (.iconst 3, 1) := by decide +kernel
theorem dL_law_666 : decode cL_law 666 = .ok (.iadd, 1) := by decide +kernel
theorem dL_law_667 : decode cL_law 667 = .ok (.iaload, 1) := by decide +kernel
theorem dL_law_668 : decode cL_law 668 = .ok (.invokevirtual 92, 3) := by decide +kernel
theorem dL_law_671 : decode cL_law 671 = .ok (.if_icmp .eq 200, 3) := by decide +kernel
theorem dL_law_674 : decode cL_law 674 = .ok (.iconst 0, 1) := by decide +kernel
theorem dL_law_675 : decode cL_law 675 = .ok (.ireturn, 1) := by decide +kernel
theorem dL_law_676 : decode cL_law 676 = .ok (.aload_n 1, 1) := by decide +kernel
theorem dL_law_677 : decode cL_law 677 = .ok (.aload_n 0, 1) := by decide +kernel
theorem dL_law_678 : decode cL_law 678 = .ok (.iload_n 3, 1) := by decide +kernel
theorem dL_law_679 : decode cL_law 679 = .ok (.iconst 1, 1) := by decide +kernel
theorem dL_law_680 : decode cL_law 680 = .ok (.iadd, 1) := by decide +kernel
theorem dL_law_681 : decode cL_law 681 = .ok (.iaload, 1) := by decide +kernel
theorem dL_law_682 : decode cL_law 682 = .ok (.aload_n 0, 1) := by decide +kernel
theorem dL_law_683 : decode cL_law 683 = .ok (.iload_n 3, 1) := by decide +kernel
theorem dL_law_684 : decode cL_law 684 = .ok (.iconst 2, 1) := by decide +kernel
theorem dL_law_685 : decode cL_law 685 = .ok (.iadd, 1) := by decide +kernel
theorem dL_law_686 : decode cL_law 686 = .ok (.iaload, 1) := by decide +kernel
theorem dL_law_687 : decode cL_law 687 = .ok (.aload_n 0, 1) := by decide +kernel
theorem dL_law_688 : decode cL_law 688 = .ok (.iload_n 3, 1) := by decide +kernel
theorem dL_law_689 : decode cL_law 689 = .ok (.iconst 3, 1) := by decide +kernel
theorem dL_law_690 : decode cL_law 690 = .ok (.iadd, 1) := by decide +kernel
theorem dL_law_691 : decode cL_law 691 = .ok (.iaload, 1) := by decide +kernel
theorem dL_law_692 : decode cL_law 692 = .ok (.invokevirtual 93, 3) := by decide +kernel
theorem dL_law_695 : decode cL_law 695 = .ok (.aload_n 2, 1) := by decide +kernel
theorem dL_law_696 : decode cL_law 696 = .ok (.aload_n 0, 1) := by decide +kernel
theorem dL_law_697 : decode cL_law 697 = .ok (.iload_n 3, 1) := by decide +kernel
theorem dL_law_698 : decode cL_law 698 = .ok (.iconst 1, 1) := by decide +kernel
theorem dL_law_699 : decode cL_law 699 = .ok (.iadd, 1) := by decide +kernel
theorem dL_law_700 : decode cL_law 700 = .ok (.iaload, 1) := by decide +kernel
theorem dL_law_701 : decode cL_law 701 = .ok (.aload_n 0, 1) := by decide +kernel
theorem dL_law_702 : decode cL_law 702 = .ok (.iload_n 3, 1) := by decide +kernel
theorem dL_law_703 : decode cL_law 703 = .ok (.iconst 2, 1) := by decide +kernel
theorem dL_law_704 : decode cL_law 704 = .ok (.iadd, 1) := by decide +kernel
theorem dL_law_705 : decode cL_law 705 = .ok (.iaload, 1) := by decide +kernel
theorem dL_law_706 : decode cL_law 706 = .ok (.aload_n 0, 1) := by decide +kernel
theorem dL_law_707 : decode cL_law 707 = .ok (.iload_n 3, 1) := by decide +kernel
theorem dL_law_708 : decode cL_law 708 = .ok (.iconst 3, 1) := by decide +kernel
theorem dL_law_709 : decode cL_law 709 = .ok (.iadd, 1) := by decide +kernel
theorem dL_law_710 : decode cL_law 710 = .ok (.iaload, 1) := by decide +kernel
theorem dL_law_711 : decode cL_law 711 = .ok (.invokevirtual 96, 3) := by decide +kernel
theorem dL_law_714 : decode cL_law 714 = .ok (.if_icmp .eq 157, 3) := by decide +kernel
theorem dL_law_717 : decode cL_law 717 = .ok (.iconst 0, 1) := by decide +kernel
theorem dL_law_718 : decode cL_law 718 = .ok (.ireturn, 1) := by decide +kernel
theorem dL_law_719 : decode cL_law 719 = .ok (.aload_n 1, 1) := by decide +kernel
theorem dL_law_720 : decode cL_law 720 = .ok (.aload_n 0, 1) := by decide +kernel
theorem dL_law_721 : decode cL_law 721 = .ok (.iload_n 3, 1) := by decide +kernel
theorem dL_law_722 : decode cL_law 722 = .ok (.iconst 1, 1) := by decide +kernel
theorem dL_law_723 : decode cL_law 723 = .ok (.iadd, 1) := by decide +kernel
theorem dL_law_724 : decode cL_law 724 = .ok (.iaload, 1) := by decide +kernel
theorem dL_law_725 : decode cL_law 725 = .ok (.invokevirtual 97, 3) := by decide +kernel
theorem dL_law_728 : decode cL_law 728 = .ok (.aload_n 2, 1) := by decide +kernel
theorem dL_law_729 : decode cL_law 729 = .ok (.aload_n 0, 1) := by decide +kernel
theorem dL_law_730 : decode cL_law 730 = .ok (.iload_n 3, 1) := by decide +kernel
theorem dL_law_731 : decode cL_law 731 = .ok (.iconst 1, 1) := by decide +kernel
theorem dL_law_732 : decode cL_law 732 = .ok (.iadd, 1) := by decide +kernel
theorem dL_law_733 : decode cL_law 733 = .ok (.iaload, 1) := by decide +kernel
theorem dL_law_734 : decode cL_law 734 = .ok (.invokevirtual 100, 3) := by decide +kernel
theorem dL_law_737 : decode cL_law 737 = .ok (.if_icmp .eq 134, 3) := by decide +kernel
theorem dL_law_740 : decode cL_law 740 = .ok (.iconst 0, 1) := by decide +kernel
theorem dL_law_741 : decode cL_law 741 = .ok (.ireturn, 1) := by decide +kernel
theorem dL_law_742 : decode cL_law 742 = .ok (.aload_n 1, 1) := by decide +kernel
theorem dL_law_743 : decode cL_law 743 = .ok (.invokevirtual 101, 3) := by decide +kernel
theorem dL_law_746 : decode cL_law 746 = .ok (.aload_n 2, 1) := by decide +kernel
theorem dL_law_747 : decode cL_law 747 = .ok (.invokevirtual 104, 3) := by decide +kernel
theorem dL_law_750 : decode cL_law 750 = .ok (.if_icmp .eq 121, 3) := by decide +kernel
theorem dL_law_753 : decode cL_law 753 = .ok (.iconst 0, 1) := by decide +kernel
theorem dL_law_754 : decode cL_law 754 = .ok (.ireturn, 1) := by decide +kernel
theorem dL_law_755 : decode cL_law 755 = .ok (.aload_n 1, 1) := by decide +kernel
theorem dL_law_756 : decode cL_law 756 = .ok (.aload_n 0, 1) := by decide +kernel
theorem dL_law_757 : decode cL_law 757 = .ok (.iload_n 3, 1) := by decide +kernel
theorem dL_law_758 : decode cL_law 758 = .ok (.iconst 1, 1) := by decide +kernel
theorem dL_law_759 : decode cL_law 759 = .ok (.iadd, 1) := by decide +kernel
theorem dL_law_760 : decode cL_law 760 = .ok (.iaload, 1) := by decide +kernel
theorem dL_law_761 : decode cL_law 761 = .ok (.aload_n 0, 1) := by decide +kernel
theorem dL_law_762 : decode cL_law 762 = .ok (.iload_n 3, 1) := by decide +kernel
theorem dL_law_763 : decode cL_law 763 = .ok (.iconst 2, 1) := by decide +kernel
theorem dL_law_764 : decode cL_law 764 = .ok (.iadd, 1) := by decide +kernel
theorem dL_law_765 : decode cL_law 765 = .ok (.iaload, 1) := by decide +kernel
theorem dL_law_766 : decode cL_law 766 = .ok (.invokevirtual 105, 3) := by decide +kernel
theorem dL_law_769 : decode cL_law 769 = .ok (.aload_n 2, 1) := by decide +kernel
theorem dL_law_770 : decode cL_law 770 = .ok (.aload_n 0, 1) := by decide +kernel
theorem dL_law_771 : decode cL_law 771 = .ok (.iload_n 3, 1) := by decide +kernel
theorem dL_law_772 : decode cL_law 772 = .ok (.iconst 1, 1) := by decide +kernel
theorem dL_law_773 : decode cL_law 773 = .ok (.iadd, 1) := by decide +kernel
theorem dL_law_774 : decode cL_law 774 = .ok (.iaload, 1) := by decide +kernel
theorem dL_law_775 : decode cL_law 775 = .ok (.aload_n 0, 1) := by decide +kernel
theorem dL_law_776 : decode cL_law 776 = .ok (.iload_n 3, 1) := by decide +kernel
theorem dL_law_777 : decode cL_law 777 = .ok (.iconst 2, 1) := by decide +kernel
theorem dL_law_778 : decode cL_law 778 = .ok (.iadd, 1) := by decide +kernel
theorem dL_law_779 : decode cL_law 779 = .ok (.iaload, 1) := by decide +kernel
theorem dL_law_780 : decode cL_law 780 = .ok (.invokevirtual 108, 3) := by decide +kernel
theorem dL_law_783 : decode cL_law 783 = .ok (.if_icmp .eq 88, 3) := by decide +kernel
theorem dL_law_786 : decode cL_law 786 = .ok (.iconst 0, 1) := by decide +kernel
theorem dL_law_787 : decode cL_law 787 = .ok (.ireturn, 1) := by decide +kernel
theorem dL_law_788 : decode cL_law 788 = .ok (.aload_n 1, 1) := by decide +kernel
theorem dL_law_789 : decode cL_law 789 = .ok (.aload_n 0, 1) := by decide +kernel
theorem dL_law_790 : decode cL_law 790 = .ok (.iload_n 3, 1) := by decide +kernel
theorem dL_law_791 : decode cL_law 791 = .ok (.iconst 1, 1) := by decide +kernel
theorem dL_law_792 : decode cL_law 792 = .ok (.iadd, 1) := by decide +kernel
theorem dL_law_793 : decode cL_law 793 = .ok (.iaload, 1) := by decide +kernel
theorem dL_law_794 : decode cL_law 794 = .ok (.invokevirtual 109, 3) := by decide +kernel
theorem dL_law_797 : decode cL_law 797 = .ok (.aload_n 2, 1) := by decide +kernel
theorem dL_law_798 : decode cL_law 798 = .ok (.aload_n 0, 1) := by decide +kernel
theorem dL_law_799 : decode cL_law 799 = .ok (.iload_n 3, 1) := by decide +kernel
theorem dL_law_800 : decode cL_law 800 = .ok (.iconst 1, 1) := by decide +kernel
theorem dL_law_801 : decode cL_law 801 = .ok (.iadd, 1) := by decide +kernel
theorem dL_law_802 : decode cL_law 802 = .ok (.iaload, 1) := by decide +kernel
theorem dL_law_803 : decode cL_law 803 = .ok (.invokevirtual 112, 3) := by decide +kernel
theorem dL_law_806 : decode cL_law 806 = .ok (.if_icmp .eq 65, 3) := by decide +kernel
theorem dL_law_809 : decode cL_law 809 = .ok (.iconst 0, 1) := by decide +kernel
theorem dL_law_810 : decode cL_law 810 = .ok (.ireturn, 1) := by decide +kernel
theorem dL_law_811 : decode cL_law 811 = .ok (.aload_n 1, 1) := by decide +kernel
theorem dL_law_812 : decode cL_law 812 = .ok (.aload_n 0, 1) := by decide +kernel
theorem dL_law_813 : decode cL_law 813 = .ok (.iload_n 3, 1) := by decide +kernel
theorem dL_law_814 : decode cL_law 814 = .ok (.iconst 1, 1) := by decide +kernel
theorem dL_law_815 : decode cL_law 815 = .ok (.iadd, 1) := by decide +kernel
theorem dL_law_816 : decode cL_law 816 = .ok (.iaload, 1) := by decide +kernel
theorem dL_law_817 : decode cL_law 817 = .ok (.invokevirtual 113, 3) := by decide +kernel
theorem dL_law_820 : decode cL_law 820 = .ok (.aload_n 2, 1) := by decide +kernel
theorem dL_law_821 : decode cL_law 821 = .ok (.aload_n 0, 1) := by decide +kernel
theorem dL_law_822 : decode cL_law 822 = .ok (.iload_n 3, 1) := by decide +kernel
theorem dL_law_823 : decode cL_law 823 = .ok (.iconst 1, 1) := by decide +kernel
theorem dL_law_824 : decode cL_law 824 = .ok (.iadd, 1) := by decide +kernel
theorem dL_law_825 : decode cL_law 825 = .ok (.iaload, 1) := by decide +kernel
theorem dL_law_826 : decode cL_law 826 = .ok (.invokevirtual 116, 3) := by decide +kernel
theorem dL_law_829 : decode cL_law 829 = .ok (.if_icmp .eq 42, 3) := by decide +kernel
theorem dL_law_832 : decode cL_law 832 = .ok (.iconst 0, 1) := by decide +kernel
theorem dL_law_833 : decode cL_law 833 = .ok (.ireturn, 1) := by decide +kernel
theorem dL_law_834 : decode cL_law 834 = .ok (.aload_n 1, 1) := by decide +kernel
theorem dL_law_835 : decode cL_law 835 = .ok (.aload_n 0, 1) := by decide +kernel
theorem dL_law_836 : decode cL_law 836 = .ok (.iload_n 3, 1) := by decide +kernel
theorem dL_law_837 : decode cL_law 837 = .ok (.iconst 1, 1) := by decide +kernel
theorem dL_law_838 : decode cL_law 838 = .ok (.iadd, 1) := by decide +kernel
theorem dL_law_839 : decode cL_law 839 = .ok (.iaload, 1) := by decide +kernel
theorem dL_law_840 : decode cL_law 840 = .ok (.invokevirtual 117, 3) := by decide +kernel
theorem dL_law_843 : decode cL_law 843 = .ok (.aload_n 2, 1) := by decide +kernel
theorem dL_law_844 : decode cL_law 844 = .ok (.aload_n 0, 1) := by decide +kernel
theorem dL_law_845 : decode cL_law 845 = .ok (.iload_n 3, 1) := by decide +kernel
theorem dL_law_846 : decode cL_law 846 = .ok (.iconst 1, 1) := by decide +kernel
theorem dL_law_847 : decode cL_law 847 = .ok (.iadd, 1) := by decide +kernel
theorem dL_law_848 : decode cL_law 848 = .ok (.iaload, 1) := by decide +kernel
theorem dL_law_849 : decode cL_law 849 = .ok (.invokevirtual 120, 3) := by decide +kernel
theorem dL_law_852 : decode cL_law 852 = .ok (.if_icmp .eq 19, 3) := by decide +kernel
theorem dL_law_855 : decode cL_law 855 = .ok (.iconst 0, 1) := by decide +kernel
theorem dL_law_856 : decode cL_law 856 = .ok (.ireturn, 1) := by decide +kernel
theorem dL_law_857 : decode cL_law 857 = .ok (.aload_n 1, 1) := by decide +kernel
theorem dL_law_858 : decode cL_law 858 = .ok (.invokevirtual 121, 3) := by decide +kernel
theorem dL_law_861 : decode cL_law 861 = .ok (.aload_n 2, 1) := by decide +kernel
theorem dL_law_862 : decode cL_law 862 = .ok (.invokevirtual 125, 3) := by decide +kernel
theorem dL_law_865 : decode cL_law 865 = .ok (.lcmp, 1) := by decide +kernel
theorem dL_law_866 : decode cL_law 866 = .ok (.ifCond .eq 5, 3) := by decide +kernel
theorem dL_law_869 : decode cL_law 869 = .ok (.iconst 0, 1) := by decide +kernel
theorem dL_law_870 : decode cL_law 870 = .ok (.ireturn, 1) := by decide +kernel
theorem dL_law_871 : decode cL_law 871 = .ok (.iinc 3 5, 3) := by decide +kernel
theorem dL_law_874 : decode cL_law 874 = .ok (.goto (-856), 3) := by decide +kernel
theorem dL_law_877 : decode cL_law 877 = .ok (.iconst 1, 1) := by decide +kernel
theorem dL_law_878 : decode cL_law 878 = .ok (.ireturn, 1) := by decide +kernel
end
section
theorem mem_r {big : List Cond} (ws : List Cond) (ps : List Nat) (hp : ws = ps.filterMap (fun i => big[i]?)) : ∀ w ∈ ws, w ∈ big := by
  intro w hw
  rw [hp] at hw
  obtain ⟨i, -, hi⟩ := List.mem_filterMap.mp hw
  exact List.mem_of_getElem? hi
set_option maxRecDepth 100000 in
theorem tb_r1 : ∀ w ∈ wsL_law_r1, w ∈ lw_tbl := mem_r _ [64, 65, 49, 702, 703, 57, 983, 66, 67, 68, 69, 70, 71, 72, 73, 50, 254, 146, 255, 166, 95, 52, 256, 168] (by decide +kernel)
set_option maxRecDepth 100000 in
theorem tb_r2 : ∀ w ∈ wsL_law_r2, w ∈ lw_tbl := mem_r _ [169, 54, 257, 258, 236, 259, 202, 203, 55, 260, 237, 238, 56, 261, 262, 75, 76, 77, 78, 79, 51, 145, 94, 147] (by decide +kernel)
set_option maxRecDepth 100000 in
theorem tb_r3 : ∀ w ∈ wsL_law_r3, w ∈ lw_tbl := mem_r _ [149, 150, 151, 152, 81, 82, 83, 93, 84, 85, 96, 97, 98, 99, 103, 107, 111, 144, 114, 116, 119, 122, 123, 124] (by decide +kernel)
set_option maxRecDepth 100000 in
theorem tb_r4 : ∀ w ∈ wsL_law_r4, w ∈ lw_tbl := mem_r _ [100, 101, 53, 102, 167, 170, 171, 172, 173, 175, 177, 179, 181, 183, 185, 174, 205, 206, 207, 208, 209, 210, 211, 212] (by decide +kernel)
set_option maxRecDepth 100000 in
theorem tb_r5 : ∀ w ∈ wsL_law_r5, w ∈ lw_tbl := mem_r _ [213, 214, 215, 216, 240, 241, 242, 243, 245, 246, 704, 705, 706, 707, 764, 766, 767, 768, 769, 770, 775, 776, 777, 779] (by decide +kernel)
set_option maxRecDepth 100000 in
theorem tb_r6 : ∀ w ∈ wsL_law_r6, w ∈ lw_tbl := mem_r _ [780, 781, 708, 710, 25, 711, 771, 772, 712, 713, 714, 715, 717, 26, 718, 773, 774, 719, 721, 27, 722, 765, 723, 724] (by decide +kernel)
set_option maxRecDepth 100000 in
theorem tb_r7 : ∀ w ∈ wsL_law_r7, w ∈ lw_tbl := mem_r _ [725, 726, 728, 28, 729, 730, 731, 732, 733, 734, 735, 737, 29, 738, 739, 741, 30, 742, 743, 745, 31, 746, 747, 749] (by decide +kernel)
set_option maxRecDepth 100000 in
theorem tb_r8 : ∀ w ∈ wsL_law_r8, w ∈ lw_tbl := mem_r _ [32, 750, 751, 753, 33, 754, 755, 757, 34, 758, 759, 761, 35, 762, 282, 283, 284, 285, 86, 286, 287, 288, 289, 290] (by decide +kernel)
set_option maxRecDepth 100000 in
theorem tb_r9 : ∀ w ∈ wsL_law_r9, w ∈ lw_tbl := mem_r _ [291, 292, 821, 822, 823, 824, 825, 293, 294, 295, 296, 826, 827, 828, 829, 297, 298, 299, 300, 148, 301, 302, 303, 304] (by decide +kernel)
set_option maxRecDepth 100000 in
theorem tb_r10 : ∀ w ∈ wsL_law_r10, w ∈ lw_tbl := mem_r _ [305, 306, 307, 308, 309, 311, 0, 312, 87, 313, 314, 315, 316, 318, 319, 320, 321, 322, 323, 324, 325, 326, 327, 329] (by decide +kernel)
set_option maxRecDepth 100000 in
theorem tb_r11 : ∀ w ∈ wsL_law_r11, w ∈ lw_tbl := mem_r _ [1, 330, 332, 333, 334, 335, 336, 337, 338, 58, 339, 984, 340, 341, 342, 343, 344, 985, 346, 347, 348, 349, 350, 351] (by decide +kernel)
set_option maxRecDepth 100000 in
theorem tb_r12 : ∀ w ∈ wsL_law_r12, w ∈ lw_tbl := mem_r _ [352, 353, 354, 355, 59, 356, 357, 358, 359, 360, 362, 363, 60, 364, 365, 366, 61, 367, 368, 369, 370, 371, 372, 373] (by decide +kernel)
set_option maxRecDepth 100000 in
theorem tb_r13 : ∀ w ∈ wsL_law_r13, w ∈ lw_tbl := mem_r _ [374, 375, 376, 377, 378, 380, 382, 384, 386, 2, 387, 105, 388, 390, 3, 391, 393, 395, 4, 396, 397, 398, 399, 400] (by decide +kernel)
set_option maxRecDepth 100000 in
theorem tb_r14 : ∀ w ∈ wsL_law_r14, w ∈ lw_tbl := mem_r _ [402, 404, 5, 405, 109, 406, 407, 408, 409, 411, 413, 6, 414, 120, 416, 418, 7, 419, 112, 420, 421, 422, 423, 424] (by decide +kernel)
set_option maxRecDepth 100000 in
theorem tb_r15 : ∀ w ∈ wsL_law_r15, w ∈ lw_tbl := mem_r _ [425, 426, 427, 428, 430, 429, 62, 431, 432, 433, 434, 830, 831, 832, 833, 435, 436, 437, 438, 115, 439, 440, 441, 442] (by decide +kernel)
set_option maxRecDepth 100000 in
theorem tb_r16 : ∀ w ∈ wsL_law_r16, w ∈ lw_tbl := mem_r _ [834, 835, 836, 837, 838, 840, 36, 841, 444, 445, 446, 447, 118, 448, 449, 450, 451, 842, 843, 844, 845, 846, 848, 37] (by decide +kernel)
set_option maxRecDepth 100000 in
theorem tb_r17 : ∀ w ∈ wsL_law_r17, w ∈ lw_tbl := mem_r _ [849, 452, 453, 454, 455, 121, 456, 457, 458, 850, 851, 852, 853, 459, 460, 461, 462, 463, 464, 465, 466, 467, 468, 469] (by decide +kernel)
set_option maxRecDepth 100000 in
theorem tb_r18 : ∀ w ∈ wsL_law_r18, w ∈ lw_tbl := mem_r _ [470, 854, 855, 856, 857, 858, 860, 38, 861, 471, 472, 473, 474, 176, 475, 476, 477, 478, 862, 863, 864, 865, 479, 480] (by decide +kernel)
set_option maxRecDepth 100000 in
theorem tb_r19 : ∀ w ∈ wsL_law_r19, w ∈ lw_tbl := mem_r _ [481, 482, 866, 867, 868, 869, 483, 484, 485, 486, 178, 180, 182, 184, 870, 871, 872, 873, 487, 488, 489, 490, 491, 493] (by decide +kernel)
set_option maxRecDepth 100000 in
theorem tb_r20 : ∀ w ∈ wsL_law_r20, w ∈ lw_tbl := mem_r _ [8, 494, 500, 501, 63, 502, 495, 496, 497, 498, 499, 503, 504, 505, 506, 507, 874, 875, 876, 877, 878, 880, 39, 881] (by decide +kernel)
set_option maxRecDepth 100000 in
theorem tb_r21 : ∀ w ∈ wsL_law_r21, w ∈ lw_tbl := mem_r _ [882, 884, 40, 885, 508, 509, 510, 511, 187, 886, 887, 888, 889, 512, 513, 514, 515, 890, 891, 892, 893, 516, 517, 518] (by decide +kernel)
set_option maxRecDepth 100000 in
theorem tb_r22 : ∀ w ∈ wsL_law_r22, w ∈ lw_tbl := mem_r _ [519, 894, 895, 896, 897, 520, 521, 522, 523, 524, 525, 526, 527, 104, 108, 117, 528, 186, 529, 530, 531, 533, 9, 534] (by decide +kernel)
set_option maxRecDepth 100000 in
theorem tb_r23 : ∀ w ∈ wsL_law_r23, w ∈ lw_tbl := mem_r _ [535, 537, 10, 538, 539, 540, 541, 542, 544, 11, 545, 546, 547, 548, 549, 550, 552, 12, 553, 554, 555, 557, 13, 558] (by decide +kernel)
set_option maxRecDepth 100000 in
theorem tb_r24 : ∀ w ∈ wsL_law_r24, w ∈ lw_tbl := mem_r _ [559, 561, 14, 562, 898, 899, 900, 901, 778, 902, 904, 41, 905, 906, 908, 42, 909, 910, 912, 43, 913, 563, 564, 565] (by decide +kernel)
set_option maxRecDepth 100000 in
theorem tb_r25 : ∀ w ∈ wsL_law_r25, w ∈ lw_tbl := mem_r _ [566, 106, 567, 568, 569, 570, 571, 572, 573, 574, 914, 915, 916, 917, 918, 919, 920, 575, 576, 577, 578, 579, 580, 581] (by decide +kernel)
set_option maxRecDepth 100000 in
theorem tb_r26 : ∀ w ∈ wsL_law_r26, w ∈ lw_tbl := mem_r _ [921, 922, 923, 924, 582, 583, 584, 585, 586, 588, 15, 589, 590, 591, 592, 593, 925, 926, 927, 928, 929, 931, 44, 932] (by decide +kernel)
set_option maxRecDepth 100000 in
theorem tb_r27 : ∀ w ∈ wsL_law_r27, w ∈ lw_tbl := mem_r _ [933, 935, 45, 936, 594, 595, 596, 597, 937, 938, 939, 940, 598, 599, 600, 601, 602, 603, 604, 605, 611, 612, 613, 606] (by decide +kernel)
set_option maxRecDepth 100000 in
theorem tb_r28 : ∀ w ∈ wsL_law_r28, w ∈ lw_tbl := mem_r _ [608, 16, 609, 941, 942, 943, 944, 614, 615, 616, 617, 244, 618, 619, 620, 621, 622, 623, 624, 625, 626, 628, 17, 629] (by decide +kernel)
set_option maxRecDepth 100000 in
theorem tb_r29 : ∀ w ∈ wsL_law_r29, w ∈ lw_tbl := mem_r _ [634, 630, 632, 18, 633, 945, 946, 947, 948, 949, 951, 46, 952, 953, 955, 47, 956, 635, 636, 637, 638, 639, 640, 642] (by decide +kernel)
set_option maxRecDepth 100000 in
theorem tb_r30 : ∀ w ∈ wsL_law_r30, w ∈ lw_tbl := mem_r _ [19, 643, 644, 646, 20, 647, 648, 649, 650, 651, 652, 653, 655, 21, 656, 657, 658, 659, 660, 661, 662, 664, 22, 665] (by decide +kernel)
set_option maxRecDepth 100000 in
theorem tb_r31 : ∀ w ∈ wsL_law_r31, w ∈ lw_tbl := mem_r _ [666, 667, 669, 23, 670, 671, 672, 674, 24, 675, 676, 957, 958, 959, 960, 961, 763, 962, 963, 964, 965, 966, 677, 678] (by decide +kernel)
set_option maxRecDepth 100000 in
theorem tb_r32 : ∀ w ∈ wsL_law_r32, w ∈ lw_tbl := mem_r _ [679, 680, 681, 682, 683, 684, 685, 967, 968, 969, 970, 686, 687, 688, 689, 971, 972, 973, 974, 690, 691, 692, 693, 110] (by decide +kernel)
set_option maxRecDepth 100000 in
theorem tb_r33 : ∀ w ∈ wsL_law_r33, w ∈ lw_tbl := mem_r _ [113, 694, 695, 696, 697, 975, 976, 977, 978, 698, 699, 700, 701, 979, 980, 981, 982] (by decide +kernel)
theorem tb_c0 : ∀ w ∈ wsX00, w ∈ lw_tbl := mem_r _ [247, 249, 251] (by decide +kernel)
theorem tb_c1 : ∀ w ∈ wsX10, w ∈ lw_tbl := mem_r _ [188, 190, 192, 194, 196, 198] (by decide +kernel)
theorem tb_c2 : ∀ w ∈ wsX20, w ∈ lw_tbl := mem_r _ [125, 127, 129, 131, 133, 135, 137, 139, 141] (by decide +kernel)
theorem tb_c3 : ∀ w ∈ wsX30, w ∈ lw_tbl := mem_r _ [153, 155, 157, 159, 161, 163] (by decide +kernel)
theorem tb_c4 : ∀ w ∈ wsX40, w ∈ lw_tbl := mem_r _ [88, 90] (by decide +kernel)
theorem tb_c5 : ∀ w ∈ wsX50, w ∈ lw_tbl := mem_r _ [217, 219, 221, 223, 225, 227, 229, 231, 233] (by decide +kernel)
theorem tb_c6 : ∀ w ∈ wsX60, w ∈ lw_tbl := mem_r _ [263, 265, 267, 269, 271, 273, 275, 277, 279] (by decide +kernel)
theorem tb_c7 : ∀ w ∈ wsX70, w ∈ lw_tbl := mem_r _ [782, 784, 786, 788, 790, 792, 794, 796, 798, 800, 802, 804, 806, 808, 810, 812, 814, 816, 818] (by decide +kernel)
end
section
/-! The state of both objects, the world that it gives, the judgement MW over it, a row an instruction. -/
abbrev St : Type := (Nat → Nat → Int32) × (Nat → Int64)
def setA (S : St) (c : Nat) (f : Nat → Int32) : St := (fun k => if k = c then f else S.1 k, S.2)
def setI (S : St) (c : Nat) (v : Int32) : St := setA S c (fun _ => v)
def setL (S : St) (c : Nat) (v : Int64) : St := (S.1, fun k => if k = c then v else S.2 k)
/-- the numbers of the classes, of the array classes, the addresses of the cells, of the String constants and of their rows -/
abbrev GE : Type := va_G × (Nat → ClassId) × (Nat → Nat) × (Nat → Nat) × (Nat → Nat)
def im_f (e : GE) : Nat → Option Nat := fun i => if i = 0 then some (e.2.2.1 25) else some (e.2.2.1 31)
def tysG (e : GE) : List (ClassId × FieldType) := [(e.2.1 0, .int), (e.2.1 1, .byte), (e.2.1 2, .boolean), (e.2.1 3, .object "LeanedBars$Now")]
def WW (e : GE) (S : St) : va_W := [(e.2.2.1 0, .inr (6, [.ref (e.2.2.1 1), .ref (e.2.2.1 2), .ref (e.2.2.1 11), .ref (e.2.2.1 18), .ref (e.2.2.1 24), .ref (e.2.2.1 37), .ref (e.2.2.1 38), .ref (e.2.2.1 46), .long (S.2 0)])), (e.2.2.1 1, .inr (3, [.ref (e.2.2.1 2), .ref (e.2.2.1 4), .int (S.1 202 0), .int (S.1 203 0), .int (S.1 204 0), .int (S.1 205 0)])), (e.2.2.1 2, .inr (4, [.ref (e.2.2.1 3), .int (S.1 301 0)])), (e.2.2.1 3, .inl (e.2.1 1, 300, .inl (S.1 3))), (e.2.2.1 4, .inr (2, [.int (S.1 500 0), .int (S.1 501 0), .int (S.1 502 0), .ref (e.2.2.1 5), .ref (e.2.2.1 6), .ref (e.2.2.1 7), .ref (e.2.2.1 8), .ref (e.2.2.1 9), .ref (e.2.2.1 10)])), (e.2.2.1 5, .inl (e.2.1 0, 6, .inl (S.1 5))), (e.2.2.1 6, .inl (e.2.1 0, 3, .inl (S.1 6))), (e.2.2.1 7, .inl (e.2.1 0, 10, .inl (S.1 7))), (e.2.2.1 8, .inl (e.2.1 0, 8, .inl (S.1 8))), (e.2.2.1 9, .inl (e.2.1 0, 8, .inl (S.1 9))), (e.2.2.1 10, .inl (e.2.1 0, 8, .inl (S.1 10))), (e.2.2.1 11, .inr (2, [.int (S.1 1200 0), .int (S.1 1201 0), .int (S.1 1202 0), .ref (e.2.2.1 12), .ref (e.2.2.1 13), .ref (e.2.2.1 14), .ref (e.2.2.1 15), .ref (e.2.2.1 16), .ref (e.2.2.1 17)])), (e.2.2.1 12, .inl (e.2.1 0, 6, .inl (S.1 12))), (e.2.2.1 13, .inl (e.2.1 0, 3, .inl (S.1 13))), (e.2.2.1 14, .inl (e.2.1 0, 10, .inl (S.1 14))), (e.2.2.1 15, .inl (e.2.1 0, 8, .inl (S.1 15))), (e.2.2.1 16, .inl (e.2.1 0, 8, .inl (S.1 16))), (e.2.2.1 17, .inl (e.2.1 0, 8, .inl (S.1 17))), (e.2.2.1 18, .inr (1, [.int (S.1 1900 0), .ref (e.2.2.1 19), .ref (e.2.2.1 20), .ref (e.2.2.1 21), .ref (e.2.2.1 22), .ref (e.2.2.1 23)])), (e.2.2.1 19, .inl (e.2.1 0, 12, .inl (S.1 19))), (e.2.2.1 20, .inl (e.2.1 0, 12, .inl (S.1 20))), (e.2.2.1 21, .inl (e.2.1 0, 12, .inl (S.1 21))), (e.2.2.1 22, .inl (e.2.1 0, 12, .inl (S.1 22))), (e.2.2.1 23, .inl (e.2.1 0, 6, .inl (S.1 23))), (e.2.2.1 24, .inl (e.2.1 3, 2, .inr (.inr (.inr (.inr (im_f e)))))), (e.2.2.1 25, .inr (1, [.int (S.1 2600 0), .ref (e.2.2.1 26), .ref (e.2.2.1 27), .ref (e.2.2.1 28), .ref (e.2.2.1 29), .ref (e.2.2.1 30)])), (e.2.2.1 26, .inl (e.2.1 0, 12, .inl (S.1 26))), (e.2.2.1 27, .inl (e.2.1 0, 12, .inl (S.1 27))), (e.2.2.1 28, .inl (e.2.1 0, 12, .inl (S.1 28))), (e.2.2.1 29, .inl (e.2.1 0, 12, .inl (S.1 29))), (e.2.2.1 30, .inl (e.2.1 0, 6, .inl (S.1 30))), (e.2.2.1 31, .inr (1, [.int (S.1 3200 0), .ref (e.2.2.1 32), .ref (e.2.2.1 33), .ref (e.2.2.1 34), .ref (e.2.2.1 35), .ref (e.2.2.1 36)])), (e.2.2.1 32, .inl (e.2.1 0, 12, .inl (S.1 32))), (e.2.2.1 33, .inl (e.2.1 0, 12, .inl (S.1 33))), (e.2.2.1 34, .inl (e.2.1 0, 12, .inl (S.1 34))), (e.2.2.1 35, .inl (e.2.1 0, 12, .inl (S.1 35))), (e.2.2.1 36, .inl (e.2.1 0, 6, .inl (S.1 36))), (e.2.2.1 37, .inl (e.2.1 2, 2, .inl (S.1 37))), (e.2.2.1 38, .inr (5, [.int (S.1 3900 0), .int (S.1 3901 0), .ref (e.2.2.1 39), .ref (e.2.2.1 40), .ref (e.2.2.1 41), .ref (e.2.2.1 42), .ref (e.2.2.1 43), .ref (e.2.2.1 44), .ref (e.2.2.1 45)])), (e.2.2.1 39, .inl (e.2.1 2, 6, .inl (S.1 39))), (e.2.2.1 40, .inl (e.2.1 0, 6, .inl (S.1 40))), (e.2.2.1 41, .inl (e.2.1 0, 3, .inl (S.1 41))), (e.2.2.1 42, .inl (e.2.1 0, 66, .inl (S.1 42))), (e.2.2.1 43, .inl (e.2.1 0, 48, .inl (S.1 43))), (e.2.2.1 44, .inl (e.2.1 0, 8, .inl (S.1 44))), (e.2.2.1 45, .inl (e.2.1 0, 271, .inl (S.1 45))), (e.2.2.1 46, .inr (0, [.int (S.1 4700 0), .ref (e.2.2.1 47), .ref (e.2.2.1 48)])), (e.2.2.1 47, .inl (e.2.1 0, 6, .inl (S.1 47))), (e.2.2.1 48, .inl (e.2.1 0, 6, .inl (S.1 48))), (e.2.2.1 49, .inr (7, [.long (S.2 1), .ref (e.2.2.1 50), .int (S.1 5002 0), .ref (e.2.2.1 51), .ref (e.2.2.1 52), .ref (e.2.2.1 53), .ref (e.2.2.1 54), .ref (e.2.2.1 55), .int (S.1 5008 0), .int (S.1 5009 0), .int (S.1 5010 0), .int (S.1 5011 0), .ref (e.2.2.1 56), .ref (e.2.2.1 57), .ref (e.2.2.1 58), .int (S.1 5015 0), .ref (e.2.2.1 59), .ref (e.2.2.1 60), .ref (e.2.2.1 61)])), (e.2.2.1 50, .inl (e.2.1 0, 300, .inl (S.1 50))), (e.2.2.1 51, .inl (e.2.1 0, 47, .inl (S.1 51))), (e.2.2.1 52, .inl (e.2.1 0, 47, .inl (S.1 52))), (e.2.2.1 53, .inl (e.2.1 0, 55, .inl (S.1 53))), (e.2.2.1 54, .inl (e.2.1 0, 110, .inl (S.1 54))), (e.2.2.1 55, .inl (e.2.1 2, 2, .inl (S.1 55))), (e.2.2.1 56, .inl (e.2.1 0, 6, .inl (S.1 56))), (e.2.2.1 57, .inl (e.2.1 0, 60, .inl (S.1 57))), (e.2.2.1 58, .inl (e.2.1 0, 6, .inl (S.1 58))), (e.2.2.1 59, .inl (e.2.1 0, 2400, .inl (S.1 59))), (e.2.2.1 60, .inl (e.2.1 0, 6, .inl (S.1 60))), (e.2.2.1 61, .inl (e.2.1 0, 6, .inl (S.1 61)))]
def lenS : List Nat := [3, 6, 4, 5]
def bytS : List (List Int32) := [[98, 97, 114], [112, 101, 114, 115, 111, 110], [114, 97, 105, 110], [112, 97, 105, 110, 116]]
def ixS : List Nat := [48, 57, 62, 67]
def txS : List String := ["bar", "person", "rain", "paint"]
/-- what is said of the classes' tables -/
def NK (U : State) : Prop := va_Nw (.methodLinkNest RX4 19 yX6_within RX6) U ∧ va_Nw (.methodLinkNest RX3 103 yX6_within RX6) U ∧ va_Nw (.methodLinkNest RX2 52 yX6_within RX6) U ∧ va_Nw (.methodLinkNest RX5 105 yX6_within RX6) U ∧ va_Nw (.methodLinkNest RX6 11 yX3_init RX6) U ∧ va_Nw (.methodLinkNest RX3 11 yX4_init RX6) U ∧ va_Nw (.methodLinkNest RX6 45 yX5_init RX6) U ∧ va_Nw (.methodLinkNest RX6 52 yX0_init RX6) U
def KK (e : GE) (U : State) : Prop := va_K e.1 vwCl (tysG e) U ∧ NK U ∧ ∀ i : Nat, i < 4 → vk_R RX3 (ixS.getD i 0) (txS.getD i "") (e.2.2.2.1 i) U
/-- what is said of cells that stay: the String constants, two statics -/
def EN (e : GE) (A : Nat → Prop) (U : State) (H : Heap) : Prop := vk_S 4 lenS bytS e.2.2.2.1 e.2.2.2.2 A U H ∧ va_Z "java/lang/String" "COMPACT_STRINGS" "Z" (.int 1) A U H ∧ va_Zq "jdk/internal/util/Preconditions" "SIOOBE_FORMATTER" "Ljava/util/function/BiFunction;" A U H
theorem NK.warm {s U : State} (hW : s.WarmedH U.vm) (h : NK s) : NK U := ⟨h.1.warmM hW, h.2.1.warmM hW, h.2.2.1.warmM hW, h.2.2.2.1.warmM hW, h.2.2.2.2.1.warmM hW, h.2.2.2.2.2.1.warmM hW, h.2.2.2.2.2.2.1.warmM hW, h.2.2.2.2.2.2.2.warmM hW⟩
theorem NK.same {s U : State} (hv : s.vm = U.vm) (h : NK s) : NK U := ⟨h.1.same rfl hv, h.2.1.same rfl hv, h.2.2.1.same rfl hv, h.2.2.2.1.same rfl hv, h.2.2.2.2.1.same rfl hv, h.2.2.2.2.2.1.same rfl hv, h.2.2.2.2.2.2.1.same rfl hv, h.2.2.2.2.2.2.2.same rfl hv⟩
theorem KK.warm {e : GE} {s U : State} (hW : s.WarmedH U.vm) (h : KK e s) : KK e U := ⟨va_K.moved hW.alike h.1, h.2.1.warm hW, fun i hi => (h.2.2 i hi).warm hW⟩
theorem KK.same {e : GE} {s U : State} (hv : s.vm = U.vm) (h : KK e s) : KK e U := ⟨va_K.moved (hv ▸ Vm.Alike.refl s.vm) h.1, h.2.1.same hv, fun i hi => (h.2.2 i hi).same hv.symm⟩
theorem EN.moved {e : GE} {A : Nat → Prop} {u U : State} {H : Heap} (hvm : u.vm.Alike U.vm) (h : EN e A u H) : EN e A U H := ⟨h.1.moved hvm, h.2.1.moved hvm, h.2.2.moved hvm⟩
theorem EN.kept {e : GE} {A : Nat → Prop} {U : State} {H H1 : Heap} (h : EN e A U H) (hq : ∀ a : Nat, a < H.size → ¬ A a → H1[a]? = H[a]?) : EN e A U H1 := ⟨h.1.kept hq, h.2.1.kept hq, h.2.2.kept hq⟩
theorem EN.narrow {e : GE} {A B : Nat → Prop} {U : State} {H : Heap} (h : EN e A U H) (hAB : ∀ q, B q → A q) : EN e B U H := ⟨h.1.narrow hAB, h.2.1.narrow hAB, h.2.2.narrow hAB⟩
/-- which cells a method may change -/
def AA (e : GE) (sz : Nat) : Nat → Prop := fun q => (∃ k : Nat, k < 62 ∧ q = e.2.2.1 k) ∨ sz ≤ q
def rmH (h : Nat) : Room := { frames := h, cells := 0, slots := 0, locals := 40 * h }
def PRE (e : GE) (sz : Nat) (S : St) (U : State) : Prop := U.heap.size = sz ∧ va_P e.1 vwCl (WW e S) U.heap ∧ KK e U ∧ va_D (fun _ => True) (WW e S) ∧ EN e (AA e sz) U U.heap
def QV (e : GE) (sz : Nat) (post : Option Value → St → Prop) : Array Value → State → Outcome → State → Prop := fun _ st oc t => (∃ (v : Option Value) (S1 : St), oc = .returned v ∧ post v S1 ∧ va_P e.1 vwCl (WW e S1) t.heap) ∧ va_F (AA e sz) st t
/-- a method's contract over the whole world -/
def CT (e : GE) (y : MethodName) (cc : ByteArray) (nL : Nat) (ret : Option FieldType) (h : Nat) (args : List Value) (S : St) (post : Option Value → St → Prop) : Prop :=
  ∀ (l : Launch) (sz : Nat), Met l y (.code y cc nL ret :: wsL_law) (rmH h) (va_Pc args (PRE e sz S)) (QV e sz post) 0 0 (AA e sz)
abbrev Zt : Type := Program × Launch × Env × Room × State × MethodId × Array Value × List Frame × Method × Code × (Nat → Prop) × (Nat × Nat) × (State → Prop)
def GZ (Z : Zt) (e : GE) (cc : ByteArray) (nL : Nat) (own : String) (h : Nat) : Prop := match Z with
  | (p, _, _, R, s, m, args, _, _, c, A, (k, n), _) => p.tables.exec = Jvm.exec ∧ c.code = cc ∧ c.maxLocals = nL ∧ s.vm.findClass own = some m.cls ∧ (∀ w ∈ wsL_law, w.before args s = true) ∧ KK e s ∧ EN e A s s.heap ∧ (h ≤ R.frames ∧ 40 * h ≤ R.locals ∧ k ≤ R.cells ∧ n ≤ R.slots) ∧ (∀ q, s.heap.size ≤ q → A q) ∧ ∀ j, j < 62 → A (e.2.2.1 j)
def MW (Z : Zt) (e : GE) (cc : ByteArray) (nL : Nat) (own : String) (h : Nat) (pc : Nat) (lv : List (Nat × Value)) (st : List Value) (S : St) : Prop := GZ Z e cc nL own h → match Z with
  | (p, l, ee, R, s, m, args, below, meth, c, A, (k, n), Qf) => ∀ (H : Heap) (locs : List Loc) (ls : Array Slot), lv_has ls nL lv → va_P e.1 vwCl (WW e S) H → va_D A (WW e S) → va_S A s.heap H locs → W p l ee R s m args below meth c H locs k n Qf (F0 m pc ls st)
/-- a method's end -/
def RT (Z : Zt) (e : GE) (ret : Option FieldType) (post : Option Value → St → Prop) : Prop := match Z with
  | (_, _, _, _, s, _, args, below, meth, _, A, (k, n), Qf) => meth.sig.returnType = ret ∧ meth.locks = false ∧ k = 0 ∧ n = 0 ∧ A = AA e s.heap.size ∧ Qf = MQ below (QV e s.heap.size post) args s 0 0 (AA e s.heap.size)
theorem WW_D {e : GE} {A : Nat → Prop} {S : St} (S1 : St) (h : va_D A (WW e S)) : va_D A (WW e S1) := by
  have hm : ∀ S2 : St, (WW e S2).map (fun q => q.1) = (List.range 62).map e.2.2.1 := fun S2 => rfl
  have hg : ∀ (S2 : St) (k : Nat) (q : Nat × va_E), (WW e S2)[k]? = some q → ((List.range 62).map e.2.2.1)[k]? = some q.1 := by
    intro S2 k q hq
    rw [← hm S2, List.getElem?_map, hq]
    rfl
  have hb : ∀ (S2 : St) (k a : Nat), ((List.range 62).map e.2.2.1)[k]? = some a → ∃ q : Nat × va_E, (WW e S2)[k]? = some q ∧ q.1 = a := by
    intro S2 k a hk
    rw [← hm S2, List.getElem?_map] at hk
    cases hq : (WW e S2)[k]? with
    | none => rw [hq] at hk; cases hk
    | some q => rw [hq] at hk; exact ⟨q, rfl, Option.some.inj hk⟩
  refine ⟨fun i j p q hp hq hpq => ?_, fun k q hq => ?_⟩
  · obtain ⟨p2, h1, h2⟩ := hb S i p.1 (hg S1 i p hp)
    obtain ⟨q2, h3, h4⟩ := hb S j q.1 (hg S1 j q hq)
    exact h.1 i j p2 q2 h1 h3 (by rw [h2, h4]; exact hpq)
  · obtain ⟨q2, h3, h4⟩ := hb S k q.1 (hg S1 k q hq)
    rw [← h4]
    exact h.2 k q2 h3
theorem WW_lt {e : GE} {S : St} {H : Heap} (h : va_P e.1 vwCl (WW e S) H) {k : Nat} (hk : k < 62) : e.2.2.1 k < H.size := by
  have h1 : (WW e S)[k]?.map (fun q => q.1) = some (e.2.2.1 k) := by
    have hm : (WW e S).map (fun q => q.1) = (List.range 62).map e.2.2.1 := rfl
    rw [← List.getElem?_map, hm, List.getElem?_map, List.getElem?_range hk]
    rfl
  cases hq : (WW e S)[k]? with
  | none => rw [hq] at h1; cases h1
  | some q =>
    rw [hq] at h1
    have h2 : q.1 = e.2.2.1 k := Option.some.inj h1
    rw [← h2]
    exact (h k q hq).lt
set_option maxRecDepth 100000 in
theorem goodL : wsL_law.all goodWord = true := by decide +kernel
theorem gdL : GoodIn wsL_law wsL_law := goodIn_sub (fun _ h => h) goodL

theorem in_r1 : ∀ w ∈ wsL_law_r1, w ∈ wsL_law := fun _ h => List.mem_append_left _ (List.mem_append_left _ (List.mem_append_left _ (List.mem_append_left _ (List.mem_append_left _ (List.mem_append_left _ (List.mem_append_left _ (List.mem_append_left _ (List.mem_append_left _ (List.mem_append_left _ h)))))))))
theorem in_r2 : ∀ w ∈ wsL_law_r2, w ∈ wsL_law := fun _ h => List.mem_append_left _ (List.mem_append_left _ (List.mem_append_left _ (List.mem_append_left _ (List.mem_append_left _ (List.mem_append_left _ (List.mem_append_left _ (List.mem_append_left _ (List.mem_append_left _ (List.mem_append_right _ (List.mem_append_left _ h))))))))))
theorem in_r3 : ∀ w ∈ wsL_law_r3, w ∈ wsL_law := fun _ h => List.mem_append_left _ (List.mem_append_left _ (List.mem_append_left _ (List.mem_append_left _ (List.mem_append_left _ (List.mem_append_left _ (List.mem_append_left _ (List.mem_append_left _ (List.mem_append_left _ (List.mem_append_right _ (List.mem_append_right _ (List.mem_append_left _ h)))))))))))
theorem in_r4 : ∀ w ∈ wsL_law_r4, w ∈ wsL_law := fun _ h => List.mem_append_left _ (List.mem_append_left _ (List.mem_append_left _ (List.mem_append_left _ (List.mem_append_left _ (List.mem_append_left _ (List.mem_append_left _ (List.mem_append_left _ (List.mem_append_left _ (List.mem_append_right _ (List.mem_append_right _ (List.mem_append_right _ (List.mem_append_left _ h))))))))))))
theorem in_r5 : ∀ w ∈ wsL_law_r5, w ∈ wsL_law := fun _ h => List.mem_append_left _ (List.mem_append_left _ (List.mem_append_left _ (List.mem_append_left _ (List.mem_append_left _ (List.mem_append_left _ (List.mem_append_left _ (List.mem_append_left _ (List.mem_append_left _ (List.mem_append_right _ (List.mem_append_right _ (List.mem_append_right _ (List.mem_append_right _ (List.mem_append_left _ h)))))))))))))
theorem in_r6 : ∀ w ∈ wsL_law_r6, w ∈ wsL_law := fun _ h => List.mem_append_left _ (List.mem_append_left _ (List.mem_append_left _ (List.mem_append_left _ (List.mem_append_left _ (List.mem_append_left _ (List.mem_append_left _ (List.mem_append_left _ (List.mem_append_left _ (List.mem_append_right _ (List.mem_append_right _ (List.mem_append_right _ (List.mem_append_right _ (List.mem_append_right _ (List.mem_append_left _ h))))))))))))))
theorem in_r7 : ∀ w ∈ wsL_law_r7, w ∈ wsL_law := fun _ h => List.mem_append_left _ (List.mem_append_left _ (List.mem_append_left _ (List.mem_append_left _ (List.mem_append_left _ (List.mem_append_left _ (List.mem_append_left _ (List.mem_append_left _ (List.mem_append_left _ (List.mem_append_right _ (List.mem_append_right _ (List.mem_append_right _ (List.mem_append_right _ (List.mem_append_right _ (List.mem_append_right _ (List.mem_append_left _ h)))))))))))))))
theorem in_r8 : ∀ w ∈ wsL_law_r8, w ∈ wsL_law := fun _ h => List.mem_append_left _ (List.mem_append_left _ (List.mem_append_left _ (List.mem_append_left _ (List.mem_append_left _ (List.mem_append_left _ (List.mem_append_left _ (List.mem_append_left _ (List.mem_append_left _ (List.mem_append_right _ (List.mem_append_right _ (List.mem_append_right _ (List.mem_append_right _ (List.mem_append_right _ (List.mem_append_right _ (List.mem_append_right _ (List.mem_append_left _ h))))))))))))))))
theorem in_r9 : ∀ w ∈ wsL_law_r9, w ∈ wsL_law := fun _ h => List.mem_append_left _ (List.mem_append_left _ (List.mem_append_left _ (List.mem_append_left _ (List.mem_append_left _ (List.mem_append_left _ (List.mem_append_left _ (List.mem_append_left _ (List.mem_append_left _ (List.mem_append_right _ (List.mem_append_right _ (List.mem_append_right _ (List.mem_append_right _ (List.mem_append_right _ (List.mem_append_right _ (List.mem_append_right _ (List.mem_append_right _ (List.mem_append_left _ h)))))))))))))))))
theorem in_r10 : ∀ w ∈ wsL_law_r10, w ∈ wsL_law := fun _ h => List.mem_append_left _ (List.mem_append_left _ (List.mem_append_left _ (List.mem_append_left _ (List.mem_append_left _ (List.mem_append_left _ (List.mem_append_left _ (List.mem_append_left _ (List.mem_append_left _ (List.mem_append_right _ (List.mem_append_right _ (List.mem_append_right _ (List.mem_append_right _ (List.mem_append_right _ (List.mem_append_right _ (List.mem_append_right _ (List.mem_append_right _ (List.mem_append_right _ (List.mem_append_left _ h))))))))))))))))))
theorem in_r11 : ∀ w ∈ wsL_law_r11, w ∈ wsL_law := fun _ h => List.mem_append_left _ (List.mem_append_left _ (List.mem_append_left _ (List.mem_append_left _ (List.mem_append_left _ (List.mem_append_left _ (List.mem_append_left _ (List.mem_append_left _ (List.mem_append_left _ (List.mem_append_right _ (List.mem_append_right _ (List.mem_append_right _ (List.mem_append_right _ (List.mem_append_right _ (List.mem_append_right _ (List.mem_append_right _ (List.mem_append_right _ (List.mem_append_right _ (List.mem_append_right _ (List.mem_append_left _ h)))))))))))))))))))
theorem in_r12 : ∀ w ∈ wsL_law_r12, w ∈ wsL_law := fun _ h => List.mem_append_left _ (List.mem_append_left _ (List.mem_append_left _ (List.mem_append_left _ (List.mem_append_left _ (List.mem_append_left _ (List.mem_append_left _ (List.mem_append_left _ (List.mem_append_left _ (List.mem_append_right _ (List.mem_append_right _ (List.mem_append_right _ (List.mem_append_right _ (List.mem_append_right _ (List.mem_append_right _ (List.mem_append_right _ (List.mem_append_right _ (List.mem_append_right _ (List.mem_append_right _ (List.mem_append_right _ (List.mem_append_left _ h))))))))))))))))))))
theorem in_r13 : ∀ w ∈ wsL_law_r13, w ∈ wsL_law := fun _ h => List.mem_append_left _ (List.mem_append_left _ (List.mem_append_left _ (List.mem_append_left _ (List.mem_append_left _ (List.mem_append_left _ (List.mem_append_left _ (List.mem_append_left _ (List.mem_append_left _ (List.mem_append_right _ (List.mem_append_right _ (List.mem_append_right _ (List.mem_append_right _ (List.mem_append_right _ (List.mem_append_right _ (List.mem_append_right _ (List.mem_append_right _ (List.mem_append_right _ (List.mem_append_right _ (List.mem_append_right _ (List.mem_append_right _ (List.mem_append_left _ h)))))))))))))))))))))
theorem in_r14 : ∀ w ∈ wsL_law_r14, w ∈ wsL_law := fun _ h => List.mem_append_left _ (List.mem_append_left _ (List.mem_append_left _ (List.mem_append_left _ (List.mem_append_left _ (List.mem_append_left _ (List.mem_append_left _ (List.mem_append_left _ (List.mem_append_left _ (List.mem_append_right _ (List.mem_append_right _ (List.mem_append_right _ (List.mem_append_right _ (List.mem_append_right _ (List.mem_append_right _ (List.mem_append_right _ (List.mem_append_right _ (List.mem_append_right _ (List.mem_append_right _ (List.mem_append_right _ (List.mem_append_right _ (List.mem_append_right _ (List.mem_append_left _ h))))))))))))))))))))))
theorem in_r15 : ∀ w ∈ wsL_law_r15, w ∈ wsL_law := fun _ h => List.mem_append_left _ (List.mem_append_left _ (List.mem_append_left _ (List.mem_append_left _ (List.mem_append_left _ (List.mem_append_left _ (List.mem_append_left _ (List.mem_append_left _ (List.mem_append_left _ (List.mem_append_right _ (List.mem_append_right _ (List.mem_append_right _ (List.mem_append_right _ (List.mem_append_right _ (List.mem_append_right _ (List.mem_append_right _ (List.mem_append_right _ (List.mem_append_right _ (List.mem_append_right _ (List.mem_append_right _ (List.mem_append_right _ (List.mem_append_right _ (List.mem_append_right _ (List.mem_append_left _ h)))))))))))))))))))))))
theorem in_r16 : ∀ w ∈ wsL_law_r16, w ∈ wsL_law := fun _ h => List.mem_append_left _ (List.mem_append_left _ (List.mem_append_left _ (List.mem_append_left _ (List.mem_append_left _ (List.mem_append_left _ (List.mem_append_left _ (List.mem_append_left _ (List.mem_append_left _ (List.mem_append_right _ (List.mem_append_right _ (List.mem_append_right _ (List.mem_append_right _ (List.mem_append_right _ (List.mem_append_right _ (List.mem_append_right _ (List.mem_append_right _ (List.mem_append_right _ (List.mem_append_right _ (List.mem_append_right _ (List.mem_append_right _ (List.mem_append_right _ (List.mem_append_right _ (List.mem_append_right _ (List.mem_append_left _ h))))))))))))))))))))))))
theorem in_r17 : ∀ w ∈ wsL_law_r17, w ∈ wsL_law := fun _ h => List.mem_append_left _ (List.mem_append_left _ (List.mem_append_left _ (List.mem_append_left _ (List.mem_append_left _ (List.mem_append_left _ (List.mem_append_left _ (List.mem_append_left _ (List.mem_append_left _ (List.mem_append_right _ (List.mem_append_right _ (List.mem_append_right _ (List.mem_append_right _ (List.mem_append_right _ (List.mem_append_right _ (List.mem_append_right _ (List.mem_append_right _ (List.mem_append_right _ (List.mem_append_right _ (List.mem_append_right _ (List.mem_append_right _ (List.mem_append_right _ (List.mem_append_right _ (List.mem_append_right _ (List.mem_append_right _ (List.mem_append_left _ h)))))))))))))))))))))))))
theorem in_r18 : ∀ w ∈ wsL_law_r18, w ∈ wsL_law := fun _ h => List.mem_append_left _ (List.mem_append_left _ (List.mem_append_left _ (List.mem_append_left _ (List.mem_append_left _ (List.mem_append_left _ (List.mem_append_left _ (List.mem_append_left _ (List.mem_append_left _ (List.mem_append_right _ (List.mem_append_right _ (List.mem_append_right _ (List.mem_append_right _ (List.mem_append_right _ (List.mem_append_right _ (List.mem_append_right _ (List.mem_append_right _ (List.mem_append_right _ (List.mem_append_right _ (List.mem_append_right _ (List.mem_append_right _ (List.mem_append_right _ (List.mem_append_right _ (List.mem_append_right _ (List.mem_append_right _ (List.mem_append_right _ (List.mem_append_left _ h))))))))))))))))))))))))))
theorem in_r19 : ∀ w ∈ wsL_law_r19, w ∈ wsL_law := fun _ h => List.mem_append_left _ (List.mem_append_left _ (List.mem_append_left _ (List.mem_append_left _ (List.mem_append_left _ (List.mem_append_left _ (List.mem_append_left _ (List.mem_append_left _ (List.mem_append_left _ (List.mem_append_right _ (List.mem_append_right _ (List.mem_append_right _ (List.mem_append_right _ (List.mem_append_right _ (List.mem_append_right _ (List.mem_append_right _ (List.mem_append_right _ (List.mem_append_right _ (List.mem_append_right _ (List.mem_append_right _ (List.mem_append_right _ (List.mem_append_right _ (List.mem_append_right _ (List.mem_append_right _ (List.mem_append_right _ (List.mem_append_right _ (List.mem_append_right _ (List.mem_append_left _ h)))))))))))))))))))))))))))
theorem in_r20 : ∀ w ∈ wsL_law_r20, w ∈ wsL_law := fun _ h => List.mem_append_left _ (List.mem_append_left _ (List.mem_append_left _ (List.mem_append_left _ (List.mem_append_left _ (List.mem_append_left _ (List.mem_append_left _ (List.mem_append_left _ (List.mem_append_left _ (List.mem_append_right _ (List.mem_append_right _ (List.mem_append_right _ (List.mem_append_right _ (List.mem_append_right _ (List.mem_append_right _ (List.mem_append_right _ (List.mem_append_right _ (List.mem_append_right _ (List.mem_append_right _ (List.mem_append_right _ (List.mem_append_right _ (List.mem_append_right _ (List.mem_append_right _ (List.mem_append_right _ (List.mem_append_right _ (List.mem_append_right _ (List.mem_append_right _ (List.mem_append_right _ (List.mem_append_left _ h))))))))))))))))))))))))))))
theorem in_r21 : ∀ w ∈ wsL_law_r21, w ∈ wsL_law := fun _ h => List.mem_append_left _ (List.mem_append_left _ (List.mem_append_left _ (List.mem_append_left _ (List.mem_append_left _ (List.mem_append_left _ (List.mem_append_left _ (List.mem_append_left _ (List.mem_append_left _ (List.mem_append_right _ (List.mem_append_right _ (List.mem_append_right _ (List.mem_append_right _ (List.mem_append_right _ (List.mem_append_right _ (List.mem_append_right _ (List.mem_append_right _ (List.mem_append_right _ (List.mem_append_right _ (List.mem_append_right _ (List.mem_append_right _ (List.mem_append_right _ (List.mem_append_right _ (List.mem_append_right _ (List.mem_append_right _ (List.mem_append_right _ (List.mem_append_right _ (List.mem_append_right _ (List.mem_append_right _ (List.mem_append_left _ h)))))))))))))))))))))))))))))
theorem in_r22 : ∀ w ∈ wsL_law_r22, w ∈ wsL_law := fun _ h => List.mem_append_left _ (List.mem_append_left _ (List.mem_append_left _ (List.mem_append_left _ (List.mem_append_left _ (List.mem_append_left _ (List.mem_append_left _ (List.mem_append_left _ (List.mem_append_left _ (List.mem_append_right _ (List.mem_append_right _ (List.mem_append_right _ (List.mem_append_right _ (List.mem_append_right _ (List.mem_append_right _ (List.mem_append_right _ (List.mem_append_right _ (List.mem_append_right _ (List.mem_append_right _ (List.mem_append_right _ (List.mem_append_right _ (List.mem_append_right _ (List.mem_append_right _ (List.mem_append_right _ (List.mem_append_right _ (List.mem_append_right _ (List.mem_append_right _ (List.mem_append_right _ (List.mem_append_right _ (List.mem_append_right _ (List.mem_append_left _ h))))))))))))))))))))))))))))))
theorem in_r23 : ∀ w ∈ wsL_law_r23, w ∈ wsL_law := fun _ h => List.mem_append_left _ (List.mem_append_left _ (List.mem_append_left _ (List.mem_append_left _ (List.mem_append_left _ (List.mem_append_left _ (List.mem_append_left _ (List.mem_append_left _ (List.mem_append_left _ (List.mem_append_right _ (List.mem_append_right _ (List.mem_append_right _ (List.mem_append_right _ (List.mem_append_right _ (List.mem_append_right _ (List.mem_append_right _ (List.mem_append_right _ (List.mem_append_right _ (List.mem_append_right _ (List.mem_append_right _ (List.mem_append_right _ (List.mem_append_right _ (List.mem_append_right _ (List.mem_append_right _ (List.mem_append_right _ (List.mem_append_right _ (List.mem_append_right _ (List.mem_append_right _ (List.mem_append_right _ (List.mem_append_right _ (List.mem_append_right _ (List.mem_append_left _ h)))))))))))))))))))))))))))))))
theorem in_r24 : ∀ w ∈ wsL_law_r24, w ∈ wsL_law := fun _ h => List.mem_append_left _ (List.mem_append_left _ (List.mem_append_left _ (List.mem_append_left _ (List.mem_append_left _ (List.mem_append_left _ (List.mem_append_left _ (List.mem_append_left _ (List.mem_append_left _ (List.mem_append_right _ (List.mem_append_right _ (List.mem_append_right _ (List.mem_append_right _ (List.mem_append_right _ (List.mem_append_right _ (List.mem_append_right _ (List.mem_append_right _ (List.mem_append_right _ (List.mem_append_right _ (List.mem_append_right _ (List.mem_append_right _ (List.mem_append_right _ (List.mem_append_right _ (List.mem_append_right _ (List.mem_append_right _ (List.mem_append_right _ (List.mem_append_right _ (List.mem_append_right _ (List.mem_append_right _ (List.mem_append_right _ (List.mem_append_right _ (List.mem_append_right _ (List.mem_append_left _ h))))))))))))))))))))))))))))))))
theorem in_r25 : ∀ w ∈ wsL_law_r25, w ∈ wsL_law := fun _ h => List.mem_append_left _ (List.mem_append_left _ (List.mem_append_left _ (List.mem_append_left _ (List.mem_append_left _ (List.mem_append_left _ (List.mem_append_left _ (List.mem_append_left _ (List.mem_append_left _ (List.mem_append_right _ (List.mem_append_right _ (List.mem_append_right _ (List.mem_append_right _ (List.mem_append_right _ (List.mem_append_right _ (List.mem_append_right _ (List.mem_append_right _ (List.mem_append_right _ (List.mem_append_right _ (List.mem_append_right _ (List.mem_append_right _ (List.mem_append_right _ (List.mem_append_right _ (List.mem_append_right _ (List.mem_append_right _ (List.mem_append_right _ (List.mem_append_right _ (List.mem_append_right _ (List.mem_append_right _ (List.mem_append_right _ (List.mem_append_right _ (List.mem_append_right _ (List.mem_append_right _ (List.mem_append_left _ h)))))))))))))))))))))))))))))))))
theorem in_r26 : ∀ w ∈ wsL_law_r26, w ∈ wsL_law := fun _ h => List.mem_append_left _ (List.mem_append_left _ (List.mem_append_left _ (List.mem_append_left _ (List.mem_append_left _ (List.mem_append_left _ (List.mem_append_left _ (List.mem_append_left _ (List.mem_append_left _ (List.mem_append_right _ (List.mem_append_right _ (List.mem_append_right _ (List.mem_append_right _ (List.mem_append_right _ (List.mem_append_right _ (List.mem_append_right _ (List.mem_append_right _ (List.mem_append_right _ (List.mem_append_right _ (List.mem_append_right _ (List.mem_append_right _ (List.mem_append_right _ (List.mem_append_right _ (List.mem_append_right _ (List.mem_append_right _ (List.mem_append_right _ (List.mem_append_right _ (List.mem_append_right _ (List.mem_append_right _ (List.mem_append_right _ (List.mem_append_right _ (List.mem_append_right _ (List.mem_append_right _ (List.mem_append_right _ (List.mem_append_left _ h))))))))))))))))))))))))))))))))))
theorem in_r27 : ∀ w ∈ wsL_law_r27, w ∈ wsL_law := fun _ h => List.mem_append_left _ (List.mem_append_left _ (List.mem_append_left _ (List.mem_append_left _ (List.mem_append_left _ (List.mem_append_left _ (List.mem_append_left _ (List.mem_append_left _ (List.mem_append_left _ (List.mem_append_right _ (List.mem_append_right _ (List.mem_append_right _ (List.mem_append_right _ (List.mem_append_right _ (List.mem_append_right _ (List.mem_append_right _ (List.mem_append_right _ (List.mem_append_right _ (List.mem_append_right _ (List.mem_append_right _ (List.mem_append_right _ (List.mem_append_right _ (List.mem_append_right _ (List.mem_append_right _ (List.mem_append_right _ (List.mem_append_right _ (List.mem_append_right _ (List.mem_append_right _ (List.mem_append_right _ (List.mem_append_right _ (List.mem_append_right _ (List.mem_append_right _ (List.mem_append_right _ (List.mem_append_right _ (List.mem_append_right _ (List.mem_append_left _ h)))))))))))))))))))))))))))))))))))
theorem in_r28 : ∀ w ∈ wsL_law_r28, w ∈ wsL_law := fun _ h => List.mem_append_left _ (List.mem_append_left _ (List.mem_append_left _ (List.mem_append_left _ (List.mem_append_left _ (List.mem_append_left _ (List.mem_append_left _ (List.mem_append_left _ (List.mem_append_left _ (List.mem_append_right _ (List.mem_append_right _ (List.mem_append_right _ (List.mem_append_right _ (List.mem_append_right _ (List.mem_append_right _ (List.mem_append_right _ (List.mem_append_right _ (List.mem_append_right _ (List.mem_append_right _ (List.mem_append_right _ (List.mem_append_right _ (List.mem_append_right _ (List.mem_append_right _ (List.mem_append_right _ (List.mem_append_right _ (List.mem_append_right _ (List.mem_append_right _ (List.mem_append_right _ (List.mem_append_right _ (List.mem_append_right _ (List.mem_append_right _ (List.mem_append_right _ (List.mem_append_right _ (List.mem_append_right _ (List.mem_append_right _ (List.mem_append_right _ (List.mem_append_left _ h))))))))))))))))))))))))))))))))))))
theorem in_r29 : ∀ w ∈ wsL_law_r29, w ∈ wsL_law := fun _ h => List.mem_append_left _ (List.mem_append_left _ (List.mem_append_left _ (List.mem_append_left _ (List.mem_append_left _ (List.mem_append_left _ (List.mem_append_left _ (List.mem_append_left _ (List.mem_append_left _ (List.mem_append_right _ (List.mem_append_right _ (List.mem_append_right _ (List.mem_append_right _ (List.mem_append_right _ (List.mem_append_right _ (List.mem_append_right _ (List.mem_append_right _ (List.mem_append_right _ (List.mem_append_right _ (List.mem_append_right _ (List.mem_append_right _ (List.mem_append_right _ (List.mem_append_right _ (List.mem_append_right _ (List.mem_append_right _ (List.mem_append_right _ (List.mem_append_right _ (List.mem_append_right _ (List.mem_append_right _ (List.mem_append_right _ (List.mem_append_right _ (List.mem_append_right _ (List.mem_append_right _ (List.mem_append_right _ (List.mem_append_right _ (List.mem_append_right _ (List.mem_append_right _ (List.mem_append_left _ h)))))))))))))))))))))))))))))))))))))
theorem in_r30 : ∀ w ∈ wsL_law_r30, w ∈ wsL_law := fun _ h => List.mem_append_left _ (List.mem_append_left _ (List.mem_append_left _ (List.mem_append_left _ (List.mem_append_left _ (List.mem_append_left _ (List.mem_append_left _ (List.mem_append_left _ (List.mem_append_left _ (List.mem_append_right _ (List.mem_append_right _ (List.mem_append_right _ (List.mem_append_right _ (List.mem_append_right _ (List.mem_append_right _ (List.mem_append_right _ (List.mem_append_right _ (List.mem_append_right _ (List.mem_append_right _ (List.mem_append_right _ (List.mem_append_right _ (List.mem_append_right _ (List.mem_append_right _ (List.mem_append_right _ (List.mem_append_right _ (List.mem_append_right _ (List.mem_append_right _ (List.mem_append_right _ (List.mem_append_right _ (List.mem_append_right _ (List.mem_append_right _ (List.mem_append_right _ (List.mem_append_right _ (List.mem_append_right _ (List.mem_append_right _ (List.mem_append_right _ (List.mem_append_right _ (List.mem_append_right _ (List.mem_append_left _ h))))))))))))))))))))))))))))))))))))))
theorem in_r31 : ∀ w ∈ wsL_law_r31, w ∈ wsL_law := fun _ h => List.mem_append_left _ (List.mem_append_left _ (List.mem_append_left _ (List.mem_append_left _ (List.mem_append_left _ (List.mem_append_left _ (List.mem_append_left _ (List.mem_append_left _ (List.mem_append_left _ (List.mem_append_right _ (List.mem_append_right _ (List.mem_append_right _ (List.mem_append_right _ (List.mem_append_right _ (List.mem_append_right _ (List.mem_append_right _ (List.mem_append_right _ (List.mem_append_right _ (List.mem_append_right _ (List.mem_append_right _ (List.mem_append_right _ (List.mem_append_right _ (List.mem_append_right _ (List.mem_append_right _ (List.mem_append_right _ (List.mem_append_right _ (List.mem_append_right _ (List.mem_append_right _ (List.mem_append_right _ (List.mem_append_right _ (List.mem_append_right _ (List.mem_append_right _ (List.mem_append_right _ (List.mem_append_right _ (List.mem_append_right _ (List.mem_append_right _ (List.mem_append_right _ (List.mem_append_right _ (List.mem_append_right _ (List.mem_append_left _ h)))))))))))))))))))))))))))))))))))))))
theorem in_r32 : ∀ w ∈ wsL_law_r32, w ∈ wsL_law := fun _ h => List.mem_append_left _ (List.mem_append_left _ (List.mem_append_left _ (List.mem_append_left _ (List.mem_append_left _ (List.mem_append_left _ (List.mem_append_left _ (List.mem_append_left _ (List.mem_append_left _ (List.mem_append_right _ (List.mem_append_right _ (List.mem_append_right _ (List.mem_append_right _ (List.mem_append_right _ (List.mem_append_right _ (List.mem_append_right _ (List.mem_append_right _ (List.mem_append_right _ (List.mem_append_right _ (List.mem_append_right _ (List.mem_append_right _ (List.mem_append_right _ (List.mem_append_right _ (List.mem_append_right _ (List.mem_append_right _ (List.mem_append_right _ (List.mem_append_right _ (List.mem_append_right _ (List.mem_append_right _ (List.mem_append_right _ (List.mem_append_right _ (List.mem_append_right _ (List.mem_append_right _ (List.mem_append_right _ (List.mem_append_right _ (List.mem_append_right _ (List.mem_append_right _ (List.mem_append_right _ (List.mem_append_right _ (List.mem_append_right _ (List.mem_append_left _ h))))))))))))))))))))))))))))))))))))))))
theorem in_r33 : ∀ w ∈ wsL_law_r33, w ∈ wsL_law := fun _ h => List.mem_append_left _ (List.mem_append_left _ (List.mem_append_left _ (List.mem_append_left _ (List.mem_append_left _ (List.mem_append_left _ (List.mem_append_left _ (List.mem_append_left _ (List.mem_append_left _ (List.mem_append_right _ (List.mem_append_right _ (List.mem_append_right _ (List.mem_append_right _ (List.mem_append_right _ (List.mem_append_right _ (List.mem_append_right _ (List.mem_append_right _ (List.mem_append_right _ (List.mem_append_right _ (List.mem_append_right _ (List.mem_append_right _ (List.mem_append_right _ (List.mem_append_right _ (List.mem_append_right _ (List.mem_append_right _ (List.mem_append_right _ (List.mem_append_right _ (List.mem_append_right _ (List.mem_append_right _ (List.mem_append_right _ (List.mem_append_right _ (List.mem_append_right _ (List.mem_append_right _ (List.mem_append_right _ (List.mem_append_right _ (List.mem_append_right _ (List.mem_append_right _ (List.mem_append_right _ (List.mem_append_right _ (List.mem_append_right _ (List.mem_append_right _ (h)))))))))))))))))))))))))))))))))))))))))
end
section
theorem cell_cong {cA : ClassId} {n : Nat} {f f2 : Nat → Int32} (h : ∀ j, j < n → f j = f2 j) : vp_cell cA (n, .inl f) = vp_cell cA (n, .inl f2) := by
  have e1 : (Array.ofFn fun j : Fin n => Value.int (f j)) = Array.ofFn fun j : Fin n => Value.int (f2 j) := by
    congr 1
    funext j
    rw [h j j.isLt]
  first
    | (simp only [vp_cell, arrV, e1]; done)
    | (simp [vp_cell, arrV, e1]; done)
    | (simp only [vp_cell, arrV]
       congr 1
       apply Array.ext
       · simp
       · intro i h1 h2
         simp at h1 h2 ⊢
         exact h i (by omega))
theorem P_cong {D : va_G} {cl : List vw_C} {ws : va_W} {q a : Nat} {e0 : va_E} {cA : ClassId} {n : Nat} {f f2 : Nat → Int32} {H : Heap} (hq : ws[q]? = some (a, e0)) (hc : vp_cell cA (n, .inl f) = vp_cell cA (n, .inl f2)) (h : va_P D cl (ws.set q (a, .inl (cA, n, .inl f))) H) : va_P D cl (ws.set q (a, .inl (cA, n, .inl f2))) H := by
  intro k x hx
  by_cases hk : k = q
  · subst hk
    have hlt : k < ws.length := (List.getElem?_eq_some_iff.mp hq).1
    rw [List.getElem?_set_self hlt] at hx
    obtain rfl := Option.some.inj hx
    have h1 := h k (a, .inl (cA, n, .inl f)) (List.getElem?_set_self hlt)
    show H[a]? = some (vp_cell cA (n, .inl f2))
    rw [← hc]
    exact h1
  · rw [List.getElem?_set_ne (fun z => hk z.symm)] at hx
    exact h k x (by rw [List.getElem?_set_ne (fun z => hk z.symm)]; exact hx)
theorem m_iconst {Z : Zt} {e : GE} {cc : ByteArray} {nL : Nat} {own : String} {h pc : Nat} {lv : List (Nat × Value)} {st : List Value} {S : St} {n : Int} {v : Int32} (d : decode cc pc = .ok (.iconst n, 1)) (hv : Int32.ofInt n = v) (k : MW Z e cc nL own h (pc + 1) lv (.int v :: st) S) : MW Z e cc nL own h pc lv st S := by
  obtain ⟨p, l, ee, R, s, m, args, below, meth, c, A, ⟨ck, cn⟩, Qf⟩ := Z
  intro g H locs ls hl hP hD hS
  exact lv_iconst g.1 g.2.1 d hv (k g H locs ls hl hP hD hS)
theorem m_bipush {Z : Zt} {e : GE} {cc : ByteArray} {nL : Nat} {own : String} {h pc : Nat} {lv : List (Nat × Value)} {st : List Value} {S : St} {n : Int} {v : Int32} (d : decode cc pc = .ok (.bipush n, 2)) (hv : (Int8.ofInt n).toInt32 = v) (k : MW Z e cc nL own h (pc + 2) lv (.int v :: st) S) : MW Z e cc nL own h pc lv st S := by
  obtain ⟨p, l, ee, R, s, m, args, below, meth, c, A, ⟨ck, cn⟩, Qf⟩ := Z
  intro g H locs ls hl hP hD hS
  exact lv_bipush g.1 g.2.1 d hv (k g H locs ls hl hP hD hS)
theorem m_sipush {Z : Zt} {e : GE} {cc : ByteArray} {nL : Nat} {own : String} {h pc : Nat} {lv : List (Nat × Value)} {st : List Value} {S : St} {n : Int} {v : Int32} (d : decode cc pc = .ok (.sipush n, 3)) (hv : (Int16.ofInt n).toInt32 = v) (k : MW Z e cc nL own h (pc + 3) lv (.int v :: st) S) : MW Z e cc nL own h pc lv st S := by
  obtain ⟨p, l, ee, R, s, m, args, below, meth, c, A, ⟨ck, cn⟩, Qf⟩ := Z
  intro g H locs ls hl hP hD hS
  exact lv_sipush g.1 g.2.1 d hv (k g H locs ls hl hP hD hS)
theorem m_lconst {Z : Zt} {e : GE} {cc : ByteArray} {nL : Nat} {own : String} {h pc : Nat} {lv : List (Nat × Value)} {st : List Value} {S : St} {n : Fin 2} {v : Int64} (d : decode cc pc = .ok (.lconst n, 1)) (hv : Int64.ofNat (n : Nat) = v) (k : MW Z e cc nL own h (pc + 1) lv (.long v :: st) S) : MW Z e cc nL own h pc lv st S := by
  obtain ⟨p, l, ee, R, s, m, args, below, meth, c, A, ⟨ck, cn⟩, Qf⟩ := Z
  intro g H locs ls hl hP hD hS
  exact lv_lconst g.1 g.2.1 d hv (k g H locs ls hl hP hD hS)
theorem m_iload {Z : Zt} {e : GE} {cc : ByteArray} {nL : Nat} {own : String} {h pc : Nat} {lv : List (Nat × Value)} {st : List Value} {S : St} {i : Nat} {x : Int32} (d : decode cc pc = .ok (.iload i, 2)) (q : Nat) (hk : lv[q]? = some (i, .int x)) (k : MW Z e cc nL own h (pc + 2) lv (.int x :: st) S) : MW Z e cc nL own h pc lv st S := by
  obtain ⟨p, l, ee, R, s, m, args, below, meth, c, A, ⟨ck, cn⟩, Qf⟩ := Z
  intro g H locs ls hl hP hD hS
  exact lv_iload g.1 g.2.1 d (lv_at hl q hk) (k g H locs ls hl hP hD hS)
theorem m_iload_n {Z : Zt} {e : GE} {cc : ByteArray} {nL : Nat} {own : String} {h pc : Nat} {lv : List (Nat × Value)} {st : List Value} {S : St} {n : Fin 4} {i : Nat} {x : Int32} (d : decode cc pc = .ok (.iload_n n, 1)) (q : Nat) (hi : (n : Nat) = i) (hk : lv[q]? = some (i, .int x)) (k : MW Z e cc nL own h (pc + 1) lv (.int x :: st) S) : MW Z e cc nL own h pc lv st S := by
  obtain ⟨p, l, ee, R, s, m, args, below, meth, c, A, ⟨ck, cn⟩, Qf⟩ := Z
  intro g H locs ls hl hP hD hS
  exact lv_iload_n g.1 g.2.1 d hi (lv_at hl q hk) (k g H locs ls hl hP hD hS)
theorem m_lload {Z : Zt} {e : GE} {cc : ByteArray} {nL : Nat} {own : String} {h pc : Nat} {lv : List (Nat × Value)} {st : List Value} {S : St} {i : Nat} {x : Int64} (d : decode cc pc = .ok (.lload i, 2)) (q : Nat) (hk : lv[q]? = some (i, .long x)) (k : MW Z e cc nL own h (pc + 2) lv (.long x :: st) S) : MW Z e cc nL own h pc lv st S := by
  obtain ⟨p, l, ee, R, s, m, args, below, meth, c, A, ⟨ck, cn⟩, Qf⟩ := Z
  intro g H locs ls hl hP hD hS
  exact lv_lload g.1 g.2.1 d (lv_at hl q hk) (k g H locs ls hl hP hD hS)
theorem m_lload_n {Z : Zt} {e : GE} {cc : ByteArray} {nL : Nat} {own : String} {h pc : Nat} {lv : List (Nat × Value)} {st : List Value} {S : St} {n : Fin 4} {i : Nat} {x : Int64} (d : decode cc pc = .ok (.lload_n n, 1)) (q : Nat) (hi : (n : Nat) = i) (hk : lv[q]? = some (i, .long x)) (k : MW Z e cc nL own h (pc + 1) lv (.long x :: st) S) : MW Z e cc nL own h pc lv st S := by
  obtain ⟨p, l, ee, R, s, m, args, below, meth, c, A, ⟨ck, cn⟩, Qf⟩ := Z
  intro g H locs ls hl hP hD hS
  exact lv_lload_n g.1 g.2.1 d hi (lv_at hl q hk) (k g H locs ls hl hP hD hS)
theorem m_aload {Z : Zt} {e : GE} {cc : ByteArray} {nL : Nat} {own : String} {h pc : Nat} {lv : List (Nat × Value)} {st : List Value} {S : St} {i : Nat} {x : Nat} (d : decode cc pc = .ok (.aload i, 2)) (q : Nat) (hk : lv[q]? = some (i, .ref x)) (k : MW Z e cc nL own h (pc + 2) lv (.ref x :: st) S) : MW Z e cc nL own h pc lv st S := by
  obtain ⟨p, l, ee, R, s, m, args, below, meth, c, A, ⟨ck, cn⟩, Qf⟩ := Z
  intro g H locs ls hl hP hD hS
  exact lv_aload g.1 g.2.1 d (lv_at hl q hk) (k g H locs ls hl hP hD hS)
theorem m_aload_n {Z : Zt} {e : GE} {cc : ByteArray} {nL : Nat} {own : String} {h pc : Nat} {lv : List (Nat × Value)} {st : List Value} {S : St} {n : Fin 4} {i : Nat} {x : Nat} (d : decode cc pc = .ok (.aload_n n, 1)) (q : Nat) (hi : (n : Nat) = i) (hk : lv[q]? = some (i, .ref x)) (k : MW Z e cc nL own h (pc + 1) lv (.ref x :: st) S) : MW Z e cc nL own h pc lv st S := by
  obtain ⟨p, l, ee, R, s, m, args, below, meth, c, A, ⟨ck, cn⟩, Qf⟩ := Z
  intro g H locs ls hl hP hD hS
  exact lv_aload_n g.1 g.2.1 d hi (lv_at hl q hk) (k g H locs ls hl hP hD hS)
theorem m_istore {Z : Zt} {e : GE} {cc : ByteArray} {nL : Nat} {own : String} {h pc : Nat} {lv : List (Nat × Value)} {st : List Value} {S : St} {i : Nat} {x : Int32} {lv2 : List (Nat × Value)} (d : decode cc pc = .ok (.istore i, 2)) (hn : i < nL) (hv : (i, (.int x : Value)) :: lv.filter (fun q => !(q.1 == i) && !(q.1 + 1 == i && q.2.category == 2)) = lv2) (k : MW Z e cc nL own h (pc + 2) lv2 st S) : MW Z e cc nL own h pc lv (.int x :: st) S := by
  obtain ⟨p, l, ee, R, s, m, args, below, meth, c, A, ⟨ck, cn⟩, Qf⟩ := Z
  intro g H locs ls hl hP hD hS
  exact lv_istore g.1 g.2.1 d hl hn hv (fun ls2 hl2 => k g H locs ls2 hl2 hP hD hS)
theorem m_istore_n {Z : Zt} {e : GE} {cc : ByteArray} {nL : Nat} {own : String} {h pc : Nat} {lv : List (Nat × Value)} {st : List Value} {S : St} {n : Fin 4} {i : Nat} {x : Int32} {lv2 : List (Nat × Value)} (d : decode cc pc = .ok (.istore_n n, 1)) (hi : (n : Nat) = i) (hn : i < nL) (hv : (i, (.int x : Value)) :: lv.filter (fun q => !(q.1 == i) && !(q.1 + 1 == i && q.2.category == 2)) = lv2) (k : MW Z e cc nL own h (pc + 1) lv2 st S) : MW Z e cc nL own h pc lv (.int x :: st) S := by
  obtain ⟨p, l, ee, R, s, m, args, below, meth, c, A, ⟨ck, cn⟩, Qf⟩ := Z
  intro g H locs ls hl hP hD hS
  exact lv_istore_n g.1 g.2.1 d hi hl hn hv (fun ls2 hl2 => k g H locs ls2 hl2 hP hD hS)
theorem m_astore {Z : Zt} {e : GE} {cc : ByteArray} {nL : Nat} {own : String} {h pc : Nat} {lv : List (Nat × Value)} {st : List Value} {S : St} {i : Nat} {x : Nat} {lv2 : List (Nat × Value)} (d : decode cc pc = .ok (.astore i, 2)) (hn : i < nL) (hv : (i, (.ref x : Value)) :: lv.filter (fun q => !(q.1 == i) && !(q.1 + 1 == i && q.2.category == 2)) = lv2) (k : MW Z e cc nL own h (pc + 2) lv2 st S) : MW Z e cc nL own h pc lv (.ref x :: st) S := by
  obtain ⟨p, l, ee, R, s, m, args, below, meth, c, A, ⟨ck, cn⟩, Qf⟩ := Z
  intro g H locs ls hl hP hD hS
  exact lv_astore g.1 g.2.1 d hl hn hv (fun ls2 hl2 => k g H locs ls2 hl2 hP hD hS)
theorem m_astore_n {Z : Zt} {e : GE} {cc : ByteArray} {nL : Nat} {own : String} {h pc : Nat} {lv : List (Nat × Value)} {st : List Value} {S : St} {n : Fin 4} {i : Nat} {x : Nat} {lv2 : List (Nat × Value)} (d : decode cc pc = .ok (.astore_n n, 1)) (hi : (n : Nat) = i) (hn : i < nL) (hv : (i, (.ref x : Value)) :: lv.filter (fun q => !(q.1 == i) && !(q.1 + 1 == i && q.2.category == 2)) = lv2) (k : MW Z e cc nL own h (pc + 1) lv2 st S) : MW Z e cc nL own h pc lv (.ref x :: st) S := by
  obtain ⟨p, l, ee, R, s, m, args, below, meth, c, A, ⟨ck, cn⟩, Qf⟩ := Z
  intro g H locs ls hl hP hD hS
  exact lv_astore_n g.1 g.2.1 d hi hl hn hv (fun ls2 hl2 => k g H locs ls2 hl2 hP hD hS)
theorem m_lstore {Z : Zt} {e : GE} {cc : ByteArray} {nL : Nat} {own : String} {h pc : Nat} {lv : List (Nat × Value)} {st : List Value} {S : St} {i : Nat} {x : Int64} {lv2 : List (Nat × Value)} (d : decode cc pc = .ok (.lstore i, 2)) (hn : i + 1 < nL) (hv : (i, (.long x : Value)) :: lv.filter (fun q => !(q.1 == i) && (!(q.1 == i + 1) && !(q.1 + 1 == i && q.2.category == 2))) = lv2) (k : MW Z e cc nL own h (pc + 2) lv2 st S) : MW Z e cc nL own h pc lv (.long x :: st) S := by
  obtain ⟨p, l, ee, R, s, m, args, below, meth, c, A, ⟨ck, cn⟩, Qf⟩ := Z
  intro g H locs ls hl hP hD hS
  exact lv_lstore g.1 g.2.1 d hl hn hv (fun ls2 hl2 => k g H locs ls2 hl2 hP hD hS)
theorem m_lstore_n {Z : Zt} {e : GE} {cc : ByteArray} {nL : Nat} {own : String} {h pc : Nat} {lv : List (Nat × Value)} {st : List Value} {S : St} {n : Fin 4} {i : Nat} {x : Int64} {lv2 : List (Nat × Value)} (d : decode cc pc = .ok (.lstore_n n, 1)) (hi : (n : Nat) = i) (hn : i + 1 < nL) (hv : (i, (.long x : Value)) :: lv.filter (fun q => !(q.1 == i) && (!(q.1 == i + 1) && !(q.1 + 1 == i && q.2.category == 2))) = lv2) (k : MW Z e cc nL own h (pc + 1) lv2 st S) : MW Z e cc nL own h pc lv (.long x :: st) S := by
  obtain ⟨p, l, ee, R, s, m, args, below, meth, c, A, ⟨ck, cn⟩, Qf⟩ := Z
  intro g H locs ls hl hP hD hS
  exact lv_lstore_n g.1 g.2.1 d hi hl hn hv (fun ls2 hl2 => k g H locs ls2 hl2 hP hD hS)
theorem m_iinc {Z : Zt} {e : GE} {cc : ByteArray} {nL : Nat} {own : String} {h pc : Nat} {lv : List (Nat × Value)} {st : List Value} {S : St} {i : Nat} {n : Int} {x v : Int32} {lv2 : List (Nat × Value)} (d : decode cc pc = .ok (.iinc i n, 3)) (q : Nat) (hk : lv[q]? = some (i, .int x)) (hx : x + Int32.ofInt n = v) (hn : i < nL) (hv : (i, (.int v : Value)) :: lv.filter (fun q => !(q.1 == i) && !(q.1 + 1 == i && q.2.category == 2)) = lv2) (k : MW Z e cc nL own h (pc + 3) lv2 st S) : MW Z e cc nL own h pc lv st S := by
  obtain ⟨p, l, ee, R, s, m, args, below, meth, c, A, ⟨ck, cn⟩, Qf⟩ := Z
  intro g H locs ls hl hP hD hS
  exact lv_iinc g.1 g.2.1 d hl hk hx hn hv (fun ls2 hl2 => k g H locs ls2 hl2 hP hD hS)
theorem m_loc {Z : Zt} {e : GE} {cc : ByteArray} {nL : Nat} {own : String} {h pc : Nat} {lv : List (Nat × Value)} {st : List Value} {S : St} {lv2 : List (Nat × Value)} (ks : List Nat) (hv : lv_pick lv ks = lv2) (k : MW Z e cc nL own h pc lv2 st S) : MW Z e cc nL own h pc lv st S := by
  obtain ⟨p, l, ee, R, s, m, args, below, meth, c, A, ⟨ck, cn⟩, Qf⟩ := Z
  intro g H locs ls hl hP hD hS
  exact k g H locs ls (lv_sub hl ks hv) hP hD hS
theorem m_iadd {Z : Zt} {e : GE} {cc : ByteArray} {nL : Nat} {own : String} {h pc : Nat} {lv : List (Nat × Value)} {st : List Value} {S : St} {x y : Int32} (d : decode cc pc = .ok (.iadd, 1))  (k : MW Z e cc nL own h (pc + 1) lv (.int (x + y) :: st) S) : MW Z e cc nL own h pc lv (.int y :: .int x :: st) S := by
  obtain ⟨p, l, ee, R, s, m, args, below, meth, c, A, ⟨ck, cn⟩, Qf⟩ := Z
  intro g H locs ls hl hP hD hS
  exact lv_iadd g.1 g.2.1 d  (k g H locs ls hl hP hD hS)
theorem m_isub {Z : Zt} {e : GE} {cc : ByteArray} {nL : Nat} {own : String} {h pc : Nat} {lv : List (Nat × Value)} {st : List Value} {S : St} {x y : Int32} (d : decode cc pc = .ok (.isub, 1))  (k : MW Z e cc nL own h (pc + 1) lv (.int (x - y) :: st) S) : MW Z e cc nL own h pc lv (.int y :: .int x :: st) S := by
  obtain ⟨p, l, ee, R, s, m, args, below, meth, c, A, ⟨ck, cn⟩, Qf⟩ := Z
  intro g H locs ls hl hP hD hS
  exact lv_isub g.1 g.2.1 d  (k g H locs ls hl hP hD hS)
theorem m_imul {Z : Zt} {e : GE} {cc : ByteArray} {nL : Nat} {own : String} {h pc : Nat} {lv : List (Nat × Value)} {st : List Value} {S : St} {x y : Int32} (d : decode cc pc = .ok (.imul, 1))  (k : MW Z e cc nL own h (pc + 1) lv (.int (x * y) :: st) S) : MW Z e cc nL own h pc lv (.int y :: .int x :: st) S := by
  obtain ⟨p, l, ee, R, s, m, args, below, meth, c, A, ⟨ck, cn⟩, Qf⟩ := Z
  intro g H locs ls hl hP hD hS
  exact lv_imul g.1 g.2.1 d  (k g H locs ls hl hP hD hS)
theorem m_iand {Z : Zt} {e : GE} {cc : ByteArray} {nL : Nat} {own : String} {h pc : Nat} {lv : List (Nat × Value)} {st : List Value} {S : St} {x y : Int32} (d : decode cc pc = .ok (.iand, 1))  (k : MW Z e cc nL own h (pc + 1) lv (.int (x &&& y) :: st) S) : MW Z e cc nL own h pc lv (.int y :: .int x :: st) S := by
  obtain ⟨p, l, ee, R, s, m, args, below, meth, c, A, ⟨ck, cn⟩, Qf⟩ := Z
  intro g H locs ls hl hP hD hS
  exact lv_iand g.1 g.2.1 d  (k g H locs ls hl hP hD hS)
theorem m_ior {Z : Zt} {e : GE} {cc : ByteArray} {nL : Nat} {own : String} {h pc : Nat} {lv : List (Nat × Value)} {st : List Value} {S : St} {x y : Int32} (d : decode cc pc = .ok (.ior, 1))  (k : MW Z e cc nL own h (pc + 1) lv (.int (x ||| y) :: st) S) : MW Z e cc nL own h pc lv (.int y :: .int x :: st) S := by
  obtain ⟨p, l, ee, R, s, m, args, below, meth, c, A, ⟨ck, cn⟩, Qf⟩ := Z
  intro g H locs ls hl hP hD hS
  exact lv_ior g.1 g.2.1 d  (k g H locs ls hl hP hD hS)
theorem m_ixor {Z : Zt} {e : GE} {cc : ByteArray} {nL : Nat} {own : String} {h pc : Nat} {lv : List (Nat × Value)} {st : List Value} {S : St} {x y : Int32} (d : decode cc pc = .ok (.ixor, 1))  (k : MW Z e cc nL own h (pc + 1) lv (.int (x ^^^ y) :: st) S) : MW Z e cc nL own h pc lv (.int y :: .int x :: st) S := by
  obtain ⟨p, l, ee, R, s, m, args, below, meth, c, A, ⟨ck, cn⟩, Qf⟩ := Z
  intro g H locs ls hl hP hD hS
  exact lv_ixor g.1 g.2.1 d  (k g H locs ls hl hP hD hS)
theorem m_ishl {Z : Zt} {e : GE} {cc : ByteArray} {nL : Nat} {own : String} {h pc : Nat} {lv : List (Nat × Value)} {st : List Value} {S : St} {x y : Int32} (d : decode cc pc = .ok (.ishl, 1))  (k : MW Z e cc nL own h (pc + 1) lv (.int (x <<< (y &&& 31)) :: st) S) : MW Z e cc nL own h pc lv (.int y :: .int x :: st) S := by
  obtain ⟨p, l, ee, R, s, m, args, below, meth, c, A, ⟨ck, cn⟩, Qf⟩ := Z
  intro g H locs ls hl hP hD hS
  exact lv_ishl g.1 g.2.1 d  (k g H locs ls hl hP hD hS)
theorem m_ishr {Z : Zt} {e : GE} {cc : ByteArray} {nL : Nat} {own : String} {h pc : Nat} {lv : List (Nat × Value)} {st : List Value} {S : St} {x y : Int32} (d : decode cc pc = .ok (.ishr, 1))  (k : MW Z e cc nL own h (pc + 1) lv (.int (x >>> (y &&& 31)) :: st) S) : MW Z e cc nL own h pc lv (.int y :: .int x :: st) S := by
  obtain ⟨p, l, ee, R, s, m, args, below, meth, c, A, ⟨ck, cn⟩, Qf⟩ := Z
  intro g H locs ls hl hP hD hS
  exact lv_ishr g.1 g.2.1 d  (k g H locs ls hl hP hD hS)
theorem m_idiv {Z : Zt} {e : GE} {cc : ByteArray} {nL : Nat} {own : String} {h pc : Nat} {lv : List (Nat × Value)} {st : List Value} {S : St} {x y : Int32} (d : decode cc pc = .ok (.idiv, 1)) (hne : ¬ y = 0) (k : MW Z e cc nL own h (pc + 1) lv (.int (x / y) :: st) S) : MW Z e cc nL own h pc lv (.int y :: .int x :: st) S := by
  obtain ⟨p, l, ee, R, s, m, args, below, meth, c, A, ⟨ck, cn⟩, Qf⟩ := Z
  intro g H locs ls hl hP hD hS
  exact lv_idiv g.1 g.2.1 d hne (k g H locs ls hl hP hD hS)
theorem m_irem {Z : Zt} {e : GE} {cc : ByteArray} {nL : Nat} {own : String} {h pc : Nat} {lv : List (Nat × Value)} {st : List Value} {S : St} {x y : Int32} (d : decode cc pc = .ok (.irem, 1)) (hne : ¬ y = 0) (k : MW Z e cc nL own h (pc + 1) lv (.int (x - x / y * y) :: st) S) : MW Z e cc nL own h pc lv (.int y :: .int x :: st) S := by
  obtain ⟨p, l, ee, R, s, m, args, below, meth, c, A, ⟨ck, cn⟩, Qf⟩ := Z
  intro g H locs ls hl hP hD hS
  exact lv_irem g.1 g.2.1 d hne (k g H locs ls hl hP hD hS)
theorem m_ineg {Z : Zt} {e : GE} {cc : ByteArray} {nL : Nat} {own : String} {h pc : Nat} {lv : List (Nat × Value)} {st : List Value} {S : St} {x : Int32} (d : decode cc pc = .ok (.ineg, 1))  (k : MW Z e cc nL own h (pc + 1) lv (.int (-x) :: st) S) : MW Z e cc nL own h pc lv (.int x :: st) S := by
  obtain ⟨p, l, ee, R, s, m, args, below, meth, c, A, ⟨ck, cn⟩, Qf⟩ := Z
  intro g H locs ls hl hP hD hS
  exact lv_ineg g.1 g.2.1 d  (k g H locs ls hl hP hD hS)
theorem m_ladd {Z : Zt} {e : GE} {cc : ByteArray} {nL : Nat} {own : String} {h pc : Nat} {lv : List (Nat × Value)} {st : List Value} {S : St} {x y : Int64} (d : decode cc pc = .ok (.ladd, 1))  (k : MW Z e cc nL own h (pc + 1) lv (.long (x + y) :: st) S) : MW Z e cc nL own h pc lv (.long y :: .long x :: st) S := by
  obtain ⟨p, l, ee, R, s, m, args, below, meth, c, A, ⟨ck, cn⟩, Qf⟩ := Z
  intro g H locs ls hl hP hD hS
  exact lv_ladd g.1 g.2.1 d  (k g H locs ls hl hP hD hS)
theorem m_lmul {Z : Zt} {e : GE} {cc : ByteArray} {nL : Nat} {own : String} {h pc : Nat} {lv : List (Nat × Value)} {st : List Value} {S : St} {x y : Int64} (d : decode cc pc = .ok (.lmul, 1))  (k : MW Z e cc nL own h (pc + 1) lv (.long (x * y) :: st) S) : MW Z e cc nL own h pc lv (.long y :: .long x :: st) S := by
  obtain ⟨p, l, ee, R, s, m, args, below, meth, c, A, ⟨ck, cn⟩, Qf⟩ := Z
  intro g H locs ls hl hP hD hS
  exact lv_lmul g.1 g.2.1 d  (k g H locs ls hl hP hD hS)
theorem m_land {Z : Zt} {e : GE} {cc : ByteArray} {nL : Nat} {own : String} {h pc : Nat} {lv : List (Nat × Value)} {st : List Value} {S : St} {x y : Int64} (d : decode cc pc = .ok (.land, 1))  (k : MW Z e cc nL own h (pc + 1) lv (.long (x &&& y) :: st) S) : MW Z e cc nL own h pc lv (.long y :: .long x :: st) S := by
  obtain ⟨p, l, ee, R, s, m, args, below, meth, c, A, ⟨ck, cn⟩, Qf⟩ := Z
  intro g H locs ls hl hP hD hS
  exact lv_land g.1 g.2.1 d  (k g H locs ls hl hP hD hS)
theorem m_lor {Z : Zt} {e : GE} {cc : ByteArray} {nL : Nat} {own : String} {h pc : Nat} {lv : List (Nat × Value)} {st : List Value} {S : St} {x y : Int64} (d : decode cc pc = .ok (.lor, 1))  (k : MW Z e cc nL own h (pc + 1) lv (.long (x ||| y) :: st) S) : MW Z e cc nL own h pc lv (.long y :: .long x :: st) S := by
  obtain ⟨p, l, ee, R, s, m, args, below, meth, c, A, ⟨ck, cn⟩, Qf⟩ := Z
  intro g H locs ls hl hP hD hS
  exact lv_lor g.1 g.2.1 d  (k g H locs ls hl hP hD hS)
theorem m_i2l {Z : Zt} {e : GE} {cc : ByteArray} {nL : Nat} {own : String} {h pc : Nat} {lv : List (Nat × Value)} {st : List Value} {S : St} {x : Int32} (d : decode cc pc = .ok (.i2l, 1))  (k : MW Z e cc nL own h (pc + 1) lv (.long x.toInt64 :: st) S) : MW Z e cc nL own h pc lv (.int x :: st) S := by
  obtain ⟨p, l, ee, R, s, m, args, below, meth, c, A, ⟨ck, cn⟩, Qf⟩ := Z
  intro g H locs ls hl hP hD hS
  exact lv_i2l g.1 g.2.1 d rfl (k g H locs ls hl hP hD hS)
theorem m_l2i {Z : Zt} {e : GE} {cc : ByteArray} {nL : Nat} {own : String} {h pc : Nat} {lv : List (Nat × Value)} {st : List Value} {S : St} {x : Int64} (d : decode cc pc = .ok (.l2i, 1))  (k : MW Z e cc nL own h (pc + 1) lv (.int x.toInt32 :: st) S) : MW Z e cc nL own h pc lv (.long x :: st) S := by
  obtain ⟨p, l, ee, R, s, m, args, below, meth, c, A, ⟨ck, cn⟩, Qf⟩ := Z
  intro g H locs ls hl hP hD hS
  exact lv_l2i g.1 g.2.1 d rfl (k g H locs ls hl hP hD hS)
theorem m_i2b {Z : Zt} {e : GE} {cc : ByteArray} {nL : Nat} {own : String} {h pc : Nat} {lv : List (Nat × Value)} {st : List Value} {S : St} {x : Int32} (d : decode cc pc = .ok (.i2b, 1))  (k : MW Z e cc nL own h (pc + 1) lv (.int x.toInt8.toInt32 :: st) S) : MW Z e cc nL own h pc lv (.int x :: st) S := by
  obtain ⟨p, l, ee, R, s, m, args, below, meth, c, A, ⟨ck, cn⟩, Qf⟩ := Z
  intro g H locs ls hl hP hD hS
  exact lv_i2b g.1 g.2.1 d rfl (k g H locs ls hl hP hD hS)
theorem m_i2c {Z : Zt} {e : GE} {cc : ByteArray} {nL : Nat} {own : String} {h pc : Nat} {lv : List (Nat × Value)} {st : List Value} {S : St} {x : Int32} (d : decode cc pc = .ok (.i2c, 1))  (k : MW Z e cc nL own h (pc + 1) lv (.int (x.toUInt32 % 65536).toInt32 :: st) S) : MW Z e cc nL own h pc lv (.int x :: st) S := by
  obtain ⟨p, l, ee, R, s, m, args, below, meth, c, A, ⟨ck, cn⟩, Qf⟩ := Z
  intro g H locs ls hl hP hD hS
  exact lv_i2c g.1 g.2.1 d rfl (k g H locs ls hl hP hD hS)
theorem m_lushr {Z : Zt} {e : GE} {cc : ByteArray} {nL : Nat} {own : String} {h pc : Nat} {lv : List (Nat × Value)} {st : List Value} {S : St} {x : Int64} {y : Int32} (d : decode cc pc = .ok (.lushr, 1))  (k : MW Z e cc nL own h (pc + 1) lv (.long (x.toUInt64 >>> (y.toInt64.toUInt64 &&& Int64.toUInt64 63)).toInt64 :: st) S) : MW Z e cc nL own h pc lv (.int y :: .long x :: st) S := by
  obtain ⟨p, l, ee, R, s, m, args, below, meth, c, A, ⟨ck, cn⟩, Qf⟩ := Z
  intro g H locs ls hl hP hD hS
  exact lv_lushr g.1 g.2.1 d rfl (k g H locs ls hl hP hD hS)
theorem m_lshl {Z : Zt} {e : GE} {cc : ByteArray} {nL : Nat} {own : String} {h pc : Nat} {lv : List (Nat × Value)} {st : List Value} {S : St} {x : Int64} {y : Int32} (d : decode cc pc = .ok (.lshl, 1))  (k : MW Z e cc nL own h (pc + 1) lv (.long (x <<< (y.toInt64 &&& 63)) :: st) S) : MW Z e cc nL own h pc lv (.int y :: .long x :: st) S := by
  obtain ⟨p, l, ee, R, s, m, args, below, meth, c, A, ⟨ck, cn⟩, Qf⟩ := Z
  intro g H locs ls hl hP hD hS
  exact lv_lshl g.1 g.2.1 d rfl (k g H locs ls hl hP hD hS)
theorem m_lshr {Z : Zt} {e : GE} {cc : ByteArray} {nL : Nat} {own : String} {h pc : Nat} {lv : List (Nat × Value)} {st : List Value} {S : St} {x : Int64} {y : Int32} (d : decode cc pc = .ok (.lshr, 1))  (k : MW Z e cc nL own h (pc + 1) lv (.long (x >>> (y.toInt64 &&& 63)) :: st) S) : MW Z e cc nL own h pc lv (.int y :: .long x :: st) S := by
  obtain ⟨p, l, ee, R, s, m, args, below, meth, c, A, ⟨ck, cn⟩, Qf⟩ := Z
  intro g H locs ls hl hP hD hS
  exact lv_lshr g.1 g.2.1 d rfl (k g H locs ls hl hP hD hS)
theorem m_lcmp {Z : Zt} {e : GE} {cc : ByteArray} {nL : Nat} {own : String} {h pc : Nat} {lv : List (Nat × Value)} {st : List Value} {S : St} {x y : Int64} (d : decode cc pc = .ok (.lcmp, 1))  (k : MW Z e cc nL own h (pc + 1) lv (.int (lg_cmp x y) :: st) S) : MW Z e cc nL own h pc lv (.long y :: .long x :: st) S := by
  obtain ⟨p, l, ee, R, s, m, args, below, meth, c, A, ⟨ck, cn⟩, Qf⟩ := Z
  intro g H locs ls hl hP hD hS
  exact W.lcmp g.1 g.2.1 d  (k g H locs ls hl hP hD hS)
theorem m_dup {Z : Zt} {e : GE} {cc : ByteArray} {nL : Nat} {own : String} {h pc : Nat} {lv : List (Nat × Value)} {st : List Value} {S : St} {va : Value} (d : decode cc pc = .ok (.dup, 1)) (hc : va.category = 1) (k : MW Z e cc nL own h (pc + 1) lv (va :: va :: st) S) : MW Z e cc nL own h pc lv (va :: st) S := by
  obtain ⟨p, l, ee, R, s, m, args, below, meth, c, A, ⟨ck, cn⟩, Qf⟩ := Z
  intro g H locs ls hl hP hD hS
  exact lv_dup g.1 g.2.1 d hc (k g H locs ls hl hP hD hS)
theorem m_pop {Z : Zt} {e : GE} {cc : ByteArray} {nL : Nat} {own : String} {h pc : Nat} {lv : List (Nat × Value)} {st : List Value} {S : St} {va : Value} (d : decode cc pc = .ok (.pop, 1)) (hc : va.category = 1) (k : MW Z e cc nL own h (pc + 1) lv st S) : MW Z e cc nL own h pc lv (va :: st) S := by
  obtain ⟨p, l, ee, R, s, m, args, below, meth, c, A, ⟨ck, cn⟩, Qf⟩ := Z
  intro g H locs ls hl hP hD hS
  exact lv_pop g.1 g.2.1 d hc (k g H locs ls hl hP hD hS)
theorem m_dup2 {Z : Zt} {e : GE} {cc : ByteArray} {nL : Nat} {own : String} {h pc : Nat} {lv : List (Nat × Value)} {st : List Value} {S : St} {va vb : Value} (d : decode cc pc = .ok (.dup2, 1)) (hc : va.category = 1) (hc2 : vb.category = 1) (k : MW Z e cc nL own h (pc + 1) lv (va :: vb :: va :: vb :: st) S) : MW Z e cc nL own h pc lv (va :: vb :: st) S := by
  obtain ⟨p, l, ee, R, s, m, args, below, meth, c, A, ⟨ck, cn⟩, Qf⟩ := Z
  intro g H locs ls hl hP hD hS
  exact lv_dup2_11 g.1 g.2.1 d hc hc2 (k g H locs ls hl hP hD hS)
theorem m_dup_x1 {Z : Zt} {e : GE} {cc : ByteArray} {nL : Nat} {own : String} {h pc : Nat} {lv : List (Nat × Value)} {st : List Value} {S : St} {va vb : Value} (d : decode cc pc = .ok (.dup_x1, 1)) (hc : va.category = 1) (hc2 : vb.category = 1) (k : MW Z e cc nL own h (pc + 1) lv (va :: vb :: va :: st) S) : MW Z e cc nL own h pc lv (va :: vb :: st) S := by
  obtain ⟨p, l, ee, R, s, m, args, below, meth, c, A, ⟨ck, cn⟩, Qf⟩ := Z
  intro g H locs ls hl hP hD hS
  exact lv_dup_x1 g.1 g.2.1 d hc hc2 (k g H locs ls hl hP hD hS)
theorem m_if_eq {Z : Zt} {e : GE} {cc : ByteArray} {nL : Nat} {own : String} {h pc : Nat} {lv : List (Nat × Value)} {st : List Value} {S : St} {x : Int32} {off : Int} {tgt : Nat} (d : decode cc pc = .ok (.ifCond .eq off, 3)) (ht : (pc : Int) + off = (tgt : Int)) (kt : x = 0 → MW Z e cc nL own h tgt lv st S) (kf : ¬ x = 0 → MW Z e cc nL own h (pc + 3) lv st S) : MW Z e cc nL own h pc lv (.int x :: st) S := by
  obtain ⟨p, l, ee, R, s, m, args, below, meth, c, A, ⟨ck, cn⟩, Qf⟩ := Z
  intro g H locs ls hl hP hD hS
  exact lv_if_eq g.1 g.2.1 d ht (fun z => kt z g H locs ls hl hP hD hS) (fun z => kf z g H locs ls hl hP hD hS)
theorem m_if_ne {Z : Zt} {e : GE} {cc : ByteArray} {nL : Nat} {own : String} {h pc : Nat} {lv : List (Nat × Value)} {st : List Value} {S : St} {x : Int32} {off : Int} {tgt : Nat} (d : decode cc pc = .ok (.ifCond .ne off, 3)) (ht : (pc : Int) + off = (tgt : Int)) (kt : ¬ x = 0 → MW Z e cc nL own h tgt lv st S) (kf : ¬ (¬ x = 0) → MW Z e cc nL own h (pc + 3) lv st S) : MW Z e cc nL own h pc lv (.int x :: st) S := by
  obtain ⟨p, l, ee, R, s, m, args, below, meth, c, A, ⟨ck, cn⟩, Qf⟩ := Z
  intro g H locs ls hl hP hD hS
  exact lv_if_ne g.1 g.2.1 d ht (fun z => kt z g H locs ls hl hP hD hS) (fun z => kf z g H locs ls hl hP hD hS)
theorem m_if_lt {Z : Zt} {e : GE} {cc : ByteArray} {nL : Nat} {own : String} {h pc : Nat} {lv : List (Nat × Value)} {st : List Value} {S : St} {x : Int32} {off : Int} {tgt : Nat} (d : decode cc pc = .ok (.ifCond .lt off, 3)) (ht : (pc : Int) + off = (tgt : Int)) (kt : x < 0 → MW Z e cc nL own h tgt lv st S) (kf : ¬ x < 0 → MW Z e cc nL own h (pc + 3) lv st S) : MW Z e cc nL own h pc lv (.int x :: st) S := by
  obtain ⟨p, l, ee, R, s, m, args, below, meth, c, A, ⟨ck, cn⟩, Qf⟩ := Z
  intro g H locs ls hl hP hD hS
  exact lv_if_lt g.1 g.2.1 d ht (fun z => kt z g H locs ls hl hP hD hS) (fun z => kf z g H locs ls hl hP hD hS)
theorem m_if_ge {Z : Zt} {e : GE} {cc : ByteArray} {nL : Nat} {own : String} {h pc : Nat} {lv : List (Nat × Value)} {st : List Value} {S : St} {x : Int32} {off : Int} {tgt : Nat} (d : decode cc pc = .ok (.ifCond .ge off, 3)) (ht : (pc : Int) + off = (tgt : Int)) (kt : 0 ≤ x → MW Z e cc nL own h tgt lv st S) (kf : ¬ 0 ≤ x → MW Z e cc nL own h (pc + 3) lv st S) : MW Z e cc nL own h pc lv (.int x :: st) S := by
  obtain ⟨p, l, ee, R, s, m, args, below, meth, c, A, ⟨ck, cn⟩, Qf⟩ := Z
  intro g H locs ls hl hP hD hS
  exact lv_if_ge g.1 g.2.1 d ht (fun z => kt z g H locs ls hl hP hD hS) (fun z => kf z g H locs ls hl hP hD hS)
theorem m_if_gt {Z : Zt} {e : GE} {cc : ByteArray} {nL : Nat} {own : String} {h pc : Nat} {lv : List (Nat × Value)} {st : List Value} {S : St} {x : Int32} {off : Int} {tgt : Nat} (d : decode cc pc = .ok (.ifCond .gt off, 3)) (ht : (pc : Int) + off = (tgt : Int)) (kt : 0 < x → MW Z e cc nL own h tgt lv st S) (kf : ¬ 0 < x → MW Z e cc nL own h (pc + 3) lv st S) : MW Z e cc nL own h pc lv (.int x :: st) S := by
  obtain ⟨p, l, ee, R, s, m, args, below, meth, c, A, ⟨ck, cn⟩, Qf⟩ := Z
  intro g H locs ls hl hP hD hS
  exact lv_if_gt g.1 g.2.1 d ht (fun z => kt z g H locs ls hl hP hD hS) (fun z => kf z g H locs ls hl hP hD hS)
theorem m_if_le {Z : Zt} {e : GE} {cc : ByteArray} {nL : Nat} {own : String} {h pc : Nat} {lv : List (Nat × Value)} {st : List Value} {S : St} {x : Int32} {off : Int} {tgt : Nat} (d : decode cc pc = .ok (.ifCond .le off, 3)) (ht : (pc : Int) + off = (tgt : Int)) (kt : x ≤ 0 → MW Z e cc nL own h tgt lv st S) (kf : ¬ x ≤ 0 → MW Z e cc nL own h (pc + 3) lv st S) : MW Z e cc nL own h pc lv (.int x :: st) S := by
  obtain ⟨p, l, ee, R, s, m, args, below, meth, c, A, ⟨ck, cn⟩, Qf⟩ := Z
  intro g H locs ls hl hP hD hS
  exact lv_if_le g.1 g.2.1 d ht (fun z => kt z g H locs ls hl hP hD hS) (fun z => kf z g H locs ls hl hP hD hS)
theorem m_icmp_eq {Z : Zt} {e : GE} {cc : ByteArray} {nL : Nat} {own : String} {h pc : Nat} {lv : List (Nat × Value)} {st : List Value} {S : St} {x y : Int32} {off : Int} {tgt : Nat} (d : decode cc pc = .ok (.if_icmp .eq off, 3)) (ht : (pc : Int) + off = (tgt : Int)) (kt : x = y → MW Z e cc nL own h tgt lv st S) (kf : ¬ x = y → MW Z e cc nL own h (pc + 3) lv st S) : MW Z e cc nL own h pc lv (.int y :: .int x :: st) S := by
  obtain ⟨p, l, ee, R, s, m, args, below, meth, c, A, ⟨ck, cn⟩, Qf⟩ := Z
  intro g H locs ls hl hP hD hS
  exact lv_icmp_eq g.1 g.2.1 d ht (fun z => kt z g H locs ls hl hP hD hS) (fun z => kf z g H locs ls hl hP hD hS)
theorem m_icmp_ne {Z : Zt} {e : GE} {cc : ByteArray} {nL : Nat} {own : String} {h pc : Nat} {lv : List (Nat × Value)} {st : List Value} {S : St} {x y : Int32} {off : Int} {tgt : Nat} (d : decode cc pc = .ok (.if_icmp .ne off, 3)) (ht : (pc : Int) + off = (tgt : Int)) (kt : ¬ x = y → MW Z e cc nL own h tgt lv st S) (kf : ¬ (¬ x = y) → MW Z e cc nL own h (pc + 3) lv st S) : MW Z e cc nL own h pc lv (.int y :: .int x :: st) S := by
  obtain ⟨p, l, ee, R, s, m, args, below, meth, c, A, ⟨ck, cn⟩, Qf⟩ := Z
  intro g H locs ls hl hP hD hS
  exact lv_icmp_ne g.1 g.2.1 d ht (fun z => kt z g H locs ls hl hP hD hS) (fun z => kf z g H locs ls hl hP hD hS)
theorem m_icmp_lt {Z : Zt} {e : GE} {cc : ByteArray} {nL : Nat} {own : String} {h pc : Nat} {lv : List (Nat × Value)} {st : List Value} {S : St} {x y : Int32} {off : Int} {tgt : Nat} (d : decode cc pc = .ok (.if_icmp .lt off, 3)) (ht : (pc : Int) + off = (tgt : Int)) (kt : x < y → MW Z e cc nL own h tgt lv st S) (kf : ¬ x < y → MW Z e cc nL own h (pc + 3) lv st S) : MW Z e cc nL own h pc lv (.int y :: .int x :: st) S := by
  obtain ⟨p, l, ee, R, s, m, args, below, meth, c, A, ⟨ck, cn⟩, Qf⟩ := Z
  intro g H locs ls hl hP hD hS
  exact lv_icmp_lt g.1 g.2.1 d ht (fun z => kt z g H locs ls hl hP hD hS) (fun z => kf z g H locs ls hl hP hD hS)
theorem m_icmp_ge {Z : Zt} {e : GE} {cc : ByteArray} {nL : Nat} {own : String} {h pc : Nat} {lv : List (Nat × Value)} {st : List Value} {S : St} {x y : Int32} {off : Int} {tgt : Nat} (d : decode cc pc = .ok (.if_icmp .ge off, 3)) (ht : (pc : Int) + off = (tgt : Int)) (kt : y ≤ x → MW Z e cc nL own h tgt lv st S) (kf : ¬ y ≤ x → MW Z e cc nL own h (pc + 3) lv st S) : MW Z e cc nL own h pc lv (.int y :: .int x :: st) S := by
  obtain ⟨p, l, ee, R, s, m, args, below, meth, c, A, ⟨ck, cn⟩, Qf⟩ := Z
  intro g H locs ls hl hP hD hS
  exact lv_icmp_ge g.1 g.2.1 d ht (fun z => kt z g H locs ls hl hP hD hS) (fun z => kf z g H locs ls hl hP hD hS)
theorem m_icmp_gt {Z : Zt} {e : GE} {cc : ByteArray} {nL : Nat} {own : String} {h pc : Nat} {lv : List (Nat × Value)} {st : List Value} {S : St} {x y : Int32} {off : Int} {tgt : Nat} (d : decode cc pc = .ok (.if_icmp .gt off, 3)) (ht : (pc : Int) + off = (tgt : Int)) (kt : y < x → MW Z e cc nL own h tgt lv st S) (kf : ¬ y < x → MW Z e cc nL own h (pc + 3) lv st S) : MW Z e cc nL own h pc lv (.int y :: .int x :: st) S := by
  obtain ⟨p, l, ee, R, s, m, args, below, meth, c, A, ⟨ck, cn⟩, Qf⟩ := Z
  intro g H locs ls hl hP hD hS
  exact lv_icmp_gt g.1 g.2.1 d ht (fun z => kt z g H locs ls hl hP hD hS) (fun z => kf z g H locs ls hl hP hD hS)
theorem m_icmp_le {Z : Zt} {e : GE} {cc : ByteArray} {nL : Nat} {own : String} {h pc : Nat} {lv : List (Nat × Value)} {st : List Value} {S : St} {x y : Int32} {off : Int} {tgt : Nat} (d : decode cc pc = .ok (.if_icmp .le off, 3)) (ht : (pc : Int) + off = (tgt : Int)) (kt : x ≤ y → MW Z e cc nL own h tgt lv st S) (kf : ¬ x ≤ y → MW Z e cc nL own h (pc + 3) lv st S) : MW Z e cc nL own h pc lv (.int y :: .int x :: st) S := by
  obtain ⟨p, l, ee, R, s, m, args, below, meth, c, A, ⟨ck, cn⟩, Qf⟩ := Z
  intro g H locs ls hl hP hD hS
  exact lv_icmp_le g.1 g.2.1 d ht (fun z => kt z g H locs ls hl hP hD hS) (fun z => kf z g H locs ls hl hP hD hS)
theorem m_goto {Z : Zt} {e : GE} {cc : ByteArray} {nL : Nat} {own : String} {h pc : Nat} {lv : List (Nat × Value)} {st : List Value} {S : St} {off : Int} {tgt : Nat} (d : decode cc pc = .ok (.goto off, 3)) (ht : (pc : Int) + off = (tgt : Int)) (k : MW Z e cc nL own h tgt lv st S) : MW Z e cc nL own h pc lv st S := by
  obtain ⟨p, l, ee, R, s, m, args, below, meth, c, A, ⟨ck, cn⟩, Qf⟩ := Z
  intro g H locs ls hl hP hD hS
  exact lv_goto g.1 g.2.1 d ht (k g H locs ls hl hP hD hS)
theorem m_tableIn {Z : Zt} {e : GE} {cc : ByteArray} {nL : Nat} {own : String} {h pc : Nat} {lv : List (Nat × Value)} {st : List Value} {S : St} {dflt lo hi : Int} {offs : Array Int} {len : Nat} {x : Int32} {off : Int} {tgt : Nat} (d : decode cc pc = .ok (.tableswitch dflt lo hi offs, len)) (h1 : ¬ x.toInt < lo) (h2 : ¬ hi < x.toInt) (ho : offs[(x.toInt - lo).toNat]? = some off) (ht : (pc : Int) + off = (tgt : Int)) (k : MW Z e cc nL own h tgt lv st S) : MW Z e cc nL own h pc lv (.int x :: st) S := by
  obtain ⟨p, l, ee, R, s, m, args, below, meth, c, A, ⟨ck, cn⟩, Qf⟩ := Z
  intro g H locs ls hl hP hD hS
  exact lv_tableIn g.1 g.2.1 d h1 h2 ho ht (k g H locs ls hl hP hD hS)
theorem m_tableOut {Z : Zt} {e : GE} {cc : ByteArray} {nL : Nat} {own : String} {h pc : Nat} {lv : List (Nat × Value)} {st : List Value} {S : St} {dflt lo hi : Int} {offs : Array Int} {len : Nat} {x : Int32} {tgt : Nat} (d : decode cc pc = .ok (.tableswitch dflt lo hi offs, len)) (h1 : x.toInt < lo ∨ hi < x.toInt) (ht : (pc : Int) + dflt = (tgt : Int)) (k : MW Z e cc nL own h tgt lv st S) : MW Z e cc nL own h pc lv (.int x :: st) S := by
  obtain ⟨p, l, ee, R, s, m, args, below, meth, c, A, ⟨ck, cn⟩, Qf⟩ := Z
  intro g H locs ls hl hP hD hS
  exact lv_tableOut g.1 g.2.1 d h1 ht (k g H locs ls hl hP hD hS)
theorem m_ldc2 {Z : Zt} {e : GE} {cc : ByteArray} {nL : Nat} {own : String} {h pc : Nat} {lv : List (Nat × Value)} {st : List Value} {S : St} {index : Nat} {v : Int64} (q : .constantLong own index v ∈ wsL_law) (d : decode cc pc = .ok (.ldc2_w index, 3)) (k : MW Z e cc nL own h (pc + 3) lv (.long v :: st) S) : MW Z e cc nL own h pc lv st S := by
  obtain ⟨p, l, ee, R, s, m, args, below, meth, c, A, ⟨ck, cn⟩, Qf⟩ := Z
  intro g H locs ls hl hP hD hS
  exact lv_ldc2 g.1 g.2.1 g.2.2.2.1 (g.2.2.2.2.1 _ q) d (k g H locs ls hl hP hD hS)
theorem m_ldc {Z : Zt} {e : GE} {cc : ByteArray} {nL : Nat} {own : String} {h pc : Nat} {lv : List (Nat × Value)} {st : List Value} {S : St} {index : Nat} {v : Int32} (q : .constant own index v ∈ wsL_law) (d : decode cc pc = .ok (.ldc index, 2)) (k : MW Z e cc nL own h (pc + 2) lv (.int v :: st) S) : MW Z e cc nL own h pc lv st S := by
  obtain ⟨p, l, ee, R, s, m, args, below, meth, c, A, ⟨ck, cn⟩, Qf⟩ := Z
  intro g H locs ls hl hP hD hS
  exact lv_ldc g.1 g.2.1 g.2.2.2.1 (g.2.2.2.2.1 _ q) d (k g H locs ls hl hP hD hS)
theorem m_ldcS {Z : Zt} {e : GE} {cc : ByteArray} {nL : Nat} {own : String} {h pc : Nat} {lv : List (Nat × Value)} {st : List Value} {S : St} {index i : Nat} {tx : String} (ho : own = RX3) (hi : i < 4) (h1 : ixS.getD i 0 = index) (d : decode cc pc = .ok (.ldc index, 2)) (k : MW Z e cc nL own h (pc + 2) lv (.ref (e.2.2.2.1 i) :: st) S) : MW Z e cc nL own h pc lv st S := by
  obtain ⟨p, l, ee, R, s, m, args, below, meth, c, A, ⟨ck, cn⟩, Qf⟩ := Z
  intro g H locs ls hl hP hD hS
  subst ho; subst h1
  exact va_ldcS g.1 g.2.1 g.2.2.2.1 (g.2.2.2.2.2.1.2.2 i hi) d (k g H locs ls hl hP hD hS)
theorem m_get {Z : Zt} {e : GE} {cc : ByteArray} {nL : Nat} {own : String} {h pc : Nat} {lv : List (Nat × Value)} {st : List Value} {S : St} {C : String} {T : u_T} {N ci index : Nat} {fs : List Value} {v : Value} (q0 k0 : Nat) (ho : (WW e S)[q0]? = some (e.2.2.1 q0, .inr (ci, fs))) (hc : vwCl[ci]? = some (C, T, N)) (hin : ∀ w ∈ u_ws C T N, w ∈ wsL_law) (hk : k0 < N) (ql : .fieldLink own index (T k0).1 (T k0).2.1 (T k0).2.2.1 ∈ wsL_law) (hv : fs[k0]? = some v) (d : decode cc pc = .ok (.getfield index, 3)) (k : MW Z e cc nL own h (pc + 3) lv (v :: st) S) : MW Z e cc nL own h pc lv (.ref (e.2.2.1 q0) :: st) S := by
  obtain ⟨p, l, ee, R, s, m, args, below, meth, c, A, ⟨ck, cn⟩, Qf⟩ := Z
  intro g H locs ls hl hP hD hS
  exact va_get g.1 g.2.1 g.2.2.2.2.1 hin g.2.2.2.1 g.2.2.2.2.2.1.1 hP q0 ho hc k0 hk (g.2.2.2.2.1 _ ql) (fun _ z => z) hv d (k g H locs ls hl hP hD hS)
theorem m_put {Z : Zt} {e : GE} {cc : ByteArray} {nL : Nat} {own : String} {h pc : Nat} {lv : List (Nat × Value)} {st : List Value} {S : St} {C : String} {T : u_T} {N ci index : Nat} {fs : List Value} {v : Value} {ty : FieldType} {S2 : St} (q0 k0 : Nat) (ty0 : Nat → FieldType) (hty : ∀ k, k < N → parseFieldDescriptor (T k).2.2.1 = some (ty0 k)) (hnm : ∀ a, a < N → ∀ b, b < N → a ≠ b → (T a).2.1 ≠ (T b).2.1) (ho : (WW e S)[q0]? = some (e.2.2.1 q0, .inr (ci, fs))) (hc : vwCl[ci]? = some (C, T, N)) (hin : ∀ w ∈ u_ws C T N, w ∈ wsL_law) (hk : k0 < N) (ql : .fieldLink own index (T k0).1 (T k0).2.1 (T k0).2.2.1 ∈ wsL_law) (hfin : (T k0).2.2.2 = false) (hd : parseFieldDescriptor (T k0).2.2.1 = some ty) (hn : narrow ty v = v) (hf : fits ty v = true) (hlen : k0 < fs.length) (hw : (WW e S).set q0 (e.2.2.1 q0, .inr (ci, fs.set k0 v)) = WW e S2) (d : decode cc pc = .ok (.putfield index, 3)) (k : ∀ S1, S1 = S2 → MW Z e cc nL own h (pc + 3) lv st S1) : MW Z e cc nL own h pc lv (v :: .ref (e.2.2.1 q0) :: st) S := by
  obtain ⟨p, l, ee, R, s, m, args, below, meth, c, A, ⟨ck, cn⟩, Qf⟩ := Z
  intro g H locs ls hl hP hD hS
  exact va_put g.1 g.2.1 g.2.2.2.2.1 hin ty0 hty hnm g.2.2.2.1 g.2.2.2.2.2.1.1 hP hD hS q0 ho hc k0 hk (g.2.2.2.2.1 _ ql) (fun _ z => z) hfin hd hn hf hlen d (fun H1 locs1 hP1 hD1 hS1 => k S2 rfl g H1 locs1 ls hl (hw ▸ hP1) (hw ▸ hD1) hS1)
theorem m_iald {Z : Zt} {e : GE} {cc : ByteArray} {nL : Nat} {own : String} {h pc : Nat} {lv : List (Nat × Value)} {st : List Value} {S : St} {n : Nat} {f : Nat → Int32} {i : Int32} (q0 : Nat) (ho : (WW e S)[q0]? = some (e.2.2.1 q0, .inl (e.2.1 0, n, .inl f))) (hin : vp_in i n) (d : decode cc pc = .ok (.iaload, 1)) (k : MW Z e cc nL own h (pc + 1) lv (.int (f i.toNatClampNeg) :: st) S) : MW Z e cc nL own h pc lv (.int i :: .ref (e.2.2.1 q0) :: st) S := by
  obtain ⟨p, l, ee, R, s, m, args, below, meth, c, A, ⟨ck, cn⟩, Qf⟩ := Z
  intro g H locs ls hl hP hD hS
  exact va_iald g.1 g.2.1 g.2.2.2.2.2.1.1 hP q0 0 ho rfl hin d (k g H locs ls hl hP hD hS)
theorem m_bald {Z : Zt} {e : GE} {cc : ByteArray} {nL : Nat} {own : String} {h pc : Nat} {lv : List (Nat × Value)} {st : List Value} {S : St} {n : Nat} {f : Nat → Int32} {i : Int32} (q0 : Nat) (ho : (WW e S)[q0]? = some (e.2.2.1 q0, .inl (e.2.1 1, n, .inl f))) (hin : vp_in i n) (d : decode cc pc = .ok (.baload, 1)) (k : MW Z e cc nL own h (pc + 1) lv (.int (f i.toNatClampNeg) :: st) S) : MW Z e cc nL own h pc lv (.int i :: .ref (e.2.2.1 q0) :: st) S := by
  obtain ⟨p, l, ee, R, s, m, args, below, meth, c, A, ⟨ck, cn⟩, Qf⟩ := Z
  intro g H locs ls hl hP hD hS
  exact va_bald g.1 g.2.1 g.2.2.2.2.2.1.1 hP q0 1 ho rfl hin d (k g H locs ls hl hP hD hS)
theorem m_zald {Z : Zt} {e : GE} {cc : ByteArray} {nL : Nat} {own : String} {h pc : Nat} {lv : List (Nat × Value)} {st : List Value} {S : St} {n : Nat} {f : Nat → Int32} {i : Int32} (q0 : Nat) (ho : (WW e S)[q0]? = some (e.2.2.1 q0, .inl (e.2.1 2, n, .inl f))) (hin : vp_in i n) (d : decode cc pc = .ok (.baload, 1)) (k : MW Z e cc nL own h (pc + 1) lv (.int (f i.toNatClampNeg) :: st) S) : MW Z e cc nL own h pc lv (.int i :: .ref (e.2.2.1 q0) :: st) S := by
  obtain ⟨p, l, ee, R, s, m, args, below, meth, c, A, ⟨ck, cn⟩, Qf⟩ := Z
  intro g H locs ls hl hP hD hS
  exact va_zald g.1 g.2.1 g.2.2.2.2.2.1.1 hP q0 2 ho rfl hin d (k g H locs ls hl hP hD hS)
theorem m_iast {Z : Zt} {e : GE} {cc : ByteArray} {nL : Nat} {own : String} {h pc : Nat} {lv : List (Nat × Value)} {st : List Value} {S : St} {n : Nat} {f : Nat → Int32} {i x : Int32} (q0 : Nat) (ho : (WW e S)[q0]? = some (e.2.2.1 q0, .inl (e.2.1 0, n, .inl f))) (hw : ∀ f2, (WW e S).set q0 (e.2.2.1 q0, .inl (e.2.1 0, n, .inl f2)) = WW e (setA S q0 f2)) (hin : vp_in i n) (d : decode cc pc = .ok (.iastore, 1)) (k : ∀ S1, S1 = setA S q0 (upd f i.toNatClampNeg x) → MW Z e cc nL own h (pc + 1) lv st S1) : MW Z e cc nL own h pc lv (.int x :: .int i :: .ref (e.2.2.1 q0) :: st) S := by
  obtain ⟨p, l, ee, R, s, m, args, below, meth, c, A, ⟨ck, cn⟩, Qf⟩ := Z
  intro g H locs ls hl hP hD hS
  exact va_iast g.1 g.2.1 g.2.2.2.2.2.1.1 hP hD hS q0 0 ho rfl hin d (fun H1 locs1 hP1 hD1 hS1 => k _ rfl g H1 locs1 ls hl (hw _ ▸ hP1) (hw _ ▸ hD1) hS1)
theorem m_bast {Z : Zt} {e : GE} {cc : ByteArray} {nL : Nat} {own : String} {h pc : Nat} {lv : List (Nat × Value)} {st : List Value} {S : St} {n : Nat} {f : Nat → Int32} {i x : Int32} (q0 : Nat) (ho : (WW e S)[q0]? = some (e.2.2.1 q0, .inl (e.2.1 1, n, .inl f))) (hw : ∀ f2, (WW e S).set q0 (e.2.2.1 q0, .inl (e.2.1 1, n, .inl f2)) = WW e (setA S q0 f2)) (hin : vp_in i n) (d : decode cc pc = .ok (.bastore, 1)) (k : ∀ S1, S1 = setA S q0 (upd f i.toNatClampNeg (vp_nar .byte x)) → MW Z e cc nL own h (pc + 1) lv st S1) : MW Z e cc nL own h pc lv (.int x :: .int i :: .ref (e.2.2.1 q0) :: st) S := by
  obtain ⟨p, l, ee, R, s, m, args, below, meth, c, A, ⟨ck, cn⟩, Qf⟩ := Z
  intro g H locs ls hl hP hD hS
  exact va_bast g.1 g.2.1 g.2.2.2.2.2.1.1 hP hD hS q0 1 ho rfl hin d (fun H1 locs1 hP1 hD1 hS1 => k _ rfl g H1 locs1 ls hl (hw _ ▸ hP1) (hw _ ▸ hD1) hS1)
theorem m_zast {Z : Zt} {e : GE} {cc : ByteArray} {nL : Nat} {own : String} {h pc : Nat} {lv : List (Nat × Value)} {st : List Value} {S : St} {n : Nat} {f : Nat → Int32} {i x : Int32} (q0 : Nat) (ho : (WW e S)[q0]? = some (e.2.2.1 q0, .inl (e.2.1 2, n, .inl f))) (hw : ∀ f2, (WW e S).set q0 (e.2.2.1 q0, .inl (e.2.1 2, n, .inl f2)) = WW e (setA S q0 f2)) (hin : vp_in i n) (d : decode cc pc = .ok (.bastore, 1)) (k : ∀ S1, S1 = setA S q0 (upd f i.toNatClampNeg (vp_nar .boolean x)) → MW Z e cc nL own h (pc + 1) lv st S1) : MW Z e cc nL own h pc lv (.int x :: .int i :: .ref (e.2.2.1 q0) :: st) S := by
  obtain ⟨p, l, ee, R, s, m, args, below, meth, c, A, ⟨ck, cn⟩, Qf⟩ := Z
  intro g H locs ls hl hP hD hS
  exact va_zast g.1 g.2.1 g.2.2.2.2.2.1.1 hP hD hS q0 2 ho rfl hin d (fun H1 locs1 hP1 hD1 hS1 => k _ rfl g H1 locs1 ls hl (hw _ ▸ hP1) (hw _ ▸ hD1) hS1)
theorem m_alen {Z : Zt} {e : GE} {cc : ByteArray} {nL : Nat} {own : String} {h pc : Nat} {lv : List (Nat × Value)} {st : List Value} {S : St} {x : ClassId × vp_A} {v : Int32} {t0 : Nat} {ty : FieldType} (q0 : Nat) (ho : (WW e S)[q0]? = some (e.2.2.1 q0, .inl x)) (ht : (tysG e)[t0]? = some (x.1, ty)) (hv : Int32.ofNat x.2.1 = v) (d : decode cc pc = .ok (.arraylength, 1)) (k : MW Z e cc nL own h (pc + 1) lv (.int v :: st) S) : MW Z e cc nL own h pc lv (.ref (e.2.2.1 q0) :: st) S := by
  obtain ⟨p, l, ee, R, s, m, args, below, meth, c, A, ⟨ck, cn⟩, Qf⟩ := Z
  intro g H locs ls hl hP hD hS
  exact va_alen g.1 g.2.1 g.2.2.2.2.2.1.1 hP q0 t0 ho ht hv d (k g H locs ls hl hP hD hS)
theorem m_aald {Z : Zt} {e : GE} {cc : ByteArray} {nL : Nat} {own : String} {h pc : Nat} {lv : List (Nat × Value)} {st : List Value} {S : St} {n : Nat} {f : Nat → Option Nat} {i : Int32} {a : Nat} (q0 : Nat) (ho : (WW e S)[q0]? = some (e.2.2.1 q0, .inl (e.2.1 3, n, .inr (.inr (.inr (.inr f)))))) (hin : vp_in i n) (hf : f i.toNatClampNeg = some a) (d : decode cc pc = .ok (.aaload, 1)) (k : MW Z e cc nL own h (pc + 1) lv (.ref a :: st) S) : MW Z e cc nL own h pc lv (.int i :: .ref (e.2.2.1 q0) :: st) S := by
  obtain ⟨p, l, ee, R, s, m, args, below, meth, c, A, ⟨ck, cn⟩, Qf⟩ := Z
  intro g H locs ls hl hP hD hS
  have k1 := (k g H locs ls hl hP hD hS)
  refine va_aldq g.1 g.2.1 g.2.2.2.2.2.1.1 hP q0 3 ho rfl hin d ?_
  rw [hf]
  exact k1
theorem m_mmax {Z : Zt} {e : GE} {cc : ByteArray} {nL : Nat} {own : String} {h pc : Nat} {lv : List (Nat × Value)} {st : List Value} {S : St} {x y : Int32} {index : Nat} (q : .methodLink own index Lib.Math.max.name ∈ wsL_law) (q2 : .static Lib.Math.max.name ∈ wsL_law) (q3 : .initialized "java/lang/Math" ∈ wsL_law) (q4 : .code Lib.Math.max.name Lib.Math.max.code 2 (some .int) ∈ wsL_law) (hh : 1 ≤ h) (hc : (st.map fun v => v.category).sum ≤ 8) (d : decode cc pc = .ok (.invokestatic index, 3)) (k : MW Z e cc nL own h (pc + 3) lv (.int (if x < y then y else x) :: st) S) : MW Z e cc nL own h pc lv (.int y :: .int x :: st) S := by
  obtain ⟨p, l, ee, R, s, m, args, below, meth, c, A, ⟨ck, cn⟩, Qf⟩ := Z
  intro g H locs ls hl hP hD hS
  have g8 := g.2.2.2.2.2.2.2.1
  exact va_mmax g.1 g.2.1 (by rw [g.2.2.1]; exact hl.1.symm) g.2.2.2.1 (g.2.2.2.2.1 _ q) (g.2.2.2.2.1 _ q2) (g.2.2.2.2.1 _ q3) (g.2.2.2.2.1 _ q4) (by omega) (by omega) g8.2.2.1 g8.2.2.2 d (k g H locs ls hl hP hD hS)
theorem m_mmin {Z : Zt} {e : GE} {cc : ByteArray} {nL : Nat} {own : String} {h pc : Nat} {lv : List (Nat × Value)} {st : List Value} {S : St} {x y : Int32} {index : Nat} (q : .methodLink own index Lib.Math.min.name ∈ wsL_law) (q2 : .static Lib.Math.min.name ∈ wsL_law) (q3 : .initialized "java/lang/Math" ∈ wsL_law) (q4 : .code Lib.Math.min.name Lib.Math.min.code 2 (some .int) ∈ wsL_law) (hh : 1 ≤ h) (hc : (st.map fun v => v.category).sum ≤ 8) (d : decode cc pc = .ok (.invokestatic index, 3)) (k : MW Z e cc nL own h (pc + 3) lv (.int (if y < x then y else x) :: st) S) : MW Z e cc nL own h pc lv (.int y :: .int x :: st) S := by
  obtain ⟨p, l, ee, R, s, m, args, below, meth, c, A, ⟨ck, cn⟩, Qf⟩ := Z
  intro g H locs ls hl hP hD hS
  have g8 := g.2.2.2.2.2.2.2.1
  exact va_mmin g.1 g.2.1 (by rw [g.2.2.1]; exact hl.1.symm) g.2.2.2.1 (g.2.2.2.2.1 _ q) (g.2.2.2.2.1 _ q2) (g.2.2.2.2.1 _ q3) (g.2.2.2.2.1 _ q4) (by omega) (by omega) g8.2.2.1 g8.2.2.2 d (k g H locs ls hl hP hD hS)
theorem m_copy {Z : Zt} {e : GE} {cc : ByteArray} {nL : Nat} {own : String} {h pc : Nat} {lv : List (Nat × Value)} {st : List Value} {S : St} {n0 n1 : Nat} {f f1 : Nat → Int32} {n : Int32} {index : Nat} {S2 : St} (q0 q1 : Nat) (qa : .methodLink own index arraycopyName ∈ wsL_law) (qb : .native arraycopyName ∈ wsL_law) (qc : .static arraycopyName ∈ wsL_law) (qd : .initialized "java/lang/System" ∈ wsL_law) (ho : (WW e S)[q0]? = some (e.2.2.1 q0, .inl (e.2.1 0, n0, .inl f))) (ho1 : (WW e S)[q1]? = some (e.2.2.1 q1, .inl (e.2.1 0, n1, .inl f1))) (h3 : ¬ n < 0) (h4 : n.toNatClampNeg = n1) (h5 : n1 ≤ n0) (hw : (WW e S).set q1 (e.2.2.1 q1, .inl (e.2.1 0, n1, .inl f)) = WW e S2) (hh : 2 ≤ h) (hc : (st.map fun v => v.category).sum ≤ 8) (d : decode cc pc = .ok (.invokestatic index, 3)) (k : ∀ S1, S1 = S2 → MW Z e cc nL own h (pc + 3) lv st S1) : MW Z e cc nL own h pc lv (.int n :: .int 0 :: .ref (e.2.2.1 q1) :: .int 0 :: .ref (e.2.2.1 q0) :: st) S := by
  obtain ⟨p, l, ee, R, s, m, args, below, meth, c, A, ⟨ck, cn⟩, Qf⟩ := Z
  intro g H locs ls hl hP hD hS
  have g8 := g.2.2.2.2.2.2.2.1
  have hz : (0 : Int32).toNatClampNeg = 0 := by decide
  refine va_copyi g.1 g.2.1 (by rw [g.2.2.1]; exact hl.1.symm) g.2.2.2.1 (g.2.2.2.2.1 _ qa) (g.2.2.2.2.1 _ qb) (g.2.2.2.2.1 _ qc) (g.2.2.2.2.1 _ qd) g.2.2.2.2.2.1.1 hP hD hS q0 q1 0 0 ho ho1 rfl rfl (ty := .int) rfl (by decide) (by decide) h3 (by rw [hz, h4]; omega) (by rw [hz, h4]; omega) (fun _ _ => rfl) (by omega) (by have e1 : nativeFrameWords "java/lang/System" "arraycopy" 5 + 11 ≤ 40 := by decide
                                                                                                                                                                                                                                                          omega) d (fun H1 locs1 hP1 hD1 hS1 => ?_)
  rw [hz, h4] at hP1 hD1
  have e2 : ∀ j, j < n1 → va_cpy f f1 0 0 n1 j = f j := fun j hj => by simp [va_cpy, hj]
  have e3 : vp_cell (e.2.1 0) (n1, .inl (va_cpy f f1 0 0 n1)) = vp_cell (e.2.1 0) (n1, .inl f) := cell_cong e2
  exact k S2 rfl g H1 locs1 ls hl (hw ▸ P_cong ho1 e3 hP1) (WW_D S2 hD) hS1
theorem RT.get {Z : Zt} {e : GE} {ret : Option FieldType} {post : Option Value → St → Prop} (h : RT Z e ret post) : RT Z e ret post := h
theorem m_iret {Z : Zt} {e : GE} {cc : ByteArray} {nL : Nat} {own : String} {h pc : Nat} {lv : List (Nat × Value)} {S : St} {v : Int32} {post : Option Value → St → Prop} (hr : RT Z e (some .int) post)  (hp : post (some (.int v)) S) (d : decode cc pc = .ok (.ireturn, 1)) : MW Z e cc nL own h pc lv [.int v] S := by
  obtain ⟨p, l, ee, R, s, m, args, below, meth, c, A, ⟨ck, cn⟩, Qf⟩ := Z
  intro g H locs ls hl hP hD hS
  obtain ⟨r1, r2, rfl, rfl, rfl, rfl⟩ := hr
  exact W.iret g.1 g.2.1 r1 (fun t ht hW => ⟨⟨_, S, rfl, hp, by rw [ht]; exact hP⟩, hS.F ht⟩) hS.2.2 d r2
theorem m_zret {Z : Zt} {e : GE} {cc : ByteArray} {nL : Nat} {own : String} {h pc : Nat} {lv : List (Nat × Value)} {S : St} {v : Int32} {ty : FieldType} {post : Option Value → St → Prop} (hr : RT Z e (some ty) post) (hn : narrow ty (.int v) = .int v) (hp : post (some (.int v)) S) (d : decode cc pc = .ok (.ireturn, 1)) : MW Z e cc nL own h pc lv [.int v] S := by
  obtain ⟨p, l, ee, R, s, m, args, below, meth, c, A, ⟨ck, cn⟩, Qf⟩ := Z
  intro g H locs ls hl hP hD hS
  obtain ⟨r1, r2, rfl, rfl, rfl, rfl⟩ := hr
  exact W.zret g.1 g.2.1 r1 hn (fun t ht hW => ⟨⟨_, S, rfl, hp, by rw [ht]; exact hP⟩, hS.F ht⟩) hS.2.2 d r2
theorem m_vret {Z : Zt} {e : GE} {cc : ByteArray} {nL : Nat} {own : String} {h pc : Nat} {lv : List (Nat × Value)} {S : St}  {post : Option Value → St → Prop} (hr : RT Z e none post)  (hp : post none S) (d : decode cc pc = .ok (.return_, 1)) : MW Z e cc nL own h pc lv [] S := by
  obtain ⟨p, l, ee, R, s, m, args, below, meth, c, A, ⟨ck, cn⟩, Qf⟩ := Z
  intro g H locs ls hl hP hD hS
  obtain ⟨r1, r2, rfl, rfl, rfl, rfl⟩ := hr
  exact W.vret g.1 g.2.1 r1 (fun t ht hW => ⟨⟨_, S, rfl, hp, by rw [ht]; exact hP⟩, hS.F ht⟩) hS.2.2 d r2
theorem m_lret {Z : Zt} {e : GE} {cc : ByteArray} {nL : Nat} {own : String} {h pc : Nat} {lv : List (Nat × Value)} {S : St} {v : Int64} {post : Option Value → St → Prop} (hr : RT Z e (some .long) post)  (hp : post (some (.long v)) S) (d : decode cc pc = .ok (.lreturn, 1)) : MW Z e cc nL own h pc lv [.long v] S := by
  obtain ⟨p, l, ee, R, s, m, args, below, meth, c, A, ⟨ck, cn⟩, Qf⟩ := Z
  intro g H locs ls hl hP hD hS
  obtain ⟨r1, r2, rfl, rfl, rfl, rfl⟩ := hr
  exact W.lret g.1 g.2.1 r1 (fun t ht hW => ⟨⟨_, S, rfl, hp, by rw [ht]; exact hP⟩, hS.F ht⟩) hS.2.2 d r2
end
section
theorem CT.of {e : GE} {y : MethodName} {cc : ByteArray} {nL : Nat} {ret : Option FieldType} {h : Nat} {args : List Value} {S : St} {post : Option Value → St → Prop} (hy : plainName y.cls = true) (hlen : (lg_sl args).length ≤ nL)
    (body : ∀ Z : Zt, RT Z e ret post → MW Z e cc nL y.cls h 0 (lv_args 0 args) [] S) : CT e y cc nL ret h args S post := by
  intro l sz
  refine Met.ofW (cc := cc) (maxL := nL) (ret := ret) hy rfl ?_
  intro p ee s m a below meth c s₁ B hml hv
  obtain ⟨rfl, hsz, hP, hK, hD0, hE⟩ := hv
  have hts0 := atoms_spec (ws := .code y cc nL ret :: wsL_law) B.pre
  have hown : s.vm.findClass y.cls = some m.cls := findClass_of_methodNamed B.named
  subst hsz
  have hl := lv_entry args (n := nL) hlen
  rw [lg_entry_eq]
  have hA : ∀ j, j < 62 → AA e s.heap.size (e.2.2.1 j) := fun j hj => Or.inl ⟨j, hj, rfl⟩
  have hD : va_D (AA e s.heap.size) (WW e S) := ⟨hD0.1, fun k q hq => by
    have h1 : (WW e S)[k]?.map (fun q => q.1) = some q.1 := by rw [hq]; rfl
    have hm : (WW e S).map (fun q => q.1) = (List.range 62).map e.2.2.1 := rfl
    rw [← List.getElem?_map, hm, List.getElem?_map] at h1
    cases hr : (List.range 62)[k]? with
    | none => rw [hr] at h1; cases h1
    | some i =>
      rw [hr] at h1
      have h2 : e.2.2.1 i = q.1 := Option.some.inj h1
      have h3 : i < 62 := List.mem_range.mp (List.mem_of_getElem? hr)
      rw [← h2]
      exact hA i h3⟩
  exact body (p, l, ee, (headSpec (.code y cc nL ret :: wsL_law) (rmH h)).room, s, m, args.toArray, below, meth, c, AA e s.heap.size, (0, 0), MQ below (QV e s.heap.size post) args.toArray s 0 0 (AA e s.heap.size)) ⟨B.returns, B.notSynchronized, rfl, rfl, rfl, rfl⟩
    ⟨B.exec, B.bytes, hml, hown, fun w hw => hts0 w (List.mem_cons_of_mem _ hw), hK, hE, ⟨Nat.le_refl h, Nat.le_refl (40 * h), Nat.le_refl 0, Nat.le_refl 0⟩, fun q hq => Or.inr hq, hA⟩ s.heap [] _ hl hP hD va_S.rf
theorem PRE.blind {e : GE} {sz : Nat} {S : St} {av : List Value} : FrameBlind (va_Pc av (PRE e sz S)) := by
  intro a U g mk q
  obtain ⟨q0, q1, q2, q3, q4, q5⟩ := q
  exact ⟨q0, q1, q2, q3.same (s := U) (U := U.calling g mk a) rfl, q4, q5.moved (u := U) (U := U.calling g mk a) (Vm.Alike.refl U.vm)⟩
theorem PRE.of {e : GE} {S : St} {s U : State} {H : Heap} {locs : List Loc} {A : Nat → Prop} (hK : KK e s) (hE : EN e A s s.heap) (hA : ∀ q, s.heap.size ≤ q → A q) (hA2 : ∀ j, j < 62 → A (e.2.2.1 j)) (hP : va_P e.1 vwCl (WW e S) H) (hD : va_D A (WW e S)) (hS : va_S A s.heap H locs) (hU : U.heap = H) (hW : s.WarmedH U.vm) : PRE e H.size S U :=
  ⟨by rw [hU], by rw [hU]; exact hP, hK.warm hW, hD.weaken (fun _ _ _ _ => trivial), by
    rw [hU]
    exact ((hE.kept hS.2.1).moved hW.alike).narrow (fun q hq => by
      rcases hq with ⟨k, hk, rfl⟩ | hq
      · exact hA2 k hk
      · exact hA q (Nat.le_trans hS.1 hq))⟩
theorem AA.sub {e : GE} {s : State} {H : Heap} {locs : List Loc} {A : Nat → Prop} (hA : ∀ q, s.heap.size ≤ q → A q) (hA2 : ∀ j, j < 62 → A (e.2.2.1 j)) (hS : va_S A s.heap H locs) : ∀ q, AA e H.size q → A q := fun q hq => by
  rcases hq with ⟨k, hk, rfl⟩ | hq
  · exact hA2 k hk
  · exact hA q (Nat.le_trans hS.1 hq)
section
variable {p : Program} {l : Launch} {ee : Env} {R : Room} {s : State} {m : MethodId} {args : Array Value} {below : List Frame} {meth : Method} {c : Code} {H : Heap} {locs : List Loc} {cells slots : Nat} {Q : State → Prop}
/-- behind a call over the whole world -/
theorem call_W {e : GE} {sz : Nat} {post : Option Value → St → Prop} {A : Nat → Prop} {H0 : Heap} {pc : Nat} {ls : Array Slot} {st0 st : List Value} {a : Array Value} {S : St} (hsz : sz = H.size)
    (hr : va_Run p l ee R s m args below meth c H locs cells slots 0 0 (F0 m pc ls st0) st (QV e sz post a) (AA e sz)) (hS : va_S A H0 H locs) (hA : ∀ q, AA e H.size q → A q) (hD : va_D A (WW e S))
    (kk : ∀ (v : Option Value) (S1 : St) (H1 : Heap) (locs1 : List Loc), post v S1 → va_P e.1 vwCl (WW e S1) H1 → va_D A (WW e S1) → va_S A H0 H1 locs1 → W p l ee R s m args below meth c H1 locs1 cells slots Q (F0 m (pc + 3) ls (v.toList ++ st))) : W p l ee R s m args below meth c H locs cells slots Q (F0 m pc ls st0) := by
  subst hsz
  intro T hT X
  obtain ⟨v, st₀, t, T', L, h0, X', hL, e1, e2, ⟨⟨v2, S1, hv, hp, hb⟩, hz, hk⟩, stp⟩ := hr T hT X
  cases hv
  rw [h0] at hz hk
  rw [← e1] at hb
  obtain ⟨t2, a1, b1⟩ := kk v S1 T'.heap (locs ++ L) hp hb (WW_D S1 hD)
    ⟨Nat.le_trans hS.1 (by rw [e1]; exact hz), fun q h1 h2 => by rw [e1, hk q (Nat.lt_of_lt_of_le h1 hS.1) (fun z => h2 (hA q z))]; exact hS.2.1 q h1 h2, fun q hq => by
      rcases List.mem_append.mp hq with h | h
      · exact hS.2.2 q h
      · exact hA _ (hL q h)⟩ T' rfl X'
  exact ⟨t2, stp t2 a1, b1⟩
end
theorem gdV {own C : String} {idx n : Nat} {y : MethodName} {cc : ByteArray} {ret : Option FieldType} (h1 : .methodLink own idx y ∈ wsL_law) (h2 : .instanceMethod y ∈ wsL_law) (h3 : .selects C y y ∈ wsL_law) (h4 : .initialized C ∈ wsL_law) (h5 : .code y cc n ret ∈ wsL_law) : GoodIn wsL_law (wsV own idx C y (.code y cc n ret :: wsL_law)) := by
  intro w hw
  have hw2 : w ∈ wsL_law := by
    rcases List.mem_append.mp hw with hw | hw
    · simp only [List.mem_cons, List.not_mem_nil, or_false] at hw
      rcases hw with rfl | rfl | rfl | rfl
      · exact h1
      · exact h2
      · exact h3
      · exact h4
    · rcases List.mem_cons.mp hw with rfl | hw
      · exact h5
      · exact hw
  exact gdL w hw2
theorem gdS {own : String} {idx n : Nat} {y : MethodName} {cc : ByteArray} {ret : Option FieldType} (h1 : .methodLink own idx y ∈ wsL_law) (h2 : .static y ∈ wsL_law) (h4 : .initialized y.cls ∈ wsL_law) (h5 : .code y cc n ret ∈ wsL_law) : GoodIn wsL_law (va_wsS own idx y (.code y cc n ret :: wsL_law)) := by
  intro w hw
  have hw2 : w ∈ wsL_law := by
    rcases List.mem_append.mp hw with hw | hw
    · simp only [List.mem_cons, List.not_mem_nil, or_false] at hw
      rcases hw with rfl | rfl | rfl
      · exact h1
      · exact h2
      · exact h4
    · rcases List.mem_cons.mp hw with rfl | hw
      · exact h5
      · exact hw
  exact gdL w hw2
theorem gdC {n : Nat} {y : MethodName} {cc : ByteArray} {ret : Option FieldType} (h5 : .code y cc n ret ∈ wsL_law) : GoodIn wsL_law (.code y cc n ret :: wsL_law) := by
  intro w hw
  rcases List.mem_cons.mp hw with rfl | hw
  · exact gdL _ h5
  · exact gdL w hw

theorem m_callV {Z : Zt} {e : GE} {cc : ByteArray} {nL : Nat} {own : String} {h pc : Nat} {lv : List (Nat × Value)} {st : List Value} {S : St} {y : MethodName} {cc2 : ByteArray} {n2 h2 idx : Nat} {ret : Option FieldType} {post : Option Value → St → Prop} {na : Nat} {ci : Nat} {fs : List Value} {cv : vw_C} (q0 : Nat) (As : List Value) (hM : CT e y cc2 n2 ret h2 (.ref (e.2.2.1 q0) :: As) S post) (ho : (WW e S)[q0]? = some (e.2.2.1 q0, .inr (ci, fs))) (hc : vwCl[ci]? = some cv) (hC : y.cls = cv.1) (w1 : .methodLink own idx y ∈ wsL_law) (w2 : .instanceMethod y ∈ wsL_law) (w3 : .selects y.cls y y ∈ wsL_law) (w4 : .initialized y.cls ∈ wsL_law) (w5 : .code y cc2 n2 ret ∈ wsL_law) (hd : y.cls ≠ "java/lang/invoke/MethodHandle" ∧ y.cls ≠ "java/lang/invoke/VarHandle" ∧ (parseMethodDescriptor y.desc).map (fun d => d.parameters.length) = some na) (hn : As.length = na) (hh : h2 < h) (hn2 : n2 ≤ 21) (hst : (st.map fun v => v.category).sum ≤ 8) {st0 : List Value} (he : st0 = As.reverse ++ .ref (e.2.2.1 q0) :: st) (d : decode cc pc = .ok (.invokevirtual idx, 3)) (k : ∀ v S1, post v S1 → MW Z e cc nL own h (pc + 3) lv (v.toList ++ st) S1) : MW Z e cc nL own h pc lv st0 S := by
  obtain ⟨p, l, ee, R, s, m, args, below, meth, c, A, ⟨ck, cn⟩, Qf⟩ := Z
  intro g H locs ls hl hP hD hS
  have g8 := g.2.2.2.2.2.2.2.1
  have hw := g.2.2.2.2.1
  have hrun := va_runV (g := F0 m pc ls st0) (As := As) (rest := st) (cells := ck) (slots := cn) (C := y.cls) ⟨g.1, g.2.1, g.2.2.1, g.2.2.2.1, hw⟩ (hM l H.size) (cwV na hw (gdV w1 w2 w3 w4 w5) rfl rfl rfl ⟨rfl, hd⟩ ⟨by show h2 + 1 ≤ _; omega, by show 8 + (n2 + 11) + 40 * h2 ≤ _; omega⟩) ⟨PRE.blind, by
      obtain ⟨cell, z1, z2, z3⟩ := va_recv g.2.2.2.2.2.1.1 hP hc ho
      exact ⟨cell, z1, z2, by rw [hC]; exact z3⟩, (fun U hU hW => ⟨rfl, PRE.of g.2.2.2.2.2.1 g.2.2.2.2.2.2.1 g.2.2.2.2.2.2.2.2.1 g.2.2.2.2.2.2.2.2.2 hP hD hS hU hW⟩)⟩ rfl hn hl.1 he (lv_room hst) d ⟨g8.2.2.1, g8.2.2.2⟩
  exact call_W rfl hrun hS (AA.sub g.2.2.2.2.2.2.2.2.1 g.2.2.2.2.2.2.2.2.2 hS) hD (fun v S1 H1 locs1 hp hP1 hD1 hS1 => k v S1 hp g H1 locs1 ls hl hP1 hD1 hS1)
theorem m_callVS {Z : Zt} {e : GE} {cc : ByteArray} {nL : Nat} {own : String} {h pc : Nat} {lv : List (Nat × Value)} {st : List Value} {S : St} {y : MethodName} {cc2 : ByteArray} {n2 h2 idx : Nat} {ret : Option FieldType} {post : Option Value → St → Prop} {na : Nat} (i : Nat) (hi : i < 4) (As : List Value) (hM : CT e y cc2 n2 ret h2 (.ref (e.2.2.2.1 i) :: As) S post) (hC : y.cls = "java/lang/String") (w1 : .methodLink own idx y ∈ wsL_law) (w2 : .instanceMethod y ∈ wsL_law) (w3 : .selects y.cls y y ∈ wsL_law) (w4 : .initialized y.cls ∈ wsL_law) (w5 : .code y cc2 n2 ret ∈ wsL_law) (hd : y.cls ≠ "java/lang/invoke/MethodHandle" ∧ y.cls ≠ "java/lang/invoke/VarHandle" ∧ (parseMethodDescriptor y.desc).map (fun d => d.parameters.length) = some na) (hn : As.length = na) (hh : h2 < h) (hn2 : n2 ≤ 21) (hst : (st.map fun v => v.category).sum ≤ 8) {st0 : List Value} (he : st0 = As.reverse ++ .ref (e.2.2.2.1 i) :: st) (d : decode cc pc = .ok (.invokevirtual idx, 3)) (k : ∀ v S1, post v S1 → MW Z e cc nL own h (pc + 3) lv (v.toList ++ st) S1) : MW Z e cc nL own h pc lv st0 S := by
  obtain ⟨p, l, ee, R, s, m, args, below, meth, c, A, ⟨ck, cn⟩, Qf⟩ := Z
  intro g H locs ls hl hP hD hS
  have g8 := g.2.2.2.2.2.2.2.1
  have hw := g.2.2.2.2.1
  have hrun := va_runV (g := F0 m pc ls st0) (As := As) (rest := st) (cells := ck) (slots := cn) (C := y.cls) ⟨g.1, g.2.1, g.2.2.1, g.2.2.2.1, hw⟩ (hM l H.size) (cwV na hw (gdV w1 w2 w3 w4 w5) rfl rfl rfl ⟨rfl, hd⟩ ⟨by show h2 + 1 ≤ _; omega, by show 8 + (n2 + 11) + 40 * h2 ≤ _; omega⟩) ⟨PRE.blind, by
      obtain ⟨cell, z1, z2, z3⟩ := vk_recv g.2.2.2.2.2.2.1.1 hi hS
      exact ⟨cell, z1, z2, by rw [hC]; exact z3⟩, (fun U hU hW => ⟨rfl, PRE.of g.2.2.2.2.2.1 g.2.2.2.2.2.2.1 g.2.2.2.2.2.2.2.2.1 g.2.2.2.2.2.2.2.2.2 hP hD hS hU hW⟩)⟩ rfl hn hl.1 he (lv_room hst) d ⟨g8.2.2.1, g8.2.2.2⟩
  exact call_W rfl hrun hS (AA.sub g.2.2.2.2.2.2.2.2.1 g.2.2.2.2.2.2.2.2.2 hS) hD (fun v S1 H1 locs1 hp hP1 hD1 hS1 => k v S1 hp g H1 locs1 ls hl hP1 hD1 hS1)
theorem m_callS {Z : Zt} {e : GE} {cc : ByteArray} {nL : Nat} {own : String} {h pc : Nat} {lv : List (Nat × Value)} {st : List Value} {S : St} {y : MethodName} {cc2 : ByteArray} {n2 h2 idx : Nat} {ret : Option FieldType} {post : Option Value → St → Prop} {na : Nat} (As : List Value) (hM : CT e y cc2 n2 ret h2 As S post) (w1 : .methodLink own idx y ∈ wsL_law) (w2 : .static y ∈ wsL_law) (w4 : .initialized y.cls ∈ wsL_law) (w5 : .code y cc2 n2 ret ∈ wsL_law) (hd : y.cls ≠ "java/lang/invoke/MethodHandle" ∧ y.cls ≠ "java/lang/invoke/VarHandle" ∧ (parseMethodDescriptor y.desc).map (fun d => d.parameters.length) = some na) (hn : As.length = na) (hh : h2 < h) (hn2 : n2 ≤ 21) (hst : (st.map fun v => v.category).sum ≤ 8) {st0 : List Value} (he : st0 = As.reverse ++ st) (d : decode cc pc = .ok (.invokestatic idx, 3)) (k : ∀ v S1, post v S1 → MW Z e cc nL own h (pc + 3) lv (v.toList ++ st) S1) : MW Z e cc nL own h pc lv st0 S := by
  obtain ⟨p, l, ee, R, s, m, args, below, meth, c, A, ⟨ck, cn⟩, Qf⟩ := Z
  intro g H locs ls hl hP hD hS
  have g8 := g.2.2.2.2.2.2.2.1
  have hw := g.2.2.2.2.1
  have hrun := va_runS (g := F0 m pc ls st0) (As := As) (rest := st) (cells := ck) (slots := cn) ⟨g.1, g.2.1, g.2.2.1, g.2.2.2.1, hw⟩ (hM l H.size) ⟨callB_of na hw (gdC w5) rfl rfl rfl (hw _ w4) (hw _ w1) hd ⟨by show h2 + 1 ≤ _; omega, by show 8 + (n2 + 11) + 40 * h2 ≤ _; omega⟩, hw _ w2⟩ ⟨PRE.blind, (fun U hU hW => ⟨rfl, PRE.of g.2.2.2.2.2.1 g.2.2.2.2.2.2.1 g.2.2.2.2.2.2.2.2.1 g.2.2.2.2.2.2.2.2.2 hP hD hS hU hW⟩)⟩ rfl hn hl.1 he (lv_room hst) d ⟨g8.2.2.1, g8.2.2.2⟩
  exact call_W rfl hrun hS (AA.sub g.2.2.2.2.2.2.2.2.1 g.2.2.2.2.2.2.2.2.2 hS) hD (fun v S1 H1 locs1 hp hP1 hD1 hS1 => k v S1 hp g H1 locs1 ls hl hP1 hD1 hS1)
theorem m_callSN {Z : Zt} {e : GE} {cc : ByteArray} {nL : Nat} {own : String} {h pc : Nat} {lv : List (Nat × Value)} {st : List Value} {S : St} {y : MethodName} {cc2 : ByteArray} {n2 h2 idx : Nat} {ret : Option FieldType} {post : Option Value → St → Prop} {na : Nat} (As : List Value) (hM : CT e y cc2 n2 ret h2 As S post) (w1 : ∀ U : State, NK U → va_Nw (.methodLinkNest own idx y RX6) U) (w2 : .static y ∈ wsL_law) (w4 : .initialized y.cls ∈ wsL_law) (w5 : .code y cc2 n2 ret ∈ wsL_law) (hd : y.cls ≠ "java/lang/invoke/MethodHandle" ∧ y.cls ≠ "java/lang/invoke/VarHandle" ∧ (parseMethodDescriptor y.desc).map (fun d => d.parameters.length) = some na) (hn : As.length = na) (hh : h2 < h) (hn2 : n2 ≤ 21) (hst : (st.map fun v => v.category).sum ≤ 8) {st0 : List Value} (he : st0 = As.reverse ++ st) (d : decode cc pc = .ok (.invokestatic idx, 3)) (k : ∀ v S1, post v S1 → MW Z e cc nL own h (pc + 3) lv (v.toList ++ st) S1) : MW Z e cc nL own h pc lv st0 S := by
  obtain ⟨p, l, ee, R, s, m, args, below, meth, c, A, ⟨ck, cn⟩, Qf⟩ := Z
  intro g H locs ls hl hP hD hS
  have g8 := g.2.2.2.2.2.2.2.1
  have hw := g.2.2.2.2.1
  have hrun := va_runSN (g := F0 m pc ls st0) (As := As) (rest := st) (cells := ck) (slots := cn) ⟨g.1, g.2.1, g.2.2.1, g.2.2.2.1, hw⟩ (hM l H.size) ⟨va_cnB na hw (gdC w5) rfl rfl rfl (w1 s g.2.2.2.2.2.1.2.1) (hw _ w4) hd ⟨by show h2 + 1 ≤ _; omega, by show 8 + (n2 + 11) + 40 * h2 ≤ _; omega⟩, hw _ w2, trivial⟩ ⟨PRE.blind, (fun U hU hW => ⟨rfl, PRE.of g.2.2.2.2.2.1 g.2.2.2.2.2.2.1 g.2.2.2.2.2.2.2.2.1 g.2.2.2.2.2.2.2.2.2 hP hD hS hU hW⟩)⟩ rfl hn hl.1 he (lv_room hst) d ⟨g8.2.2.1, g8.2.2.2⟩
  exact call_W rfl hrun hS (AA.sub g.2.2.2.2.2.2.2.2.1 g.2.2.2.2.2.2.2.2.2 hS) hD (fun v S1 H1 locs1 hp hP1 hD1 hS1 => k v S1 hp g H1 locs1 ls hl hP1 hD1 hS1)
/-- what a method's end says: an int, the world may change | an int, it stays | void | void, it stays | a long, it stays -/
def pI (Q : Int32 → St → Prop) : Option Value → St → Prop := fun v S1 => ∃ r, v = some (.int r) ∧ Q r S1
def pR (S : St) (Q : Int32 → Prop) : Option Value → St → Prop := fun v S1 => ∃ r, v = some (.int r) ∧ S1 = S ∧ Q r
def pV (Q : St → Prop) : Option Value → St → Prop := fun v S1 => v = none ∧ Q S1
def pN (S : St) (Q : Prop) : Option Value → St → Prop := fun v S1 => v = none ∧ S1 = S ∧ Q
def pL (S : St) (Q : Int64 → Prop) : Option Value → St → Prop := fun v S1 => ∃ r, v = some (.long r) ∧ S1 = S ∧ Q r
theorem kI {P : List Value → St → Prop} {st : List Value} {Q : Int32 → St → Prop} (k : ∀ r S1, Q r S1 → P (.int r :: st) S1) : ∀ v S1, pI Q v S1 → P (v.toList ++ st) S1 := by
  rintro _ S1 ⟨r, rfl, h⟩
  exact k r S1 h
theorem kR {P : List Value → St → Prop} {st : List Value} {S : St} {Q : Int32 → Prop} (k : ∀ r, Q r → P (.int r :: st) S) : ∀ v S1, pR S Q v S1 → P (v.toList ++ st) S1 := by
  rintro _ S1 ⟨r, rfl, rfl, h⟩
  exact k r h
theorem kV {P : List Value → St → Prop} {st : List Value} {Q : St → Prop} (k : ∀ S1, Q S1 → P st S1) : ∀ v S1, pV Q v S1 → P (v.toList ++ st) S1 := by
  rintro _ S1 ⟨rfl, h⟩
  exact k S1 h
theorem kN {P : List Value → St → Prop} {st : List Value} {S : St} {Q : Prop} (k : Q → P st S) : ∀ v S1, pN S Q v S1 → P (v.toList ++ st) S1 := by
  rintro _ S1 ⟨rfl, rfl, h⟩
  exact k h
theorem kL {P : List Value → St → Prop} {st : List Value} {S : St} {Q : Int64 → Prop} (k : ∀ r, Q r → P (.long r :: st) S) : ∀ v S1, pL S Q v S1 → P (v.toList ++ st) S1 := by
  rintro _ S1 ⟨r, rfl, rfl, h⟩
  exact k r h
end
